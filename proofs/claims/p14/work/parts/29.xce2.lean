set_option maxHeartbeats 4000000 in
set_option maxRecDepth 100000 in
theorem e_X1_isTornApart_70 {g : mm_G} {l : Launch} (hst : l.stackTraces = false) {Z : Nat → Nat → Option Nat} (hZ : HZ Z) {n : Nat} (hn : 1186 ≤ n) {z : Bool} {d : Nat} {U : Nat} {k28 : Option Nat → Option (Int32)} {v0_ : Option Nat} {v1_ : Option Nat} {v2_ : Option Nat} {v3_ : Option Nat} {v4_ : Option Nat} {s0_ : Int32} {σ : SG} {r : Int32} (hk28 : ∀ (v3_ : Option Nat), k28 v3_ = some r → mm_V g l RX1 "isTornApart" cX1_isTornApart 6 (some .boolean) [] (d + 1) 0 0 (mm_nt (fun v S' => v = some (.int r) ∧ S' = (mem Z σ, n, z))) 28 [some (va_rf v0_), some (va_rf v1_), some (va_rf v2_), some (va_rf v3_), none, none] [] (mem Z σ, n, z) 0 0) (hx : x_X1_isTornApart_70 U k28 v0_ v1_ v2_ v3_ v4_ s0_ σ = some r) : mm_V g l RX1 "isTornApart" cX1_isTornApart 6 (some .boolean) [] (d + 1) 0 0 (mm_nt (fun v S' => v = some (.int r) ∧ S' = (mem Z σ, n, z))) 70 [some (va_rf v0_), some (va_rf v1_), some (va_rf v2_), some (va_rf v3_), some (va_rf v4_), none] [.int s0_] (mem Z σ, n, z) 0 0 := by
  unfold x_X1_isTornApart_70 at hx
  refine mm_istore [some (va_rf v0_), some (va_rf v1_), some (va_rf v2_), some (va_rf v3_), some (va_rf v4_), some (.int s0_)] dX1_isTornApart_70 (by decide) ((st1_o (r := v4_) rfl).trans rfl) ?_
  refine mm_aload dX1_isTornApart_72 rfl (isr_rf _) ?_
  refine b_if hx (fun h24 hx => ?_) (fun h24 hx => ?_)
  · refine mm_ifnull (r := v4_) 96 dX1_isTornApart_74 (by decide) (fun _ => ?_) (fun h => absurd h24 h)
    refine mm_fewer [some (va_rf v0_), some (va_rf v1_), some (va_rf v2_), some (va_rf v3_), none, none] (few_ok (bs := [true, true, true, true, false, false]) rfl) ?_
    exact e_X1_isTornApart_96 hst hZ hn hk28 hx
  · refine mm_ifnull (r := v4_) 96 dX1_isTornApart_74 (by decide) (fun h => absurd h h24) (fun _ => ?_)
    refine mm_aload dX1_isTornApart_77 rfl (isr_rf _) ?_
    obtain ⟨q28, hr29, hs30, hx⟩ := ck_some hx
    refine s_getPN (r := v4_) (b := q28) (ci := 3) (k := 3) in_X3 rfl (by decide) rfl kF_X1_80 dX1_isTornApart_79 hr29 hs30 (by decide) hn (by decide) rfl ?_
    refine mm_aload_n dX1_isTornApart_82 rfl (isr_rf _) ?_
    obtain ⟨q31, hr32, hs33, hx⟩ := ck_some hx
    refine s_getPN (r := v1_) (b := q31) (ci := 3) (k := 3) in_X3 rfl (by decide) rfl kF_X1_80 dX1_isTornApart_83 hr32 hs33 (by decide) hn (by decide) rfl ?_
    refine b_if hx (fun h34 hx => ?_) (fun h34 hx => ?_)
    · refine mm_acmp_ne (rx := sP σ q28 3) (ry := sP σ q31 3) 96 dX1_isTornApart_86 (by decide) (fun h => absurd h34 h) (fun _ => ?_)
      refine mm_iload dX1_isTornApart_89 rfl ?_
      refine b_if hx (fun h35 hx => ?_) (fun h35 hx => ?_)
      · refine mm_if_ne 96 dX1_isTornApart_91 (by decide) (fun h => absurd h35 h) (fun _ => ?_)
        refine mm_iconst (v := 1) dX1_isTornApart_94 (by decide) ?_
        refine mm_iret dX1_isTornApart_95 rfl rfl ?_ (by omega) (by omega)
        obtain rfl := fin1 hx
        exact ⟨rfl, rfl⟩
      · refine mm_if_ne 96 dX1_isTornApart_91 (by decide) (fun _ => ?_) (fun h => absurd h h35)
        refine mm_fewer [some (va_rf v0_), some (va_rf v1_), some (va_rf v2_), some (va_rf v3_), none, none] (few_ok (bs := [true, true, true, true, false, false]) rfl) ?_
        exact e_X1_isTornApart_96 hst hZ hn hk28 hx
    · refine mm_acmp_ne (rx := sP σ q28 3) (ry := sP σ q31 3) 96 dX1_isTornApart_86 (by decide) (fun _ => ?_) (fun h => absurd h h34)
      refine mm_fewer [some (va_rf v0_), some (va_rf v1_), some (va_rf v2_), some (va_rf v3_), none, none] (few_ok (bs := [true, true, true, true, false, false]) rfl) ?_
      exact e_X1_isTornApart_96 hst hZ hn hk28 hx
set_option maxHeartbeats 4000000 in
set_option maxRecDepth 100000 in
theorem e_X1_isTornApart_69 {g : mm_G} {l : Launch} (hst : l.stackTraces = false) {Z : Nat → Nat → Option Nat} (hZ : HZ Z) {n : Nat} (hn : 1186 ≤ n) {z : Bool} {d : Nat} {U : Nat} {k28 : Option Nat → Option (Int32)} {v0_ : Option Nat} {v1_ : Option Nat} {v2_ : Option Nat} {v3_ : Option Nat} {v4_ : Option Nat} {σ : SG} {r : Int32} (hk28 : ∀ (v3_ : Option Nat), k28 v3_ = some r → mm_V g l RX1 "isTornApart" cX1_isTornApart 6 (some .boolean) [] (d + 1) 0 0 (mm_nt (fun v S' => v = some (.int r) ∧ S' = (mem Z σ, n, z))) 28 [some (va_rf v0_), some (va_rf v1_), some (va_rf v2_), some (va_rf v3_), none, none] [] (mem Z σ, n, z) 0 0) (hx : x_X1_isTornApart_69 U k28 v0_ v1_ v2_ v3_ v4_ σ = some r) : mm_V g l RX1 "isTornApart" cX1_isTornApart 6 (some .boolean) [] (d + 1) 0 0 (mm_nt (fun v S' => v = some (.int r) ∧ S' = (mem Z σ, n, z))) 69 [some (va_rf v0_), some (va_rf v1_), some (va_rf v2_), some (va_rf v3_), some (va_rf v4_), none] [] (mem Z σ, n, z) 0 0 := by
  unfold x_X1_isTornApart_69 at hx
  refine mm_iconst (v := 0) dX1_isTornApart_69 (by decide) ?_
  exact e_X1_isTornApart_70 hst hZ hn hk28 hx
set_option maxHeartbeats 4000000 in
set_option maxRecDepth 100000 in
theorem e_X1_isTornApart_L28 {g : mm_G} {l : Launch} (hst : l.stackTraces = false) {Z : Nat → Nat → Option Nat} (hZ : HZ Z) {n : Nat} (hn : 1186 ≤ n) {z : Bool} {d : Nat} {U : Nat} {v0_ : Option Nat} {v1_ : Option Nat} {v2_ : Option Nat} {σ : SG} {r : Int32} : ∀ (U1 : Nat) (v3_ : Option Nat), x_X1_isTornApart_L28 U v0_ v1_ v2_ σ U1 v3_ = some r → mm_V g l RX1 "isTornApart" cX1_isTornApart 6 (some .boolean) [] (d + 1) 0 0 (mm_nt (fun v S' => v = some (.int r) ∧ S' = (mem Z σ, n, z))) 28 [some (va_rf v0_), some (va_rf v1_), some (va_rf v2_), some (va_rf v3_), none, none] [] (mem Z σ, n, z) 0 0 := by
  intro U1
  induction U1 with
  | zero => intro v3_ hx; exact absurd hx (by simp [x_X1_isTornApart_L28])
  | succ U1 ih =>
    intro v3_ hx
    rw [x_X1_isTornApart_L28] at hx
    refine mm_aload_n dX1_isTornApart_28 rfl (isr_rf _) ?_
    refine b_if hx (fun h13 hx => ?_) (fun h13 hx => ?_)
    · refine mm_ifnull (r := v3_) 104 dX1_isTornApart_29 (by decide) (fun _ => ?_) (fun h => absurd h13 h)
      refine mm_iconst (v := 0) dX1_isTornApart_104 (by decide) ?_
      refine mm_iret dX1_isTornApart_105 rfl rfl ?_ (by omega) (by omega)
      obtain rfl := fin1 hx
      exact ⟨rfl, rfl⟩
    · refine mm_ifnull (r := v3_) 104 dX1_isTornApart_29 (by decide) (fun h => absurd h h13) (fun _ => ?_)
      refine mm_aload_n dX1_isTornApart_32 rfl (isr_rf _) ?_
      refine mm_aload_n dX1_isTornApart_33 rfl (isr_rf _) ?_
      refine b_if hx (fun h14 hx => ?_) (fun h14 hx => ?_)
      · refine mm_acmp_eq (rx := v3_) (ry := v0_) 104 dX1_isTornApart_34 (by decide) (fun _ => ?_) (fun h => absurd h14 h)
        refine mm_iconst (v := 0) dX1_isTornApart_104 (by decide) ?_
        refine mm_iret dX1_isTornApart_105 rfl rfl ?_ (by omega) (by omega)
        obtain rfl := fin1 hx
        exact ⟨rfl, rfl⟩
      · refine mm_acmp_eq (rx := v3_) (ry := v0_) 104 dX1_isTornApart_34 (by decide) (fun h => absurd h h14) (fun _ => ?_)
        refine mm_aload_n dX1_isTornApart_37 rfl (isr_rf _) ?_
        refine mm_aload_n dX1_isTornApart_38 rfl (isr_rf _) ?_
        obtain ⟨q15, hr16, hs17, hx⟩ := ck_some hx
        refine s_getLN (r := v3_) (b := q15) (ci := 3) (k := 6) in_X3 rfl (by decide) rfl kF_X1_51 dX1_isTornApart_39 hr16 hs17 (by decide) hn (by decide) rfl ?_
        obtain ⟨q18, hr19, hs20, hx⟩ := ck_some hx
        obtain ⟨v22, hc21, hx⟩ := b1_some hx
        refine mm_callV3 (a := q18) (ci := 3) wM_X3_memberNumbered kM_X1_55 wI_X3_memberNumbered wS_X3_memberNumbered dX1_isTornApart_42 (e_X3_memberNumbered hst hZ hn hs20 hc21) (mem_obj hs20 (by decide)) (sh_ltn hs20 (by decide) hn) rfl rfl (by rw [hr19]; rfl) (Nat.le_of_ble_eq_true rfl) (by omega) (by omega) (fun v9 S9 hq => ?_)
        obtain ⟨rfl, rfl⟩ := hq
        refine ⟨fun h => ⟨h, rfl⟩, ?_⟩
        refine mm_astore [some (va_rf v0_), some (va_rf v1_), some (va_rf v2_), some (va_rf v3_), some (va_rf v22), none] dX1_isTornApart_45 (by decide) (isr_rf _) ((st1_o (r := v3_) rfl).trans rfl) ?_
        refine mm_aload_n dX1_isTornApart_47 rfl (isr_rf _) ?_
        refine s_getPN (r := v3_) (b := q15) (ci := 3) (k := 3) in_X3 rfl (by decide) rfl kF_X1_80 dX1_isTornApart_48 hr16 hs17 (by decide) hn (by decide) rfl ?_
        refine b_if hx (fun h23 hx => ?_) (fun h23 hx => ?_)
        · refine mm_ifnull (r := sP σ q15 3) 69 dX1_isTornApart_51 (by decide) (fun _ => ?_) (fun h => absurd h23 h)
          exact e_X1_isTornApart_69 hst hZ hn ih hx
        · refine mm_ifnull (r := sP σ q15 3) 69 dX1_isTornApart_51 (by decide) (fun h => absurd h h23) (fun _ => ?_)
          refine mm_aload_n dX1_isTornApart_54 rfl (isr_rf _) ?_
          refine s_getPN (r := v3_) (b := q15) (ci := 3) (k := 3) in_X3 rfl (by decide) rfl kF_X1_80 dX1_isTornApart_55 hr16 hs17 (by decide) hn (by decide) rfl ?_
          refine mm_aload_n dX1_isTornApart_58 rfl (isr_rf _) ?_
          obtain ⟨q36, hr37, hs38, hx⟩ := ck_some hx
          refine s_getPN (r := v0_) (b := q36) (ci := 3) (k := 3) in_X3 rfl (by decide) rfl kF_X1_80 dX1_isTornApart_59 hr37 hs38 (by decide) hn (by decide) rfl ?_
          refine b_if hx (fun h39 hx => ?_) (fun h39 hx => ?_)
          · refine mm_acmp_ne (rx := sP σ q15 3) (ry := sP σ q36 3) 69 dX1_isTornApart_62 (by decide) (fun h => absurd h39 h) (fun _ => ?_)
            refine mm_iconst (v := 1) dX1_isTornApart_65 (by decide) ?_
            refine mm_goto 70 dX1_isTornApart_66 (by decide) ?_
            exact e_X1_isTornApart_70 hst hZ hn ih hx
          · refine mm_acmp_ne (rx := sP σ q15 3) (ry := sP σ q36 3) 69 dX1_isTornApart_62 (by decide) (fun _ => ?_) (fun h => absurd h h39)
            exact e_X1_isTornApart_69 hst hZ hn ih hx
set_option maxHeartbeats 4000000 in
set_option maxRecDepth 100000 in
theorem e_X1_isTornApart {g : mm_G} {l : Launch} (hst : l.stackTraces = false) {Z : Nat → Nat → Option Nat} (hZ : HZ Z) {n : Nat} (hn : 1186 ≤ n) {z : Bool} {d : Nat} {U : Nat} {p0 : Option Nat} {p1 : Option Nat} {p2 : Option Nat} {σ : SG} {r : Int32} (hx : x_X1_isTornApart U p0 p1 p2 σ = some r) : mm_Cm g l yX1_isTornApart (.code yX1_isTornApart cX1_isTornApart 6 (some .boolean)) (d + 1) 0 0 [va_rf p0, va_rf p1, va_rf p2] (mem Z σ, n, z) (fun v S' => v = some (.int r) ∧ S' = (mem Z σ, n, z)) := by
  refine mm_Cm_of hst (by decide) (by cases p0 <;> cases p1 <;> cases p2 <;>  exact Nat.le_of_ble_eq_true rfl) ?_
  rw [show mm_ent [va_rf p0, va_rf p1, va_rf p2] 6 = [some (va_rf p0), some (va_rf p1), some (va_rf p2), none, none, none] from by cases p0 <;> cases p1 <;> cases p2 <;>  rfl]
  show mm_V g l RX1 "isTornApart" cX1_isTornApart 6 (some .boolean) [] (d + 1) 0 0 (mm_nt (fun v S' => v = some (.int r) ∧ S' = (mem Z σ, n, z))) 0 [some (va_rf p0), some (va_rf p1), some (va_rf p2), none, none, none] [] (mem Z σ, n, z) 0 0
  unfold x_X1_isTornApart at hx
  refine mm_aload_n dX1_isTornApart_0 rfl (isr_rf _) ?_
  obtain ⟨q1, hr2, hs3, hx⟩ := ck_some hx
  refine s_getPN (r := p1) (b := q1) (ci := 3) (k := 3) in_X3 rfl (by decide) rfl kF_X1_80 dX1_isTornApart_1 hr2 hs3 (by decide) hn (by decide) rfl ?_
  refine b_if hx (fun h4 hx => ?_) (fun h4 hx => ?_)
  · refine mm_ifnull (r := sP σ q1 3) 18 dX1_isTornApart_4 (by decide) (fun _ => ?_) (fun h => absurd h4 h)
    refine mm_iconst (v := 0) dX1_isTornApart_18 (by decide) ?_
    refine mm_iret dX1_isTornApart_19 rfl rfl ?_ (by omega) (by omega)
    obtain rfl := fin1 hx
    exact ⟨rfl, rfl⟩
  · refine mm_ifnull (r := sP σ q1 3) 18 dX1_isTornApart_4 (by decide) (fun h => absurd h h4) (fun _ => ?_)
    refine mm_aload_n dX1_isTornApart_7 rfl (isr_rf _) ?_
    obtain ⟨q5, hr6, hs7, hx⟩ := ck_some hx
    refine s_getPN (r := p0) (b := q5) (ci := 3) (k := 2) in_X3 rfl (by decide) rfl kF_X1_83 dX1_isTornApart_8 hr6 hs7 (by decide) hn (by decide) rfl ?_
    refine b_if hx (fun h8 hx => ?_) (fun h8 hx => ?_)
    · refine mm_ifnull (r := sP σ q5 2) 18 dX1_isTornApart_11 (by decide) (fun _ => ?_) (fun h => absurd h8 h)
      refine mm_iconst (v := 0) dX1_isTornApart_18 (by decide) ?_
      refine mm_iret dX1_isTornApart_19 rfl rfl ?_ (by omega) (by omega)
      obtain rfl := fin1 hx
      exact ⟨rfl, rfl⟩
    · refine mm_ifnull (r := sP σ q5 2) 18 dX1_isTornApart_11 (by decide) (fun h => absurd h h8) (fun _ => ?_)
      refine mm_aload_n dX1_isTornApart_14 rfl (isr_rf _) ?_
      refine b_if hx (fun h9 hx => ?_) (fun h9 hx => ?_)
      · refine mm_ifnonnull (r := p2) 20 dX1_isTornApart_15 (by decide) (fun h => absurd h9 h) (fun _ => ?_)
        refine mm_iconst (v := 0) dX1_isTornApart_18 (by decide) ?_
        refine mm_iret dX1_isTornApart_19 rfl rfl ?_ (by omega) (by omega)
        obtain rfl := fin1 hx
        exact ⟨rfl, rfl⟩
      · refine mm_ifnonnull (r := p2) 20 dX1_isTornApart_15 (by decide) (fun _ => ?_) (fun h => absurd h h9)
        refine mm_aload_n dX1_isTornApart_20 rfl (isr_rf _) ?_
        refine s_getPN (r := p0) (b := q5) (ci := 3) (k := 2) in_X3 rfl (by decide) rfl kF_X1_83 dX1_isTornApart_21 hr6 hs7 (by decide) hn (by decide) rfl ?_
        obtain ⟨q10, hr11, hs12, hx⟩ := ck_some hx
        refine s_getPN (r := sP σ q5 2) (b := q10) (ci := 3) (k := 15) in_X3 rfl (by decide) rfl kF_X1_47 dX1_isTornApart_24 hr11 hs12 (by decide) hn (by decide) rfl ?_
        refine mm_astore_n [some (va_rf p0), some (va_rf p1), some (va_rf p2), some (va_rf (sP σ q10 15)), none, none] dX1_isTornApart_27 (by decide) (isr_rf _) ((st1_o (r := p2) rfl).trans rfl) ?_
        refine e_X1_isTornApart_L28 hst hZ hn _ _ hx
set_option maxHeartbeats 4000000 in
set_option maxRecDepth 100000 in
theorem e_X1_look_152 {g : mm_G} {l : Launch} (hst : l.stackTraces = false) {Z : Nat → Nat → Option Nat} (hZ : HZ Z) {n : Nat} (hn : 1186 ≤ n) {z : Bool} {d : Nat} {U : Nat} {a : Nat} (hs : sh a = 1) {v1_ : Int32} {v2_ : Option Nat} {v3_ : Option Nat} {σ : SG} {r : Int32} {σ' : SG} (hx : x_X1_look_152 U a v1_ v2_ v3_ σ = some (r, σ')) : mm_V g l RX1 "look" cX1_look 4 (some .int) [] (d + 2) 0 0 (mm_nt (fun v S' => v = some (.int r) ∧ S' = (mem Z σ', n, z))) 152 [some (.ref a), some (.int v1_), some (va_rf v2_), some (va_rf v3_)] [] (mem Z σ, n, z) 0 0 := by
  unfold x_X1_look_152 at hx
  refine mm_aload_n dX1_look_152 rfl (isr_rf _) ?_
  refine mm_aload_n dX1_look_153 rfl (isr_rf _) ?_
  refine mm_aload_n dX1_look_154 rfl rfl ?_
  refine s_getS (q := 1099) (r := some a) (b := a) (ci := 1) (k := 2) in_X1 rfl (by decide) rfl kF_X1_21 dX1_look_155 rfl hs (by decide) hn (by decide) rfl rfl ?_
  refine mm_iload_n dX1_look_158 rfl ?_
  obtain ⟨j40, hj41, hb42, hl43, hx⟩ := ix_some hx
  refine s_aald (a := 1099) sa_1099 (by decide) hn hj41 hb42 na_1099 dX1_look_159 ?_
  obtain ⟨v45, hc44, hx⟩ := b1_some hx
  refine mm_callS wM_X1_isTornApart kM_X1_76 wT_X1_isTornApart dX1_look_160 (e_X1_isTornApart hst hZ hn hc44) rfl rfl (Nat.le_of_ble_eq_true rfl) (by omega) (by omega) (fun v9 S9 hq => ?_)
  obtain ⟨rfl, rfl⟩ := hq
  refine ⟨fun h => ⟨h, rfl⟩, ?_⟩
  refine b_if hx (fun h46 hx => ?_) (fun h46 hx => ?_)
  · refine mm_if_eq 168 dX1_look_163 (by decide) (fun _ => ?_) (fun h => absurd h46 h)
    refine mm_aload_n dX1_look_168 rfl rfl ?_
    refine s_getS (q := 1098) (r := some a) (b := a) (ci := 1) (k := 1) in_X1 rfl (by decide) rfl kF_X1_17 dX1_look_169 rfl hs (by decide) hn (by decide) rfl rfl ?_
    refine mm_iload_n dX1_look_172 rfl ?_
    refine mm_aload_n dX1_look_173 rfl (isr_rf _) ?_
    obtain ⟨q47, hr48, hs49, hx⟩ := ck_some hx
    refine s_getPN (r := v2_) (b := q47) (ci := 3) (k := 16) in_X3 rfl (by decide) rfl kF_X1_59 dX1_look_174 hr48 hs49 (by decide) hn (by decide) rfl ?_
    obtain ⟨j50, hj51, hb52, hl53, hx⟩ := ix_some hx
    obtain ⟨hv55, hx⟩ := ckN_some hx
    refine s_aast (a := 1098) (v := sP σ q47 16) sa_1098 (by decide) hn hj51 hb52 na_1098 hv55 dX1_look_177 hx (fun σ54 hx => ?_)
    refine mm_iconst (v := 0) dX1_look_178 (by decide) ?_
    refine mm_iret dX1_look_179 rfl rfl ?_ (by omega) (by omega)
    obtain ⟨rfl, rfl⟩ := fin2 hx
    exact ⟨rfl, rfl⟩
  · refine mm_if_eq 168 dX1_look_163 (by decide) (fun h => absurd h h46) (fun _ => ?_)
    refine mm_iconst (v := 3) dX1_look_166 (by decide) ?_
    refine mm_iret dX1_look_167 rfl rfl ?_ (by omega) (by omega)
    obtain ⟨rfl, rfl⟩ := fin2 hx
    exact ⟨rfl, rfl⟩
set_option maxHeartbeats 4000000 in
set_option maxRecDepth 100000 in
theorem e_X1_look_80 {g : mm_G} {l : Launch} (hst : l.stackTraces = false) {Z : Nat → Nat → Option Nat} (hZ : HZ Z) {n : Nat} (hn : 1186 ≤ n) {z : Bool} {d : Nat} {U : Nat} {a : Nat} (hs : sh a = 1) {v1_ : Int32} {v2_ : Option Nat} {s0_ : Option Nat} {σ : SG} {r : Int32} {σ' : SG} (hx : x_X1_look_80 U a v1_ v2_ s0_ σ = some (r, σ')) : mm_V g l RX1 "look" cX1_look 4 (some .int) [] (d + 2) 0 0 (mm_nt (fun v S' => v = some (.int r) ∧ S' = (mem Z σ', n, z))) 80 [some (.ref a), some (.int v1_), some (va_rf v2_), none] [va_rf s0_] (mem Z σ, n, z) 0 0 := by
  unfold x_X1_look_80 at hx
  refine mm_astore_n [some (.ref a), some (.int v1_), some (va_rf v2_), some (va_rf s0_)] dX1_look_80 (by decide) (isr_rf _) ((st1_o (r := v2_) rfl).trans rfl) ?_
  refine mm_aload_n dX1_look_81 rfl (isr_rf _) ?_
  refine b_if hx (fun h15 hx => ?_) (fun h15 hx => ?_)
  · refine mm_ifnonnull (r := s0_) 97 dX1_look_82 (by decide) (fun h => absurd h15 h) (fun _ => ?_)
    refine mm_aload_n dX1_look_85 rfl rfl ?_
    refine s_getS (q := 1098) (r := some a) (b := a) (ci := 1) (k := 1) in_X1 rfl (by decide) rfl kF_X1_17 dX1_look_86 rfl hs (by decide) hn (by decide) rfl rfl ?_
    refine mm_iload_n dX1_look_89 rfl ?_
    refine mm_aload_n dX1_look_90 rfl (isr_rf _) ?_
    obtain ⟨q16, hr17, hs18, hx⟩ := ck_some hx
    refine s_getPN (r := v2_) (b := q16) (ci := 3) (k := 16) in_X3 rfl (by decide) rfl kF_X1_59 dX1_look_91 hr17 hs18 (by decide) hn (by decide) rfl ?_
    obtain ⟨j19, hj20, hb21, hl22, hx⟩ := ix_some hx
    obtain ⟨hv24, hx⟩ := ckN_some hx
    refine s_aast (a := 1098) (v := sP σ q16 16) sa_1098 (by decide) hn hj20 hb21 na_1098 hv24 dX1_look_94 hx (fun σ23 hx => ?_)
    refine mm_iconst (v := 0) dX1_look_95 (by decide) ?_
    refine mm_iret dX1_look_96 rfl rfl ?_ (by omega) (by omega)
    obtain ⟨rfl, rfl⟩ := fin2 hx
    exact ⟨rfl, rfl⟩
  · refine mm_ifnonnull (r := s0_) 97 dX1_look_82 (by decide) (fun _ => ?_) (fun h => absurd h h15)
    refine mm_aload_n dX1_look_97 rfl (isr_rf _) ?_
    obtain ⟨q25, hr26, hs27, hx⟩ := ck_some hx
    refine s_getIN (r := v2_) (b := q25) (ci := 3) (k := 11) in_X3 rfl (by decide) rfl kF_X1_62 dX1_look_98 hr26 hs27 (by decide) hn (by decide) rfl ?_
    refine mm_aload_n dX1_look_101 rfl (isr_rf _) ?_
    obtain ⟨q28, hr29, hs30, hx⟩ := ck_some hx
    refine s_getIN (r := s0_) (b := q28) (ci := 3) (k := 11) in_X3 rfl (by decide) rfl kF_X1_62 dX1_look_102 hr29 hs30 (by decide) hn (by decide) rfl ?_
    refine b_if hx (fun h31 hx => ?_) (fun h31 hx => ?_)
    · refine mm_icmp_eq 110 dX1_look_105 (by decide) (fun _ => ?_) (fun h => absurd h31 h)
      refine mm_aload_n dX1_look_110 rfl (isr_rf _) ?_
      refine s_getIN (r := v2_) (b := q25) (ci := 3) (k := 8) in_X3 rfl (by decide) rfl kF_X1_66 dX1_look_111 hr26 hs27 (by decide) hn (by decide) rfl ?_
      refine mm_aload_n dX1_look_114 rfl (isr_rf _) ?_
      refine s_getIN (r := s0_) (b := q28) (ci := 3) (k := 8) in_X3 rfl (by decide) rfl kF_X1_66 dX1_look_115 hr29 hs30 (by decide) hn (by decide) rfl ?_
      obtain ⟨v33, hc32, hx⟩ := b1_some hx
      refine mm_callS wM_X1_isUnderstood kM_X1_69 wT_X1_isUnderstood dX1_look_118 (e_X1_isUnderstood hst hZ hn hc32) rfl rfl (Nat.le_of_ble_eq_true rfl) (by omega) (by omega) (fun v9 S9 hq => ?_)
      obtain ⟨rfl, rfl⟩ := hq
      refine ⟨fun h => ⟨h, rfl⟩, ?_⟩
      refine b_if hx (fun h34 hx => ?_) (fun h34 hx => ?_)
      · refine mm_if_ne 126 dX1_look_121 (by decide) (fun h => absurd h34 h) (fun _ => ?_)
        refine mm_iconst (v := 2) dX1_look_124 (by decide) ?_
        refine mm_iret dX1_look_125 rfl rfl ?_ (by omega) (by omega)
        obtain ⟨rfl, rfl⟩ := fin2 hx
        exact ⟨rfl, rfl⟩
      · refine mm_if_ne 126 dX1_look_121 (by decide) (fun _ => ?_) (fun h => absurd h h34)
        refine mm_aload_n dX1_look_126 rfl (isr_rf _) ?_
        refine s_getIN (r := v2_) (b := q25) (ci := 3) (k := 8) in_X3 rfl (by decide) rfl kF_X1_66 dX1_look_127 hr26 hs27 (by decide) hn (by decide) rfl ?_
        refine mm_bipush (v := 13) dX1_look_130 (by decide) ?_
        refine b_if hx (fun h35 hx => ?_) (fun h35 hx => ?_)
        · refine mm_icmp_ne 152 dX1_look_132 (by decide) (fun h => absurd h35 h) (fun _ => ?_)
          refine mm_aload_n dX1_look_135 rfl rfl ?_
          refine mm_aload_n dX1_look_136 rfl (isr_rf _) ?_
          refine s_getPN (r := v2_) (b := q25) (ci := 3) (k := 10) in_X3 rfl (by decide) rfl kF_X1_73 dX1_look_137 hr26 hs27 (by decide) hn (by decide) rfl ?_
          refine mm_aload_n dX1_look_140 rfl (isr_rf _) ?_
          refine s_getPN (r := s0_) (b := q28) (ci := 3) (k := 10) in_X3 rfl (by decide) rfl kF_X1_73 dX1_look_141 hr29 hs30 (by decide) hn (by decide) rfl ?_
          obtain ⟨v37, σ38, hc36, hx⟩ := b2_some hx
          refine mm_callV3 (a := a) (ci := 1) wM_X1_enter kM_X1_32 wI_X1_enter wS_X1_enter dX1_look_144 (e_X1_enter hst hZ hn hs hc36) (mem_obj hs (by decide)) (sh_ltn hs (by decide) hn) rfl rfl rfl (Nat.le_of_ble_eq_true rfl) (by omega) (by omega) (fun v9 S9 hq => ?_)
          obtain ⟨rfl, rfl⟩ := hq
          refine ⟨fun h => ⟨h, rfl⟩, ?_⟩
          refine b_if hx (fun h39 hx => ?_) (fun h39 hx => ?_)
          · refine mm_if_eq 152 dX1_look_147 (by decide) (fun _ => ?_) (fun h => absurd h39 h)
            exact e_X1_look_152 hst hZ hn hs hx
          · refine mm_if_eq 152 dX1_look_147 (by decide) (fun h => absurd h h39) (fun _ => ?_)
            refine mm_iconst (v := 0) dX1_look_150 (by decide) ?_
            refine mm_iret dX1_look_151 rfl rfl ?_ (by omega) (by omega)
            obtain ⟨rfl, rfl⟩ := fin2 hx
            exact ⟨rfl, rfl⟩
        · refine mm_icmp_ne 152 dX1_look_132 (by decide) (fun _ => ?_) (fun h => absurd h h35)
          exact e_X1_look_152 hst hZ hn hs hx
    · refine mm_icmp_eq 110 dX1_look_105 (by decide) (fun h => absurd h h31) (fun _ => ?_)
      refine mm_iconst (v := 1) dX1_look_108 (by decide) ?_
      refine mm_iret dX1_look_109 rfl rfl ?_ (by omega) (by omega)
      obtain ⟨rfl, rfl⟩ := fin2 hx
      exact ⟨rfl, rfl⟩
set_option maxHeartbeats 4000000 in
set_option maxRecDepth 100000 in
theorem e_X1_look {g : mm_G} {l : Launch} (hst : l.stackTraces = false) {Z : Nat → Nat → Option Nat} (hZ : HZ Z) {n : Nat} (hn : 1186 ≤ n) {z : Bool} {d : Nat} {U : Nat} {a : Nat} (hs : sh a = 1) {σ : SG} {r : Int32} {σ' : SG} (hx : x_X1_look U a σ = some (r, σ')) : mm_Cm g l yX1_look (.code yX1_look cX1_look 4 (some .int)) (d + 2) 0 0 [.ref a] (mem Z σ, n, z) (fun v S' => v = some (.int r) ∧ S' = (mem Z σ', n, z)) := by
  refine mm_Cm_of hst (by decide) (Nat.le_of_ble_eq_true rfl) ?_
  show mm_V g l RX1 "look" cX1_look 4 (some .int) [] (d + 2) 0 0 (mm_nt (fun v S' => v = some (.int r) ∧ S' = (mem Z σ', n, z))) 0 [some (.ref a), none, none, none] [] (mem Z σ, n, z) 0 0
  unfold x_X1_look at hx
  refine mm_aload_n dX1_look_0 rfl rfl ?_
  refine s_getI (r := some a) (b := a) (ci := 1) (k := 4) in_X1 rfl (by decide) rfl kF_X1_28 dX1_look_1 rfl hs (by decide) hn (by decide) rfl ?_
  refine mm_iconst (v := 1) dX1_look_4 (by decide) ?_
  refine mm_isub dX1_look_5 ?_
  refine mm_istore_n [some (.ref a), some (.int ((sI σ a 4) - 1)), none, none] dX1_look_6 (by decide) rfl ?_
  refine mm_iload_n dX1_look_7 rfl ?_
  refine b_if hx (fun h1 hx => ?_) (fun h1 hx => ?_)
  · refine mm_if_lt 29 dX1_look_8 (by decide) (fun _ => ?_) (fun h => absurd h1 h)
    refine mm_iconst (v := 0) dX1_look_29 (by decide) ?_
    refine mm_iret dX1_look_30 rfl rfl ?_ (by omega) (by omega)
    obtain ⟨rfl, rfl⟩ := fin2 hx
    exact ⟨rfl, rfl⟩
  · refine mm_if_lt 29 dX1_look_8 (by decide) (fun h => absurd h h1) (fun _ => ?_)
    refine mm_iload_n dX1_look_11 rfl ?_
    refine mm_aload_n dX1_look_12 rfl rfl ?_
    refine s_getS (q := 1098) (r := some a) (b := a) (ci := 1) (k := 1) in_X1 rfl (by decide) rfl kF_X1_17 dX1_look_13 rfl hs (by decide) hn (by decide) rfl rfl ?_
    refine s_alen (a := 1098) (t := 4) (N := 256) (v := 256) (fun _ => rfl) sa_1098 (by decide) hn na_1098 rfl dX1_look_16 ?_
    refine b_if hx (fun h2 hx => ?_) (fun h2 hx => ?_)
    · refine mm_icmp_ge 29 dX1_look_17 (by decide) (fun h => absurd h (Int32.not_le.mpr h2)) (fun _ => ?_)
      refine mm_iload_n dX1_look_20 rfl ?_
      refine mm_aload_n dX1_look_21 rfl rfl ?_
      refine s_getS (q := 1099) (r := some a) (b := a) (ci := 1) (k := 2) in_X1 rfl (by decide) rfl kF_X1_21 dX1_look_22 rfl hs (by decide) hn (by decide) rfl rfl ?_
      refine s_alen (a := 1099) (t := 4) (N := 256) (v := 256) (fun _ => rfl) sa_1099 (by decide) hn na_1099 rfl dX1_look_25 ?_
      refine b_if hx (fun h3 hx => ?_) (fun h3 hx => ?_)
      · refine mm_icmp_lt 31 dX1_look_26 (by decide) (fun _ => ?_) (fun h => absurd h3 h)
        refine mm_aload_n dX1_look_31 rfl rfl ?_
        refine s_getS (q := 1098) (r := some a) (b := a) (ci := 1) (k := 1) in_X1 rfl (by decide) rfl kF_X1_17 dX1_look_32 rfl hs (by decide) hn (by decide) rfl rfl ?_
        refine mm_iload_n dX1_look_35 rfl ?_
        obtain ⟨j4, hj5, hb6, hl7, hx⟩ := ix_some hx
        refine s_aald (a := 1098) sa_1098 (by decide) hn hj5 hb6 na_1098 dX1_look_36 ?_
        refine mm_astore_n [some (.ref a), some (.int ((sI σ a 4) - 1)), some (va_rf (sP σ 1098 j4)), none] dX1_look_37 (by decide) (isr_rf _) rfl ?_
        refine mm_aload_n dX1_look_38 rfl (isr_rf _) ?_
        refine b_if hx (fun h8 hx => ?_) (fun h8 hx => ?_)
        · refine mm_ifnonnull (r := sP σ 1098 j4) 54 dX1_look_39 (by decide) (fun h => absurd h8 h) (fun _ => ?_)
          refine mm_aload_n dX1_look_42 rfl rfl ?_
          refine mm_dup dX1_look_43 rfl ?_
          refine s_getI (r := some a) (b := a) (ci := 1) (k := 4) in_X1 rfl (by decide) rfl kF_X1_28 dX1_look_44 rfl hs (by decide) hn (by decide) rfl ?_
          refine mm_iconst (v := 1) dX1_look_47 (by decide) ?_
          refine mm_isub dX1_look_48 ?_
          refine s_putI (v := (sI σ a 4) - 1) (r := some a) (b := a) (ci := 1) (k := 4) in_X1 rfl (by decide) rfl tyX1_ok nmX1 rfl kF_X1_28 dX1_look_49 (mm_fit_int _) rfl hs (by decide) hn (by decide) rfl hx (fun σ9 hx => ?_)
          refine mm_iconst (v := 0) dX1_look_52 (by decide) ?_
          refine mm_iret dX1_look_53 rfl rfl ?_ (by omega) (by omega)
          obtain ⟨rfl, rfl⟩ := fin2 hx
          exact ⟨rfl, rfl⟩
        · refine mm_ifnonnull (r := sP σ 1098 j4) 54 dX1_look_39 (by decide) (fun _ => ?_) (fun h => absurd h h8)
          refine mm_aload_n dX1_look_54 rfl rfl ?_
          refine s_getS (q := 1099) (r := some a) (b := a) (ci := 1) (k := 2) in_X1 rfl (by decide) rfl kF_X1_21 dX1_look_55 rfl hs (by decide) hn (by decide) rfl rfl ?_
          refine mm_iload_n dX1_look_58 rfl ?_
          obtain ⟨j10, hj11, hb12, hl13, hx⟩ := ix_some hx
          refine s_aald (a := 1099) sa_1099 (by decide) hn hj11 hb12 na_1099 dX1_look_59 ?_
          refine b_if hx (fun h14 hx => ?_) (fun h14 hx => ?_)
          · refine mm_ifnonnull (r := sP σ 1099 j10) 67 dX1_look_60 (by decide) (fun h => absurd h14 h) (fun _ => ?_)
            refine mm_null dX1_look_63 ?_
            refine mm_goto 80 dX1_look_64 (by decide) ?_
            exact e_X1_look_80 hst hZ hn hs hx
          · refine mm_ifnonnull (r := sP σ 1099 j10) 67 dX1_look_60 (by decide) (fun _ => ?_) (fun h => absurd h h14)
            refine mm_aload_n dX1_look_67 rfl rfl ?_
            refine s_getS (q := 1099) (r := some a) (b := a) (ci := 1) (k := 2) in_X1 rfl (by decide) rfl kF_X1_21 dX1_look_68 rfl hs (by decide) hn (by decide) rfl rfl ?_
            refine mm_iload_n dX1_look_71 rfl ?_
            obtain ⟨j56, hj57, hb58, hl59, hx⟩ := ix_some hx
            refine s_aald (a := 1099) sa_1099 (by decide) hn hj57 hb58 na_1099 dX1_look_72 ?_
            refine mm_aload_n dX1_look_73 rfl (isr_rf _) ?_
            obtain ⟨q60, hr61, hs62, hx⟩ := ck_some hx
            refine s_getLN (r := sP σ 1098 j4) (b := q60) (ci := 3) (k := 6) in_X3 rfl (by decide) rfl kF_X1_51 dX1_look_74 hr61 hs62 (by decide) hn (by decide) rfl ?_
            obtain ⟨q63, hr64, hs65, hx⟩ := ck_some hx
            obtain ⟨v67, hc66, hx⟩ := b1_some hx
            refine mm_callV3 (a := q63) (ci := 3) wM_X3_memberNumbered kM_X1_55 wI_X3_memberNumbered wS_X3_memberNumbered dX1_look_77 (e_X3_memberNumbered hst hZ hn hs65 hc66) (mem_obj hs65 (by decide)) (sh_ltn hs65 (by decide) hn) rfl rfl (by rw [hr64]; rfl) (Nat.le_of_ble_eq_true rfl) (by omega) (by omega) (fun v9 S9 hq => ?_)
            obtain ⟨rfl, rfl⟩ := hq
            refine ⟨fun h => ⟨h, rfl⟩, ?_⟩
            exact e_X1_look_80 hst hZ hn hs hx
      · refine mm_icmp_lt 31 dX1_look_26 (by decide) (fun h => absurd h h3) (fun _ => ?_)
        refine mm_iconst (v := 0) dX1_look_29 (by decide) ?_
        refine mm_iret dX1_look_30 rfl rfl ?_ (by omega) (by omega)
        obtain ⟨rfl, rfl⟩ := fin2 hx
        exact ⟨rfl, rfl⟩
    · refine mm_icmp_ge 29 dX1_look_17 (by decide) (fun _ => ?_) (fun h => absurd (Int32.not_lt.mp h2) h)
      refine mm_iconst (v := 0) dX1_look_29 (by decide) ?_
      refine mm_iret dX1_look_30 rfl rfl ?_ (by omega) (by omega)
      obtain ⟨rfl, rfl⟩ := fin2 hx
      exact ⟨rfl, rfl⟩
set_option maxHeartbeats 4000000 in
set_option maxRecDepth 100000 in
theorem e_X1_tellWay_44 {g : mm_G} {l : Launch} (hst : l.stackTraces = false) {Z : Nat → Nat → Option Nat} (hZ : HZ Z) {n : Nat} (hn : 1186 ≤ n) {z : Bool} {d : Nat} {U : Nat} {a : Nat} (hs : sh a = 1) {k2 : Int32 → SG → Option (SG)} {v1_ : Int32} {σ : SG} {σ' : SG} (hk2 : ∀ (v1_ : Int32) (σ8 : SG), k2 v1_ σ8 = some σ' → mm_V g l RX1 "tellWay" cX1_tellWay 2 none [] (d + 2) 0 0 (mm_nt (fun v S' => v = none ∧ S' = (mem Z σ', n, z))) 2 [some (.ref a), some (.int v1_)] [] (mem Z σ8, n, z) 0 0) (hx : x_X1_tellWay_44 U a k2 v1_ σ = some σ') : mm_V g l RX1 "tellWay" cX1_tellWay 2 none [] (d + 2) 0 0 (mm_nt (fun v S' => v = none ∧ S' = (mem Z σ', n, z))) 44 [some (.ref a), some (.int v1_)] [] (mem Z σ, n, z) 0 0 := by
  unfold x_X1_tellWay_44 at hx
  refine mm_iinc (v := v1_ + 1) [some (.ref a), some (.int (v1_ + 1))] dX1_tellWay_44 rfl rfl (by decide) rfl ?_
  refine mm_goto 2 dX1_tellWay_47 (by decide) ?_
  exact hk2 _ _ hx
set_option maxHeartbeats 4000000 in
set_option maxRecDepth 100000 in
theorem e_X1_tellWay_L2 {g : mm_G} {l : Launch} (hst : l.stackTraces = false) {Z : Nat → Nat → Option Nat} (hZ : HZ Z) {n : Nat} (hn : 1186 ≤ n) {z : Bool} {d : Nat} {U : Nat} {a : Nat} (hs : sh a = 1) {σ' : SG} : ∀ (U1 : Nat) (v1_ : Int32) (σ : SG), x_X1_tellWay_L2 U a U1 v1_ σ = some σ' → mm_V g l RX1 "tellWay" cX1_tellWay 2 none [] (d + 2) 0 0 (mm_nt (fun v S' => v = none ∧ S' = (mem Z σ', n, z))) 2 [some (.ref a), some (.int v1_)] [] (mem Z σ, n, z) 0 0 := by
  intro U1
  induction U1 with
  | zero => intro v1_ σ hx; exact absurd hx (by simp [x_X1_tellWay_L2])
  | succ U1 ih =>
    intro v1_ σ hx
    rw [x_X1_tellWay_L2] at hx
    refine mm_iload_n dX1_tellWay_2 rfl ?_
    refine mm_aload_n dX1_tellWay_3 rfl rfl ?_
    refine s_getI (r := some a) (b := a) (ci := 1) (k := 4) in_X1 rfl (by decide) rfl kF_X1_28 dX1_tellWay_4 rfl hs (by decide) hn (by decide) rfl ?_
    refine b_if hx (fun h1 hx => ?_) (fun h1 hx => ?_)
    · refine mm_icmp_ge 50 dX1_tellWay_7 (by decide) (fun h => absurd h (Int32.not_le.mpr h1)) (fun _ => ?_)
      refine mm_iload_n dX1_tellWay_10 rfl ?_
      refine mm_aload_n dX1_tellWay_11 rfl rfl ?_
      refine s_getS (q := 1098) (r := some a) (b := a) (ci := 1) (k := 1) in_X1 rfl (by decide) rfl kF_X1_17 dX1_tellWay_12 rfl hs (by decide) hn (by decide) rfl rfl ?_
      refine s_alen (a := 1098) (t := 4) (N := 256) (v := 256) (fun _ => rfl) sa_1098 (by decide) hn na_1098 rfl dX1_tellWay_15 ?_
      refine b_if hx (fun h2 hx => ?_) (fun h2 hx => ?_)
      · refine mm_icmp_ge 50 dX1_tellWay_16 (by decide) (fun h => absurd h (Int32.not_le.mpr h2)) (fun _ => ?_)
        refine mm_aload_n dX1_tellWay_19 rfl rfl ?_
        refine s_getS (q := 1098) (r := some a) (b := a) (ci := 1) (k := 1) in_X1 rfl (by decide) rfl kF_X1_17 dX1_tellWay_20 rfl hs (by decide) hn (by decide) rfl rfl ?_
        refine mm_iload_n dX1_tellWay_23 rfl ?_
        obtain ⟨j3, hj4, hb5, hl6, hx⟩ := ix_some hx
        refine s_aald (a := 1098) sa_1098 (by decide) hn hj4 hb5 na_1098 dX1_tellWay_24 ?_
        refine b_if hx (fun h7 hx => ?_) (fun h7 hx => ?_)
        · refine mm_ifnull (r := sP σ 1098 j3) 44 dX1_tellWay_25 (by decide) (fun _ => ?_) (fun h => absurd h7 h)
          exact e_X1_tellWay_44 hst hZ hn hs ih hx
        · refine mm_ifnull (r := sP σ 1098 j3) 44 dX1_tellWay_25 (by decide) (fun h => absurd h h7) (fun _ => ?_)
          refine mm_aload_n dX1_tellWay_28 rfl rfl ?_
          refine s_getS (q := 3) (r := some a) (b := a) (ci := 1) (k := 0) in_X1 rfl (by decide) rfl kF_X1_9 dX1_tellWay_29 rfl hs (by decide) hn (by decide) rfl rfl ?_
          refine mm_aload_n dX1_tellWay_32 rfl rfl ?_
          refine s_getS (q := 1098) (r := some a) (b := a) (ci := 1) (k := 1) in_X1 rfl (by decide) rfl kF_X1_17 dX1_tellWay_33 rfl hs (by decide) hn (by decide) rfl rfl ?_
          refine mm_iload_n dX1_tellWay_36 rfl ?_
          obtain ⟨j8, hj9, hb10, hl11, hx⟩ := ix_some hx
          refine s_aald (a := 1098) sa_1098 (by decide) hn hj9 hb10 na_1098 dX1_tellWay_37 ?_
          obtain ⟨q12, hr13, hs14, hx⟩ := ck_some hx
          refine s_getLN (r := sP σ 1098 j8) (b := q12) (ci := 3) (k := 6) in_X3 rfl (by decide) rfl kF_X1_51 dX1_tellWay_38 hr13 hs14 (by decide) hn (by decide) rfl ?_
          obtain ⟨σ16, hc15, hx⟩ := b1_some hx
          refine mm_callV3 (a := 3) (ci := 0) wM_X0_addVarint kM_X1_86 wI_X0_addVarint wS_X0_addVarint dX1_tellWay_41 (e_X0_addVarint hst hZ hn sa_3 hc15) (mem_obj sa_3 (by decide)) (sh_ltn sa_3 (by decide) hn) rfl rfl rfl (Nat.le_of_ble_eq_true rfl) (by omega) (by omega) (fun v9 S9 hq => ?_)
          obtain ⟨rfl, rfl⟩ := hq
          refine ⟨fun h => ⟨h, rfl⟩, ?_⟩
          exact e_X1_tellWay_44 hst hZ hn hs ih hx
      · refine mm_icmp_ge 50 dX1_tellWay_16 (by decide) (fun _ => ?_) (fun h => absurd (Int32.not_lt.mp h2) h)
        refine mm_vret dX1_tellWay_50 rfl ?_ (by omega) (by omega)
        obtain rfl := fin1 hx
        exact ⟨rfl, rfl⟩
    · refine mm_icmp_ge 50 dX1_tellWay_7 (by decide) (fun _ => ?_) (fun h => absurd (Int32.not_lt.mp h1) h)
      refine mm_vret dX1_tellWay_50 rfl ?_ (by omega) (by omega)
      obtain rfl := fin1 hx
      exact ⟨rfl, rfl⟩
set_option maxHeartbeats 4000000 in
set_option maxRecDepth 100000 in
theorem e_X1_tellWay {g : mm_G} {l : Launch} (hst : l.stackTraces = false) {Z : Nat → Nat → Option Nat} (hZ : HZ Z) {n : Nat} (hn : 1186 ≤ n) {z : Bool} {d : Nat} {U : Nat} {a : Nat} (hs : sh a = 1) {σ : SG} {σ' : SG} (hx : x_X1_tellWay U a σ = some σ') : mm_Cm g l yX1_tellWay (.code yX1_tellWay cX1_tellWay 2 none) (d + 2) 0 0 [.ref a] (mem Z σ, n, z) (fun v S' => v = none ∧ S' = (mem Z σ', n, z)) := by
  refine mm_Cm_of hst (by decide) (Nat.le_of_ble_eq_true rfl) ?_
  show mm_V g l RX1 "tellWay" cX1_tellWay 2 none [] (d + 2) 0 0 (mm_nt (fun v S' => v = none ∧ S' = (mem Z σ', n, z))) 0 [some (.ref a), none] [] (mem Z σ, n, z) 0 0
  unfold x_X1_tellWay at hx
  refine mm_iconst (v := 0) dX1_tellWay_0 (by decide) ?_
  refine mm_istore_n [some (.ref a), some (.int 0)] dX1_tellWay_1 (by decide) rfl ?_
  refine e_X1_tellWay_L2 hst hZ hn hs _ _ _ hx
set_option maxHeartbeats 4000000 in
set_option maxRecDepth 100000 in
theorem e_X1_compare_L2 {g : mm_G} {l : Launch} (hst : l.stackTraces = false) {Z : Nat → Nat → Option Nat} (hZ : HZ Z) {n : Nat} (hn : 1186 ≤ n) {z : Bool} {d : Nat} {U : Nat} {a : Nat} (hs : sh a = 1) {k24 : SG → Option (Int32 × SG)} {v1_ : Option Nat} {v2_ : Option Nat} {r : Int32} {σ' : SG} (hk24 : ∀ (σ8 : SG), k24 σ8 = some (r, σ') → mm_V g l RX1 "compare" cX1_compare 5 (some .int) [] (d + 3) 0 0 (mm_nt (fun v S' => v = some (.int r) ∧ S' = (mem Z σ', n, z))) 24 [some (.ref a), some (va_rf v1_), some (va_rf v2_), none, none] [] (mem Z σ8, n, z) 0 0) : ∀ (U1 : Nat) (v3_ : Int32) (σ : SG), x_X1_compare_L2 U a k24 v1_ v2_ U1 v3_ σ = some (r, σ') → mm_V g l RX1 "compare" cX1_compare 5 (some .int) [] (d + 3) 0 0 (mm_nt (fun v S' => v = some (.int r) ∧ S' = (mem Z σ', n, z))) 2 [some (.ref a), some (va_rf v1_), some (va_rf v2_), some (.int v3_), none] [] (mem Z σ, n, z) 0 0 := by
  intro U1
  induction U1 with
  | zero => intro v3_ σ hx; exact absurd hx (by simp [x_X1_compare_L2])
  | succ U1 ih =>
    intro v3_ σ hx
    rw [x_X1_compare_L2] at hx
    refine mm_iload_n dX1_compare_2 rfl ?_
    refine mm_aload_n dX1_compare_3 rfl rfl ?_
    refine s_getS (q := 1100) (r := some a) (b := a) (ci := 1) (k := 3) in_X1 rfl (by decide) rfl kF_X1_24 dX1_compare_4 rfl hs (by decide) hn (by decide) rfl rfl ?_
    refine s_alen (a := 1100) (t := 3) (N := 256) (v := 256) (fun _ => rfl) sa_1100 (by decide) hn na_1100 rfl dX1_compare_7 ?_
    refine b_if hx (fun h1 hx => ?_) (fun h1 hx => ?_)
    · refine mm_icmp_ge 24 dX1_compare_8 (by decide) (fun h => absurd h (Int32.not_le.mpr h1)) (fun _ => ?_)
      refine mm_aload_n dX1_compare_11 rfl rfl ?_
      refine s_getS (q := 1100) (r := some a) (b := a) (ci := 1) (k := 3) in_X1 rfl (by decide) rfl kF_X1_24 dX1_compare_12 rfl hs (by decide) hn (by decide) rfl rfl ?_
      refine mm_iload_n dX1_compare_15 rfl ?_
      refine mm_iconst (v := 0) dX1_compare_16 (by decide) ?_
      obtain ⟨j2, hj3, hb4, hl5, hx⟩ := ix_some hx
      refine s_zast (a := 1100) (v := 0) sa_1100 hn hj3 hb4 na_1100 dX1_compare_17 hx (fun σ6 hx => ?_)
      refine mm_iinc (v := v3_ + 1) [some (.ref a), some (va_rf v1_), some (va_rf v2_), some (.int (v3_ + 1)), none] dX1_compare_18 rfl rfl (by decide) ((st1_o (r := v2_) rfl).trans rfl) ?_
      refine mm_goto 2 dX1_compare_21 (by decide) ?_
      exact ih _ _ hx
    · refine mm_icmp_ge 24 dX1_compare_8 (by decide) (fun _ => ?_) (fun h => absurd (Int32.not_lt.mp h1) h)
      refine mm_fewer [some (.ref a), some (va_rf v1_), some (va_rf v2_), none, none] (few_ok (bs := [true, true, true, false, false]) rfl) ?_
      exact hk24  _ hx
set_option maxHeartbeats 4000000 in
set_option maxRecDepth 100000 in
theorem e_X1_compare_L38 {g : mm_G} {l : Launch} (hst : l.stackTraces = false) {Z : Nat → Nat → Option Nat} (hZ : HZ Z) {n : Nat} (hn : 1186 ≤ n) {z : Bool} {d : Nat} {U : Nat} {a : Nat} (hs : sh a = 1) {k62 : Int32 → SG → Option (Int32 × SG)} {r : Int32} {σ' : SG} (hk62 : ∀ (v4_ : Int32) (σ8 : SG), k62 v4_ σ8 = some (r, σ') → mm_V g l RX1 "compare" cX1_compare 5 (some .int) [] (d + 3) 0 0 (mm_nt (fun v S' => v = some (.int r) ∧ S' = (mem Z σ', n, z))) 62 [some (.ref a), none, none, none, some (.int v4_)] [] (mem Z σ8, n, z) 0 0) : ∀ (U1 : Nat) (v3_ : Int32) (σ : SG), x_X1_compare_L38 U a k62 U1 v3_ σ = some (r, σ') → mm_V g l RX1 "compare" cX1_compare 5 (some .int) [] (d + 3) 0 0 (mm_nt (fun v S' => v = some (.int r) ∧ S' = (mem Z σ', n, z))) 38 [some (.ref a), none, none, some (.int v3_), none] [] (mem Z σ, n, z) 0 0 := by
  intro U1
  induction U1 with
  | zero => intro v3_ σ hx; exact absurd hx (by simp [x_X1_compare_L38])
  | succ U1 ih =>
    intro v3_ σ hx
    rw [x_X1_compare_L38] at hx
    refine mm_iload_n dX1_compare_38 rfl ?_
    refine mm_ldc kK_X1_36 dX1_compare_39 ?_
    refine b_if hx (fun h12 hx => ?_) (fun h12 hx => ?_)
    · refine mm_icmp_ge 75 dX1_compare_41 (by decide) (fun h => absurd h (Int32.not_le.mpr h12)) (fun _ => ?_)
      refine mm_aload_n dX1_compare_44 rfl rfl ?_
      refine s_getI (r := some a) (b := a) (ci := 1) (k := 4) in_X1 rfl (by decide) rfl kF_X1_28 dX1_compare_45 rfl hs (by decide) hn (by decide) rfl ?_
      refine b_if hx (fun h13 hx => ?_) (fun h13 hx => ?_)
      · refine mm_if_le 75 dX1_compare_48 (by decide) (fun h => absurd h (Int32.not_le.mpr h13)) (fun _ => ?_)
        refine mm_aload_n dX1_compare_51 rfl rfl ?_
        obtain ⟨v15, σ16, hc14, hx⟩ := b2_some hx
        refine mm_callV3 (a := a) (ci := 1) wM_X1_look kM_X1_37 wI_X1_look wS_X1_look dX1_compare_52 (e_X1_look hst hZ hn hs hc14) (mem_obj hs (by decide)) (sh_ltn hs (by decide) hn) rfl rfl rfl (Nat.le_of_ble_eq_true rfl) (by omega) (by omega) (fun v9 S9 hq => ?_)
        obtain ⟨rfl, rfl⟩ := hq
        refine ⟨fun h => ⟨h, rfl⟩, ?_⟩
        refine mm_istore [some (.ref a), none, none, some (.int v3_), some (.int v15)] dX1_compare_55 (by decide) rfl ?_
        refine mm_iload dX1_compare_57 rfl ?_
        refine b_if hx (fun h17 hx => ?_) (fun h17 hx => ?_)
        · refine mm_if_eq 69 dX1_compare_59 (by decide) (fun _ => ?_) (fun h => absurd h17 h)
          refine mm_iinc (v := v3_ + 1) [some (.ref a), none, none, some (.int (v3_ + 1)), some (.int v15)] dX1_compare_69 rfl rfl (by decide) rfl ?_
          refine mm_goto 38 dX1_compare_72 (by decide) ?_
          refine mm_fewer [some (.ref a), none, none, some (.int (v3_ + 1)), none] (few_ok (bs := [true, false, false, true, false]) rfl) ?_
          exact ih _ _ hx
        · refine mm_if_eq 69 dX1_compare_59 (by decide) (fun h => absurd h h17) (fun _ => ?_)
          refine mm_fewer [some (.ref a), none, none, none, some (.int v15)] (few_ok (bs := [true, false, false, false, true]) rfl) ?_
          exact hk62 _ _ hx
      · refine mm_if_le 75 dX1_compare_48 (by decide) (fun _ => ?_) (fun h => absurd (Int32.not_lt.mp h13) h)
        refine mm_iconst (v := 0) dX1_compare_75 (by decide) ?_
        refine mm_iret dX1_compare_76 rfl rfl ?_ (by omega) (by omega)
        obtain ⟨rfl, rfl⟩ := fin2 hx
        exact ⟨rfl, rfl⟩
    · refine mm_icmp_ge 75 dX1_compare_41 (by decide) (fun _ => ?_) (fun h => absurd (Int32.not_lt.mp h12) h)
      refine mm_iconst (v := 0) dX1_compare_75 (by decide) ?_
      refine mm_iret dX1_compare_76 rfl rfl ?_ (by omega) (by omega)
      obtain ⟨rfl, rfl⟩ := fin2 hx
      exact ⟨rfl, rfl⟩
set_option maxHeartbeats 4000000 in
set_option maxRecDepth 100000 in
theorem e_X1_compare {g : mm_G} {l : Launch} (hst : l.stackTraces = false) {Z : Nat → Nat → Option Nat} (hZ : HZ Z) {n : Nat} (hn : 1186 ≤ n) {z : Bool} {d : Nat} {U : Nat} {a : Nat} (hs : sh a = 1) {p0 : Option Nat} {p1 : Option Nat} {σ : SG} {r : Int32} {σ' : SG} (hx : x_X1_compare U a p0 p1 σ = some (r, σ')) : mm_Cm g l yX1_compare (.code yX1_compare cX1_compare 5 (some .int)) (d + 3) 0 0 [.ref a, va_rf p0, va_rf p1] (mem Z σ, n, z) (fun v S' => v = some (.int r) ∧ S' = (mem Z σ', n, z)) := by
  refine mm_Cm_of hst (by decide) (by cases p0 <;> cases p1 <;>  exact Nat.le_of_ble_eq_true rfl) ?_
  rw [show mm_ent [.ref a, va_rf p0, va_rf p1] 5 = [some (.ref a), some (va_rf p0), some (va_rf p1), none, none] from by cases p0 <;> cases p1 <;>  rfl]
  show mm_V g l RX1 "compare" cX1_compare 5 (some .int) [] (d + 3) 0 0 (mm_nt (fun v S' => v = some (.int r) ∧ S' = (mem Z σ', n, z))) 0 [some (.ref a), some (va_rf p0), some (va_rf p1), none, none] [] (mem Z σ, n, z) 0 0
  unfold x_X1_compare at hx
  refine mm_iconst (v := 0) dX1_compare_0 (by decide) ?_
  refine mm_istore_n [some (.ref a), some (va_rf p0), some (va_rf p1), some (.int 0), none] dX1_compare_1 (by decide) ((st1_o (r := p1) rfl).trans rfl) ?_
  refine e_X1_compare_L2 hst hZ hn hs ?_ _ _ _ hx
  · intro  σ7 hx
    refine mm_aload_n dX1_compare_24 rfl rfl ?_
    refine mm_iconst (v := 0) dX1_compare_25 (by decide) ?_
    refine s_putI (v := 0) (r := some a) (b := a) (ci := 1) (k := 4) in_X1 rfl (by decide) rfl tyX1_ok nmX1 rfl kF_X1_28 dX1_compare_26 (mm_fit_int _) rfl hs (by decide) hn (by decide) rfl hx (fun σ8 hx => ?_)
    refine mm_aload_n dX1_compare_29 rfl rfl ?_
    refine mm_aload_n dX1_compare_30 rfl (isr_rf _) ?_
    refine mm_aload_n dX1_compare_31 rfl (isr_rf _) ?_
    obtain ⟨v10, σ11, hc9, hx⟩ := b2_some hx
    refine mm_callV3 (a := a) (ci := 1) wM_X1_enter kM_X1_32 wI_X1_enter wS_X1_enter dX1_compare_32 (e_X1_enter hst hZ hn hs hc9) (mem_obj hs (by decide)) (sh_ltn hs (by decide) hn) rfl rfl rfl (Nat.le_of_ble_eq_true rfl) (by omega) (by omega) (fun v9 S9 hq => ?_)
    obtain ⟨rfl, rfl⟩ := hq
    refine ⟨fun h => ⟨h, rfl⟩, ?_⟩
    refine mm_pop dX1_compare_35 rfl ?_
    refine mm_iconst (v := 0) dX1_compare_36 (by decide) ?_
    refine mm_istore_n [some (.ref a), some (va_rf p0), some (va_rf p1), some (.int 0), none] dX1_compare_37 (by decide) ((st1_o (r := p1) rfl).trans rfl) ?_
    refine mm_fewer [some (.ref a), none, none, some (.int 0), none] (few_ok (bs := [true, false, false, true, false]) rfl) ?_
    refine e_X1_compare_L38 hst hZ hn hs ?_ _ _ _ hx
    · intro w18 σ19 hx
      refine mm_aload_n dX1_compare_62 rfl rfl ?_
      obtain ⟨σ21, hc20, hx⟩ := b1_some hx
      refine mm_callV3 (a := a) (ci := 1) wM_X1_tellWay kM_X1_41 wI_X1_tellWay wS_X1_tellWay dX1_compare_63 (e_X1_tellWay hst hZ hn hs hc20) (mem_obj hs (by decide)) (sh_ltn hs (by decide) hn) rfl rfl rfl (Nat.le_of_ble_eq_true rfl) (by omega) (by omega) (fun v9 S9 hq => ?_)
      obtain ⟨rfl, rfl⟩ := hq
      refine ⟨fun h => ⟨h, rfl⟩, ?_⟩
      refine mm_iload dX1_compare_66 rfl ?_
      refine mm_iret dX1_compare_68 rfl rfl ?_ (by omega) (by omega)
      obtain ⟨rfl, rfl⟩ := fin2 hx
      exact ⟨rfl, rfl⟩
set_option maxHeartbeats 4000000 in
set_option maxRecDepth 100000 in
theorem e_X11_check_41 {g : mm_G} {l : Launch} (hst : l.stackTraces = false) {Z : Nat → Nat → Option Nat} (hZ : HZ Z) {n : Nat} (hn : 1186 ≤ n) {d : Nat} {U : Nat} {a : Nat} (hs : sh a = 11) {σ : SG} {r : mm_R} {σ' : SG} (hx : x_X11_check_41 U a σ = some (r, σ')) : mm_V g l RX11 "check" cX11_check 5 (some .int) [] (d + 4) 1 6 (fun r9 S' => r9 = r ∧ S' = (mem Z σ', n, true)) 41 [none, none, none, none, none] [] (mem Z σ, n, true) 0 0 := by
  unfold x_X11_check_41 at hx
  refine mm_throw (k := 21) (text := "no such message") (by decide) kC_X11_67 wj_IllegalArgumentException rfl at_71 rfl dX11_check_41 dX11_check_44 dX11_check_45 dX11_check_47 dX11_check_50 (Nat.le_of_ble_eq_true rfl) (by omega) (by omega) ?_
  obtain ⟨rfl, rfl⟩ := fin2 hx
  exact ⟨rfl, rfl⟩
set_option maxHeartbeats 4000000 in
set_option maxRecDepth 100000 in
theorem e_X11_check {g : mm_G} {l : Launch} (hst : l.stackTraces = false) {Z : Nat → Nat → Option Nat} (hZ : HZ Z) {n : Nat} (hn : 1186 ≤ n) {d : Nat} {U : Nat} {a : Nat} (hs : sh a = 11) {p0 : Int32} {p1 : Int32} {σ : SG} {r : mm_R} {σ' : SG} (hx : x_X11_check U a p0 p1 σ = some (r, σ')) : mm_Ct g l yX11_check (.code yX11_check cX11_check 5 (some .int)) (d + 4) 1 6 [.ref a, .int p0, .int p1] (mem Z σ, n, true) (fun r9 S' => r9 = r ∧ S' = (mem Z σ', n, true)) := by
  refine mm_Ct_of hst (by decide) (Nat.le_of_ble_eq_true rfl) ?_
  show mm_V g l RX11 "check" cX11_check 5 (some .int) [] (d + 4) 1 6 (fun r9 S' => r9 = r ∧ S' = (mem Z σ', n, true)) 0 [some (.ref a), some (.int p0), some (.int p1), none, none] [] (mem Z σ, n, true) 0 0
  unfold x_X11_check at hx
  refine mm_aload_n dX11_check_0 rfl rfl ?_
  refine s_getS (q := 3) (r := some a) (b := a) (ci := 11) (k := 1) in_X11 rfl (by decide) rfl kF_X11_18 dX11_check_1 rfl hs (by decide) hn (by decide) rfl rfl ?_
  obtain ⟨σ2, hc1, hx⟩ := b1_some hx
  refine mm_callV3 (a := 3) (ci := 0) wM_X0_clear kM_X11_99 wI_X0_clear wS_X0_clear dX11_check_4 (e_X0_clear hst hZ hn sa_3 hc1) (mem_obj sa_3 (by decide)) (sh_ltn sa_3 (by decide) hn) rfl rfl rfl (Nat.le_of_ble_eq_true rfl) (by omega) (by omega) (fun v9 S9 hq => ?_)
  obtain ⟨rfl, rfl⟩ := hq
  refine ⟨fun h => ⟨h, rfl⟩, ?_⟩
  refine mm_aload_n dX11_check_7 rfl rfl ?_
  refine s_getS (q := 5) (r := some a) (b := a) (ci := 11) (k := 2) in_X11 rfl (by decide) rfl kF_X11_24 dX11_check_8 rfl hs (by decide) hn (by decide) rfl rfl ?_
  obtain ⟨v4, hc3, hx⟩ := b1_some hx
  refine mm_callV3 (a := 5) (ci := 2) wM_X2_schema kM_X11_109 wI_X2_schema wS_X2_schema dX11_check_11 (e_X2_schema hst hZ hn sa_5 hc3) (mem_obj sa_5 (by decide)) (sh_ltn sa_5 (by decide) hn) rfl rfl rfl (Nat.le_of_ble_eq_true rfl) (by omega) (by omega) (fun v9 S9 hq => ?_)
  obtain ⟨rfl, rfl⟩ := hq
  refine ⟨fun h => ⟨h, rfl⟩, ?_⟩
  refine mm_iload_n dX11_check_14 rfl ?_
  obtain ⟨q5, hr6, hs7, hx⟩ := ck_some hx
  obtain ⟨v9, hc8, hx⟩ := b1_some hx
  refine mm_callV3 (a := q5) (ci := 6) wM_X6_message kM_X11_193 wI_X6_message wS_X6_message dX11_check_15 (e_X6_message hst hZ hn hs7 hc8) (mem_obj hs7 (by decide)) (sh_ltn hs7 (by decide) hn) rfl rfl (by rw [hr6]; rfl) (Nat.le_of_ble_eq_true rfl) (by omega) (by omega) (fun v9 S9 hq => ?_)
  obtain ⟨rfl, rfl⟩ := hq
  refine ⟨fun h => ⟨h, rfl⟩, ?_⟩
  refine mm_astore_n [some (.ref a), some (.int p0), some (.int p1), some (va_rf v9), none] dX11_check_18 (by decide) (isr_rf _) rfl ?_
  refine mm_aload_n dX11_check_19 rfl rfl ?_
  refine s_getS (q := 197) (r := some a) (b := a) (ci := 11) (k := 3) in_X11 rfl (by decide) rfl kF_X11_28 dX11_check_20 rfl hs (by decide) hn (by decide) rfl rfl ?_
  obtain ⟨v11, hc10, hx⟩ := b1_some hx
  refine mm_callV3 (a := 197) (ci := 2) wM_X2_schema kM_X11_109 wI_X2_schema wS_X2_schema dX11_check_23 (e_X2_schema hst hZ hn sa_197 hc10) (mem_obj sa_197 (by decide)) (sh_ltn sa_197 (by decide) hn) rfl rfl rfl (Nat.le_of_ble_eq_true rfl) (by omega) (by omega) (fun v9 S9 hq => ?_)
  obtain ⟨rfl, rfl⟩ := hq
  refine ⟨fun h => ⟨h, rfl⟩, ?_⟩
  refine mm_iload_n dX11_check_26 rfl ?_
  obtain ⟨q12, hr13, hs14, hx⟩ := ck_some hx
  obtain ⟨v16, hc15, hx⟩ := b1_some hx
  refine mm_callV3 (a := q12) (ci := 6) wM_X6_message kM_X11_193 wI_X6_message wS_X6_message dX11_check_27 (e_X6_message hst hZ hn hs14 hc15) (mem_obj hs14 (by decide)) (sh_ltn hs14 (by decide) hn) rfl rfl (by rw [hr13]; rfl) (Nat.le_of_ble_eq_true rfl) (by omega) (by omega) (fun v9 S9 hq => ?_)
  obtain ⟨rfl, rfl⟩ := hq
  refine ⟨fun h => ⟨h, rfl⟩, ?_⟩
  refine mm_astore [some (.ref a), some (.int p0), some (.int p1), some (va_rf v9), some (va_rf v16)] dX11_check_30 (by decide) (isr_rf _) ((st1_o (r := v9) rfl).trans rfl) ?_
  refine mm_aload_n dX11_check_32 rfl (isr_rf _) ?_
  refine b_if hx (fun h17 hx => ?_) (fun h17 hx => ?_)
  · refine mm_ifnull (r := v9) 41 dX11_check_33 (by decide) (fun _ => ?_) (fun h => absurd h17 h)
    refine mm_fewer [none, none, none, none, none] (few_ok (bs := [false, false, false, false, false]) rfl) ?_
    exact e_X11_check_41 hst hZ hn hs hx
  · refine mm_ifnull (r := v9) 41 dX11_check_33 (by decide) (fun h => absurd h h17) (fun _ => ?_)
    refine mm_aload dX11_check_36 rfl (isr_rf _) ?_
    refine b_if hx (fun h18 hx => ?_) (fun h18 hx => ?_)
    · refine mm_ifnonnull (r := v16) 51 dX11_check_38 (by decide) (fun h => absurd h18 h) (fun _ => ?_)
      refine mm_fewer [none, none, none, none, none] (few_ok (bs := [false, false, false, false, false]) rfl) ?_
      exact e_X11_check_41 hst hZ hn hs hx
    · refine mm_ifnonnull (r := v16) 51 dX11_check_38 (by decide) (fun _ => ?_) (fun h => absurd h h18)
      refine mm_aload_n dX11_check_51 rfl rfl ?_
      refine s_getS (q := 1097) (r := some a) (b := a) (ci := 11) (k := 7) in_X11 rfl (by decide) rfl kF_X11_59 dX11_check_52 rfl hs (by decide) hn (by decide) rfl rfl ?_
      refine mm_aload_n dX11_check_55 rfl (isr_rf _) ?_
      refine mm_aload dX11_check_56 rfl (isr_rf _) ?_
      obtain ⟨v20, σ21, hc19, hx⟩ := b2_some hx
      refine mm_callV3 (a := 1097) (ci := 1) wM_X1_compare kM_X11_198 wI_X1_compare wS_X1_compare dX11_check_58 (e_X1_compare hst hZ hn sa_1097 hc19) (mem_obj sa_1097 (by decide)) (sh_ltn sa_1097 (by decide) hn) rfl rfl rfl (Nat.le_of_ble_eq_true rfl) (by omega) (by omega) (fun v9 S9 hq => ?_)
      obtain ⟨rfl, rfl⟩ := hq
      refine ⟨fun h => ⟨h, rfl⟩, ?_⟩
      refine mm_iret dX11_check_61 rfl rfl ?_ (by omega) (by omega)
      obtain ⟨rfl, rfl⟩ := fin2 hx
      exact ⟨rfl, rfl⟩
set_option maxHeartbeats 4000000 in
set_option maxRecDepth 100000 in
theorem e_X11_compilerOf {g : mm_G} {l : Launch} (hst : l.stackTraces = false) {Z : Nat → Nat → Option Nat} (hZ : HZ Z) {n : Nat} (hn : 1186 ≤ n) {z : Bool} {d : Nat} {a : Nat} (hs : sh a = 11) {p0 : Int32} {σ : SG} {r : Option Nat} (hx : x_X11_compilerOf a p0 σ = some r) : mm_Cm g l yX11_compilerOf (.code yX11_compilerOf cX11_compilerOf 2 (some (.object "ProtoDesk$Compiler"))) (d) 0 0 [.ref a, .int p0] (mem Z σ, n, z) (fun v S' => v = some (va_rf r) ∧ S' = (mem Z σ, n, z)) := by
  refine mm_Cm_of hst (by decide) (Nat.le_of_ble_eq_true rfl) ?_
  show mm_V g l RX11 "compilerOf" cX11_compilerOf 2 (some (.object "ProtoDesk$Compiler")) [] (d) 0 0 (mm_nt (fun v S' => v = some (va_rf r) ∧ S' = (mem Z σ, n, z))) 0 [some (.ref a), some (.int p0)] [] (mem Z σ, n, z) 0 0
  unfold x_X11_compilerOf at hx
  refine mm_iload_n dX11_compilerOf_0 rfl ?_
  refine b_if hx (fun h1 hx => ?_) (fun h1 hx => ?_)
  · refine mm_if_ne 11 dX11_compilerOf_1 (by decide) (fun h => absurd h1 h) (fun _ => ?_)
    refine mm_aload_n dX11_compilerOf_4 rfl rfl ?_
    refine s_getS (q := 5) (r := some a) (b := a) (ci := 11) (k := 2) in_X11 rfl (by decide) rfl kF_X11_24 dX11_compilerOf_5 rfl hs (by decide) hn (by decide) rfl rfl ?_
    refine mm_goto 24 dX11_compilerOf_8 (by decide) ?_
    refine mm_aret (a := some 5) dX11_compilerOf_24 rfl ?_ (by omega) (by omega)
    obtain rfl := fin1 hx
    exact ⟨rfl, rfl⟩
  · refine mm_if_ne 11 dX11_compilerOf_1 (by decide) (fun _ => ?_) (fun h => absurd h h1)
    refine mm_iload_n dX11_compilerOf_11 rfl ?_
    refine mm_iconst (v := 1) dX11_compilerOf_12 (by decide) ?_
    refine b_if hx (fun h2 hx => ?_) (fun h2 hx => ?_)
    · refine mm_icmp_ne 23 dX11_compilerOf_13 (by decide) (fun h => absurd h2 h) (fun _ => ?_)
      refine mm_aload_n dX11_compilerOf_16 rfl rfl ?_
      refine s_getS (q := 197) (r := some a) (b := a) (ci := 11) (k := 3) in_X11 rfl (by decide) rfl kF_X11_28 dX11_compilerOf_17 rfl hs (by decide) hn (by decide) rfl rfl ?_
      refine mm_goto 24 dX11_compilerOf_20 (by decide) ?_
      refine mm_aret (a := some 197) dX11_compilerOf_24 rfl ?_ (by omega) (by omega)
      obtain rfl := fin1 hx
      exact ⟨rfl, rfl⟩
    · refine mm_icmp_ne 23 dX11_compilerOf_13 (by decide) (fun _ => ?_) (fun h => absurd h h2)
      refine mm_null dX11_compilerOf_23 ?_
      refine mm_aret (a := none) dX11_compilerOf_24 rfl ?_ (by omega) (by omega)
      obtain rfl := fin1 hx
      exact ⟨rfl, rfl⟩
set_option maxHeartbeats 4000000 in
set_option maxRecDepth 100000 in
theorem e_X4_begin {g : mm_G} {l : Launch} (hst : l.stackTraces = false) {Z : Nat → Nat → Option Nat} (hZ : HZ Z) {n : Nat} (hn : 1186 ≤ n) {z : Bool} {d : Nat} {a : Nat} (hs : sh a = 4) {p0 : Option Nat} {σ : SG} {σ' : SG} (hx : x_X4_begin a p0 σ = some σ') : mm_Cm g l yX4_begin (.code yX4_begin cX4_begin 2 none) (d) 0 0 [.ref a, va_rf p0] (mem Z σ, n, z) (fun v S' => v = none ∧ S' = (mem Z σ', n, z)) := by
  refine mm_Cm_of hst (by decide) (by cases p0 <;>  exact Nat.le_of_ble_eq_true rfl) ?_
  rw [show mm_ent [.ref a, va_rf p0] 2 = [some (.ref a), some (va_rf p0)] from by cases p0 <;>  rfl]
  show mm_V g l RX4 "begin" cX4_begin 2 none [] (d) 0 0 (mm_nt (fun v S' => v = none ∧ S' = (mem Z σ', n, z))) 0 [some (.ref a), some (va_rf p0)] [] (mem Z σ, n, z) 0 0
  unfold x_X4_begin at hx
  refine mm_aload_n dX4_begin_0 rfl rfl ?_
  refine mm_aload_n dX4_begin_1 rfl (isr_rf _) ?_
  refine s_putP (v := p0) (r := some a) (b := a) (ci := 4) (k := 0) in_X4 rfl (by decide) rfl tyX4_ok nmX4 rfl kF_X4_9 dX4_begin_2 (mm_fit_r _ _) rfl hs (by decide) hn (by decide) rfl hx (fun σ1 hx => ?_)
  refine mm_aload_n dX4_begin_5 rfl rfl ?_
  refine mm_null dX4_begin_6 ?_
  refine s_putP (v := none) (r := some a) (b := a) (ci := 4) (k := 1) in_X4 rfl (by decide) rfl tyX4_ok nmX4 rfl kF_X4_15 dX4_begin_7 (mm_fit_r _ _) rfl hs (by decide) hn (by decide) rfl hx (fun σ2 hx => ?_)
  refine mm_aload_n dX4_begin_10 rfl rfl ?_
  refine mm_null dX4_begin_11 ?_
  refine s_putP (v := none) (r := some a) (b := a) (ci := 4) (k := 2) in_X4 rfl (by decide) rfl tyX4_ok nmX4 rfl kF_X4_19 dX4_begin_12 (mm_fit_r _ _) rfl hs (by decide) hn (by decide) rfl hx (fun σ3 hx => ?_)
  refine mm_aload_n dX4_begin_15 rfl rfl ?_
  refine mm_null dX4_begin_16 ?_
  refine s_putP (v := none) (r := some a) (b := a) (ci := 4) (k := 3) in_X4 rfl (by decide) rfl tyX4_ok nmX4 rfl kF_X4_22 dX4_begin_17 (mm_fit_r _ _) rfl hs (by decide) hn (by decide) rfl hx (fun σ4 hx => ?_)
  refine mm_aload_n dX4_begin_20 rfl rfl ?_
  refine mm_lconst (v := 0) dX4_begin_21 (by decide) ?_
  refine s_putL (v := 0) (r := some a) (b := a) (ci := 4) (k := 4) in_X4 rfl (by decide) rfl tyX4_ok nmX4 rfl kF_X4_25 dX4_begin_22 (mm_fit_long _) rfl hs (by decide) hn (by decide) rfl hx (fun σ5 hx => ?_)
  refine mm_aload_n dX4_begin_25 rfl rfl ?_
  refine mm_iconst (v := 0) dX4_begin_26 (by decide) ?_
  refine s_putI (v := 0) (r := some a) (b := a) (ci := 4) (k := 5) in_X4 rfl (by decide) rfl tyX4_ok nmX4 rfl kF_X4_29 dX4_begin_27 (mm_fit_int _) rfl hs (by decide) hn (by decide) rfl hx (fun σ6 hx => ?_)
  refine mm_aload_n dX4_begin_30 rfl rfl ?_
  refine mm_iconst (v := 0) dX4_begin_31 (by decide) ?_
  refine s_putI (v := 0) (r := some a) (b := a) (ci := 4) (k := 6) in_X4 rfl (by decide) rfl tyX4_ok nmX4 rfl kF_X4_33 dX4_begin_32 (mm_fit_int _) rfl hs (by decide) hn (by decide) rfl hx (fun σ7 hx => ?_)
  refine mm_vret dX4_begin_35 rfl ?_ (by omega) (by omega)
  obtain rfl := fin1 hx
  exact ⟨rfl, rfl⟩
set_option maxHeartbeats 4000000 in
set_option maxRecDepth 100000 in
theorem e_X8_drop {g : mm_G} {l : Launch} (hst : l.stackTraces = false) {Z : Nat → Nat → Option Nat} (hZ : HZ Z) {n : Nat} (hn : 1186 ≤ n) {z : Bool} {d : Nat} {a : Nat} (hs : sh a = 8) {σ : SG} {σ' : SG} (hx : x_X8_drop a σ = some σ') : mm_Cm g l yX8_drop (.code yX8_drop cX8_drop 1 none) (d + 1) 0 0 [.ref a] (mem Z σ, n, z) (fun v S' => v = none ∧ S' = (mem Z σ', n, z)) := by
  refine mm_Cm_of hst (by decide) (Nat.le_of_ble_eq_true rfl) ?_
  show mm_V g l RX8 "drop" cX8_drop 1 none [] (d + 1) 0 0 (mm_nt (fun v S' => v = none ∧ S' = (mem Z σ', n, z))) 0 [some (.ref a)] [] (mem Z σ, n, z) 0 0
  unfold x_X8_drop at hx
  refine mm_aload_n dX8_drop_0 rfl rfl ?_
  refine mm_null dX8_drop_1 ?_
  refine s_putP (v := none) (r := some a) (b := a) (ci := 8) (k := 4) in_X8 rfl (by decide) rfl tyX8_ok nmX8 rfl kF_X8_37 dX8_drop_2 (mm_fit_r _ _) rfl hs (by decide) hn (by decide) rfl hx (fun σ1 hx => ?_)
  refine mm_aload_n dX8_drop_5 rfl rfl ?_
  refine mm_null dX8_drop_6 ?_
  refine s_putP (v := none) (r := some a) (b := a) (ci := 8) (k := 5) in_X8 rfl (by decide) rfl tyX8_ok nmX8 rfl kF_X8_33 dX8_drop_7 (mm_fit_r _ _) rfl hs (by decide) hn (by decide) rfl hx (fun σ2 hx => ?_)
  refine mm_aload_n dX8_drop_10 rfl rfl ?_
  refine s_getS (q := 1092) (r := some a) (b := a) (ci := 8) (k := 2) in_X8 rfl (by decide) rfl kF_X8_29 dX8_drop_11 rfl hs (by decide) hn (by decide) rfl rfl ?_
  obtain ⟨σ4, hc3, hx⟩ := b1_some hx
  refine mm_callV3 (a := 1092) (ci := 0) wM_X0_clear kM_X8_45 wI_X0_clear wS_X0_clear dX8_drop_14 (e_X0_clear hst hZ hn sa_1092 hc3) (mem_obj sa_1092 (by decide)) (sh_ltn sa_1092 (by decide) hn) rfl rfl rfl (Nat.le_of_ble_eq_true rfl) (by omega) (by omega) (fun v9 S9 hq => ?_)
  obtain ⟨rfl, rfl⟩ := hq
  refine ⟨fun h => ⟨h, rfl⟩, ?_⟩
  refine mm_aload_n dX8_drop_17 rfl rfl ?_
  refine mm_iconst (v := 0) dX8_drop_18 (by decide) ?_
  refine s_putI (v := 0) (r := some a) (b := a) (ci := 8) (k := 3) in_X8 rfl (by decide) rfl tyX8_ok nmX8 rfl kF_X8_48 dX8_drop_19 (mm_fit_int _) rfl hs (by decide) hn (by decide) rfl hx (fun σ5 hx => ?_)
  refine mm_aload_n dX8_drop_22 rfl rfl ?_
  refine s_getS (q := 1091) (r := some a) (b := a) (ci := 8) (k := 1) in_X8 rfl (by decide) rfl kF_X8_20 dX8_drop_23 rfl hs (by decide) hn (by decide) rfl rfl ?_
  refine mm_null dX8_drop_26 ?_
  obtain ⟨σ7, hc6, hx⟩ := b1_some hx
  refine mm_callV3 (a := 1091) (ci := 4) wM_X4_begin kM_X8_52 wI_X4_begin wS_X4_begin dX8_drop_27 (e_X4_begin hst hZ hn sa_1091 hc6) (mem_obj sa_1091 (by decide)) (sh_ltn sa_1091 (by decide) hn) rfl rfl rfl (Nat.le_of_ble_eq_true rfl) (by omega) (by omega) (fun v9 S9 hq => ?_)
  obtain ⟨rfl, rfl⟩ := hq
  refine ⟨fun h => ⟨h, rfl⟩, ?_⟩
  refine mm_vret dX8_drop_30 rfl ?_ (by omega) (by omega)
  obtain rfl := fin1 hx
  exact ⟨rfl, rfl⟩
set_option maxHeartbeats 4000000 in
set_option maxRecDepth 100000 in
theorem e_X6_clear_L19 {g : mm_G} {l : Launch} (hst : l.stackTraces = false) {Z : Nat → Nat → Option Nat} (hZ : HZ Z) {n : Nat} (hn : 1186 ≤ n) {z : Bool} {d : Nat} {U : Nat} {a : Nat} (hs : sh a = 6) {σ' : SG} : ∀ (U1 : Nat) (v1_ : Int32) (σ : SG), x_X6_clear_L19 U a U1 v1_ σ = some σ' → mm_V g l RX6 "clear" cX6_clear 2 none [] (d + 1) 0 0 (mm_nt (fun v S' => v = none ∧ S' = (mem Z σ', n, z))) 19 [some (.ref a), some (.int v1_)] [] (mem Z σ, n, z) 0 0 := by
  intro U1
  induction U1 with
  | zero => intro v1_ σ hx; exact absurd hx (by simp [x_X6_clear_L19])
  | succ U1 ih =>
    intro v1_ σ hx
    rw [x_X6_clear_L19] at hx
    refine mm_iload_n dX6_clear_19 rfl ?_
    refine mm_aload_n dX6_clear_20 rfl rfl ?_
    refine s_getS (q := a + 184) (r := some a) (b := a) (ci := 6) (k := 2) in_X6 rfl (by decide) rfl kF_X6_27 dX6_clear_21 rfl hs (by decide) hn (by decide) rfl rfl ?_
    refine s_alen (a := a + 184) (t := 0) (N := 5) (v := 5) (fun _ => rfl) (sv6_2 hs) (by decide) hn (sn6_2 hs) rfl dX6_clear_24 ?_
    refine b_if hx (fun h5 hx => ?_) (fun h5 hx => ?_)
    · refine mm_icmp_ge 41 dX6_clear_25 (by decide) (fun h => absurd h (Int32.not_le.mpr h5)) (fun _ => ?_)
      refine mm_aload_n dX6_clear_28 rfl rfl ?_
      refine s_getS (q := a + 184) (r := some a) (b := a) (ci := 6) (k := 2) in_X6 rfl (by decide) rfl kF_X6_27 dX6_clear_29 rfl hs (by decide) hn (by decide) rfl rfl ?_
      refine mm_iload_n dX6_clear_32 rfl ?_
      refine mm_iconst (v := 0) dX6_clear_33 (by decide) ?_
      obtain ⟨j6, hj7, hb8, hl9, hx⟩ := ix_some hx
      refine s_iast (a := a + 184) (v := 0) (sv6_2 hs) hn hj7 hb8 (sn6_2 hs) dX6_clear_34 hx (fun σ10 hx => ?_)
      refine mm_iinc (v := v1_ + 1) [some (.ref a), some (.int (v1_ + 1))] dX6_clear_35 rfl rfl (by decide) rfl ?_
      refine mm_goto 19 dX6_clear_38 (by decide) ?_
      exact ih _ _ hx
    · refine mm_icmp_ge 41 dX6_clear_25 (by decide) (fun _ => ?_) (fun h => absurd (Int32.not_lt.mp h5) h)
      refine mm_vret dX6_clear_41 rfl ?_ (by omega) (by omega)
      obtain rfl := fin1 hx
      exact ⟨rfl, rfl⟩
set_option maxHeartbeats 4000000 in
set_option maxRecDepth 100000 in
theorem e_X6_clear {g : mm_G} {l : Launch} (hst : l.stackTraces = false) {Z : Nat → Nat → Option Nat} (hZ : HZ Z) {n : Nat} (hn : 1186 ≤ n) {z : Bool} {d : Nat} {U : Nat} {a : Nat} (hs : sh a = 6) {σ : SG} {σ' : SG} (hx : x_X6_clear U a σ = some σ') : mm_Cm g l yX6_clear (.code yX6_clear cX6_clear 2 none) (d + 1) 0 0 [.ref a] (mem Z σ, n, z) (fun v S' => v = none ∧ S' = (mem Z σ', n, z)) := by
  refine mm_Cm_of hst (by decide) (Nat.le_of_ble_eq_true rfl) ?_
  show mm_V g l RX6 "clear" cX6_clear 2 none [] (d + 1) 0 0 (mm_nt (fun v S' => v = none ∧ S' = (mem Z σ', n, z))) 0 [some (.ref a), none] [] (mem Z σ, n, z) 0 0
  unfold x_X6_clear at hx
  refine mm_aload_n dX6_clear_0 rfl rfl ?_
  refine s_getS (q := a + 1) (r := some a) (b := a) (ci := 6) (k := 0) in_X6 rfl (by decide) rfl kF_X6_14 dX6_clear_1 rfl hs (by decide) hn (by decide) rfl rfl ?_
  obtain ⟨σ2, hc1, hx⟩ := b1_some hx
  refine mm_callV3 (a := a + 1) (ci := 0) wM_X0_clear kM_X6_31 wI_X0_clear wS_X0_clear dX6_clear_4 (e_X0_clear hst hZ hn (sv6_0 hs) hc1) (mem_obj (sv6_0 hs) (by decide)) (sh_ltn (sv6_0 hs) (by decide) hn) rfl rfl rfl (Nat.le_of_ble_eq_true rfl) (by omega) (by omega) (fun v9 S9 hq => ?_)
  obtain ⟨rfl, rfl⟩ := hq
  refine ⟨fun h => ⟨h, rfl⟩, ?_⟩
  refine mm_aload_n dX6_clear_7 rfl rfl ?_
  refine mm_iconst (v := 0) dX6_clear_8 (by decide) ?_
  refine s_putI (v := 0) (r := some a) (b := a) (ci := 6) (k := 3) in_X6 rfl (by decide) rfl tyX6_ok nmX6 rfl kF_X6_34 dX6_clear_9 (mm_fit_int _) rfl hs (by decide) hn (by decide) rfl hx (fun σ3 hx => ?_)
  refine mm_aload_n dX6_clear_12 rfl rfl ?_
  refine mm_iconst (v := 0) dX6_clear_13 (by decide) ?_
  refine s_putI (v := 0) (r := some a) (b := a) (ci := 6) (k := 4) in_X6 rfl (by decide) rfl tyX6_ok nmX6 rfl kF_X6_38 dX6_clear_14 (mm_fit_int _) rfl hs (by decide) hn (by decide) rfl hx (fun σ4 hx => ?_)
  refine mm_iconst (v := 0) dX6_clear_17 (by decide) ?_
  refine mm_istore_n [some (.ref a), some (.int 0)] dX6_clear_18 (by decide) rfl ?_
  refine e_X6_clear_L19 hst hZ hn hs _ _ _ hx
set_option maxHeartbeats 4000000 in
set_option maxRecDepth 100000 in
theorem e_X6_text {g : mm_G} {l : Launch} (hst : l.stackTraces = false) {Z : Nat → Nat → Option Nat} (hZ : HZ Z) {n : Nat} (hn : 1186 ≤ n) {z : Bool} {d : Nat} {a : Nat} (hs : sh a = 6) {σ : SG} {r : Option Nat} (hx : x_X6_text a σ = some r) : mm_Cm g l yX6_text (.code yX6_text cX6_text 1 (some (.object "ProtoDesk$Bytes"))) (d) 0 0 [.ref a] (mem Z σ, n, z) (fun v S' => v = some (va_rf r) ∧ S' = (mem Z σ, n, z)) := by
  refine mm_Cm_of hst (by decide) (Nat.le_of_ble_eq_true rfl) ?_
  show mm_V g l RX6 "text" cX6_text 1 (some (.object "ProtoDesk$Bytes")) [] (d) 0 0 (mm_nt (fun v S' => v = some (va_rf r) ∧ S' = (mem Z σ, n, z))) 0 [some (.ref a)] [] (mem Z σ, n, z) 0 0
  unfold x_X6_text at hx
  refine mm_aload_n dX6_text_0 rfl rfl ?_
  refine s_getS (q := a + 1) (r := some a) (b := a) (ci := 6) (k := 0) in_X6 rfl (by decide) rfl kF_X6_14 dX6_text_1 rfl hs (by decide) hn (by decide) rfl rfl ?_
  refine mm_aret (a := some (a + 1)) dX6_text_4 rfl ?_ (by omega) (by omega)
  obtain rfl := fin1 hx
  exact ⟨rfl, rfl⟩
set_option maxHeartbeats 4000000 in
set_option maxRecDepth 100000 in
theorem e_X5_takesWord {g : mm_G} {l : Launch} (hst : l.stackTraces = false) {Z : Nat → Nat → Option Nat} (hZ : HZ Z) {n : Nat} (hn : 1186 ≤ n) {z : Bool} {d : Nat} {a : Nat} (hs : sh a = 5) {p0 : Int32} {σ : SG} {r : Int32} {σ' : SG} (hx : x_X5_takesWord a p0 σ = some (r, σ')) : mm_Cm g l yX5_takesWord (.code yX5_takesWord cX5_takesWord 2 (some .boolean)) (d + 1) 0 0 [.ref a, .int p0] (mem Z σ, n, z) (fun v S' => v = some (.int r) ∧ S' = (mem Z σ', n, z)) := by
  refine mm_Cm_of hst (by decide) (Nat.le_of_ble_eq_true rfl) ?_
  show mm_V g l RX5 "takesWord" cX5_takesWord 2 (some .boolean) [] (d + 1) 0 0 (mm_nt (fun v S' => v = some (.int r) ∧ S' = (mem Z σ', n, z))) 0 [some (.ref a), some (.int p0)] [] (mem Z σ, n, z) 0 0
  unfold x_X5_takesWord at hx
  refine mm_aload_n dX5_takesWord_0 rfl rfl ?_
  refine s_getS (q := a - 5) (r := some a) (b := a) (ci := 5) (k := 1) in_X5 rfl (by decide) rfl kF_X5_15 dX5_takesWord_1 rfl hs (by decide) hn (by decide) rfl rfl ?_
  refine mm_aload_n dX5_takesWord_4 rfl rfl ?_
  refine s_getI (r := some a) (b := a) (ci := 5) (k := 6) in_X5 rfl (by decide) rfl kF_X5_29 dX5_takesWord_5 rfl hs (by decide) hn (by decide) rfl ?_
  obtain ⟨v2, hc1, hx⟩ := b1_some hx
  refine mm_callV3 (a := a - 5) (ci := 10) wM_X10_codeOf kM_X5_69 wI_X10_codeOf wS_X10_codeOf dX5_takesWord_8 (e_X10_codeOf hst hZ hn (sv5_1 hs) hc1) (mem_obj (sv5_1 hs) (by decide)) (sh_ltn (sv5_1 hs) (by decide) hn) rfl rfl rfl (Nat.le_of_ble_eq_true rfl) (by omega) (by omega) (fun v9 S9 hq => ?_)
  obtain ⟨rfl, rfl⟩ := hq
  refine ⟨fun h => ⟨h, rfl⟩, ?_⟩
  refine mm_iload_n dX5_takesWord_11 rfl ?_
  refine b_if hx (fun h3 hx => ?_) (fun h3 hx => ?_)
  · refine mm_icmp_eq 17 dX5_takesWord_12 (by decide) (fun _ => ?_) (fun h => absurd h3 h)
    refine mm_aload_n dX5_takesWord_17 rfl rfl ?_
    refine mm_dup dX5_takesWord_18 rfl ?_
    refine s_getI (r := some a) (b := a) (ci := 5) (k := 6) in_X5 rfl (by decide) rfl kF_X5_29 dX5_takesWord_19 rfl hs (by decide) hn (by decide) rfl ?_
    refine mm_iconst (v := 1) dX5_takesWord_22 (by decide) ?_
    refine mm_iadd dX5_takesWord_23 ?_
    refine s_putI (v := (sI σ a 6) + 1) (r := some a) (b := a) (ci := 5) (k := 6) in_X5 rfl (by decide) rfl tyX5_ok nmX5 rfl kF_X5_29 dX5_takesWord_24 (mm_fit_int _) rfl hs (by decide) hn (by decide) rfl hx (fun σ4 hx => ?_)
    refine mm_iconst (v := 1) dX5_takesWord_27 (by decide) ?_
    refine mm_iret dX5_takesWord_28 rfl rfl ?_ (by omega) (by omega)
    obtain ⟨rfl, rfl⟩ := fin2 hx
    exact ⟨rfl, rfl⟩
  · refine mm_icmp_eq 17 dX5_takesWord_12 (by decide) (fun h => absurd h h3) (fun _ => ?_)
    refine mm_iconst (v := 0) dX5_takesWord_15 (by decide) ?_
    refine mm_iret dX5_takesWord_16 rfl rfl ?_ (by omega) (by omega)
    obtain ⟨rfl, rfl⟩ := fin2 hx
    exact ⟨rfl, rfl⟩
set_option maxHeartbeats 4000000 in
set_option maxRecDepth 100000 in
theorem e_X5_takes {g : mm_G} {l : Launch} (hst : l.stackTraces = false) {Z : Nat → Nat → Option Nat} (hZ : HZ Z) {n : Nat} (hn : 1186 ≤ n) {z : Bool} {d : Nat} {a : Nat} (hs : sh a = 5) {p0 : Int32} {σ : SG} {r : Int32} {σ' : SG} (hx : x_X5_takes a p0 σ = some (r, σ')) : mm_Cm g l yX5_takes (.code yX5_takes cX5_takes 2 (some .boolean)) (d + 1) 0 0 [.ref a, .int p0] (mem Z σ, n, z) (fun v S' => v = some (.int r) ∧ S' = (mem Z σ', n, z)) := by
  refine mm_Cm_of hst (by decide) (Nat.le_of_ble_eq_true rfl) ?_
  show mm_V g l RX5 "takes" cX5_takes 2 (some .boolean) [] (d + 1) 0 0 (mm_nt (fun v S' => v = some (.int r) ∧ S' = (mem Z σ', n, z))) 0 [some (.ref a), some (.int p0)] [] (mem Z σ, n, z) 0 0
  unfold x_X5_takes at hx
  refine mm_aload_n dX5_takes_0 rfl rfl ?_
  refine s_getS (q := a - 5) (r := some a) (b := a) (ci := 5) (k := 1) in_X5 rfl (by decide) rfl kF_X5_15 dX5_takes_1 rfl hs (by decide) hn (by decide) rfl rfl ?_
  refine mm_aload_n dX5_takes_4 rfl rfl ?_
  refine s_getI (r := some a) (b := a) (ci := 5) (k := 6) in_X5 rfl (by decide) rfl kF_X5_29 dX5_takes_5 rfl hs (by decide) hn (by decide) rfl ?_
  refine mm_iload_n dX5_takes_8 rfl ?_
  obtain ⟨v2, hc1, hx⟩ := b1_some hx
  refine mm_callV3 (a := a - 5) (ci := 10) wM_X10_isSign kM_X5_65 wI_X10_isSign wS_X10_isSign dX5_takes_9 (e_X10_isSign hst hZ hn (sv5_1 hs) hc1) (mem_obj (sv5_1 hs) (by decide)) (sh_ltn (sv5_1 hs) (by decide) hn) rfl rfl rfl (Nat.le_of_ble_eq_true rfl) (by omega) (by omega) (fun v9 S9 hq => ?_)
  obtain ⟨rfl, rfl⟩ := hq
  refine ⟨fun h => ⟨h, rfl⟩, ?_⟩
  refine b_if hx (fun h3 hx => ?_) (fun h3 hx => ?_)
  · refine mm_if_ne 17 dX5_takes_12 (by decide) (fun h => absurd h3 h) (fun _ => ?_)
    refine mm_iconst (v := 0) dX5_takes_15 (by decide) ?_
    refine mm_iret dX5_takes_16 rfl rfl ?_ (by omega) (by omega)
    obtain ⟨rfl, rfl⟩ := fin2 hx
    exact ⟨rfl, rfl⟩
  · refine mm_if_ne 17 dX5_takes_12 (by decide) (fun _ => ?_) (fun h => absurd h h3)
    refine mm_aload_n dX5_takes_17 rfl rfl ?_
    refine mm_dup dX5_takes_18 rfl ?_
    refine s_getI (r := some a) (b := a) (ci := 5) (k := 6) in_X5 rfl (by decide) rfl kF_X5_29 dX5_takes_19 rfl hs (by decide) hn (by decide) rfl ?_
    refine mm_iconst (v := 1) dX5_takes_22 (by decide) ?_
    refine mm_iadd dX5_takes_23 ?_
    refine s_putI (v := (sI σ a 6) + 1) (r := some a) (b := a) (ci := 5) (k := 6) in_X5 rfl (by decide) rfl tyX5_ok nmX5 rfl kF_X5_29 dX5_takes_24 (mm_fit_int _) rfl hs (by decide) hn (by decide) rfl hx (fun σ4 hx => ?_)
    refine mm_iconst (v := 1) dX5_takes_27 (by decide) ?_
    refine mm_iret dX5_takes_28 rfl rfl ?_ (by omega) (by omega)
    obtain ⟨rfl, rfl⟩ := fin2 hx
    exact ⟨rfl, rfl⟩
set_option maxHeartbeats 4000000 in
set_option maxRecDepth 100000 in
theorem e_X5_readSyntax {g : mm_G} {l : Launch} (hst : l.stackTraces = false) {Z : Nat → Nat → Option Nat} (hZ : HZ Z) {n : Nat} (hn : 1186 ≤ n) {z : Bool} {d : Nat} {a : Nat} (hs : sh a = 5) {σ : SG} {r : Int32} {σ' : SG} (hx : x_X5_readSyntax a σ = some (r, σ')) : mm_Cm g l yX5_readSyntax (.code yX5_readSyntax cX5_readSyntax 1 (some .boolean)) (d + 2) 0 0 [.ref a] (mem Z σ, n, z) (fun v S' => v = some (.int r) ∧ S' = (mem Z σ', n, z)) := by
  refine mm_Cm_of hst (by decide) (Nat.le_of_ble_eq_true rfl) ?_
  show mm_V g l RX5 "readSyntax" cX5_readSyntax 1 (some .boolean) [] (d + 2) 0 0 (mm_nt (fun v S' => v = some (.int r) ∧ S' = (mem Z σ', n, z))) 0 [some (.ref a)] [] (mem Z σ, n, z) 0 0
  unfold x_X5_readSyntax at hx
  refine mm_aload_n dX5_readSyntax_0 rfl rfl ?_
  refine mm_bipush (v := 24) dX5_readSyntax_1 (by decide) ?_
  obtain ⟨v2, σ3, hc1, hx⟩ := b2_some hx
  refine mm_callV3 (a := a) (ci := 5) wM_X5_takesWord kM_X5_72 wI_X5_takesWord wS_X5_takesWord dX5_readSyntax_3 (e_X5_takesWord hst hZ hn hs hc1) (mem_obj hs (by decide)) (sh_ltn hs (by decide) hn) rfl rfl rfl (Nat.le_of_ble_eq_true rfl) (by omega) (by omega) (fun v9 S9 hq => ?_)
  obtain ⟨rfl, rfl⟩ := hq
  refine ⟨fun h => ⟨h, rfl⟩, ?_⟩
  refine b_if hx (fun h4 hx => ?_) (fun h4 hx => ?_)
  · refine mm_if_eq 18 dX5_readSyntax_6 (by decide) (fun _ => ?_) (fun h => absurd h4 h)
    refine mm_iconst (v := 0) dX5_readSyntax_18 (by decide) ?_
    refine mm_iret dX5_readSyntax_19 rfl rfl ?_ (by omega) (by omega)
    obtain ⟨rfl, rfl⟩ := fin2 hx
    exact ⟨rfl, rfl⟩
  · refine mm_if_eq 18 dX5_readSyntax_6 (by decide) (fun h => absurd h h4) (fun _ => ?_)
    refine mm_aload_n dX5_readSyntax_9 rfl rfl ?_
    refine mm_bipush (v := 61) dX5_readSyntax_10 (by decide) ?_
    obtain ⟨v6, σ7, hc5, hx⟩ := b2_some hx
    refine mm_callV3 (a := a) (ci := 5) wM_X5_takes kM_X5_76 wI_X5_takes wS_X5_takes dX5_readSyntax_12 (e_X5_takes hst hZ hn hs hc5) (mem_obj hs (by decide)) (sh_ltn hs (by decide) hn) rfl rfl rfl (Nat.le_of_ble_eq_true rfl) (by omega) (by omega) (fun v9 S9 hq => ?_)
    obtain ⟨rfl, rfl⟩ := hq
    refine ⟨fun h => ⟨h, rfl⟩, ?_⟩
    refine b_if hx (fun h8 hx => ?_) (fun h8 hx => ?_)
    · refine mm_if_ne 20 dX5_readSyntax_15 (by decide) (fun h => absurd h8 h) (fun _ => ?_)
      refine mm_iconst (v := 0) dX5_readSyntax_18 (by decide) ?_
      refine mm_iret dX5_readSyntax_19 rfl rfl ?_ (by omega) (by omega)
      obtain ⟨rfl, rfl⟩ := fin2 hx
      exact ⟨rfl, rfl⟩
    · refine mm_if_ne 20 dX5_readSyntax_15 (by decide) (fun _ => ?_) (fun h => absurd h h8)
      refine mm_aload_n dX5_readSyntax_20 rfl rfl ?_
      refine s_getS (q := a - 5) (r := some a) (b := a) (ci := 5) (k := 1) in_X5 rfl (by decide) rfl kF_X5_15 dX5_readSyntax_21 rfl hs (by decide) hn (by decide) rfl rfl ?_
      refine mm_aload_n dX5_readSyntax_24 rfl rfl ?_
      refine s_getI (r := some a) (b := a) (ci := 5) (k := 6) in_X5 rfl (by decide) rfl kF_X5_29 dX5_readSyntax_25 rfl hs (by decide) hn (by decide) rfl ?_
      obtain ⟨v10, hc9, hx⟩ := b1_some hx
      refine mm_callV3 (a := a - 5) (ci := 10) wM_X10_kindOf kM_X5_62 wI_X10_kindOf wS_X10_kindOf dX5_readSyntax_28 (e_X10_kindOf hst hZ hn (sv5_1 hs) hc9) (mem_obj (sv5_1 hs) (by decide)) (sh_ltn (sv5_1 hs) (by decide) hn) rfl rfl rfl (Nat.le_of_ble_eq_true rfl) (by omega) (by omega) (fun v9 S9 hq => ?_)
      obtain ⟨rfl, rfl⟩ := hq
      refine ⟨fun h => ⟨h, rfl⟩, ?_⟩
      refine mm_iconst (v := 3) dX5_readSyntax_31 (by decide) ?_
      refine b_if hx (fun h11 hx => ?_) (fun h11 hx => ?_)
      · refine mm_icmp_ne 53 dX5_readSyntax_32 (by decide) (fun h => absurd h11 h) (fun _ => ?_)
        refine mm_aload_n dX5_readSyntax_35 rfl rfl ?_
        refine s_getS (q := a - 5) (r := some a) (b := a) (ci := 5) (k := 1) in_X5 rfl (by decide) rfl kF_X5_15 dX5_readSyntax_36 rfl hs (by decide) hn (by decide) rfl rfl ?_
        refine mm_aload_n dX5_readSyntax_39 rfl rfl ?_
        refine s_getI (r := some a) (b := a) (ci := 5) (k := 6) in_X5 rfl (by decide) rfl kF_X5_29 dX5_readSyntax_40 rfl hs (by decide) hn (by decide) rfl ?_
        obtain ⟨v13, hc12, hx⟩ := b1_some hx
        refine mm_callV3 (a := a - 5) (ci := 10) wM_X10_valueOf kM_X5_79 wI_X10_valueOf wS_X10_valueOf dX5_readSyntax_43 (e_X10_valueOf hst hZ hn (sv5_1 hs) hc12) (mem_obj (sv5_1 hs) (by decide)) (sh_ltn (sv5_1 hs) (by decide) hn) rfl rfl rfl (Nat.le_of_ble_eq_true rfl) (by omega) (by omega) (fun v9 S9 hq => ?_)
        obtain ⟨rfl, rfl⟩ := hq
        refine ⟨fun h => ⟨h, rfl⟩, ?_⟩
        refine mm_ldc2 kL_X5_83 dX5_readSyntax_46 ?_
        refine mm_lcmp dX5_readSyntax_49 ?_
        refine b_if hx (fun h14 hx => ?_) (fun h14 hx => ?_)
        · refine mm_if_eq 55 dX5_readSyntax_50 (by decide) (fun _ => ?_) (fun h => absurd (lg_eq.mpr h14) h)
          refine mm_aload_n dX5_readSyntax_55 rfl rfl ?_
          refine mm_dup dX5_readSyntax_56 rfl ?_
          refine s_getI (r := some a) (b := a) (ci := 5) (k := 6) in_X5 rfl (by decide) rfl kF_X5_29 dX5_readSyntax_57 rfl hs (by decide) hn (by decide) rfl ?_
          refine mm_iconst (v := 1) dX5_readSyntax_60 (by decide) ?_
          refine mm_iadd dX5_readSyntax_61 ?_
          refine s_putI (v := (sI σ7 a 6) + 1) (r := some a) (b := a) (ci := 5) (k := 6) in_X5 rfl (by decide) rfl tyX5_ok nmX5 rfl kF_X5_29 dX5_readSyntax_62 (mm_fit_int _) rfl hs (by decide) hn (by decide) rfl hx (fun σ15 hx => ?_)
          refine mm_aload_n dX5_readSyntax_65 rfl rfl ?_
          refine mm_bipush (v := 59) dX5_readSyntax_66 (by decide) ?_
          obtain ⟨v17, σ18, hc16, hx⟩ := b2_some hx
          refine mm_callV3 (a := a) (ci := 5) wM_X5_takes kM_X5_76 wI_X5_takes wS_X5_takes dX5_readSyntax_68 (e_X5_takes hst hZ hn hs hc16) (mem_obj hs (by decide)) (sh_ltn hs (by decide) hn) rfl rfl rfl (Nat.le_of_ble_eq_true rfl) (by omega) (by omega) (fun v9 S9 hq => ?_)
          obtain ⟨rfl, rfl⟩ := hq
          refine ⟨fun h => ⟨h, rfl⟩, ?_⟩
          obtain ⟨hz19, hx⟩ := zb_some hx
          refine mm_iret dX5_readSyntax_71 rfl (zb_nar hz19) ?_ (by omega) (by omega)
          obtain ⟨rfl, rfl⟩ := fin2 hx
          exact ⟨rfl, rfl⟩
        · refine mm_if_eq 55 dX5_readSyntax_50 (by decide) (fun h => absurd (lg_eq.mp h) h14) (fun _ => ?_)
          refine mm_iconst (v := 0) dX5_readSyntax_53 (by decide) ?_
          refine mm_iret dX5_readSyntax_54 rfl rfl ?_ (by omega) (by omega)
          obtain ⟨rfl, rfl⟩ := fin2 hx
          exact ⟨rfl, rfl⟩
      · refine mm_icmp_ne 53 dX5_readSyntax_32 (by decide) (fun _ => ?_) (fun h => absurd h h11)
        refine mm_iconst (v := 0) dX5_readSyntax_53 (by decide) ?_
        refine mm_iret dX5_readSyntax_54 rfl rfl ?_ (by omega) (by omega)
        obtain ⟨rfl, rfl⟩ := fin2 hx
        exact ⟨rfl, rfl⟩
set_option maxHeartbeats 4000000 in
set_option maxRecDepth 100000 in
theorem e_X5_isAtEnd {g : mm_G} {l : Launch} (hst : l.stackTraces = false) {Z : Nat → Nat → Option Nat} (hZ : HZ Z) {n : Nat} (hn : 1186 ≤ n) {z : Bool} {d : Nat} {a : Nat} (hs : sh a = 5) {σ : SG} {r : Int32} (hx : x_X5_isAtEnd a σ = some r) : mm_Cm g l yX5_isAtEnd (.code yX5_isAtEnd cX5_isAtEnd 1 (some .boolean)) (d + 1) 0 0 [.ref a] (mem Z σ, n, z) (fun v S' => v = some (.int r) ∧ S' = (mem Z σ, n, z)) := by
  refine mm_Cm_of hst (by decide) (Nat.le_of_ble_eq_true rfl) ?_
  show mm_V g l RX5 "isAtEnd" cX5_isAtEnd 1 (some .boolean) [] (d + 1) 0 0 (mm_nt (fun v S' => v = some (.int r) ∧ S' = (mem Z σ, n, z))) 0 [some (.ref a)] [] (mem Z σ, n, z) 0 0
  unfold x_X5_isAtEnd at hx
  refine mm_aload_n dX5_isAtEnd_0 rfl rfl ?_
  refine s_getS (q := a - 5) (r := some a) (b := a) (ci := 5) (k := 1) in_X5 rfl (by decide) rfl kF_X5_15 dX5_isAtEnd_1 rfl hs (by decide) hn (by decide) rfl rfl ?_
  refine mm_aload_n dX5_isAtEnd_4 rfl rfl ?_
  refine s_getI (r := some a) (b := a) (ci := 5) (k := 6) in_X5 rfl (by decide) rfl kF_X5_29 dX5_isAtEnd_5 rfl hs (by decide) hn (by decide) rfl ?_
  obtain ⟨v2, hc1, hx⟩ := b1_some hx
  refine mm_callV3 (a := a - 5) (ci := 10) wM_X10_kindOf kM_X5_62 wI_X10_kindOf wS_X10_kindOf dX5_isAtEnd_8 (e_X10_kindOf hst hZ hn (sv5_1 hs) hc1) (mem_obj (sv5_1 hs) (by decide)) (sh_ltn (sv5_1 hs) (by decide) hn) rfl rfl rfl (Nat.le_of_ble_eq_true rfl) (by omega) (by omega) (fun v9 S9 hq => ?_)
  obtain ⟨rfl, rfl⟩ := hq
  refine ⟨fun h => ⟨h, rfl⟩, ?_⟩
  refine b_if hx (fun h3 hx => ?_) (fun h3 hx => ?_)
  · refine mm_if_ne 39 dX5_isAtEnd_11 (by decide) (fun h => absurd h3 h) (fun _ => ?_)
    refine mm_aload_n dX5_isAtEnd_14 rfl rfl ?_
    refine s_getP (r := some a) (b := a) (ci := 5) (k := 2) in_X5 rfl (by decide) rfl kF_X5_19 dX5_isAtEnd_15 rfl hs (by decide) hn (by decide) rfl ?_
    refine b_if hx (fun h4 hx => ?_) (fun h4 hx => ?_)
    · refine mm_ifnonnull (r := sP σ a 2) 39 dX5_isAtEnd_18 (by decide) (fun h => absurd h4 h) (fun _ => ?_)
      refine mm_aload_n dX5_isAtEnd_21 rfl rfl ?_
      refine s_getP (r := some a) (b := a) (ci := 5) (k := 3) in_X5 rfl (by decide) rfl kF_X5_23 dX5_isAtEnd_22 rfl hs (by decide) hn (by decide) rfl ?_
      refine b_if hx (fun h5 hx => ?_) (fun h5 hx => ?_)
      · refine mm_ifnonnull (r := sP σ a 3) 39 dX5_isAtEnd_25 (by decide) (fun h => absurd h5 h) (fun _ => ?_)
        refine mm_aload_n dX5_isAtEnd_28 rfl rfl ?_
        refine s_getP (r := some a) (b := a) (ci := 5) (k := 4) in_X5 rfl (by decide) rfl kF_X5_26 dX5_isAtEnd_29 rfl hs (by decide) hn (by decide) rfl ?_
        refine b_if hx (fun h6 hx => ?_) (fun h6 hx => ?_)
        · refine mm_ifnonnull (r := sP σ a 4) 39 dX5_isAtEnd_32 (by decide) (fun h => absurd h6 h) (fun _ => ?_)
          refine mm_iconst (v := 1) dX5_isAtEnd_35 (by decide) ?_
          refine mm_goto 40 dX5_isAtEnd_36 (by decide) ?_
          refine mm_iret dX5_isAtEnd_40 rfl rfl ?_ (by omega) (by omega)
          obtain rfl := fin1 hx
          exact ⟨rfl, rfl⟩
        · refine mm_ifnonnull (r := sP σ a 4) 39 dX5_isAtEnd_32 (by decide) (fun _ => ?_) (fun h => absurd h h6)
          refine mm_iconst (v := 0) dX5_isAtEnd_39 (by decide) ?_
          refine mm_iret dX5_isAtEnd_40 rfl rfl ?_ (by omega) (by omega)
          obtain rfl := fin1 hx
          exact ⟨rfl, rfl⟩
      · refine mm_ifnonnull (r := sP σ a 3) 39 dX5_isAtEnd_25 (by decide) (fun _ => ?_) (fun h => absurd h h5)
        refine mm_iconst (v := 0) dX5_isAtEnd_39 (by decide) ?_
        refine mm_iret dX5_isAtEnd_40 rfl rfl ?_ (by omega) (by omega)
        obtain rfl := fin1 hx
        exact ⟨rfl, rfl⟩
    · refine mm_ifnonnull (r := sP σ a 2) 39 dX5_isAtEnd_18 (by decide) (fun _ => ?_) (fun h => absurd h h4)
      refine mm_iconst (v := 0) dX5_isAtEnd_39 (by decide) ?_
      refine mm_iret dX5_isAtEnd_40 rfl rfl ?_ (by omega) (by omega)
      obtain rfl := fin1 hx
      exact ⟨rfl, rfl⟩
  · refine mm_if_ne 39 dX5_isAtEnd_11 (by decide) (fun _ => ?_) (fun h => absurd h h3)
    refine mm_iconst (v := 0) dX5_isAtEnd_39 (by decide) ?_
    refine mm_iret dX5_isAtEnd_40 rfl rfl ?_ (by omega) (by omega)
    obtain rfl := fin1 hx
    exact ⟨rfl, rfl⟩
set_option maxHeartbeats 4000000 in
set_option maxRecDepth 100000 in
theorem e_X5_isForbidden {g : mm_G} {l : Launch} (hst : l.stackTraces = false) {Z : Nat → Nat → Option Nat} (hZ : HZ Z) {n : Nat} (hn : 1186 ≤ n) {z : Bool} {d : Nat} {a : Nat} (hs : sh a = 5) {σ : SG} {r : Int32} {σ' : SG} (hx : x_X5_isForbidden a σ = some (r, σ')) : mm_Cm g l yX5_isForbidden (.code yX5_isForbidden cX5_isForbidden 1 (some .boolean)) (d + 1) 0 0 [.ref a] (mem Z σ, n, z) (fun v S' => v = some (.int r) ∧ S' = (mem Z σ', n, z)) := by
  refine mm_Cm_of hst (by decide) (Nat.le_of_ble_eq_true rfl) ?_
  show mm_V g l RX5 "isForbidden" cX5_isForbidden 1 (some .boolean) [] (d + 1) 0 0 (mm_nt (fun v S' => v = some (.int r) ∧ S' = (mem Z σ', n, z))) 0 [some (.ref a)] [] (mem Z σ, n, z) 0 0
  unfold x_X5_isForbidden at hx
  refine mm_aload_n dX5_isForbidden_0 rfl rfl ?_
  refine s_getS (q := a - 5) (r := some a) (b := a) (ci := 5) (k := 1) in_X5 rfl (by decide) rfl kF_X5_15 dX5_isForbidden_1 rfl hs (by decide) hn (by decide) rfl rfl ?_
  refine mm_aload_n dX5_isForbidden_4 rfl rfl ?_
  refine s_getI (r := some a) (b := a) (ci := 5) (k := 6) in_X5 rfl (by decide) rfl kF_X5_29 dX5_isForbidden_5 rfl hs (by decide) hn (by decide) rfl ?_
  obtain ⟨v2, hc1, hx⟩ := b1_some hx
  refine mm_callV3 (a := a - 5) (ci := 10) wM_X10_codeOf kM_X5_69 wI_X10_codeOf wS_X10_codeOf dX5_isForbidden_8 (e_X10_codeOf hst hZ hn (sv5_1 hs) hc1) (mem_obj (sv5_1 hs) (by decide)) (sh_ltn (sv5_1 hs) (by decide) hn) rfl rfl rfl (Nat.le_of_ble_eq_true rfl) (by omega) (by omega) (fun v9 S9 hq => ?_)
  obtain ⟨rfl, rfl⟩ := hq
  refine ⟨fun h => ⟨h, rfl⟩, ?_⟩
  refine mm_bipush (v := 40) dX5_isForbidden_11 (by decide) ?_
  refine b_if hx (fun h3 hx => ?_) (fun h3 hx => ?_)
  · refine mm_icmp_eq 18 dX5_isForbidden_13 (by decide) (fun _ => ?_) (fun h => absurd h3 h)
    refine mm_aload_n dX5_isForbidden_18 rfl rfl ?_
    refine mm_iconst (v := 2) dX5_isForbidden_19 (by decide) ?_
    refine s_putI (v := 2) (r := some a) (b := a) (ci := 5) (k := 7) in_X5 rfl (by decide) rfl tyX5_ok nmX5 rfl kF_X5_33 dX5_isForbidden_20 (mm_fit_int _) rfl hs (by decide) hn (by decide) rfl hx (fun σ4 hx => ?_)
    refine mm_iconst (v := 1) dX5_isForbidden_23 (by decide) ?_
    refine mm_iret dX5_isForbidden_24 rfl rfl ?_ (by omega) (by omega)
    obtain ⟨rfl, rfl⟩ := fin2 hx
    exact ⟨rfl, rfl⟩
  · refine mm_icmp_eq 18 dX5_isForbidden_13 (by decide) (fun h => absurd h h3) (fun _ => ?_)
    refine mm_iconst (v := 0) dX5_isForbidden_16 (by decide) ?_
    refine mm_iret dX5_isForbidden_17 rfl rfl ?_ (by omega) (by omega)
    obtain ⟨rfl, rfl⟩ := fin2 hx
    exact ⟨rfl, rfl⟩
set_option maxHeartbeats 4000000 in
set_option maxRecDepth 100000 in
theorem e_X3_begin {g : mm_G} {l : Launch} (hst : l.stackTraces = false) {Z : Nat → Nat → Option Nat} (hZ : HZ Z) {n : Nat} (hn : 1186 ≤ n) {z : Bool} {d : Nat} {a : Nat} (hs : sh a = 3) {p0 : Int32} {p1 : Int32} {p2 : Option Nat} {p3 : Option Nat} {p4 : Int32} {p5 : Int32} {σ : SG} {σ' : SG} (hx : x_X3_begin a p0 p1 p2 p3 p4 p5 σ = some σ') : mm_Cm g l yX3_begin (.code yX3_begin cX3_begin 7 none) (d) 0 0 [.ref a, .int p0, .int p1, va_rf p2, va_rf p3, .int p4, .int p5] (mem Z σ, n, z) (fun v S' => v = none ∧ S' = (mem Z σ', n, z)) := by
  refine mm_Cm_of hst (by decide) (by cases p2 <;> cases p3 <;>  exact Nat.le_of_ble_eq_true rfl) ?_
  rw [show mm_ent [.ref a, .int p0, .int p1, va_rf p2, va_rf p3, .int p4, .int p5] 7 = [some (.ref a), some (.int p0), some (.int p1), some (va_rf p2), some (va_rf p3), some (.int p4), some (.int p5)] from by cases p2 <;> cases p3 <;>  rfl]
  show mm_V g l RX3 "begin" cX3_begin 7 none [] (d) 0 0 (mm_nt (fun v S' => v = none ∧ S' = (mem Z σ', n, z))) 0 [some (.ref a), some (.int p0), some (.int p1), some (va_rf p2), some (va_rf p3), some (.int p4), some (.int p5)] [] (mem Z σ, n, z) 0 0
  unfold x_X3_begin at hx
  refine mm_aload_n dX3_begin_0 rfl rfl ?_
  refine mm_iload_n dX3_begin_1 rfl ?_
  refine s_putI (v := p0) (r := some a) (b := a) (ci := 3) (k := 0) in_X3 rfl (by decide) rfl tyX3_ok nmX3 rfl kF_X3_9 dX3_begin_2 (mm_fit_int _) rfl hs (by decide) hn (by decide) rfl hx (fun σ1 hx => ?_)
  refine mm_aload_n dX3_begin_5 rfl rfl ?_
  refine mm_iload_n dX3_begin_6 rfl ?_
  refine s_putI (v := p1) (r := some a) (b := a) (ci := 3) (k := 1) in_X3 rfl (by decide) rfl tyX3_ok nmX3 rfl kF_X3_15 dX3_begin_7 (mm_fit_int _) rfl hs (by decide) hn (by decide) rfl hx (fun σ2 hx => ?_)
  refine mm_aload_n dX3_begin_10 rfl rfl ?_
  refine mm_aload_n dX3_begin_11 rfl (isr_rf _) ?_
  refine s_putP (v := p2) (r := some a) (b := a) (ci := 3) (k := 2) in_X3 rfl (by decide) rfl tyX3_ok nmX3 rfl kF_X3_18 dX3_begin_12 (mm_fit_r _ _) rfl hs (by decide) hn (by decide) rfl hx (fun σ3 hx => ?_)
  refine mm_aload_n dX3_begin_15 rfl rfl ?_
  refine mm_aload dX3_begin_16 rfl (isr_rf _) ?_
  refine s_putP (v := p3) (r := some a) (b := a) (ci := 3) (k := 3) in_X3 rfl (by decide) rfl tyX3_ok nmX3 rfl kF_X3_22 dX3_begin_18 (mm_fit_r _ _) rfl hs (by decide) hn (by decide) rfl hx (fun σ4 hx => ?_)
  refine mm_aload_n dX3_begin_21 rfl rfl ?_
  refine mm_iload dX3_begin_22 rfl ?_
  refine s_putI (v := p4) (r := some a) (b := a) (ci := 3) (k := 4) in_X3 rfl (by decide) rfl tyX3_ok nmX3 rfl kF_X3_25 dX3_begin_24 (mm_fit_int _) rfl hs (by decide) hn (by decide) rfl hx (fun σ5 hx => ?_)
  refine mm_aload_n dX3_begin_27 rfl rfl ?_
  refine mm_iload dX3_begin_28 rfl ?_
  refine s_putI (v := p5) (r := some a) (b := a) (ci := 3) (k := 5) in_X3 rfl (by decide) rfl tyX3_ok nmX3 rfl kF_X3_28 dX3_begin_30 (mm_fit_int _) rfl hs (by decide) hn (by decide) rfl hx (fun σ6 hx => ?_)
  refine mm_aload_n dX3_begin_33 rfl rfl ?_
  refine mm_lconst (v := 0) dX3_begin_34 (by decide) ?_
  refine s_putL (v := 0) (r := some a) (b := a) (ci := 3) (k := 6) in_X3 rfl (by decide) rfl tyX3_ok nmX3 rfl kF_X3_31 dX3_begin_35 (mm_fit_long _) rfl hs (by decide) hn (by decide) rfl hx (fun σ7 hx => ?_)
  refine mm_aload_n dX3_begin_38 rfl rfl ?_
  refine mm_iconst (v := 0) dX3_begin_39 (by decide) ?_
  refine s_putI (v := 0) (r := some a) (b := a) (ci := 3) (k := 7) in_X3 rfl (by decide) rfl tyX3_ok nmX3 rfl kF_X3_35 dX3_begin_40 (mm_fit_int _) rfl hs (by decide) hn (by decide) rfl hx (fun σ8 hx => ?_)
  refine mm_aload_n dX3_begin_43 rfl rfl ?_
  refine mm_iconst (v := 0) dX3_begin_44 (by decide) ?_
  refine s_putI (v := 0) (r := some a) (b := a) (ci := 3) (k := 8) in_X3 rfl (by decide) rfl tyX3_ok nmX3 rfl kF_X3_38 dX3_begin_45 (mm_fit_int _) rfl hs (by decide) hn (by decide) rfl hx (fun σ9 hx => ?_)
  refine mm_aload_n dX3_begin_48 rfl rfl ?_
  refine mm_iconst (v := (-1)) dX3_begin_49 (by decide) ?_
  refine s_putI (v := (-1)) (r := some a) (b := a) (ci := 3) (k := 9) in_X3 rfl (by decide) rfl tyX3_ok nmX3 rfl kF_X3_41 dX3_begin_50 (mm_fit_int _) rfl hs (by decide) hn (by decide) rfl hx (fun σ10 hx => ?_)
  refine mm_aload_n dX3_begin_53 rfl rfl ?_
  refine mm_null dX3_begin_54 ?_
  refine s_putP (v := none) (r := some a) (b := a) (ci := 3) (k := 10) in_X3 rfl (by decide) rfl tyX3_ok nmX3 rfl kF_X3_44 dX3_begin_55 (mm_fit_r _ _) rfl hs (by decide) hn (by decide) rfl hx (fun σ11 hx => ?_)
  refine mm_aload_n dX3_begin_58 rfl rfl ?_
  refine mm_iconst (v := 0) dX3_begin_59 (by decide) ?_
  refine s_putI (v := 0) (r := some a) (b := a) (ci := 3) (k := 11) in_X3 rfl (by decide) rfl tyX3_ok nmX3 rfl kF_X3_47 dX3_begin_60 mm_fit_z0 rfl hs (by decide) hn (by decide) rfl hx (fun σ12 hx => ?_)
  refine mm_aload_n dX3_begin_63 rfl rfl ?_
  refine mm_iconst (v := 0) dX3_begin_64 (by decide) ?_
  refine s_putI (v := 0) (r := some a) (b := a) (ci := 3) (k := 12) in_X3 rfl (by decide) rfl tyX3_ok nmX3 rfl kF_X3_51 dX3_begin_65 mm_fit_z0 rfl hs (by decide) hn (by decide) rfl hx (fun σ13 hx => ?_)
  refine mm_aload_n dX3_begin_68 rfl rfl ?_
  refine mm_iconst (v := 0) dX3_begin_69 (by decide) ?_
  refine s_putI (v := 0) (r := some a) (b := a) (ci := 3) (k := 13) in_X3 rfl (by decide) rfl tyX3_ok nmX3 rfl kF_X3_54 dX3_begin_70 mm_fit_z0 rfl hs (by decide) hn (by decide) rfl hx (fun σ14 hx => ?_)
  refine mm_aload_n dX3_begin_73 rfl rfl ?_
  refine mm_iconst (v := (-1)) dX3_begin_74 (by decide) ?_
  refine s_putI (v := (-1)) (r := some a) (b := a) (ci := 3) (k := 14) in_X3 rfl (by decide) rfl tyX3_ok nmX3 rfl kF_X3_57 dX3_begin_75 (mm_fit_int _) rfl hs (by decide) hn (by decide) rfl hx (fun σ15 hx => ?_)
  refine mm_aload_n dX3_begin_78 rfl rfl ?_
  refine mm_null dX3_begin_79 ?_
  refine s_putP (v := none) (r := some a) (b := a) (ci := 3) (k := 15) in_X3 rfl (by decide) rfl tyX3_ok nmX3 rfl kF_X3_60 dX3_begin_80 (mm_fit_r _ _) rfl hs (by decide) hn (by decide) rfl hx (fun σ16 hx => ?_)
  refine mm_aload_n dX3_begin_83 rfl rfl ?_
  refine mm_null dX3_begin_84 ?_
  refine s_putP (v := none) (r := some a) (b := a) (ci := 3) (k := 16) in_X3 rfl (by decide) rfl tyX3_ok nmX3 rfl kF_X3_63 dX3_begin_85 (mm_fit_r _ _) rfl hs (by decide) hn (by decide) rfl hx (fun σ17 hx => ?_)
  refine mm_vret dX3_begin_88 rfl ?_ (by omega) (by omega)
  obtain rfl := fin1 hx
  exact ⟨rfl, rfl⟩
set_option maxHeartbeats 4000000 in
set_option maxRecDepth 100000 in
theorem e_X6_declare {g : mm_G} {l : Launch} (hst : l.stackTraces = false) {Z : Nat → Nat → Option Nat} (hZ : HZ Z) {n : Nat} (hn : 1186 ≤ n) {z : Bool} {d : Nat} {a : Nat} (hs : sh a = 6) {p0 : Int32} {p1 : Option Nat} {p2 : Option Nat} {p3 : Int32} {p4 : Int32} {σ : SG} {r : Option Nat} {σ' : SG} (hx : x_X6_declare a p0 p1 p2 p3 p4 σ = some (r, σ')) : mm_Cm g l yX6_declare (.code yX6_declare cX6_declare 7 (some (.object "ProtoDesk$Item"))) (d + 1) 0 0 [.ref a, .int p0, va_rf p1, va_rf p2, .int p3, .int p4] (mem Z σ, n, z) (fun v S' => v = some (va_rf r) ∧ S' = (mem Z σ', n, z)) := by
  refine mm_Cm_of hst (by decide) (by cases p1 <;> cases p2 <;>  exact Nat.le_of_ble_eq_true rfl) ?_
  rw [show mm_ent [.ref a, .int p0, va_rf p1, va_rf p2, .int p3, .int p4] 7 = [some (.ref a), some (.int p0), some (va_rf p1), some (va_rf p2), some (.int p3), some (.int p4), none] from by cases p1 <;> cases p2 <;>  rfl]
  show mm_V g l RX6 "declare" cX6_declare 7 (some (.object "ProtoDesk$Item")) [] (d + 1) 0 0 (mm_nt (fun v S' => v = some (va_rf r) ∧ S' = (mem Z σ', n, z))) 0 [some (.ref a), some (.int p0), some (va_rf p1), some (va_rf p2), some (.int p3), some (.int p4), none] [] (mem Z σ, n, z) 0 0
  unfold x_X6_declare at hx
  refine mm_aload_n dX6_declare_0 rfl rfl ?_
  refine s_getI (r := some a) (b := a) (ci := 6) (k := 3) in_X6 rfl (by decide) rfl kF_X6_34 dX6_declare_1 rfl hs (by decide) hn (by decide) rfl ?_
  refine b_if hx (fun h1 hx => ?_) (fun h1 hx => ?_)
  · refine mm_if_lt 32 dX6_declare_4 (by decide) (fun _ => ?_) (fun h => absurd h1 h)
    refine mm_null dX6_declare_32 ?_
    refine mm_aret (a := none) dX6_declare_33 rfl ?_ (by omega) (by omega)
    obtain ⟨rfl, rfl⟩ := fin2 hx
    exact ⟨rfl, rfl⟩
  · refine mm_if_lt 32 dX6_declare_4 (by decide) (fun h => absurd h h1) (fun _ => ?_)
    refine mm_aload_n dX6_declare_7 rfl rfl ?_
    refine s_getI (r := some a) (b := a) (ci := 6) (k := 3) in_X6 rfl (by decide) rfl kF_X6_34 dX6_declare_8 rfl hs (by decide) hn (by decide) rfl ?_
    refine mm_aload_n dX6_declare_11 rfl rfl ?_
    refine s_getS (q := a + 3) (r := some a) (b := a) (ci := 6) (k := 1) in_X6 rfl (by decide) rfl kF_X6_22 dX6_declare_12 rfl hs (by decide) hn (by decide) rfl rfl ?_
    refine s_alen (a := a + 3) (t := 4) (N := 180) (v := 180) (fun _ => rfl) (sv6_1 hs) (by decide) hn (sn6_1 hs) rfl dX6_declare_15 ?_
    refine b_if hx (fun h2 hx => ?_) (fun h2 hx => ?_)
    · refine mm_icmp_ge 32 dX6_declare_16 (by decide) (fun h => absurd h (Int32.not_le.mpr h2)) (fun _ => ?_)
      refine mm_iload_n dX6_declare_19 rfl ?_
      refine b_if hx (fun h3 hx => ?_) (fun h3 hx => ?_)
      · refine mm_if_lt 32 dX6_declare_20 (by decide) (fun _ => ?_) (fun h => absurd h3 h)
        refine mm_null dX6_declare_32 ?_
        refine mm_aret (a := none) dX6_declare_33 rfl ?_ (by omega) (by omega)
        obtain ⟨rfl, rfl⟩ := fin2 hx
        exact ⟨rfl, rfl⟩
      · refine mm_if_lt 32 dX6_declare_20 (by decide) (fun h => absurd h h3) (fun _ => ?_)
        refine mm_iload_n dX6_declare_23 rfl ?_
        refine mm_aload_n dX6_declare_24 rfl rfl ?_
        refine s_getS (q := a + 184) (r := some a) (b := a) (ci := 6) (k := 2) in_X6 rfl (by decide) rfl kF_X6_27 dX6_declare_25 rfl hs (by decide) hn (by decide) rfl rfl ?_
        refine s_alen (a := a + 184) (t := 0) (N := 5) (v := 5) (fun _ => rfl) (sv6_2 hs) (by decide) hn (sn6_2 hs) rfl dX6_declare_28 ?_
        refine b_if hx (fun h4 hx => ?_) (fun h4 hx => ?_)
        · refine mm_icmp_lt 34 dX6_declare_29 (by decide) (fun _ => ?_) (fun h => absurd h4 h)
          refine mm_aload_n dX6_declare_34 rfl rfl ?_
          refine s_getS (q := a + 3) (r := some a) (b := a) (ci := 6) (k := 1) in_X6 rfl (by decide) rfl kF_X6_22 dX6_declare_35 rfl hs (by decide) hn (by decide) rfl rfl ?_
          refine mm_aload_n dX6_declare_38 rfl rfl ?_
          refine s_getI (r := some a) (b := a) (ci := 6) (k := 3) in_X6 rfl (by decide) rfl kF_X6_34 dX6_declare_39 rfl hs (by decide) hn (by decide) rfl ?_
          obtain ⟨j5, hj6, hb7, hl8, hx⟩ := ix_some hx
          refine s_aaldS hZ hs hn hj6 hb7 hl8 dX6_declare_42 ?_
          refine mm_astore [some (.ref a), some (.int p0), some (va_rf p1), some (va_rf p2), some (.int p3), some (.int p4), some (.ref (a + 4 + j5))] dX6_declare_43 (by decide) rfl rfl ?_
          refine mm_aload dX6_declare_45 rfl rfl ?_
          refine mm_ifnonnull (r := some (a + 4 + j5)) 52 dX6_declare_47 (by decide) (fun _ => ?_) (fun h => by cases h)
          refine mm_aload dX6_declare_52 rfl rfl ?_
          refine mm_iload_n dX6_declare_54 rfl ?_
          refine mm_aload_n dX6_declare_55 rfl rfl ?_
          refine s_getS (q := a + 184) (r := some a) (b := a) (ci := 6) (k := 2) in_X6 rfl (by decide) rfl kF_X6_27 dX6_declare_56 rfl hs (by decide) hn (by decide) rfl rfl ?_
          refine mm_iload_n dX6_declare_59 rfl ?_
          obtain ⟨j10, hj11, hb12, hl13, hx⟩ := ix_some hx
          refine s_iald (a := a + 184) (sv6_2 hs) hn hj11 hb12 (sn6_2 hs) dX6_declare_60 ?_
          refine mm_aload_n dX6_declare_61 rfl (isr_rf _) ?_
          refine mm_aload_n dX6_declare_62 rfl (isr_rf _) ?_
          refine mm_iload dX6_declare_63 rfl ?_
          refine mm_iload dX6_declare_65 rfl ?_
          obtain ⟨σ15, hc14, hx⟩ := b1_some hx
          refine mm_callV3 (a := a + 4 + j5) (ci := 3) wM_X3_begin kM_X6_41 wI_X3_begin wS_X3_begin dX6_declare_67 (e_X3_begin hst hZ hn (sh_itS hs hl8) hc14) (mem_obj (sh_itS hs hl8) (by decide)) (sh_ltn (sh_itS hs hl8) (by decide) hn) rfl rfl rfl (Nat.le_of_ble_eq_true rfl) (by omega) (by omega) (fun v9 S9 hq => ?_)
          obtain ⟨rfl, rfl⟩ := hq
          refine ⟨fun h => ⟨h, rfl⟩, ?_⟩
          refine mm_aload_n dX6_declare_70 rfl rfl ?_
          refine mm_dup dX6_declare_71 rfl ?_
          refine s_getI (r := some a) (b := a) (ci := 6) (k := 3) in_X6 rfl (by decide) rfl kF_X6_34 dX6_declare_72 rfl hs (by decide) hn (by decide) rfl ?_
          refine mm_iconst (v := 1) dX6_declare_75 (by decide) ?_
          refine mm_iadd dX6_declare_76 ?_
          refine s_putI (v := (sI σ15 a 3) + 1) (r := some a) (b := a) (ci := 6) (k := 3) in_X6 rfl (by decide) rfl tyX6_ok nmX6 rfl kF_X6_34 dX6_declare_77 (mm_fit_int _) rfl hs (by decide) hn (by decide) rfl hx (fun σ16 hx => ?_)
          refine mm_aload_n dX6_declare_80 rfl rfl ?_
          refine s_getS (q := a + 184) (r := some a) (b := a) (ci := 6) (k := 2) in_X6 rfl (by decide) rfl kF_X6_27 dX6_declare_81 rfl hs (by decide) hn (by decide) rfl rfl ?_
          refine mm_iload_n dX6_declare_84 rfl ?_
          refine mm_dup2 dX6_declare_85 rfl rfl ?_
          obtain ⟨j17, hj18, hb19, hl20, hx⟩ := ix_some hx
          refine s_iald (a := a + 184) (sv6_2 hs) hn hj18 hb19 (sn6_2 hs) dX6_declare_86 ?_
          refine mm_iconst (v := 1) dX6_declare_87 (by decide) ?_
          refine mm_iadd dX6_declare_88 ?_
          obtain ⟨j21, hj22, hb23, hl24, hx⟩ := ix_some hx
          refine s_iast (a := a + 184) (v := (sI σ16 (a + 184) j17) + 1) (sv6_2 hs) hn hj22 hb23 (sn6_2 hs) dX6_declare_89 hx (fun σ25 hx => ?_)
          refine mm_aload_n dX6_declare_90 rfl rfl ?_
          refine mm_dup dX6_declare_91 rfl ?_
          refine s_getI (r := some a) (b := a) (ci := 6) (k := 4) in_X6 rfl (by decide) rfl kF_X6_38 dX6_declare_92 rfl hs (by decide) hn (by decide) rfl ?_
          refine mm_iload dX6_declare_95 rfl ?_
          refine mm_iload dX6_declare_97 rfl ?_
          refine mm_isub dX6_declare_99 ?_
          refine mm_iadd dX6_declare_100 ?_
          refine s_putI (v := (sI σ25 a 4) + (p4 - p3)) (r := some a) (b := a) (ci := 6) (k := 4) in_X6 rfl (by decide) rfl tyX6_ok nmX6 rfl kF_X6_38 dX6_declare_101 (mm_fit_int _) rfl hs (by decide) hn (by decide) rfl hx (fun σ26 hx => ?_)
          refine mm_aload dX6_declare_104 rfl rfl ?_
          refine mm_aret (a := some (a + 4 + j5)) dX6_declare_106 rfl ?_ (by omega) (by omega)
          obtain ⟨rfl, rfl⟩ := fin2 hx
          exact ⟨rfl, rfl⟩
        · refine mm_icmp_lt 34 dX6_declare_29 (by decide) (fun h => absurd h h4) (fun _ => ?_)
          refine mm_null dX6_declare_32 ?_
          refine mm_aret (a := none) dX6_declare_33 rfl ?_ (by omega) (by omega)
          obtain ⟨rfl, rfl⟩ := fin2 hx
          exact ⟨rfl, rfl⟩
    · refine mm_icmp_ge 32 dX6_declare_16 (by decide) (fun _ => ?_) (fun h => absurd (Int32.not_lt.mp h2) h)
      refine mm_null dX6_declare_32 ?_
      refine mm_aret (a := none) dX6_declare_33 rfl ?_ (by omega) (by omega)
      obtain ⟨rfl, rfl⟩ := fin2 hx
      exact ⟨rfl, rfl⟩
set_option maxHeartbeats 4000000 in
set_option maxRecDepth 100000 in
theorem e_X5_readName_42 {g : mm_G} {l : Launch} (hst : l.stackTraces = false) {Z : Nat → Nat → Option Nat} (hZ : HZ Z) {n : Nat} (hn : 1186 ≤ n) {z : Bool} {d : Nat} {a : Nat} (hs : sh a = 5) {v1_ : Int32} {s0_ : Option Nat} {σ : SG} {r : Option Nat} {σ' : SG} (hx : x_X5_readName_42 a v1_ s0_ σ = some (r, σ')) : mm_V g l RX5 "readName" cX5_readName 4 (some (.object "ProtoDesk$Item")) [] (d + 2) 0 0 (mm_nt (fun v S' => v = some (va_rf r) ∧ S' = (mem Z σ', n, z))) 42 [some (.ref a), some (.int v1_), none, none] [va_rf s0_] (mem Z σ, n, z) 0 0 := by
  unfold x_X5_readName_42 at hx
  refine mm_astore_n [some (.ref a), some (.int v1_), some (va_rf s0_), none] dX5_readName_42 (by decide) (isr_rf _) rfl ?_
  refine mm_aload_n dX5_readName_43 rfl rfl ?_
  refine s_getS (q := a - 190) (r := some a) (b := a) (ci := 5) (k := 0) in_X5 rfl (by decide) rfl kF_X5_9 dX5_readName_44 rfl hs (by decide) hn (by decide) rfl rfl ?_
  refine mm_iload_n dX5_readName_47 rfl ?_
  refine mm_aload_n dX5_readName_48 rfl rfl ?_
  refine s_getP (r := some a) (b := a) (ci := 5) (k := 2) in_X5 rfl (by decide) rfl kF_X5_19 dX5_readName_49 rfl hs (by decide) hn (by decide) rfl ?_
  refine mm_aload_n dX5_readName_52 rfl (isr_rf _) ?_
  refine mm_aload_n dX5_readName_53 rfl rfl ?_
  refine s_getS (q := a - 5) (r := some a) (b := a) (ci := 5) (k := 1) in_X5 rfl (by decide) rfl kF_X5_15 dX5_readName_54 rfl hs (by decide) hn (by decide) rfl rfl ?_
  refine mm_aload_n dX5_readName_57 rfl rfl ?_
  refine s_getI (r := some a) (b := a) (ci := 5) (k := 6) in_X5 rfl (by decide) rfl kF_X5_29 dX5_readName_58 rfl hs (by decide) hn (by decide) rfl ?_
  obtain ⟨v6, hc5, hx⟩ := b1_some hx
  refine mm_callV3 (a := a - 5) (ci := 10) wM_X10_startOf kM_X5_58 wI_X10_startOf wS_X10_startOf dX5_readName_61 (e_X10_startOf hst hZ hn (sv5_1 hs) hc5) (mem_obj (sv5_1 hs) (by decide)) (sh_ltn (sv5_1 hs) (by decide) hn) rfl rfl rfl (show (([va_rf s0_, va_rf (sP σ a 2), .int v1_, .ref (a - 190)] : List Value).map fun v => v.category).sum ≤ 8 by simp only [List.map_cons, List.map_nil, List.sum_cons, List.sum_nil, cat_rf]; exact Nat.le_of_ble_eq_true rfl) (by omega) (by omega) (fun v9 S9 hq => ?_)
  obtain ⟨rfl, rfl⟩ := hq
  refine ⟨fun h => ⟨h, rfl⟩, ?_⟩
  refine mm_aload_n dX5_readName_64 rfl rfl ?_
  refine s_getS (q := a - 5) (r := some a) (b := a) (ci := 5) (k := 1) in_X5 rfl (by decide) rfl kF_X5_15 dX5_readName_65 rfl hs (by decide) hn (by decide) rfl rfl ?_
  refine mm_aload_n dX5_readName_68 rfl rfl ?_
  refine s_getI (r := some a) (b := a) (ci := 5) (k := 6) in_X5 rfl (by decide) rfl kF_X5_29 dX5_readName_69 rfl hs (by decide) hn (by decide) rfl ?_
  obtain ⟨v8, hc7, hx⟩ := b1_some hx
  refine mm_callV3 (a := a - 5) (ci := 10) wM_X10_endOf kM_X5_107 wI_X10_endOf wS_X10_endOf dX5_readName_72 (e_X10_endOf hst hZ hn (sv5_1 hs) hc7) (mem_obj (sv5_1 hs) (by decide)) (sh_ltn (sv5_1 hs) (by decide) hn) rfl rfl rfl (show (([.int v6, va_rf s0_, va_rf (sP σ a 2), .int v1_, .ref (a - 190)] : List Value).map fun v => v.category).sum ≤ 8 by simp only [List.map_cons, List.map_nil, List.sum_cons, List.sum_nil, cat_rf]; exact Nat.le_of_ble_eq_true rfl) (by omega) (by omega) (fun v9 S9 hq => ?_)
  obtain ⟨rfl, rfl⟩ := hq
  refine ⟨fun h => ⟨h, rfl⟩, ?_⟩
  obtain ⟨v10, σ11, hc9, hx⟩ := b2_some hx
  refine mm_callV3 (a := a - 190) (ci := 6) wM_X6_declare kM_X5_110 wI_X6_declare wS_X6_declare dX5_readName_75 (e_X6_declare hst hZ hn (sv5_0 hs) hc9) (mem_obj (sv5_0 hs) (by decide)) (sh_ltn (sv5_0 hs) (by decide) hn) rfl rfl rfl (Nat.le_of_ble_eq_true rfl) (by omega) (by omega) (fun v9 S9 hq => ?_)
  obtain ⟨rfl, rfl⟩ := hq
  refine ⟨fun h => ⟨h, rfl⟩, ?_⟩
  refine mm_astore_n [some (.ref a), some (.int v1_), some (va_rf s0_), some (va_rf v10)] dX5_readName_78 (by decide) (isr_rf _) ((st1_o (r := s0_) rfl).trans rfl) ?_
  refine mm_aload_n dX5_readName_79 rfl rfl ?_
  refine mm_dup dX5_readName_80 rfl ?_
  refine s_getI (r := some a) (b := a) (ci := 5) (k := 6) in_X5 rfl (by decide) rfl kF_X5_29 dX5_readName_81 rfl hs (by decide) hn (by decide) rfl ?_
  refine mm_iconst (v := 1) dX5_readName_84 (by decide) ?_
  refine mm_iadd dX5_readName_85 ?_
  refine s_putI (v := (sI σ11 a 6) + 1) (r := some a) (b := a) (ci := 5) (k := 6) in_X5 rfl (by decide) rfl tyX5_ok nmX5 rfl kF_X5_29 dX5_readName_86 (mm_fit_int _) rfl hs (by decide) hn (by decide) rfl hx (fun σ12 hx => ?_)
  refine mm_aload_n dX5_readName_89 rfl (isr_rf _) ?_
  refine mm_aret (a := v10) dX5_readName_90 rfl ?_ (by omega) (by omega)
  obtain ⟨rfl, rfl⟩ := fin2 hx
  exact ⟨rfl, rfl⟩
set_option maxHeartbeats 4000000 in
set_option maxRecDepth 100000 in
theorem e_X5_readName {g : mm_G} {l : Launch} (hst : l.stackTraces = false) {Z : Nat → Nat → Option Nat} (hZ : HZ Z) {n : Nat} (hn : 1186 ≤ n) {z : Bool} {d : Nat} {a : Nat} (hs : sh a = 5) {p0 : Int32} {σ : SG} {r : Option Nat} {σ' : SG} (hx : x_X5_readName a p0 σ = some (r, σ')) : mm_Cm g l yX5_readName (.code yX5_readName cX5_readName 4 (some (.object "ProtoDesk$Item"))) (d + 2) 0 0 [.ref a, .int p0] (mem Z σ, n, z) (fun v S' => v = some (va_rf r) ∧ S' = (mem Z σ', n, z)) := by
  refine mm_Cm_of hst (by decide) (Nat.le_of_ble_eq_true rfl) ?_
  show mm_V g l RX5 "readName" cX5_readName 4 (some (.object "ProtoDesk$Item")) [] (d + 2) 0 0 (mm_nt (fun v S' => v = some (va_rf r) ∧ S' = (mem Z σ', n, z))) 0 [some (.ref a), some (.int p0), none, none] [] (mem Z σ, n, z) 0 0
  unfold x_X5_readName at hx
  refine mm_aload_n dX5_readName_0 rfl rfl ?_
  refine s_getS (q := a - 5) (r := some a) (b := a) (ci := 5) (k := 1) in_X5 rfl (by decide) rfl kF_X5_15 dX5_readName_1 rfl hs (by decide) hn (by decide) rfl rfl ?_
  refine mm_aload_n dX5_readName_4 rfl rfl ?_
  refine s_getI (r := some a) (b := a) (ci := 5) (k := 6) in_X5 rfl (by decide) rfl kF_X5_29 dX5_readName_5 rfl hs (by decide) hn (by decide) rfl ?_
  obtain ⟨v2, hc1, hx⟩ := b1_some hx
  refine mm_callV3 (a := a - 5) (ci := 10) wM_X10_kindOf kM_X5_62 wI_X10_kindOf wS_X10_kindOf dX5_readName_8 (e_X10_kindOf hst hZ hn (sv5_1 hs) hc1) (mem_obj (sv5_1 hs) (by decide)) (sh_ltn (sv5_1 hs) (by decide) hn) rfl rfl rfl (Nat.le_of_ble_eq_true rfl) (by omega) (by omega) (fun v9 S9 hq => ?_)
  obtain ⟨rfl, rfl⟩ := hq
  refine ⟨fun h => ⟨h, rfl⟩, ?_⟩
  refine mm_iconst (v := 1) dX5_readName_11 (by decide) ?_
  refine b_if hx (fun h3 hx => ?_) (fun h3 hx => ?_)
  · refine mm_icmp_eq 17 dX5_readName_12 (by decide) (fun _ => ?_) (fun h => absurd h3 h)
    refine mm_iload_n dX5_readName_17 rfl ?_
    refine mm_iconst (v := 3) dX5_readName_18 (by decide) ?_
    refine b_if hx (fun h4 hx => ?_) (fun h4 hx => ?_)
    · refine mm_icmp_ne 29 dX5_readName_19 (by decide) (fun h => absurd h4 h) (fun _ => ?_)
      refine mm_aload_n dX5_readName_22 rfl rfl ?_
      refine s_getP (r := some a) (b := a) (ci := 5) (k := 4) in_X5 rfl (by decide) rfl kF_X5_26 dX5_readName_23 rfl hs (by decide) hn (by decide) rfl ?_
      refine mm_goto 42 dX5_readName_26 (by decide) ?_
      exact e_X5_readName_42 hst hZ hn hs hx
    · refine mm_icmp_ne 29 dX5_readName_19 (by decide) (fun _ => ?_) (fun h => absurd h h4)
      refine mm_iload_n dX5_readName_29 rfl ?_
      refine mm_iconst (v := 2) dX5_readName_30 (by decide) ?_
      refine b_if hx (fun h13 hx => ?_) (fun h13 hx => ?_)
      · refine mm_icmp_ne 41 dX5_readName_31 (by decide) (fun h => absurd h13 h) (fun _ => ?_)
        refine mm_aload_n dX5_readName_34 rfl rfl ?_
        refine s_getP (r := some a) (b := a) (ci := 5) (k := 3) in_X5 rfl (by decide) rfl kF_X5_23 dX5_readName_35 rfl hs (by decide) hn (by decide) rfl ?_
        refine mm_goto 42 dX5_readName_38 (by decide) ?_
        exact e_X5_readName_42 hst hZ hn hs hx
      · refine mm_icmp_ne 41 dX5_readName_31 (by decide) (fun _ => ?_) (fun h => absurd h h13)
        refine mm_null dX5_readName_41 ?_
        exact e_X5_readName_42 hst hZ hn hs hx
  · refine mm_icmp_eq 17 dX5_readName_12 (by decide) (fun h => absurd h h3) (fun _ => ?_)
    refine mm_null dX5_readName_15 ?_
    refine mm_aret (a := none) dX5_readName_16 rfl ?_ (by omega) (by omega)
    obtain ⟨rfl, rfl⟩ := fin2 hx
    exact ⟨rfl, rfl⟩
set_option maxHeartbeats 4000000 in
set_option maxRecDepth 100000 in
theorem e_X5_readNumber_82 {g : mm_G} {l : Launch} (hst : l.stackTraces = false) {Z : Nat → Nat → Option Nat} (hZ : HZ Z) {n : Nat} (hn : 1186 ≤ n) {z : Bool} {d : Nat} {a : Nat} (hs : sh a = 5) {s0_ : Int64} {s1_ : Option Nat} {σ : SG} {r : Int32} {σ' : SG} (hx : x_X5_readNumber_82 a s0_ s1_ σ = some (r, σ')) : mm_V g l RX5 "readNumber" cX5_readNumber 4 (some .boolean) [] (d + 2) 0 0 (mm_nt (fun v S' => v = some (.int r) ∧ S' = (mem Z σ', n, z))) 82 [some (.ref a), none, none, none] [.long s0_, va_rf s1_] (mem Z σ, n, z) 0 0 := by
  unfold x_X5_readNumber_82 at hx
  obtain ⟨q14, hr15, hs16, hx⟩ := ck_some hx
  refine s_putLN (v := s0_) (r := s1_) (b := q14) (ci := 3) (k := 6) in_X3 rfl (by decide) rfl tyX3_ok nmX3 rfl kF_X5_139 dX5_readNumber_82 (mm_fit_long _) hr15 hs16 (by decide) hn (by decide) rfl hx (fun σ17 hx => ?_)
  refine mm_aload_n dX5_readNumber_85 rfl rfl ?_
  refine mm_dup dX5_readNumber_86 rfl ?_
  refine s_getI (r := some a) (b := a) (ci := 5) (k := 6) in_X5 rfl (by decide) rfl kF_X5_29 dX5_readNumber_87 rfl hs (by decide) hn (by decide) rfl ?_
  refine mm_iconst (v := 1) dX5_readNumber_90 (by decide) ?_
  refine mm_iadd dX5_readNumber_91 ?_
  refine s_putI (v := (sI σ17 a 6) + 1) (r := some a) (b := a) (ci := 5) (k := 6) in_X5 rfl (by decide) rfl tyX5_ok nmX5 rfl kF_X5_29 dX5_readNumber_92 (mm_fit_int _) rfl hs (by decide) hn (by decide) rfl hx (fun σ18 hx => ?_)
  refine mm_iconst (v := 1) dX5_readNumber_95 (by decide) ?_
  refine mm_iret dX5_readNumber_96 rfl rfl ?_ (by omega) (by omega)
  obtain ⟨rfl, rfl⟩ := fin2 hx
  exact ⟨rfl, rfl⟩
set_option maxHeartbeats 4000000 in
set_option maxRecDepth 100000 in
theorem e_X5_readNumber_33 {g : mm_G} {l : Launch} (hst : l.stackTraces = false) {Z : Nat → Nat → Option Nat} (hZ : HZ Z) {n : Nat} (hn : 1186 ≤ n) {z : Bool} {d : Nat} {a : Nat} (hs : sh a = 5) {v1_ : Option Nat} {s0_ : Int32} {σ : SG} {r : Int32} {σ' : SG} (hx : x_X5_readNumber_33 a v1_ s0_ σ = some (r, σ')) : mm_V g l RX5 "readNumber" cX5_readNumber 4 (some .boolean) [] (d + 2) 0 0 (mm_nt (fun v S' => v = some (.int r) ∧ S' = (mem Z σ', n, z))) 33 [some (.ref a), some (va_rf v1_), none, none] [.int s0_] (mem Z σ, n, z) 0 0 := by
  unfold x_X5_readNumber_33 at hx
  refine mm_istore_n [some (.ref a), some (va_rf v1_), none, some (.int s0_)] dX5_readNumber_33 (by decide) rfl ?_
  refine mm_aload_n dX5_readNumber_34 rfl rfl ?_
  refine s_getS (q := a - 5) (r := some a) (b := a) (ci := 5) (k := 1) in_X5 rfl (by decide) rfl kF_X5_15 dX5_readNumber_35 rfl hs (by decide) hn (by decide) rfl rfl ?_
  refine mm_aload_n dX5_readNumber_38 rfl rfl ?_
  refine s_getI (r := some a) (b := a) (ci := 5) (k := 6) in_X5 rfl (by decide) rfl kF_X5_29 dX5_readNumber_39 rfl hs (by decide) hn (by decide) rfl ?_
  obtain ⟨v9, hc8, hx⟩ := b1_some hx
  refine mm_callV3 (a := a - 5) (ci := 10) wM_X10_kindOf kM_X5_62 wI_X10_kindOf wS_X10_kindOf dX5_readNumber_42 (e_X10_kindOf hst hZ hn (sv5_1 hs) hc8) (mem_obj (sv5_1 hs) (by decide)) (sh_ltn (sv5_1 hs) (by decide) hn) rfl rfl rfl (Nat.le_of_ble_eq_true rfl) (by omega) (by omega) (fun v9 S9 hq => ?_)
  obtain ⟨rfl, rfl⟩ := hq
  refine ⟨fun h => ⟨h, rfl⟩, ?_⟩
  refine mm_iconst (v := 2) dX5_readNumber_45 (by decide) ?_
  refine b_if hx (fun h10 hx => ?_) (fun h10 hx => ?_)
  · refine mm_icmp_eq 51 dX5_readNumber_46 (by decide) (fun _ => ?_) (fun h => absurd h10 h)
    refine mm_aload_n dX5_readNumber_51 rfl (isr_rf _) ?_
    refine mm_iload_n dX5_readNumber_52 rfl ?_
    refine b_if hx (fun h11 hx => ?_) (fun h11 hx => ?_)
    · refine mm_if_eq 71 dX5_readNumber_53 (by decide) (fun _ => ?_) (fun h => absurd h11 h)
      refine mm_aload_n dX5_readNumber_71 rfl rfl ?_
      refine s_getS (q := a - 5) (r := some a) (b := a) (ci := 5) (k := 1) in_X5 rfl (by decide) rfl kF_X5_15 dX5_readNumber_72 rfl hs (by decide) hn (by decide) rfl rfl ?_
      refine mm_aload_n dX5_readNumber_75 rfl rfl ?_
      refine s_getI (r := some a) (b := a) (ci := 5) (k := 6) in_X5 rfl (by decide) rfl kF_X5_29 dX5_readNumber_76 rfl hs (by decide) hn (by decide) rfl ?_
      obtain ⟨v13, hc12, hx⟩ := b1_some hx
      refine mm_callV3 (a := a - 5) (ci := 10) wM_X10_valueOf kM_X5_79 wI_X10_valueOf wS_X10_valueOf dX5_readNumber_79 (e_X10_valueOf hst hZ hn (sv5_1 hs) hc12) (mem_obj (sv5_1 hs) (by decide)) (sh_ltn (sv5_1 hs) (by decide) hn) rfl rfl rfl (show (([va_rf v1_] : List Value).map fun v => v.category).sum ≤ 8 by simp only [List.map_cons, List.map_nil, List.sum_cons, List.sum_nil, cat_rf]; exact Nat.le_of_ble_eq_true rfl) (by omega) (by omega) (fun v9 S9 hq => ?_)
      obtain ⟨rfl, rfl⟩ := hq
      refine ⟨fun h => ⟨h, rfl⟩, ?_⟩
      refine mm_fewer [some (.ref a), none, none, none] (few_ok (bs := [true, false, false, false]) rfl) ?_
      exact e_X5_readNumber_82 hst hZ hn hs hx
    · refine mm_if_eq 71 dX5_readNumber_53 (by decide) (fun h => absurd h h11) (fun _ => ?_)
      refine mm_aload_n dX5_readNumber_56 rfl rfl ?_
      refine s_getS (q := a - 5) (r := some a) (b := a) (ci := 5) (k := 1) in_X5 rfl (by decide) rfl kF_X5_15 dX5_readNumber_57 rfl hs (by decide) hn (by decide) rfl rfl ?_
      refine mm_aload_n dX5_readNumber_60 rfl rfl ?_
      refine s_getI (r := some a) (b := a) (ci := 5) (k := 6) in_X5 rfl (by decide) rfl kF_X5_29 dX5_readNumber_61 rfl hs (by decide) hn (by decide) rfl ?_
      obtain ⟨v20, hc19, hx⟩ := b1_some hx
      refine mm_callV3 (a := a - 5) (ci := 10) wM_X10_valueOf kM_X5_79 wI_X10_valueOf wS_X10_valueOf dX5_readNumber_64 (e_X10_valueOf hst hZ hn (sv5_1 hs) hc19) (mem_obj (sv5_1 hs) (by decide)) (sh_ltn (sv5_1 hs) (by decide) hn) rfl rfl rfl (show (([va_rf v1_] : List Value).map fun v => v.category).sum ≤ 8 by simp only [List.map_cons, List.map_nil, List.sum_cons, List.sum_nil, cat_rf]; exact Nat.le_of_ble_eq_true rfl) (by omega) (by omega) (fun v9 S9 hq => ?_)
      obtain ⟨rfl, rfl⟩ := hq
      refine ⟨fun h => ⟨h, rfl⟩, ?_⟩
      refine mm_lneg dX5_readNumber_67 ?_
      refine mm_goto 82 dX5_readNumber_68 (by decide) ?_
      refine mm_fewer [some (.ref a), none, none, none] (few_ok (bs := [true, false, false, false]) rfl) ?_
      exact e_X5_readNumber_82 hst hZ hn hs hx
  · refine mm_icmp_eq 51 dX5_readNumber_46 (by decide) (fun h => absurd h h10) (fun _ => ?_)
    refine mm_iconst (v := 0) dX5_readNumber_49 (by decide) ?_
    refine mm_iret dX5_readNumber_50 rfl rfl ?_ (by omega) (by omega)
    obtain ⟨rfl, rfl⟩ := fin2 hx
    exact ⟨rfl, rfl⟩
set_option maxHeartbeats 4000000 in
set_option maxRecDepth 100000 in
theorem e_X5_readNumber_32 {g : mm_G} {l : Launch} (hst : l.stackTraces = false) {Z : Nat → Nat → Option Nat} (hZ : HZ Z) {n : Nat} (hn : 1186 ≤ n) {z : Bool} {d : Nat} {a : Nat} (hs : sh a = 5) {v1_ : Option Nat} {σ : SG} {r : Int32} {σ' : SG} (hx : x_X5_readNumber_32 a v1_ σ = some (r, σ')) : mm_V g l RX5 "readNumber" cX5_readNumber 4 (some .boolean) [] (d + 2) 0 0 (mm_nt (fun v S' => v = some (.int r) ∧ S' = (mem Z σ', n, z))) 32 [some (.ref a), some (va_rf v1_), none, none] [] (mem Z σ, n, z) 0 0 := by
  unfold x_X5_readNumber_32 at hx
  refine mm_iconst (v := 0) dX5_readNumber_32 (by decide) ?_
  exact e_X5_readNumber_33 hst hZ hn hs hx
set_option maxHeartbeats 4000000 in
set_option maxRecDepth 100000 in
theorem e_X5_readNumber {g : mm_G} {l : Launch} (hst : l.stackTraces = false) {Z : Nat → Nat → Option Nat} (hZ : HZ Z) {n : Nat} (hn : 1186 ≤ n) {z : Bool} {d : Nat} {a : Nat} (hs : sh a = 5) {p0 : Option Nat} {p1 : Int32} {σ : SG} {r : Int32} {σ' : SG} (hx : x_X5_readNumber a p0 p1 σ = some (r, σ')) : mm_Cm g l yX5_readNumber (.code yX5_readNumber cX5_readNumber 4 (some .boolean)) (d + 2) 0 0 [.ref a, va_rf p0, .int p1] (mem Z σ, n, z) (fun v S' => v = some (.int r) ∧ S' = (mem Z σ', n, z)) := by
  refine mm_Cm_of hst (by decide) (by cases p0 <;>  exact Nat.le_of_ble_eq_true rfl) ?_
  rw [show mm_ent [.ref a, va_rf p0, .int p1] 4 = [some (.ref a), some (va_rf p0), some (.int p1), none] from by cases p0 <;>  rfl]
  show mm_V g l RX5 "readNumber" cX5_readNumber 4 (some .boolean) [] (d + 2) 0 0 (mm_nt (fun v S' => v = some (.int r) ∧ S' = (mem Z σ', n, z))) 0 [some (.ref a), some (va_rf p0), some (.int p1), none] [] (mem Z σ, n, z) 0 0
  unfold x_X5_readNumber at hx
  refine mm_aload_n dX5_readNumber_0 rfl (isr_rf _) ?_
  refine mm_aload_n dX5_readNumber_1 rfl rfl ?_
  refine s_getS (q := a - 5) (r := some a) (b := a) (ci := 5) (k := 1) in_X5 rfl (by decide) rfl kF_X5_15 dX5_readNumber_2 rfl hs (by decide) hn (by decide) rfl rfl ?_
  refine mm_aload_n dX5_readNumber_5 rfl rfl ?_
  refine s_getI (r := some a) (b := a) (ci := 5) (k := 6) in_X5 rfl (by decide) rfl kF_X5_29 dX5_readNumber_6 rfl hs (by decide) hn (by decide) rfl ?_
  obtain ⟨v2, hc1, hx⟩ := b1_some hx
  refine mm_callV3 (a := a - 5) (ci := 10) wM_X10_startOf kM_X5_58 wI_X10_startOf wS_X10_startOf dX5_readNumber_9 (e_X10_startOf hst hZ hn (sv5_1 hs) hc1) (mem_obj (sv5_1 hs) (by decide)) (sh_ltn (sv5_1 hs) (by decide) hn) rfl rfl rfl (show (([va_rf p0] : List Value).map fun v => v.category).sum ≤ 8 by simp only [List.map_cons, List.map_nil, List.sum_cons, List.sum_nil, cat_rf]; exact Nat.le_of_ble_eq_true rfl) (by omega) (by omega) (fun v9 S9 hq => ?_)
  obtain ⟨rfl, rfl⟩ := hq
  refine ⟨fun h => ⟨h, rfl⟩, ?_⟩
  obtain ⟨q3, hr4, hs5, hx⟩ := ck_some hx
  refine s_putIN (v := v2) (r := p0) (b := q3) (ci := 3) (k := 7) in_X3 rfl (by decide) rfl tyX3_ok nmX3 rfl kF_X5_136 dX5_readNumber_12 (mm_fit_int _) hr4 hs5 (by decide) hn (by decide) rfl hx (fun σ6 hx => ?_)
  refine mm_iload_n dX5_readNumber_15 rfl ?_
  refine b_if hx (fun h7 hx => ?_) (fun h7 hx => ?_)
  · refine mm_if_eq 32 dX5_readNumber_16 (by decide) (fun _ => ?_) (fun h => absurd h7 h)
    refine mm_fewer [some (.ref a), some (va_rf p0), none, none] (few_ok (bs := [true, true, false, false]) rfl) ?_
    exact e_X5_readNumber_32 hst hZ hn hs hx
  · refine mm_if_eq 32 dX5_readNumber_16 (by decide) (fun h => absurd h h7) (fun _ => ?_)
    refine mm_aload_n dX5_readNumber_19 rfl rfl ?_
    refine mm_bipush (v := 45) dX5_readNumber_20 (by decide) ?_
    obtain ⟨v22, σ23, hc21, hx⟩ := b2_some hx
    refine mm_callV3 (a := a) (ci := 5) wM_X5_takes kM_X5_76 wI_X5_takes wS_X5_takes dX5_readNumber_22 (e_X5_takes hst hZ hn hs hc21) (mem_obj hs (by decide)) (sh_ltn hs (by decide) hn) rfl rfl rfl (Nat.le_of_ble_eq_true rfl) (by omega) (by omega) (fun v9 S9 hq => ?_)
    obtain ⟨rfl, rfl⟩ := hq
    refine ⟨fun h => ⟨h, rfl⟩, ?_⟩
    refine b_if hx (fun h24 hx => ?_) (fun h24 hx => ?_)
    · refine mm_if_eq 32 dX5_readNumber_25 (by decide) (fun _ => ?_) (fun h => absurd h24 h)
      refine mm_fewer [some (.ref a), some (va_rf p0), none, none] (few_ok (bs := [true, true, false, false]) rfl) ?_
      exact e_X5_readNumber_32 hst hZ hn hs hx
    · refine mm_if_eq 32 dX5_readNumber_25 (by decide) (fun h => absurd h h24) (fun _ => ?_)
      refine mm_iconst (v := 1) dX5_readNumber_28 (by decide) ?_
      refine mm_goto 33 dX5_readNumber_29 (by decide) ?_
      refine mm_fewer [some (.ref a), some (va_rf p0), none, none] (few_ok (bs := [true, true, false, false]) rfl) ?_
      exact e_X5_readNumber_33 hst hZ hn hs hx
set_option maxHeartbeats 4000000 in
set_option maxRecDepth 100000 in
theorem e_X5_readValue_23 {g : mm_G} {l : Launch} (hst : l.stackTraces = false) {Z : Nat → Nat → Option Nat} (hZ : HZ Z) {n : Nat} (hn : 1186 ≤ n) {z : Bool} {d : Nat} {a : Nat} (hs : sh a = 5) {σ : SG} {r : Int32} {σ' : SG} (hx : x_X5_readValue_23 a σ = some (r, σ')) : mm_V g l RX5 "readValue" cX5_readValue 2 (some .boolean) [] (d + 3) 0 0 (mm_nt (fun v S' => v = some (.int r) ∧ S' = (mem Z σ', n, z))) 23 [some (.ref a), none] [] (mem Z σ, n, z) 0 0 := by
  unfold x_X5_readValue_23 at hx
  refine mm_aload_n dX5_readValue_23 rfl rfl ?_
  obtain ⟨v7, σ8, hc6, hx⟩ := b2_some hx
  refine mm_callV3 (a := a) (ci := 5) wM_X5_isForbidden kM_X5_85 wI_X5_isForbidden wS_X5_isForbidden dX5_readValue_24 (e_X5_isForbidden hst hZ hn hs hc6) (mem_obj hs (by decide)) (sh_ltn hs (by decide) hn) rfl rfl rfl (Nat.le_of_ble_eq_true rfl) (by omega) (by omega) (fun v9 S9 hq => ?_)
  obtain ⟨rfl, rfl⟩ := hq
  refine ⟨fun h => ⟨h, rfl⟩, ?_⟩
  refine b_if hx (fun h9 hx => ?_) (fun h9 hx => ?_)
  · refine mm_if_eq 32 dX5_readValue_27 (by decide) (fun _ => ?_) (fun h => absurd h9 h)
    refine mm_aload_n dX5_readValue_32 rfl rfl ?_
    refine mm_iconst (v := 0) dX5_readValue_33 (by decide) ?_
    refine s_putI (v := 0) (r := some a) (b := a) (ci := 5) (k := 5) in_X5 rfl (by decide) rfl tyX5_ok nmX5 rfl kF_X5_103 dX5_readValue_34 mm_fit_z0 rfl hs (by decide) hn (by decide) rfl hx (fun σ10 hx => ?_)
    refine mm_aload_n dX5_readValue_37 rfl rfl ?_
    refine mm_iconst (v := 3) dX5_readValue_38 (by decide) ?_
    obtain ⟨v12, σ13, hc11, hx⟩ := b2_some hx
    refine mm_callV3 (a := a) (ci := 5) wM_X5_readName kM_X5_99 wI_X5_readName wS_X5_readName dX5_readValue_39 (e_X5_readName hst hZ hn hs hc11) (mem_obj hs (by decide)) (sh_ltn hs (by decide) hn) rfl rfl rfl (Nat.le_of_ble_eq_true rfl) (by omega) (by omega) (fun v9 S9 hq => ?_)
    obtain ⟨rfl, rfl⟩ := hq
    refine ⟨fun h => ⟨h, rfl⟩, ?_⟩
    refine mm_astore_n [some (.ref a), some (va_rf v12)] dX5_readValue_42 (by decide) (isr_rf _) rfl ?_
    refine mm_aload_n dX5_readValue_43 rfl (isr_rf _) ?_
    refine b_if hx (fun h14 hx => ?_) (fun h14 hx => ?_)
    · refine mm_ifnull (r := v12) 78 dX5_readValue_44 (by decide) (fun _ => ?_) (fun h => absurd h14 h)
      refine mm_iconst (v := 0) dX5_readValue_78 (by decide) ?_
      refine mm_iret dX5_readValue_79 rfl rfl ?_ (by omega) (by omega)
      obtain ⟨rfl, rfl⟩ := fin2 hx
      exact ⟨rfl, rfl⟩
    · refine mm_ifnull (r := v12) 78 dX5_readValue_44 (by decide) (fun h => absurd h h14) (fun _ => ?_)
      refine mm_aload_n dX5_readValue_47 rfl rfl ?_
      refine mm_bipush (v := 61) dX5_readValue_48 (by decide) ?_
      obtain ⟨v16, σ17, hc15, hx⟩ := b2_some hx
      refine mm_callV3 (a := a) (ci := 5) wM_X5_takes kM_X5_76 wI_X5_takes wS_X5_takes dX5_readValue_50 (e_X5_takes hst hZ hn hs hc15) (mem_obj hs (by decide)) (sh_ltn hs (by decide) hn) rfl rfl rfl (Nat.le_of_ble_eq_true rfl) (by omega) (by omega) (fun v9 S9 hq => ?_)
      obtain ⟨rfl, rfl⟩ := hq
      refine ⟨fun h => ⟨h, rfl⟩, ?_⟩
      refine b_if hx (fun h18 hx => ?_) (fun h18 hx => ?_)
      · refine mm_if_eq 78 dX5_readValue_53 (by decide) (fun _ => ?_) (fun h => absurd h18 h)
        refine mm_iconst (v := 0) dX5_readValue_78 (by decide) ?_
        refine mm_iret dX5_readValue_79 rfl rfl ?_ (by omega) (by omega)
        obtain ⟨rfl, rfl⟩ := fin2 hx
        exact ⟨rfl, rfl⟩
      · refine mm_if_eq 78 dX5_readValue_53 (by decide) (fun h => absurd h h18) (fun _ => ?_)
        refine mm_aload_n dX5_readValue_56 rfl rfl ?_
        refine mm_aload_n dX5_readValue_57 rfl (isr_rf _) ?_
        refine mm_iconst (v := 1) dX5_readValue_58 (by decide) ?_
        obtain ⟨v20, σ21, hc19, hx⟩ := b2_some hx
        refine mm_callV3 (a := a) (ci := 5) wM_X5_readNumber kM_X5_116 wI_X5_readNumber wS_X5_readNumber dX5_readValue_59 (e_X5_readNumber hst hZ hn hs hc19) (mem_obj hs (by decide)) (sh_ltn hs (by decide) hn) rfl rfl rfl (Nat.le_of_ble_eq_true rfl) (by omega) (by omega) (fun v9 S9 hq => ?_)
        obtain ⟨rfl, rfl⟩ := hq
        refine ⟨fun h => ⟨h, rfl⟩, ?_⟩
        refine b_if hx (fun h22 hx => ?_) (fun h22 hx => ?_)
        · refine mm_if_eq 78 dX5_readValue_62 (by decide) (fun _ => ?_) (fun h => absurd h22 h)
          refine mm_iconst (v := 0) dX5_readValue_78 (by decide) ?_
          refine mm_iret dX5_readValue_79 rfl rfl ?_ (by omega) (by omega)
          obtain ⟨rfl, rfl⟩ := fin2 hx
          exact ⟨rfl, rfl⟩
        · refine mm_if_eq 78 dX5_readValue_62 (by decide) (fun h => absurd h h22) (fun _ => ?_)
          refine mm_aload_n dX5_readValue_65 rfl rfl ?_
          refine mm_bipush (v := 59) dX5_readValue_66 (by decide) ?_
          obtain ⟨v24, σ25, hc23, hx⟩ := b2_some hx
          refine mm_callV3 (a := a) (ci := 5) wM_X5_takes kM_X5_76 wI_X5_takes wS_X5_takes dX5_readValue_68 (e_X5_takes hst hZ hn hs hc23) (mem_obj hs (by decide)) (sh_ltn hs (by decide) hn) rfl rfl rfl (Nat.le_of_ble_eq_true rfl) (by omega) (by omega) (fun v9 S9 hq => ?_)
          obtain ⟨rfl, rfl⟩ := hq
          refine ⟨fun h => ⟨h, rfl⟩, ?_⟩
          refine b_if hx (fun h26 hx => ?_) (fun h26 hx => ?_)
          · refine mm_if_eq 78 dX5_readValue_71 (by decide) (fun _ => ?_) (fun h => absurd h26 h)
            refine mm_iconst (v := 0) dX5_readValue_78 (by decide) ?_
            refine mm_iret dX5_readValue_79 rfl rfl ?_ (by omega) (by omega)
            obtain ⟨rfl, rfl⟩ := fin2 hx
            exact ⟨rfl, rfl⟩
          · refine mm_if_eq 78 dX5_readValue_71 (by decide) (fun h => absurd h h26) (fun _ => ?_)
            refine mm_iconst (v := 1) dX5_readValue_74 (by decide) ?_
            refine mm_goto 79 dX5_readValue_75 (by decide) ?_
            refine mm_iret dX5_readValue_79 rfl rfl ?_ (by omega) (by omega)
            obtain ⟨rfl, rfl⟩ := fin2 hx
            exact ⟨rfl, rfl⟩
  · refine mm_if_eq 32 dX5_readValue_27 (by decide) (fun h => absurd h h9) (fun _ => ?_)
    refine mm_iconst (v := 0) dX5_readValue_30 (by decide) ?_
    refine mm_iret dX5_readValue_31 rfl rfl ?_ (by omega) (by omega)
    obtain ⟨rfl, rfl⟩ := fin2 hx
    exact ⟨rfl, rfl⟩
set_option maxHeartbeats 4000000 in
set_option maxRecDepth 100000 in
theorem e_X5_readValue {g : mm_G} {l : Launch} (hst : l.stackTraces = false) {Z : Nat → Nat → Option Nat} (hZ : HZ Z) {n : Nat} (hn : 1186 ≤ n) {z : Bool} {d : Nat} {a : Nat} (hs : sh a = 5) {σ : SG} {r : Int32} {σ' : SG} (hx : x_X5_readValue a σ = some (r, σ')) : mm_Cm g l yX5_readValue (.code yX5_readValue cX5_readValue 2 (some .boolean)) (d + 3) 0 0 [.ref a] (mem Z σ, n, z) (fun v S' => v = some (.int r) ∧ S' = (mem Z σ', n, z)) := by
  refine mm_Cm_of hst (by decide) (Nat.le_of_ble_eq_true rfl) ?_
  show mm_V g l RX5 "readValue" cX5_readValue 2 (some .boolean) [] (d + 3) 0 0 (mm_nt (fun v S' => v = some (.int r) ∧ S' = (mem Z σ', n, z))) 0 [some (.ref a), none] [] (mem Z σ, n, z) 0 0
  unfold x_X5_readValue at hx
  refine mm_aload_n dX5_readValue_0 rfl rfl ?_
  refine s_getI (r := some a) (b := a) (ci := 5) (k := 5) in_X5 rfl (by decide) rfl kF_X5_103 dX5_readValue_1 rfl hs (by decide) hn (by decide) rfl ?_
  refine b_if hx (fun h1 hx => ?_) (fun h1 hx => ?_)
  · refine mm_if_ne 23 dX5_readValue_4 (by decide) (fun h => absurd h1 h) (fun _ => ?_)
    refine mm_aload_n dX5_readValue_7 rfl rfl ?_
    refine mm_bipush (v := 125) dX5_readValue_8 (by decide) ?_
    obtain ⟨v3, σ4, hc2, hx⟩ := b2_some hx
    refine mm_callV3 (a := a) (ci := 5) wM_X5_takes kM_X5_76 wI_X5_takes wS_X5_takes dX5_readValue_10 (e_X5_takes hst hZ hn hs hc2) (mem_obj hs (by decide)) (sh_ltn hs (by decide) hn) rfl rfl rfl (Nat.le_of_ble_eq_true rfl) (by omega) (by omega) (fun v9 S9 hq => ?_)
    obtain ⟨rfl, rfl⟩ := hq
    refine ⟨fun h => ⟨h, rfl⟩, ?_⟩
    refine b_if hx (fun h5 hx => ?_) (fun h5 hx => ?_)
    · refine mm_if_eq 23 dX5_readValue_13 (by decide) (fun _ => ?_) (fun h => absurd h5 h)
      exact e_X5_readValue_23 hst hZ hn hs hx
    · refine mm_if_eq 23 dX5_readValue_13 (by decide) (fun h => absurd h h5) (fun _ => ?_)
      refine mm_aload_n dX5_readValue_16 rfl rfl ?_
      refine mm_null dX5_readValue_17 ?_
      refine s_putP (v := none) (r := some a) (b := a) (ci := 5) (k := 4) in_X5 rfl (by decide) rfl tyX5_ok nmX5 rfl kF_X5_26 dX5_readValue_18 (mm_fit_r _ _) rfl hs (by decide) hn (by decide) rfl hx (fun σ27 hx => ?_)
      refine mm_iconst (v := 1) dX5_readValue_21 (by decide) ?_
      refine mm_iret dX5_readValue_22 rfl rfl ?_ (by omega) (by omega)
      obtain ⟨rfl, rfl⟩ := fin2 hx
      exact ⟨rfl, rfl⟩
  · refine mm_if_ne 23 dX5_readValue_4 (by decide) (fun _ => ?_) (fun h => absurd h h1)
    exact e_X5_readValue_23 hst hZ hn hs hx
set_option maxHeartbeats 4000000 in
set_option maxRecDepth 100000 in
theorem e_X5_readTypeName_L37 {g : mm_G} {l : Launch} (hst : l.stackTraces = false) {Z : Nat → Nat → Option Nat} (hZ : HZ Z) {n : Nat} (hn : 1186 ≤ n) {z : Bool} {d : Nat} {U : Nat} {a : Nat} (hs : sh a = 5) {r : Int32} {σ' : SG} : ∀ (U1 : Nat) (v2_ : Int32) (σ : SG), x_X5_readTypeName_L37 U a U1 v2_ σ = some (r, σ') → mm_V g l RX5 "readTypeName" cX5_readTypeName 3 (some .boolean) [] (d + 2) 0 0 (mm_nt (fun v S' => v = some (.int r) ∧ S' = (mem Z σ', n, z))) 37 [some (.ref a), none, some (.int v2_)] [] (mem Z σ, n, z) 0 0 := by
  intro U1
  induction U1 with
  | zero => intro v2_ σ hx; exact absurd hx (by simp [x_X5_readTypeName_L37])
  | succ U1 ih =>
    intro v2_ σ hx
    rw [x_X5_readTypeName_L37] at hx
    refine mm_iload_n dX5_readTypeName_37 rfl ?_
    refine mm_aload_n dX5_readTypeName_38 rfl rfl ?_
    refine s_getS (q := a - 5) (r := some a) (b := a) (ci := 5) (k := 1) in_X5 rfl (by decide) rfl kF_X5_15 dX5_readTypeName_39 rfl hs (by decide) hn (by decide) rfl rfl ?_
    obtain ⟨v9, hc8, hx⟩ := b1_some hx
    refine mm_callV3 (a := a - 5) (ci := 10) wM_X10_count kM_X5_40 wI_X10_count wS_X10_count dX5_readTypeName_42 (e_X10_count hst hZ hn (sv5_1 hs) hc8) (mem_obj (sv5_1 hs) (by decide)) (sh_ltn (sv5_1 hs) (by decide) hn) rfl rfl rfl (Nat.le_of_ble_eq_true rfl) (by omega) (by omega) (fun v9 S9 hq => ?_)
    obtain ⟨rfl, rfl⟩ := hq
    refine ⟨fun h => ⟨h, rfl⟩, ?_⟩
    refine b_if hx (fun h10 hx => ?_) (fun h10 hx => ?_)
    · refine mm_icmp_ge 92 dX5_readTypeName_45 (by decide) (fun h => absurd h (Int32.not_le.mpr h10)) (fun _ => ?_)
      refine mm_aload_n dX5_readTypeName_48 rfl rfl ?_
      refine s_getS (q := a - 5) (r := some a) (b := a) (ci := 5) (k := 1) in_X5 rfl (by decide) rfl kF_X5_15 dX5_readTypeName_49 rfl hs (by decide) hn (by decide) rfl rfl ?_
      refine mm_aload_n dX5_readTypeName_52 rfl rfl ?_
      refine s_getI (r := some a) (b := a) (ci := 5) (k := 6) in_X5 rfl (by decide) rfl kF_X5_29 dX5_readTypeName_53 rfl hs (by decide) hn (by decide) rfl ?_
      obtain ⟨v12, hc11, hx⟩ := b1_some hx
      refine mm_callV3 (a := a - 5) (ci := 10) wM_X10_kindOf kM_X5_62 wI_X10_kindOf wS_X10_kindOf dX5_readTypeName_56 (e_X10_kindOf hst hZ hn (sv5_1 hs) hc11) (mem_obj (sv5_1 hs) (by decide)) (sh_ltn (sv5_1 hs) (by decide) hn) rfl rfl rfl (Nat.le_of_ble_eq_true rfl) (by omega) (by omega) (fun v9 S9 hq => ?_)
      obtain ⟨rfl, rfl⟩ := hq
      refine ⟨fun h => ⟨h, rfl⟩, ?_⟩
      refine mm_iconst (v := 1) dX5_readTypeName_59 (by decide) ?_
      refine b_if hx (fun h13 hx => ?_) (fun h13 hx => ?_)
      · refine mm_icmp_eq 65 dX5_readTypeName_60 (by decide) (fun _ => ?_) (fun h => absurd h13 h)
        refine mm_aload_n dX5_readTypeName_65 rfl rfl ?_
        refine mm_dup dX5_readTypeName_66 rfl ?_
        refine s_getI (r := some a) (b := a) (ci := 5) (k := 6) in_X5 rfl (by decide) rfl kF_X5_29 dX5_readTypeName_67 rfl hs (by decide) hn (by decide) rfl ?_
        refine mm_iconst (v := 1) dX5_readTypeName_70 (by decide) ?_
        refine mm_iadd dX5_readTypeName_71 ?_
        refine s_putI (v := (sI σ a 6) + 1) (r := some a) (b := a) (ci := 5) (k := 6) in_X5 rfl (by decide) rfl tyX5_ok nmX5 rfl kF_X5_29 dX5_readTypeName_72 (mm_fit_int _) rfl hs (by decide) hn (by decide) rfl hx (fun σ14 hx => ?_)
        refine mm_aload_n dX5_readTypeName_75 rfl rfl ?_
        refine mm_bipush (v := 46) dX5_readTypeName_76 (by decide) ?_
        obtain ⟨v16, σ17, hc15, hx⟩ := b2_some hx
        refine mm_callV3 (a := a) (ci := 5) wM_X5_takes kM_X5_76 wI_X5_takes wS_X5_takes dX5_readTypeName_78 (e_X5_takes hst hZ hn hs hc15) (mem_obj hs (by decide)) (sh_ltn hs (by decide) hn) rfl rfl rfl (Nat.le_of_ble_eq_true rfl) (by omega) (by omega) (fun v9 S9 hq => ?_)
        obtain ⟨rfl, rfl⟩ := hq
        refine ⟨fun h => ⟨h, rfl⟩, ?_⟩
        refine b_if hx (fun h18 hx => ?_) (fun h18 hx => ?_)
        · refine mm_if_ne 86 dX5_readTypeName_81 (by decide) (fun h => absurd h18 h) (fun _ => ?_)
          refine mm_iconst (v := 1) dX5_readTypeName_84 (by decide) ?_
          refine mm_iret dX5_readTypeName_85 rfl rfl ?_ (by omega) (by omega)
          obtain ⟨rfl, rfl⟩ := fin2 hx
          exact ⟨rfl, rfl⟩
        · refine mm_if_ne 86 dX5_readTypeName_81 (by decide) (fun _ => ?_) (fun h => absurd h h18)
          refine mm_iinc (v := v2_ + 1) [some (.ref a), none, some (.int (v2_ + 1))] dX5_readTypeName_86 rfl rfl (by decide) rfl ?_
          refine mm_goto 37 dX5_readTypeName_89 (by decide) ?_
          exact ih _ _ hx
      · refine mm_icmp_eq 65 dX5_readTypeName_60 (by decide) (fun h => absurd h h13) (fun _ => ?_)
        refine mm_iconst (v := 0) dX5_readTypeName_63 (by decide) ?_
        refine mm_iret dX5_readTypeName_64 rfl rfl ?_ (by omega) (by omega)
        obtain ⟨rfl, rfl⟩ := fin2 hx
        exact ⟨rfl, rfl⟩
    · refine mm_icmp_ge 92 dX5_readTypeName_45 (by decide) (fun _ => ?_) (fun h => absurd (Int32.not_lt.mp h10) h)
      refine mm_iconst (v := 0) dX5_readTypeName_92 (by decide) ?_
      refine mm_iret dX5_readTypeName_93 rfl rfl ?_ (by omega) (by omega)
      obtain ⟨rfl, rfl⟩ := fin2 hx
      exact ⟨rfl, rfl⟩
set_option maxHeartbeats 4000000 in
set_option maxRecDepth 100000 in
theorem e_X5_readTypeName_35 {g : mm_G} {l : Launch} (hst : l.stackTraces = false) {Z : Nat → Nat → Option Nat} (hZ : HZ Z) {n : Nat} (hn : 1186 ≤ n) {z : Bool} {d : Nat} {U : Nat} {a : Nat} (hs : sh a = 5) {σ : SG} {r : Int32} {σ' : SG} (hx : x_X5_readTypeName_35 U a σ = some (r, σ')) : mm_V g l RX5 "readTypeName" cX5_readTypeName 3 (some .boolean) [] (d + 2) 0 0 (mm_nt (fun v S' => v = some (.int r) ∧ S' = (mem Z σ', n, z))) 35 [some (.ref a), none, none] [] (mem Z σ, n, z) 0 0 := by
  unfold x_X5_readTypeName_35 at hx
  refine mm_iconst (v := 0) dX5_readTypeName_35 (by decide) ?_
  refine mm_istore_n [some (.ref a), none, some (.int 0)] dX5_readTypeName_36 (by decide) rfl ?_
  refine e_X5_readTypeName_L37 hst hZ hn hs _ _ _ hx
set_option maxHeartbeats 4000000 in
set_option maxRecDepth 100000 in
theorem e_X5_readTypeName {g : mm_G} {l : Launch} (hst : l.stackTraces = false) {Z : Nat → Nat → Option Nat} (hZ : HZ Z) {n : Nat} (hn : 1186 ≤ n) {z : Bool} {d : Nat} {U : Nat} {a : Nat} (hs : sh a = 5) {σ : SG} {r : Int32} {σ' : SG} (hx : x_X5_readTypeName U a σ = some (r, σ')) : mm_Cm g l yX5_readTypeName (.code yX5_readTypeName cX5_readTypeName 3 (some .boolean)) (d + 2) 0 0 [.ref a] (mem Z σ, n, z) (fun v S' => v = some (.int r) ∧ S' = (mem Z σ', n, z)) := by
  refine mm_Cm_of hst (by decide) (Nat.le_of_ble_eq_true rfl) ?_
  show mm_V g l RX5 "readTypeName" cX5_readTypeName 3 (some .boolean) [] (d + 2) 0 0 (mm_nt (fun v S' => v = some (.int r) ∧ S' = (mem Z σ', n, z))) 0 [some (.ref a), none, none] [] (mem Z σ, n, z) 0 0
  unfold x_X5_readTypeName at hx
  refine mm_aload_n dX5_readTypeName_0 rfl rfl ?_
  refine s_getS (q := a - 5) (r := some a) (b := a) (ci := 5) (k := 1) in_X5 rfl (by decide) rfl kF_X5_15 dX5_readTypeName_1 rfl hs (by decide) hn (by decide) rfl rfl ?_
  refine mm_aload_n dX5_readTypeName_4 rfl rfl ?_
  refine s_getI (r := some a) (b := a) (ci := 5) (k := 6) in_X5 rfl (by decide) rfl kF_X5_29 dX5_readTypeName_5 rfl hs (by decide) hn (by decide) rfl ?_
  obtain ⟨v2, hc1, hx⟩ := b1_some hx
  refine mm_callV3 (a := a - 5) (ci := 10) wM_X10_codeOf kM_X5_69 wI_X10_codeOf wS_X10_codeOf dX5_readTypeName_8 (e_X10_codeOf hst hZ hn (sv5_1 hs) hc1) (mem_obj (sv5_1 hs) (by decide)) (sh_ltn (sv5_1 hs) (by decide) hn) rfl rfl rfl (Nat.le_of_ble_eq_true rfl) (by omega) (by omega) (fun v9 S9 hq => ?_)
  obtain ⟨rfl, rfl⟩ := hq
  refine ⟨fun h => ⟨h, rfl⟩, ?_⟩
  refine mm_istore_n [some (.ref a), some (.int v2), none] dX5_readTypeName_11 (by decide) rfl ?_
  refine mm_aload_n dX5_readTypeName_12 rfl rfl ?_
  refine mm_bipush (v := 46) dX5_readTypeName_13 (by decide) ?_
  obtain ⟨v4, σ5, hc3, hx⟩ := b2_some hx
  refine mm_callV3 (a := a) (ci := 5) wM_X5_takes kM_X5_76 wI_X5_takes wS_X5_takes dX5_readTypeName_15 (e_X5_takes hst hZ hn hs hc3) (mem_obj hs (by decide)) (sh_ltn hs (by decide) hn) rfl rfl rfl (Nat.le_of_ble_eq_true rfl) (by omega) (by omega) (fun v9 S9 hq => ?_)
  obtain ⟨rfl, rfl⟩ := hq
  refine ⟨fun h => ⟨h, rfl⟩, ?_⟩
  refine b_if hx (fun h6 hx => ?_) (fun h6 hx => ?_)
  · refine mm_if_ne 35 dX5_readTypeName_18 (by decide) (fun h => absurd h6 h) (fun _ => ?_)
    refine mm_iload_n dX5_readTypeName_21 rfl ?_
    refine mm_bipush (v := 20) dX5_readTypeName_22 (by decide) ?_
    refine b_if hx (fun h7 hx => ?_) (fun h7 hx => ?_)
    · refine mm_icmp_lt 35 dX5_readTypeName_24 (by decide) (fun _ => ?_) (fun h => absurd h7 h)
      refine mm_fewer [some (.ref a), none, none] (few_ok (bs := [true, false, false]) rfl) ?_
      exact e_X5_readTypeName_35 hst hZ hn hs hx
    · refine mm_icmp_lt 35 dX5_readTypeName_24 (by decide) (fun h => absurd h h7) (fun _ => ?_)
      refine mm_iload_n dX5_readTypeName_27 rfl ?_
      refine mm_bipush (v := 23) dX5_readTypeName_28 (by decide) ?_
      refine b_if hx (fun h19 hx => ?_) (fun h19 hx => ?_)
      · refine mm_icmp_gt 35 dX5_readTypeName_30 (by decide) (fun _ => ?_) (fun h => absurd h19 h)
        refine mm_fewer [some (.ref a), none, none] (few_ok (bs := [true, false, false]) rfl) ?_
        exact e_X5_readTypeName_35 hst hZ hn hs hx
      · refine mm_icmp_gt 35 dX5_readTypeName_30 (by decide) (fun h => absurd h h19) (fun _ => ?_)
        refine mm_iconst (v := 0) dX5_readTypeName_33 (by decide) ?_
        refine mm_iret dX5_readTypeName_34 rfl rfl ?_ (by omega) (by omega)
        obtain ⟨rfl, rfl⟩ := fin2 hx
        exact ⟨rfl, rfl⟩
  · refine mm_if_ne 35 dX5_readTypeName_18 (by decide) (fun _ => ?_) (fun h => absurd h h6)
    refine mm_fewer [some (.ref a), none, none] (few_ok (bs := [true, false, false]) rfl) ?_
    exact e_X5_readTypeName_35 hst hZ hn hs hx
set_option maxHeartbeats 4000000 in
set_option maxRecDepth 100000 in
theorem e_X5_readPacked_89 {g : mm_G} {l : Launch} (hst : l.stackTraces = false) {Z : Nat → Nat → Option Nat} (hZ : HZ Z) {n : Nat} (hn : 1186 ≤ n) {z : Bool} {d : Nat} {a : Nat} (hs : sh a = 5) {σ : SG} {r : Int32} {σ' : SG} (hx : x_X5_readPacked_89 a σ = some (r, σ')) : mm_V g l RX5 "readPacked" cX5_readPacked 2 (some .boolean) [] (d + 2) 0 0 (mm_nt (fun v S' => v = some (.int r) ∧ S' = (mem Z σ', n, z))) 89 [some (.ref a), none] [] (mem Z σ, n, z) 0 0 := by
  unfold x_X5_readPacked_89 at hx
  refine mm_aload_n dX5_readPacked_89 rfl rfl ?_
  refine mm_bipush (v := 93) dX5_readPacked_90 (by decide) ?_
  obtain ⟨v36, σ37, hc35, hx⟩ := b2_some hx
  refine mm_callV3 (a := a) (ci := 5) wM_X5_takes kM_X5_76 wI_X5_takes wS_X5_takes dX5_readPacked_92 (e_X5_takes hst hZ hn hs hc35) (mem_obj hs (by decide)) (sh_ltn hs (by decide) hn) rfl rfl rfl (Nat.le_of_ble_eq_true rfl) (by omega) (by omega) (fun v9 S9 hq => ?_)
  obtain ⟨rfl, rfl⟩ := hq
  refine ⟨fun h => ⟨h, rfl⟩, ?_⟩
  refine b_if hx (fun h38 hx => ?_) (fun h38 hx => ?_)
  · refine mm_if_eq 102 dX5_readPacked_95 (by decide) (fun _ => ?_) (fun h => absurd h38 h)
    refine mm_iconst (v := 0) dX5_readPacked_102 (by decide) ?_
    refine mm_iret dX5_readPacked_103 rfl rfl ?_ (by omega) (by omega)
    obtain ⟨rfl, rfl⟩ := fin2 hx
    exact ⟨rfl, rfl⟩
  · refine mm_if_eq 102 dX5_readPacked_95 (by decide) (fun h => absurd h h38) (fun _ => ?_)
    refine mm_iconst (v := 1) dX5_readPacked_98 (by decide) ?_
    refine mm_goto 103 dX5_readPacked_99 (by decide) ?_
    refine mm_iret dX5_readPacked_103 rfl rfl ?_ (by omega) (by omega)
    obtain ⟨rfl, rfl⟩ := fin2 hx
    exact ⟨rfl, rfl⟩
set_option maxHeartbeats 4000000 in
set_option maxRecDepth 100000 in
theorem e_X5_readPacked_68 {g : mm_G} {l : Launch} (hst : l.stackTraces = false) {Z : Nat → Nat → Option Nat} (hZ : HZ Z) {n : Nat} (hn : 1186 ≤ n) {z : Bool} {d : Nat} {a : Nat} (hs : sh a = 5) {s0_ : Int32} {s1_ : Option Nat} {σ : SG} {r : Int32} {σ' : SG} (hx : x_X5_readPacked_68 a s0_ s1_ σ = some (r, σ')) : mm_V g l RX5 "readPacked" cX5_readPacked 2 (some .boolean) [] (d + 2) 0 0 (mm_nt (fun v S' => v = some (.int r) ∧ S' = (mem Z σ', n, z))) 68 [some (.ref a), none] [.int s0_, va_rf s1_] (mem Z σ, n, z) 0 0 := by
  unfold x_X5_readPacked_68 at hx
  obtain ⟨q22, hr23, hs24, hx⟩ := ck_some hx
  obtain ⟨hz25, hx⟩ := zb_some hx
  refine s_putIN (v := s0_) (r := s1_) (b := q22) (ci := 3) (k := 13) in_X3 rfl (by decide) rfl tyX3_ok nmX3 rfl kF_X5_146 dX5_readPacked_68 (zb_fit hz25) hr23 hs24 (by decide) hn (by decide) rfl hx (fun σ26 hx => ?_)
  refine mm_aload_n dX5_readPacked_71 rfl rfl ?_
  refine mm_bipush (v := 26) dX5_readPacked_72 (by decide) ?_
  obtain ⟨v28, σ29, hc27, hx⟩ := b2_some hx
  refine mm_callV3 (a := a) (ci := 5) wM_X5_takesWord kM_X5_72 wI_X5_takesWord wS_X5_takesWord dX5_readPacked_74 (e_X5_takesWord hst hZ hn hs hc27) (mem_obj hs (by decide)) (sh_ltn hs (by decide) hn) rfl rfl rfl (Nat.le_of_ble_eq_true rfl) (by omega) (by omega) (fun v9 S9 hq => ?_)
  obtain ⟨rfl, rfl⟩ := hq
  refine ⟨fun h => ⟨h, rfl⟩, ?_⟩
  refine b_if hx (fun h30 hx => ?_) (fun h30 hx => ?_)
  · refine mm_if_ne 89 dX5_readPacked_77 (by decide) (fun h => absurd h30 h) (fun _ => ?_)
    refine mm_aload_n dX5_readPacked_80 rfl rfl ?_
    refine mm_bipush (v := 27) dX5_readPacked_81 (by decide) ?_
    obtain ⟨v32, σ33, hc31, hx⟩ := b2_some hx
    refine mm_callV3 (a := a) (ci := 5) wM_X5_takesWord kM_X5_72 wI_X5_takesWord wS_X5_takesWord dX5_readPacked_83 (e_X5_takesWord hst hZ hn hs hc31) (mem_obj hs (by decide)) (sh_ltn hs (by decide) hn) rfl rfl rfl (Nat.le_of_ble_eq_true rfl) (by omega) (by omega) (fun v9 S9 hq => ?_)
    obtain ⟨rfl, rfl⟩ := hq
    refine ⟨fun h => ⟨h, rfl⟩, ?_⟩
    refine b_if hx (fun h34 hx => ?_) (fun h34 hx => ?_)
    · refine mm_if_eq 102 dX5_readPacked_86 (by decide) (fun _ => ?_) (fun h => absurd h34 h)
      refine mm_iconst (v := 0) dX5_readPacked_102 (by decide) ?_
      refine mm_iret dX5_readPacked_103 rfl rfl ?_ (by omega) (by omega)
      obtain ⟨rfl, rfl⟩ := fin2 hx
      exact ⟨rfl, rfl⟩
    · refine mm_if_eq 102 dX5_readPacked_86 (by decide) (fun h => absurd h h34) (fun _ => ?_)
      exact e_X5_readPacked_89 hst hZ hn hs hx
  · refine mm_if_ne 89 dX5_readPacked_77 (by decide) (fun _ => ?_) (fun h => absurd h h30)
    exact e_X5_readPacked_89 hst hZ hn hs hx
set_option maxHeartbeats 4000000 in
set_option maxRecDepth 100000 in
theorem e_X5_readPacked {g : mm_G} {l : Launch} (hst : l.stackTraces = false) {Z : Nat → Nat → Option Nat} (hZ : HZ Z) {n : Nat} (hn : 1186 ≤ n) {z : Bool} {d : Nat} {a : Nat} (hs : sh a = 5) {p0 : Option Nat} {σ : SG} {r : Int32} {σ' : SG} (hx : x_X5_readPacked a p0 σ = some (r, σ')) : mm_Cm g l yX5_readPacked (.code yX5_readPacked cX5_readPacked 2 (some .boolean)) (d + 2) 0 0 [.ref a, va_rf p0] (mem Z σ, n, z) (fun v S' => v = some (.int r) ∧ S' = (mem Z σ', n, z)) := by
  refine mm_Cm_of hst (by decide) (by cases p0 <;>  exact Nat.le_of_ble_eq_true rfl) ?_
  rw [show mm_ent [.ref a, va_rf p0] 2 = [some (.ref a), some (va_rf p0)] from by cases p0 <;>  rfl]
  show mm_V g l RX5 "readPacked" cX5_readPacked 2 (some .boolean) [] (d + 2) 0 0 (mm_nt (fun v S' => v = some (.int r) ∧ S' = (mem Z σ', n, z))) 0 [some (.ref a), some (va_rf p0)] [] (mem Z σ, n, z) 0 0
  unfold x_X5_readPacked at hx
  refine mm_aload_n dX5_readPacked_0 rfl rfl ?_
  refine mm_bipush (v := 91) dX5_readPacked_1 (by decide) ?_
  obtain ⟨v2, σ3, hc1, hx⟩ := b2_some hx
  refine mm_callV3 (a := a) (ci := 5) wM_X5_takes kM_X5_76 wI_X5_takes wS_X5_takes dX5_readPacked_3 (e_X5_takes hst hZ hn hs hc1) (mem_obj hs (by decide)) (sh_ltn hs (by decide) hn) rfl rfl rfl (Nat.le_of_ble_eq_true rfl) (by omega) (by omega) (fun v9 S9 hq => ?_)
  obtain ⟨rfl, rfl⟩ := hq
  refine ⟨fun h => ⟨h, rfl⟩, ?_⟩
  refine b_if hx (fun h4 hx => ?_) (fun h4 hx => ?_)
  · refine mm_if_ne 11 dX5_readPacked_6 (by decide) (fun h => absurd h4 h) (fun _ => ?_)
    refine mm_iconst (v := 1) dX5_readPacked_9 (by decide) ?_
    refine mm_iret dX5_readPacked_10 rfl rfl ?_ (by omega) (by omega)
    obtain ⟨rfl, rfl⟩ := fin2 hx
    exact ⟨rfl, rfl⟩
  · refine mm_if_ne 11 dX5_readPacked_6 (by decide) (fun _ => ?_) (fun h => absurd h h4)
    refine mm_aload_n dX5_readPacked_11 rfl (isr_rf _) ?_
    refine mm_aload_n dX5_readPacked_12 rfl rfl ?_
    refine s_getS (q := a - 5) (r := some a) (b := a) (ci := 5) (k := 1) in_X5 rfl (by decide) rfl kF_X5_15 dX5_readPacked_13 rfl hs (by decide) hn (by decide) rfl rfl ?_
    refine mm_aload_n dX5_readPacked_16 rfl rfl ?_
    refine s_getI (r := some a) (b := a) (ci := 5) (k := 6) in_X5 rfl (by decide) rfl kF_X5_29 dX5_readPacked_17 rfl hs (by decide) hn (by decide) rfl ?_
    obtain ⟨v6, hc5, hx⟩ := b1_some hx
    refine mm_callV3 (a := a - 5) (ci := 10) wM_X10_startOf kM_X5_58 wI_X10_startOf wS_X10_startOf dX5_readPacked_20 (e_X10_startOf hst hZ hn (sv5_1 hs) hc5) (mem_obj (sv5_1 hs) (by decide)) (sh_ltn (sv5_1 hs) (by decide) hn) rfl rfl rfl (show (([va_rf p0] : List Value).map fun v => v.category).sum ≤ 8 by simp only [List.map_cons, List.map_nil, List.sum_cons, List.sum_nil, cat_rf]; exact Nat.le_of_ble_eq_true rfl) (by omega) (by omega) (fun v9 S9 hq => ?_)
    obtain ⟨rfl, rfl⟩ := hq
    refine ⟨fun h => ⟨h, rfl⟩, ?_⟩
    obtain ⟨q7, hr8, hs9, hx⟩ := ck_some hx
    refine s_putIN (v := v6) (r := p0) (b := q7) (ci := 3) (k := 14) in_X3 rfl (by decide) rfl tyX3_ok nmX3 rfl kF_X5_143 dX5_readPacked_23 (mm_fit_int _) hr8 hs9 (by decide) hn (by decide) rfl hx (fun σ10 hx => ?_)
    refine mm_aload_n dX5_readPacked_26 rfl rfl ?_
    refine mm_bipush (v := 25) dX5_readPacked_27 (by decide) ?_
    obtain ⟨v12, σ13, hc11, hx⟩ := b2_some hx
    refine mm_callV3 (a := a) (ci := 5) wM_X5_takesWord kM_X5_72 wI_X5_takesWord wS_X5_takesWord dX5_readPacked_29 (e_X5_takesWord hst hZ hn hs hc11) (mem_obj hs (by decide)) (sh_ltn hs (by decide) hn) rfl rfl rfl (Nat.le_of_ble_eq_true rfl) (by omega) (by omega) (fun v9 S9 hq => ?_)
    obtain ⟨rfl, rfl⟩ := hq
    refine ⟨fun h => ⟨h, rfl⟩, ?_⟩
    refine b_if hx (fun h14 hx => ?_) (fun h14 hx => ?_)
    · refine mm_if_eq 44 dX5_readPacked_32 (by decide) (fun _ => ?_) (fun h => absurd h14 h)
      refine mm_iconst (v := 0) dX5_readPacked_44 (by decide) ?_
      refine mm_iret dX5_readPacked_45 rfl rfl ?_ (by omega) (by omega)
      obtain ⟨rfl, rfl⟩ := fin2 hx
      exact ⟨rfl, rfl⟩
    · refine mm_if_eq 44 dX5_readPacked_32 (by decide) (fun h => absurd h h14) (fun _ => ?_)
      refine mm_aload_n dX5_readPacked_35 rfl rfl ?_
      refine mm_bipush (v := 61) dX5_readPacked_36 (by decide) ?_
      obtain ⟨v16, σ17, hc15, hx⟩ := b2_some hx
      refine mm_callV3 (a := a) (ci := 5) wM_X5_takes kM_X5_76 wI_X5_takes wS_X5_takes dX5_readPacked_38 (e_X5_takes hst hZ hn hs hc15) (mem_obj hs (by decide)) (sh_ltn hs (by decide) hn) rfl rfl rfl (Nat.le_of_ble_eq_true rfl) (by omega) (by omega) (fun v9 S9 hq => ?_)
      obtain ⟨rfl, rfl⟩ := hq
      refine ⟨fun h => ⟨h, rfl⟩, ?_⟩
      refine b_if hx (fun h18 hx => ?_) (fun h18 hx => ?_)
      · refine mm_if_ne 46 dX5_readPacked_41 (by decide) (fun h => absurd h18 h) (fun _ => ?_)
        refine mm_iconst (v := 0) dX5_readPacked_44 (by decide) ?_
        refine mm_iret dX5_readPacked_45 rfl rfl ?_ (by omega) (by omega)
        obtain ⟨rfl, rfl⟩ := fin2 hx
        exact ⟨rfl, rfl⟩
      · refine mm_if_ne 46 dX5_readPacked_41 (by decide) (fun _ => ?_) (fun h => absurd h h18)
        refine mm_aload_n dX5_readPacked_46 rfl (isr_rf _) ?_
        refine mm_aload_n dX5_readPacked_47 rfl rfl ?_
        refine s_getS (q := a - 5) (r := some a) (b := a) (ci := 5) (k := 1) in_X5 rfl (by decide) rfl kF_X5_15 dX5_readPacked_48 rfl hs (by decide) hn (by decide) rfl rfl ?_
        refine mm_aload_n dX5_readPacked_51 rfl rfl ?_
        refine s_getI (r := some a) (b := a) (ci := 5) (k := 6) in_X5 rfl (by decide) rfl kF_X5_29 dX5_readPacked_52 rfl hs (by decide) hn (by decide) rfl ?_
        obtain ⟨v20, hc19, hx⟩ := b1_some hx
        refine mm_callV3 (a := a - 5) (ci := 10) wM_X10_codeOf kM_X5_69 wI_X10_codeOf wS_X10_codeOf dX5_readPacked_55 (e_X10_codeOf hst hZ hn (sv5_1 hs) hc19) (mem_obj (sv5_1 hs) (by decide)) (sh_ltn (sv5_1 hs) (by decide) hn) rfl rfl rfl (show (([va_rf p0] : List Value).map fun v => v.category).sum ≤ 8 by simp only [List.map_cons, List.map_nil, List.sum_cons, List.sum_nil, cat_rf]; exact Nat.le_of_ble_eq_true rfl) (by omega) (by omega) (fun v9 S9 hq => ?_)
        obtain ⟨rfl, rfl⟩ := hq
        refine ⟨fun h => ⟨h, rfl⟩, ?_⟩
        refine mm_bipush (v := 27) dX5_readPacked_58 (by decide) ?_
        refine b_if hx (fun h21 hx => ?_) (fun h21 hx => ?_)
        · refine mm_icmp_ne 67 dX5_readPacked_60 (by decide) (fun h => absurd h21 h) (fun _ => ?_)
          refine mm_iconst (v := 1) dX5_readPacked_63 (by decide) ?_
          refine mm_goto 68 dX5_readPacked_64 (by decide) ?_
          refine mm_fewer [some (.ref a), none] (few_ok (bs := [true, false]) rfl) ?_
          exact e_X5_readPacked_68 hst hZ hn hs hx
        · refine mm_icmp_ne 67 dX5_readPacked_60 (by decide) (fun _ => ?_) (fun h => absurd h h21)
          refine mm_iconst (v := 0) dX5_readPacked_67 (by decide) ?_
          refine mm_fewer [some (.ref a), none] (few_ok (bs := [true, false]) rfl) ?_
          exact e_X5_readPacked_68 hst hZ hn hs hx
set_option maxHeartbeats 4000000 in
set_option maxRecDepth 100000 in
theorem e_X5_readField_116 {g : mm_G} {l : Launch} (hst : l.stackTraces = false) {Z : Nat → Nat → Option Nat} (hZ : HZ Z) {n : Nat} (hn : 1186 ≤ n) {z : Bool} {d : Nat} {U : Nat} {a : Nat} (hs : sh a = 5) {v2_ : Int32} {v5_ : Option Nat} {s0_ : Int32} {s1_ : Option Nat} {σ : SG} {r : Int32} {σ' : SG} (hx : x_X5_readField_116 U a v2_ v5_ s0_ s1_ σ = some (r, σ')) : mm_V g l RX5 "readField" cX5_readField 6 (some .boolean) [] (d + 3) 0 0 (mm_nt (fun v S' => v = some (.int r) ∧ S' = (mem Z σ', n, z))) 116 [some (.ref a), none, some (.int v2_), none, none, some (va_rf v5_)] [.int s0_, va_rf s1_] (mem Z σ, n, z) 0 0 := by
  unfold x_X5_readField_116 at hx
  obtain ⟨q24, hr25, hs26, hx⟩ := ck_some hx
  refine s_putIN (v := s0_) (r := s1_) (b := q24) (ci := 3) (k := 8) in_X3 rfl (by decide) rfl tyX3_ok nmX3 rfl kF_X5_126 dX5_readField_116 (mm_fit_int _) hr25 hs26 (by decide) hn (by decide) rfl hx (fun σ27 hx => ?_)
  refine mm_aload dX5_readField_119 rfl (isr_rf _) ?_
  refine mm_iload_n dX5_readField_121 rfl ?_
  obtain ⟨q28, hr29, hs30, hx⟩ := ck_some hx
  refine s_putIN (v := v2_) (r := v5_) (b := q28) (ci := 3) (k := 9) in_X3 rfl (by decide) rfl tyX3_ok nmX3 rfl kF_X5_129 dX5_readField_122 (mm_fit_int _) hr29 hs30 (by decide) hn (by decide) rfl hx (fun σ31 hx => ?_)
  refine mm_aload_n dX5_readField_125 rfl rfl ?_
  refine mm_bipush (v := 61) dX5_readField_126 (by decide) ?_
  obtain ⟨v33, σ34, hc32, hx⟩ := b2_some hx
  refine mm_callV3 (a := a) (ci := 5) wM_X5_takes kM_X5_76 wI_X5_takes wS_X5_takes dX5_readField_128 (e_X5_takes hst hZ hn hs hc32) (mem_obj hs (by decide)) (sh_ltn hs (by decide) hn) rfl rfl rfl (Nat.le_of_ble_eq_true rfl) (by omega) (by omega) (fun v9 S9 hq => ?_)
  obtain ⟨rfl, rfl⟩ := hq
  refine ⟨fun h => ⟨h, rfl⟩, ?_⟩
  refine b_if hx (fun h35 hx => ?_) (fun h35 hx => ?_)
  · refine mm_if_eq 166 dX5_readField_131 (by decide) (fun _ => ?_) (fun h => absurd h35 h)
    refine mm_iconst (v := 0) dX5_readField_166 (by decide) ?_
    refine mm_iret dX5_readField_167 rfl rfl ?_ (by omega) (by omega)
    obtain ⟨rfl, rfl⟩ := fin2 hx
    exact ⟨rfl, rfl⟩
  · refine mm_if_eq 166 dX5_readField_131 (by decide) (fun h => absurd h h35) (fun _ => ?_)
    refine mm_aload_n dX5_readField_134 rfl rfl ?_
    refine mm_aload dX5_readField_135 rfl (isr_rf _) ?_
    refine mm_iconst (v := 0) dX5_readField_137 (by decide) ?_
    obtain ⟨v37, σ38, hc36, hx⟩ := b2_some hx
    refine mm_callV3 (a := a) (ci := 5) wM_X5_readNumber kM_X5_116 wI_X5_readNumber wS_X5_readNumber dX5_readField_138 (e_X5_readNumber hst hZ hn hs hc36) (mem_obj hs (by decide)) (sh_ltn hs (by decide) hn) rfl rfl rfl (Nat.le_of_ble_eq_true rfl) (by omega) (by omega) (fun v9 S9 hq => ?_)
    obtain ⟨rfl, rfl⟩ := hq
    refine ⟨fun h => ⟨h, rfl⟩, ?_⟩
    refine b_if hx (fun h39 hx => ?_) (fun h39 hx => ?_)
    · refine mm_if_eq 166 dX5_readField_141 (by decide) (fun _ => ?_) (fun h => absurd h39 h)
      refine mm_iconst (v := 0) dX5_readField_166 (by decide) ?_
      refine mm_iret dX5_readField_167 rfl rfl ?_ (by omega) (by omega)
      obtain ⟨rfl, rfl⟩ := fin2 hx
      exact ⟨rfl, rfl⟩
    · refine mm_if_eq 166 dX5_readField_141 (by decide) (fun h => absurd h h39) (fun _ => ?_)
      refine mm_aload_n dX5_readField_144 rfl rfl ?_
      refine mm_aload dX5_readField_145 rfl (isr_rf _) ?_
      obtain ⟨v41, σ42, hc40, hx⟩ := b2_some hx
      refine mm_callV3 (a := a) (ci := 5) wM_X5_readPacked kM_X5_132 wI_X5_readPacked wS_X5_readPacked dX5_readField_147 (e_X5_readPacked hst hZ hn hs hc40) (mem_obj hs (by decide)) (sh_ltn hs (by decide) hn) rfl rfl rfl (Nat.le_of_ble_eq_true rfl) (by omega) (by omega) (fun v9 S9 hq => ?_)
      obtain ⟨rfl, rfl⟩ := hq
      refine ⟨fun h => ⟨h, rfl⟩, ?_⟩
      refine b_if hx (fun h43 hx => ?_) (fun h43 hx => ?_)
      · refine mm_if_eq 166 dX5_readField_150 (by decide) (fun _ => ?_) (fun h => absurd h43 h)
        refine mm_iconst (v := 0) dX5_readField_166 (by decide) ?_
        refine mm_iret dX5_readField_167 rfl rfl ?_ (by omega) (by omega)
        obtain ⟨rfl, rfl⟩ := fin2 hx
        exact ⟨rfl, rfl⟩
      · refine mm_if_eq 166 dX5_readField_150 (by decide) (fun h => absurd h h43) (fun _ => ?_)
        refine mm_aload_n dX5_readField_153 rfl rfl ?_
        refine mm_bipush (v := 59) dX5_readField_154 (by decide) ?_
        obtain ⟨v45, σ46, hc44, hx⟩ := b2_some hx
        refine mm_callV3 (a := a) (ci := 5) wM_X5_takes kM_X5_76 wI_X5_takes wS_X5_takes dX5_readField_156 (e_X5_takes hst hZ hn hs hc44) (mem_obj hs (by decide)) (sh_ltn hs (by decide) hn) rfl rfl rfl (Nat.le_of_ble_eq_true rfl) (by omega) (by omega) (fun v9 S9 hq => ?_)
        obtain ⟨rfl, rfl⟩ := hq
        refine ⟨fun h => ⟨h, rfl⟩, ?_⟩
        refine b_if hx (fun h47 hx => ?_) (fun h47 hx => ?_)
        · refine mm_if_eq 166 dX5_readField_159 (by decide) (fun _ => ?_) (fun h => absurd h47 h)
          refine mm_iconst (v := 0) dX5_readField_166 (by decide) ?_
          refine mm_iret dX5_readField_167 rfl rfl ?_ (by omega) (by omega)
          obtain ⟨rfl, rfl⟩ := fin2 hx
          exact ⟨rfl, rfl⟩
        · refine mm_if_eq 166 dX5_readField_159 (by decide) (fun h => absurd h h47) (fun _ => ?_)
          refine mm_iconst (v := 1) dX5_readField_162 (by decide) ?_
          refine mm_goto 167 dX5_readField_163 (by decide) ?_
          refine mm_iret dX5_readField_167 rfl rfl ?_ (by omega) (by omega)
          obtain ⟨rfl, rfl⟩ := fin2 hx
          exact ⟨rfl, rfl⟩
set_option maxHeartbeats 4000000 in
set_option maxRecDepth 100000 in
theorem e_X5_readField_83 {g : mm_G} {l : Launch} (hst : l.stackTraces = false) {Z : Nat → Nat → Option Nat} (hZ : HZ Z) {n : Nat} (hn : 1186 ≤ n) {z : Bool} {d : Nat} {U : Nat} {a : Nat} (hs : sh a = 5) {v1_ : Int32} {v2_ : Int32} {v3_ : Int32} {v4_ : Int32} {σ : SG} {r : Int32} {σ' : SG} (hx : x_X5_readField_83 U a v1_ v2_ v3_ v4_ σ = some (r, σ')) : mm_V g l RX5 "readField" cX5_readField 6 (some .boolean) [] (d + 3) 0 0 (mm_nt (fun v S' => v = some (.int r) ∧ S' = (mem Z σ', n, z))) 83 [some (.ref a), some (.int v1_), some (.int v2_), some (.int v3_), some (.int v4_), none] [] (mem Z σ, n, z) 0 0 := by
  unfold x_X5_readField_83 at hx
  refine mm_aload_n dX5_readField_83 rfl rfl ?_
  refine mm_iconst (v := 2) dX5_readField_84 (by decide) ?_
  obtain ⟨v15, σ16, hc14, hx⟩ := b2_some hx
  refine mm_callV3 (a := a) (ci := 5) wM_X5_readName kM_X5_99 wI_X5_readName wS_X5_readName dX5_readField_85 (e_X5_readName hst hZ hn hs hc14) (mem_obj hs (by decide)) (sh_ltn hs (by decide) hn) rfl rfl rfl (Nat.le_of_ble_eq_true rfl) (by omega) (by omega) (fun v9 S9 hq => ?_)
  obtain ⟨rfl, rfl⟩ := hq
  refine ⟨fun h => ⟨h, rfl⟩, ?_⟩
  refine mm_astore [some (.ref a), some (.int v1_), some (.int v2_), some (.int v3_), some (.int v4_), some (va_rf v15)] dX5_readField_88 (by decide) (isr_rf _) rfl ?_
  refine mm_aload dX5_readField_90 rfl (isr_rf _) ?_
  refine b_if hx (fun h17 hx => ?_) (fun h17 hx => ?_)
  · refine mm_ifnonnull (r := v15) 97 dX5_readField_92 (by decide) (fun h => absurd h17 h) (fun _ => ?_)
    refine mm_iconst (v := 0) dX5_readField_95 (by decide) ?_
    refine mm_iret dX5_readField_96 rfl rfl ?_ (by omega) (by omega)
    obtain ⟨rfl, rfl⟩ := fin2 hx
    exact ⟨rfl, rfl⟩
  · refine mm_ifnonnull (r := v15) 97 dX5_readField_92 (by decide) (fun _ => ?_) (fun h => absurd h h17)
    refine mm_aload dX5_readField_97 rfl (isr_rf _) ?_
    refine mm_iload_n dX5_readField_99 rfl ?_
    obtain ⟨q18, hr19, hs20, hx⟩ := ck_some hx
    obtain ⟨hz21, hx⟩ := zb_some hx
    refine s_putIN (v := v1_) (r := v15) (b := q18) (ci := 3) (k := 11) in_X3 rfl (by decide) rfl tyX3_ok nmX3 rfl kF_X5_123 dX5_readField_100 (zb_fit hz21) hr19 hs20 (by decide) hn (by decide) rfl hx (fun σ22 hx => ?_)
    refine mm_aload dX5_readField_103 rfl (isr_rf _) ?_
    refine mm_iload dX5_readField_105 rfl ?_
    refine b_if hx (fun h23 hx => ?_) (fun h23 hx => ?_)
    · refine mm_if_eq 114 dX5_readField_107 (by decide) (fun _ => ?_) (fun h => absurd h23 h)
      refine mm_bipush (v := 13) dX5_readField_114 (by decide) ?_
      refine mm_fewer [some (.ref a), none, some (.int v2_), none, none, some (va_rf v15)] (few_ok (bs := [true, false, true, false, false, true]) rfl) ?_
      exact e_X5_readField_116 hst hZ hn hs hx
    · refine mm_if_eq 114 dX5_readField_107 (by decide) (fun h => absurd h h23) (fun _ => ?_)
      refine mm_iload_n dX5_readField_110 rfl ?_
      refine mm_goto 116 dX5_readField_111 (by decide) ?_
      refine mm_fewer [some (.ref a), none, some (.int v2_), none, none, some (va_rf v15)] (few_ok (bs := [true, false, true, false, false, true]) rfl) ?_
      exact e_X5_readField_116 hst hZ hn hs hx
set_option maxHeartbeats 4000000 in
set_option maxRecDepth 100000 in
theorem e_X5_readField_54 {g : mm_G} {l : Launch} (hst : l.stackTraces = false) {Z : Nat → Nat → Option Nat} (hZ : HZ Z) {n : Nat} (hn : 1186 ≤ n) {z : Bool} {d : Nat} {U : Nat} {a : Nat} (hs : sh a = 5) {v1_ : Int32} {v2_ : Int32} {v3_ : Int32} {s0_ : Int32} {σ : SG} {r : Int32} {σ' : SG} (hx : x_X5_readField_54 U a v1_ v2_ v3_ s0_ σ = some (r, σ')) : mm_V g l RX5 "readField" cX5_readField 6 (some .boolean) [] (d + 3) 0 0 (mm_nt (fun v S' => v = some (.int r) ∧ S' = (mem Z σ', n, z))) 54 [some (.ref a), some (.int v1_), some (.int v2_), some (.int v3_), none, none] [.int s0_] (mem Z σ, n, z) 0 0 := by
  unfold x_X5_readField_54 at hx
  refine mm_istore [some (.ref a), some (.int v1_), some (.int v2_), some (.int v3_), some (.int s0_), none] dX5_readField_54 (by decide) rfl ?_
  refine mm_iload dX5_readField_56 rfl ?_
  refine b_if hx (fun h9 hx => ?_) (fun h9 hx => ?_)
  · refine mm_if_eq 74 dX5_readField_58 (by decide) (fun _ => ?_) (fun h => absurd h9 h)
    refine mm_aload_n dX5_readField_74 rfl rfl ?_
    obtain ⟨v11, σ12, hc10, hx⟩ := b2_some hx
    refine mm_callV3 (a := a) (ci := 5) wM_X5_readTypeName kM_X5_120 wI_X5_readTypeName wS_X5_readTypeName dX5_readField_75 (e_X5_readTypeName hst hZ hn hs hc10) (mem_obj hs (by decide)) (sh_ltn hs (by decide) hn) rfl rfl rfl (Nat.le_of_ble_eq_true rfl) (by omega) (by omega) (fun v9 S9 hq => ?_)
    obtain ⟨rfl, rfl⟩ := hq
    refine ⟨fun h => ⟨h, rfl⟩, ?_⟩
    refine b_if hx (fun h13 hx => ?_) (fun h13 hx => ?_)
    · refine mm_if_ne 83 dX5_readField_78 (by decide) (fun h => absurd h13 h) (fun _ => ?_)
      refine mm_iconst (v := 0) dX5_readField_81 (by decide) ?_
      refine mm_iret dX5_readField_82 rfl rfl ?_ (by omega) (by omega)
      obtain ⟨rfl, rfl⟩ := fin2 hx
      exact ⟨rfl, rfl⟩
    · refine mm_if_ne 83 dX5_readField_78 (by decide) (fun _ => ?_) (fun h => absurd h h13)
      exact e_X5_readField_83 hst hZ hn hs hx
  · refine mm_if_eq 74 dX5_readField_58 (by decide) (fun h => absurd h h9) (fun _ => ?_)
    refine mm_aload_n dX5_readField_61 rfl rfl ?_
    refine mm_dup dX5_readField_62 rfl ?_
    refine s_getI (r := some a) (b := a) (ci := 5) (k := 6) in_X5 rfl (by decide) rfl kF_X5_29 dX5_readField_63 rfl hs (by decide) hn (by decide) rfl ?_
    refine mm_iconst (v := 1) dX5_readField_66 (by decide) ?_
    refine mm_iadd dX5_readField_67 ?_
    refine s_putI (v := (sI σ a 6) + 1) (r := some a) (b := a) (ci := 5) (k := 6) in_X5 rfl (by decide) rfl tyX5_ok nmX5 rfl kF_X5_29 dX5_readField_68 (mm_fit_int _) rfl hs (by decide) hn (by decide) rfl hx (fun σ48 hx => ?_)
    refine mm_goto 83 dX5_readField_71 (by decide) ?_
    exact e_X5_readField_83 hst hZ hn hs hx
set_option maxHeartbeats 4000000 in
set_option maxRecDepth 100000 in
theorem e_X5_readField_53 {g : mm_G} {l : Launch} (hst : l.stackTraces = false) {Z : Nat → Nat → Option Nat} (hZ : HZ Z) {n : Nat} (hn : 1186 ≤ n) {z : Bool} {d : Nat} {U : Nat} {a : Nat} (hs : sh a = 5) {v1_ : Int32} {v2_ : Int32} {v3_ : Int32} {σ : SG} {r : Int32} {σ' : SG} (hx : x_X5_readField_53 U a v1_ v2_ v3_ σ = some (r, σ')) : mm_V g l RX5 "readField" cX5_readField 6 (some .boolean) [] (d + 3) 0 0 (mm_nt (fun v S' => v = some (.int r) ∧ S' = (mem Z σ', n, z))) 53 [some (.ref a), some (.int v1_), some (.int v2_), some (.int v3_), none, none] [] (mem Z σ, n, z) 0 0 := by
  unfold x_X5_readField_53 at hx
  refine mm_iconst (v := 0) dX5_readField_53 (by decide) ?_
  exact e_X5_readField_54 hst hZ hn hs hx
set_option maxHeartbeats 4000000 in
set_option maxRecDepth 100000 in
theorem e_X5_readField_21 {g : mm_G} {l : Launch} (hst : l.stackTraces = false) {Z : Nat → Nat → Option Nat} (hZ : HZ Z) {n : Nat} (hn : 1186 ≤ n) {z : Bool} {d : Nat} {U : Nat} {a : Nat} (hs : sh a = 5) {s0_ : Int32} {σ : SG} {r : Int32} {σ' : SG} (hx : x_X5_readField_21 U a s0_ σ = some (r, σ')) : mm_V g l RX5 "readField" cX5_readField 6 (some .boolean) [] (d + 3) 0 0 (mm_nt (fun v S' => v = some (.int r) ∧ S' = (mem Z σ', n, z))) 21 [some (.ref a), none, none, none, none, none] [.int s0_] (mem Z σ, n, z) 0 0 := by
  unfold x_X5_readField_21 at hx
  refine mm_istore_n [some (.ref a), some (.int s0_), none, none, none, none] dX5_readField_21 (by decide) rfl ?_
  refine mm_aload_n dX5_readField_22 rfl rfl ?_
  refine s_getI (r := some a) (b := a) (ci := 5) (k := 6) in_X5 rfl (by decide) rfl kF_X5_29 dX5_readField_23 rfl hs (by decide) hn (by decide) rfl ?_
  refine mm_istore_n [some (.ref a), some (.int s0_), some (.int (sI σ a 6)), none, none, none] dX5_readField_26 (by decide) rfl ?_
  refine mm_aload_n dX5_readField_27 rfl rfl ?_
  refine s_getS (q := a - 5) (r := some a) (b := a) (ci := 5) (k := 1) in_X5 rfl (by decide) rfl kF_X5_15 dX5_readField_28 rfl hs (by decide) hn (by decide) rfl rfl ?_
  refine mm_aload_n dX5_readField_31 rfl rfl ?_
  refine s_getI (r := some a) (b := a) (ci := 5) (k := 6) in_X5 rfl (by decide) rfl kF_X5_29 dX5_readField_32 rfl hs (by decide) hn (by decide) rfl ?_
  obtain ⟨v7, hc6, hx⟩ := b1_some hx
  refine mm_callV3 (a := a - 5) (ci := 10) wM_X10_codeOf kM_X5_69 wI_X10_codeOf wS_X10_codeOf dX5_readField_35 (e_X10_codeOf hst hZ hn (sv5_1 hs) hc6) (mem_obj (sv5_1 hs) (by decide)) (sh_ltn (sv5_1 hs) (by decide) hn) rfl rfl rfl (Nat.le_of_ble_eq_true rfl) (by omega) (by omega) (fun v9 S9 hq => ?_)
  obtain ⟨rfl, rfl⟩ := hq
  refine ⟨fun h => ⟨h, rfl⟩, ?_⟩
  refine mm_istore_n [some (.ref a), some (.int s0_), some (.int (sI σ a 6)), some (.int v7), none, none] dX5_readField_38 (by decide) rfl ?_
  refine mm_iload_n dX5_readField_39 rfl ?_
  refine b_if hx (fun h8 hx => ?_) (fun h8 hx => ?_)
  · refine mm_if_lt 53 dX5_readField_40 (by decide) (fun _ => ?_) (fun h => absurd h8 h)
    exact e_X5_readField_53 hst hZ hn hs hx
  · refine mm_if_lt 53 dX5_readField_40 (by decide) (fun h => absurd h h8) (fun _ => ?_)
    refine mm_iload_n dX5_readField_43 rfl ?_
    refine mm_bipush (v := 12) dX5_readField_44 (by decide) ?_
    refine b_if hx (fun h49 hx => ?_) (fun h49 hx => ?_)
    · refine mm_icmp_gt 53 dX5_readField_46 (by decide) (fun _ => ?_) (fun h => absurd h49 h)
      exact e_X5_readField_53 hst hZ hn hs hx
    · refine mm_icmp_gt 53 dX5_readField_46 (by decide) (fun h => absurd h h49) (fun _ => ?_)
      refine mm_iconst (v := 1) dX5_readField_49 (by decide) ?_
      refine mm_goto 54 dX5_readField_50 (by decide) ?_
      exact e_X5_readField_54 hst hZ hn hs hx
set_option maxHeartbeats 4000000 in
set_option maxRecDepth 100000 in
theorem e_X5_readField_20 {g : mm_G} {l : Launch} (hst : l.stackTraces = false) {Z : Nat → Nat → Option Nat} (hZ : HZ Z) {n : Nat} (hn : 1186 ≤ n) {z : Bool} {d : Nat} {U : Nat} {a : Nat} (hs : sh a = 5) {σ : SG} {r : Int32} {σ' : SG} (hx : x_X5_readField_20 U a σ = some (r, σ')) : mm_V g l RX5 "readField" cX5_readField 6 (some .boolean) [] (d + 3) 0 0 (mm_nt (fun v S' => v = some (.int r) ∧ S' = (mem Z σ', n, z))) 20 [some (.ref a), none, none, none, none, none] [] (mem Z σ, n, z) 0 0 := by
  unfold x_X5_readField_20 at hx
  refine mm_iconst (v := 0) dX5_readField_20 (by decide) ?_
  exact e_X5_readField_21 hst hZ hn hs hx
set_option maxHeartbeats 4000000 in
set_option maxRecDepth 100000 in
theorem e_X5_readField {g : mm_G} {l : Launch} (hst : l.stackTraces = false) {Z : Nat → Nat → Option Nat} (hZ : HZ Z) {n : Nat} (hn : 1186 ≤ n) {z : Bool} {d : Nat} {U : Nat} {a : Nat} (hs : sh a = 5) {σ : SG} {r : Int32} {σ' : SG} (hx : x_X5_readField U a σ = some (r, σ')) : mm_Cm g l yX5_readField (.code yX5_readField cX5_readField 6 (some .boolean)) (d + 3) 0 0 [.ref a] (mem Z σ, n, z) (fun v S' => v = some (.int r) ∧ S' = (mem Z σ', n, z)) := by
  refine mm_Cm_of hst (by decide) (Nat.le_of_ble_eq_true rfl) ?_
  show mm_V g l RX5 "readField" cX5_readField 6 (some .boolean) [] (d + 3) 0 0 (mm_nt (fun v S' => v = some (.int r) ∧ S' = (mem Z σ', n, z))) 0 [some (.ref a), none, none, none, none, none] [] (mem Z σ, n, z) 0 0
  unfold x_X5_readField at hx
  refine mm_aload_n dX5_readField_0 rfl rfl ?_
  refine s_getP (r := some a) (b := a) (ci := 5) (k := 3) in_X5 rfl (by decide) rfl kF_X5_23 dX5_readField_1 rfl hs (by decide) hn (by decide) rfl ?_
  refine b_if hx (fun h1 hx => ?_) (fun h1 hx => ?_)
  · refine mm_ifnonnull (r := sP σ a 3) 20 dX5_readField_4 (by decide) (fun h => absurd h1 h) (fun _ => ?_)
    refine mm_aload_n dX5_readField_7 rfl rfl ?_
    refine mm_bipush (v := 23) dX5_readField_8 (by decide) ?_
    obtain ⟨v3, σ4, hc2, hx⟩ := b2_some hx
    refine mm_callV3 (a := a) (ci := 5) wM_X5_takesWord kM_X5_72 wI_X5_takesWord wS_X5_takesWord dX5_readField_10 (e_X5_takesWord hst hZ hn hs hc2) (mem_obj hs (by decide)) (sh_ltn hs (by decide) hn) rfl rfl rfl (Nat.le_of_ble_eq_true rfl) (by omega) (by omega) (fun v9 S9 hq => ?_)
    obtain ⟨rfl, rfl⟩ := hq
    refine ⟨fun h => ⟨h, rfl⟩, ?_⟩
    refine b_if hx (fun h5 hx => ?_) (fun h5 hx => ?_)
    · refine mm_if_eq 20 dX5_readField_13 (by decide) (fun _ => ?_) (fun h => absurd h5 h)
      exact e_X5_readField_20 hst hZ hn hs hx
    · refine mm_if_eq 20 dX5_readField_13 (by decide) (fun h => absurd h h5) (fun _ => ?_)
      refine mm_iconst (v := 1) dX5_readField_16 (by decide) ?_
      refine mm_goto 21 dX5_readField_17 (by decide) ?_
      exact e_X5_readField_21 hst hZ hn hs hx
  · refine mm_ifnonnull (r := sP σ a 3) 20 dX5_readField_4 (by decide) (fun _ => ?_) (fun h => absurd h h1)
    exact e_X5_readField_20 hst hZ hn hs hx
set_option maxHeartbeats 4000000 in
set_option maxRecDepth 100000 in
theorem e_X5_readChoice_23 {g : mm_G} {l : Launch} (hst : l.stackTraces = false) {Z : Nat → Nat → Option Nat} (hZ : HZ Z) {n : Nat} (hn : 1186 ≤ n) {z : Bool} {d : Nat} {U : Nat} {a : Nat} (hs : sh a = 5) {σ : SG} {r : Int32} {σ' : SG} (hx : x_X5_readChoice_23 U a σ = some (r, σ')) : mm_V g l RX5 "readChoice" cX5_readChoice 1 (some .boolean) [] (d + 4) 0 0 (mm_nt (fun v S' => v = some (.int r) ∧ S' = (mem Z σ', n, z))) 23 [some (.ref a)] [] (mem Z σ, n, z) 0 0 := by
  unfold x_X5_readChoice_23 at hx
  refine mm_aload_n dX5_readChoice_23 rfl rfl ?_
  obtain ⟨v7, σ8, hc6, hx⟩ := b2_some hx
  refine mm_callV3 (a := a) (ci := 5) wM_X5_isForbidden kM_X5_85 wI_X5_isForbidden wS_X5_isForbidden dX5_readChoice_24 (e_X5_isForbidden hst hZ hn hs hc6) (mem_obj hs (by decide)) (sh_ltn hs (by decide) hn) rfl rfl rfl (Nat.le_of_ble_eq_true rfl) (by omega) (by omega) (fun v9 S9 hq => ?_)
  obtain ⟨rfl, rfl⟩ := hq
  refine ⟨fun h => ⟨h, rfl⟩, ?_⟩
  refine b_if hx (fun h9 hx => ?_) (fun h9 hx => ?_)
  · refine mm_if_eq 32 dX5_readChoice_27 (by decide) (fun _ => ?_) (fun h => absurd h9 h)
    refine mm_aload_n dX5_readChoice_32 rfl rfl ?_
    refine mm_iconst (v := 0) dX5_readChoice_33 (by decide) ?_
    refine s_putI (v := 0) (r := some a) (b := a) (ci := 5) (k := 5) in_X5 rfl (by decide) rfl tyX5_ok nmX5 rfl kF_X5_103 dX5_readChoice_34 mm_fit_z0 rfl hs (by decide) hn (by decide) rfl hx (fun σ10 hx => ?_)
    refine mm_aload_n dX5_readChoice_37 rfl rfl ?_
    obtain ⟨v12, σ13, hc11, hx⟩ := b2_some hx
    refine mm_callV3 (a := a) (ci := 5) wM_X5_readField kM_X5_96 wI_X5_readField wS_X5_readField dX5_readChoice_38 (e_X5_readField hst hZ hn hs hc11) (mem_obj hs (by decide)) (sh_ltn hs (by decide) hn) rfl rfl rfl (Nat.le_of_ble_eq_true rfl) (by omega) (by omega) (fun v9 S9 hq => ?_)
    obtain ⟨rfl, rfl⟩ := hq
    refine ⟨fun h => ⟨h, rfl⟩, ?_⟩
    obtain ⟨hz14, hx⟩ := zb_some hx
    refine mm_iret dX5_readChoice_41 rfl (zb_nar hz14) ?_ (by omega) (by omega)
    obtain ⟨rfl, rfl⟩ := fin2 hx
    exact ⟨rfl, rfl⟩
  · refine mm_if_eq 32 dX5_readChoice_27 (by decide) (fun h => absurd h h9) (fun _ => ?_)
    refine mm_iconst (v := 0) dX5_readChoice_30 (by decide) ?_
    refine mm_iret dX5_readChoice_31 rfl rfl ?_ (by omega) (by omega)
    obtain ⟨rfl, rfl⟩ := fin2 hx
    exact ⟨rfl, rfl⟩
set_option maxHeartbeats 4000000 in
set_option maxRecDepth 100000 in
theorem e_X5_readChoice {g : mm_G} {l : Launch} (hst : l.stackTraces = false) {Z : Nat → Nat → Option Nat} (hZ : HZ Z) {n : Nat} (hn : 1186 ≤ n) {z : Bool} {d : Nat} {U : Nat} {a : Nat} (hs : sh a = 5) {σ : SG} {r : Int32} {σ' : SG} (hx : x_X5_readChoice U a σ = some (r, σ')) : mm_Cm g l yX5_readChoice (.code yX5_readChoice cX5_readChoice 1 (some .boolean)) (d + 4) 0 0 [.ref a] (mem Z σ, n, z) (fun v S' => v = some (.int r) ∧ S' = (mem Z σ', n, z)) := by
  refine mm_Cm_of hst (by decide) (Nat.le_of_ble_eq_true rfl) ?_
  show mm_V g l RX5 "readChoice" cX5_readChoice 1 (some .boolean) [] (d + 4) 0 0 (mm_nt (fun v S' => v = some (.int r) ∧ S' = (mem Z σ', n, z))) 0 [some (.ref a)] [] (mem Z σ, n, z) 0 0
  unfold x_X5_readChoice at hx
  refine mm_aload_n dX5_readChoice_0 rfl rfl ?_
  refine s_getI (r := some a) (b := a) (ci := 5) (k := 5) in_X5 rfl (by decide) rfl kF_X5_103 dX5_readChoice_1 rfl hs (by decide) hn (by decide) rfl ?_
  refine b_if hx (fun h1 hx => ?_) (fun h1 hx => ?_)
  · refine mm_if_ne 23 dX5_readChoice_4 (by decide) (fun h => absurd h1 h) (fun _ => ?_)
    refine mm_aload_n dX5_readChoice_7 rfl rfl ?_
    refine mm_bipush (v := 125) dX5_readChoice_8 (by decide) ?_
    obtain ⟨v3, σ4, hc2, hx⟩ := b2_some hx
    refine mm_callV3 (a := a) (ci := 5) wM_X5_takes kM_X5_76 wI_X5_takes wS_X5_takes dX5_readChoice_10 (e_X5_takes hst hZ hn hs hc2) (mem_obj hs (by decide)) (sh_ltn hs (by decide) hn) rfl rfl rfl (Nat.le_of_ble_eq_true rfl) (by omega) (by omega) (fun v9 S9 hq => ?_)
    obtain ⟨rfl, rfl⟩ := hq
    refine ⟨fun h => ⟨h, rfl⟩, ?_⟩
    refine b_if hx (fun h5 hx => ?_) (fun h5 hx => ?_)
    · refine mm_if_eq 23 dX5_readChoice_13 (by decide) (fun _ => ?_) (fun h => absurd h5 h)
      exact e_X5_readChoice_23 hst hZ hn hs hx
    · refine mm_if_eq 23 dX5_readChoice_13 (by decide) (fun h => absurd h h5) (fun _ => ?_)
      refine mm_aload_n dX5_readChoice_16 rfl rfl ?_
      refine mm_null dX5_readChoice_17 ?_
      refine s_putP (v := none) (r := some a) (b := a) (ci := 5) (k := 3) in_X5 rfl (by decide) rfl tyX5_ok nmX5 rfl kF_X5_23 dX5_readChoice_18 (mm_fit_r _ _) rfl hs (by decide) hn (by decide) rfl hx (fun σ15 hx => ?_)
      refine mm_iconst (v := 1) dX5_readChoice_21 (by decide) ?_
      refine mm_iret dX5_readChoice_22 rfl rfl ?_ (by omega) (by omega)
      obtain ⟨rfl, rfl⟩ := fin2 hx
      exact ⟨rfl, rfl⟩
  · refine mm_if_ne 23 dX5_readChoice_4 (by decide) (fun _ => ?_) (fun h => absurd h h1)
    exact e_X5_readChoice_23 hst hZ hn hs hx
set_option maxHeartbeats 4000000 in
set_option maxRecDepth 100000 in
theorem e_X5_begin_51 {g : mm_G} {l : Launch} (hst : l.stackTraces = false) {Z : Nat → Nat → Option Nat} (hZ : HZ Z) {n : Nat} (hn : 1186 ≤ n) {z : Bool} {d : Nat} {a : Nat} (hs : sh a = 5) {σ : SG} {r : Int32} {σ' : SG} (hx : x_X5_begin_51 a σ = some (r, σ')) : mm_V g l RX5 "begin" cX5_begin 3 (some .boolean) [] (d + 3) 0 0 (mm_nt (fun v S' => v = some (.int r) ∧ S' = (mem Z σ', n, z))) 51 [some (.ref a), none, none] [] (mem Z σ, n, z) 0 0 := by
  unfold x_X5_begin_51 at hx
  refine mm_aload_n dX5_begin_51 rfl rfl ?_
  refine mm_iconst (v := 1) dX5_begin_52 (by decide) ?_
  refine s_putI (v := 1) (r := some a) (b := a) (ci := 5) (k := 5) in_X5 rfl (by decide) rfl tyX5_ok nmX5 rfl kF_X5_103 dX5_begin_53 mm_fit_z1 rfl hs (by decide) hn (by decide) rfl hx (fun σ11 hx => ?_)
  refine mm_iconst (v := 1) dX5_begin_56 (by decide) ?_
  refine mm_iret dX5_begin_57 rfl rfl ?_ (by omega) (by omega)
  obtain ⟨rfl, rfl⟩ := fin2 hx
  exact ⟨rfl, rfl⟩
set_option maxHeartbeats 4000000 in
set_option maxRecDepth 100000 in
theorem e_X5_begin {g : mm_G} {l : Launch} (hst : l.stackTraces = false) {Z : Nat → Nat → Option Nat} (hZ : HZ Z) {n : Nat} (hn : 1186 ≤ n) {z : Bool} {d : Nat} {a : Nat} (hs : sh a = 5) {p0 : Int32} {σ : SG} {r : Int32} {σ' : SG} (hx : x_X5_begin a p0 σ = some (r, σ')) : mm_Cm g l yX5_begin (.code yX5_begin cX5_begin 3 (some .boolean)) (d + 3) 0 0 [.ref a, .int p0] (mem Z σ, n, z) (fun v S' => v = some (.int r) ∧ S' = (mem Z σ', n, z)) := by
  refine mm_Cm_of hst (by decide) (Nat.le_of_ble_eq_true rfl) ?_
  show mm_V g l RX5 "begin" cX5_begin 3 (some .boolean) [] (d + 3) 0 0 (mm_nt (fun v S' => v = some (.int r) ∧ S' = (mem Z σ', n, z))) 0 [some (.ref a), some (.int p0), none] [] (mem Z σ, n, z) 0 0
  unfold x_X5_begin at hx
  refine mm_aload_n dX5_begin_0 rfl rfl ?_
  refine mm_iload_n dX5_begin_1 rfl ?_
  obtain ⟨v2, σ3, hc1, hx⟩ := b2_some hx
  refine mm_callV3 (a := a) (ci := 5) wM_X5_readName kM_X5_99 wI_X5_readName wS_X5_readName dX5_begin_2 (e_X5_readName hst hZ hn hs hc1) (mem_obj hs (by decide)) (sh_ltn hs (by decide) hn) rfl rfl rfl (Nat.le_of_ble_eq_true rfl) (by omega) (by omega) (fun v9 S9 hq => ?_)
  obtain ⟨rfl, rfl⟩ := hq
  refine ⟨fun h => ⟨h, rfl⟩, ?_⟩
  refine mm_astore_n [some (.ref a), some (.int p0), some (va_rf v2)] dX5_begin_5 (by decide) (isr_rf _) rfl ?_
  refine mm_aload_n dX5_begin_6 rfl (isr_rf _) ?_
  refine b_if hx (fun h4 hx => ?_) (fun h4 hx => ?_)
  · refine mm_ifnull (r := v2) 19 dX5_begin_7 (by decide) (fun _ => ?_) (fun h => absurd h4 h)
    refine mm_iconst (v := 0) dX5_begin_19 (by decide) ?_
    refine mm_iret dX5_begin_20 rfl rfl ?_ (by omega) (by omega)
    obtain ⟨rfl, rfl⟩ := fin2 hx
    exact ⟨rfl, rfl⟩
  · refine mm_ifnull (r := v2) 19 dX5_begin_7 (by decide) (fun h => absurd h h4) (fun _ => ?_)
    refine mm_aload_n dX5_begin_10 rfl rfl ?_
    refine mm_bipush (v := 123) dX5_begin_11 (by decide) ?_
    obtain ⟨v6, σ7, hc5, hx⟩ := b2_some hx
    refine mm_callV3 (a := a) (ci := 5) wM_X5_takes kM_X5_76 wI_X5_takes wS_X5_takes dX5_begin_13 (e_X5_takes hst hZ hn hs hc5) (mem_obj hs (by decide)) (sh_ltn hs (by decide) hn) rfl rfl rfl (Nat.le_of_ble_eq_true rfl) (by omega) (by omega) (fun v9 S9 hq => ?_)
    obtain ⟨rfl, rfl⟩ := hq
    refine ⟨fun h => ⟨h, rfl⟩, ?_⟩
    refine b_if hx (fun h8 hx => ?_) (fun h8 hx => ?_)
    · refine mm_if_ne 21 dX5_begin_16 (by decide) (fun h => absurd h8 h) (fun _ => ?_)
      refine mm_iconst (v := 0) dX5_begin_19 (by decide) ?_
      refine mm_iret dX5_begin_20 rfl rfl ?_ (by omega) (by omega)
      obtain ⟨rfl, rfl⟩ := fin2 hx
      exact ⟨rfl, rfl⟩
    · refine mm_if_ne 21 dX5_begin_16 (by decide) (fun _ => ?_) (fun h => absurd h h8)
      refine mm_iload_n dX5_begin_21 rfl ?_
      refine b_if hx (fun h9 hx => ?_) (fun h9 hx => ?_)
      · refine mm_if_ne 33 dX5_begin_22 (by decide) (fun h => absurd h9 h) (fun _ => ?_)
        refine mm_aload_n dX5_begin_25 rfl rfl ?_
        refine mm_aload_n dX5_begin_26 rfl (isr_rf _) ?_
        refine s_putP (v := v2) (r := some a) (b := a) (ci := 5) (k := 2) in_X5 rfl (by decide) rfl tyX5_ok nmX5 rfl kF_X5_19 dX5_begin_27 (mm_fit_r _ _) rfl hs (by decide) hn (by decide) rfl hx (fun σ10 hx => ?_)
        refine mm_goto 51 dX5_begin_30 (by decide) ?_
        refine mm_fewer [some (.ref a), none, none] (few_ok (bs := [true, false, false]) rfl) ?_
        exact e_X5_begin_51 hst hZ hn hs hx
      · refine mm_if_ne 33 dX5_begin_22 (by decide) (fun _ => ?_) (fun h => absurd h h9)
        refine mm_iload_n dX5_begin_33 rfl ?_
        refine mm_iconst (v := 1) dX5_begin_34 (by decide) ?_
        refine b_if hx (fun h12 hx => ?_) (fun h12 hx => ?_)
        · refine mm_icmp_ne 46 dX5_begin_35 (by decide) (fun h => absurd h12 h) (fun _ => ?_)
          refine mm_aload_n dX5_begin_38 rfl rfl ?_
          refine mm_aload_n dX5_begin_39 rfl (isr_rf _) ?_
          refine s_putP (v := v2) (r := some a) (b := a) (ci := 5) (k := 4) in_X5 rfl (by decide) rfl tyX5_ok nmX5 rfl kF_X5_26 dX5_begin_40 (mm_fit_r _ _) rfl hs (by decide) hn (by decide) rfl hx (fun σ13 hx => ?_)
          refine mm_goto 51 dX5_begin_43 (by decide) ?_
          refine mm_fewer [some (.ref a), none, none] (few_ok (bs := [true, false, false]) rfl) ?_
          exact e_X5_begin_51 hst hZ hn hs hx
        · refine mm_icmp_ne 46 dX5_begin_35 (by decide) (fun _ => ?_) (fun h => absurd h h12)
          refine mm_aload_n dX5_begin_46 rfl rfl ?_
          refine mm_aload_n dX5_begin_47 rfl (isr_rf _) ?_
          refine s_putP (v := v2) (r := some a) (b := a) (ci := 5) (k := 3) in_X5 rfl (by decide) rfl tyX5_ok nmX5 rfl kF_X5_23 dX5_begin_48 (mm_fit_r _ _) rfl hs (by decide) hn (by decide) rfl hx (fun σ14 hx => ?_)
          refine mm_fewer [some (.ref a), none, none] (few_ok (bs := [true, false, false]) rfl) ?_
          exact e_X5_begin_51 hst hZ hn hs hx
set_option maxHeartbeats 4000000 in
set_option maxRecDepth 100000 in
theorem e_X5_readMember {g : mm_G} {l : Launch} (hst : l.stackTraces = false) {Z : Nat → Nat → Option Nat} (hZ : HZ Z) {n : Nat} (hn : 1186 ≤ n) {z : Bool} {d : Nat} {U : Nat} {a : Nat} (hs : sh a = 5) {σ : SG} {r : Int32} {σ' : SG} (hx : x_X5_readMember U a σ = some (r, σ')) : mm_Cm g l yX5_readMember (.code yX5_readMember cX5_readMember 1 (some .boolean)) (d + 4) 0 0 [.ref a] (mem Z σ, n, z) (fun v S' => v = some (.int r) ∧ S' = (mem Z σ', n, z)) := by
  refine mm_Cm_of hst (by decide) (Nat.le_of_ble_eq_true rfl) ?_
  show mm_V g l RX5 "readMember" cX5_readMember 1 (some .boolean) [] (d + 4) 0 0 (mm_nt (fun v S' => v = some (.int r) ∧ S' = (mem Z σ', n, z))) 0 [some (.ref a)] [] (mem Z σ, n, z) 0 0
  unfold x_X5_readMember at hx
  refine mm_aload_n dX5_readMember_0 rfl rfl ?_
  obtain ⟨v2, σ3, hc1, hx⟩ := b2_some hx
  refine mm_callV3 (a := a) (ci := 5) wM_X5_isForbidden kM_X5_85 wI_X5_isForbidden wS_X5_isForbidden dX5_readMember_1 (e_X5_isForbidden hst hZ hn hs hc1) (mem_obj hs (by decide)) (sh_ltn hs (by decide) hn) rfl rfl rfl (Nat.le_of_ble_eq_true rfl) (by omega) (by omega) (fun v9 S9 hq => ?_)
  obtain ⟨rfl, rfl⟩ := hq
  refine ⟨fun h => ⟨h, rfl⟩, ?_⟩
  refine b_if hx (fun h4 hx => ?_) (fun h4 hx => ?_)
  · refine mm_if_eq 9 dX5_readMember_4 (by decide) (fun _ => ?_) (fun h => absurd h4 h)
    refine mm_aload_n dX5_readMember_9 rfl rfl ?_
    refine mm_bipush (v := 20) dX5_readMember_10 (by decide) ?_
    obtain ⟨v6, σ7, hc5, hx⟩ := b2_some hx
    refine mm_callV3 (a := a) (ci := 5) wM_X5_takesWord kM_X5_72 wI_X5_takesWord wS_X5_takesWord dX5_readMember_12 (e_X5_takesWord hst hZ hn hs hc5) (mem_obj hs (by decide)) (sh_ltn hs (by decide) hn) rfl rfl rfl (Nat.le_of_ble_eq_true rfl) (by omega) (by omega) (fun v9 S9 hq => ?_)
    obtain ⟨rfl, rfl⟩ := hq
    refine ⟨fun h => ⟨h, rfl⟩, ?_⟩
    refine b_if hx (fun h8 hx => ?_) (fun h8 hx => ?_)
    · refine mm_if_eq 24 dX5_readMember_15 (by decide) (fun _ => ?_) (fun h => absurd h8 h)
      refine mm_aload_n dX5_readMember_24 rfl rfl ?_
      refine mm_bipush (v := 21) dX5_readMember_25 (by decide) ?_
      obtain ⟨v10, σ11, hc9, hx⟩ := b2_some hx
      refine mm_callV3 (a := a) (ci := 5) wM_X5_takesWord kM_X5_72 wI_X5_takesWord wS_X5_takesWord dX5_readMember_27 (e_X5_takesWord hst hZ hn hs hc9) (mem_obj hs (by decide)) (sh_ltn hs (by decide) hn) rfl rfl rfl (Nat.le_of_ble_eq_true rfl) (by omega) (by omega) (fun v9 S9 hq => ?_)
      obtain ⟨rfl, rfl⟩ := hq
      refine ⟨fun h => ⟨h, rfl⟩, ?_⟩
      refine b_if hx (fun h12 hx => ?_) (fun h12 hx => ?_)
      · refine mm_if_eq 39 dX5_readMember_30 (by decide) (fun _ => ?_) (fun h => absurd h12 h)
        refine mm_aload_n dX5_readMember_39 rfl rfl ?_
        refine s_getP (r := some a) (b := a) (ci := 5) (k := 2) in_X5 rfl (by decide) rfl kF_X5_19 dX5_readMember_40 rfl hs (by decide) hn (by decide) rfl ?_
        refine b_if hx (fun h13 hx => ?_) (fun h13 hx => ?_)
        · refine mm_ifnonnull (r := sP σ11 a 2) 48 dX5_readMember_43 (by decide) (fun h => absurd h13 h) (fun _ => ?_)
          refine mm_iconst (v := 0) dX5_readMember_46 (by decide) ?_
          refine mm_iret dX5_readMember_47 rfl rfl ?_ (by omega) (by omega)
          obtain ⟨rfl, rfl⟩ := fin2 hx
          exact ⟨rfl, rfl⟩
        · refine mm_ifnonnull (r := sP σ11 a 2) 48 dX5_readMember_43 (by decide) (fun _ => ?_) (fun h => absurd h h13)
          refine mm_aload_n dX5_readMember_48 rfl rfl ?_
          refine mm_bipush (v := 59) dX5_readMember_49 (by decide) ?_
          obtain ⟨v15, σ16, hc14, hx⟩ := b2_some hx
          refine mm_callV3 (a := a) (ci := 5) wM_X5_takes kM_X5_76 wI_X5_takes wS_X5_takes dX5_readMember_51 (e_X5_takes hst hZ hn hs hc14) (mem_obj hs (by decide)) (sh_ltn hs (by decide) hn) rfl rfl rfl (Nat.le_of_ble_eq_true rfl) (by omega) (by omega) (fun v9 S9 hq => ?_)
          obtain ⟨rfl, rfl⟩ := hq
          refine ⟨fun h => ⟨h, rfl⟩, ?_⟩
          refine b_if hx (fun h17 hx => ?_) (fun h17 hx => ?_)
          · refine mm_if_eq 59 dX5_readMember_54 (by decide) (fun _ => ?_) (fun h => absurd h17 h)
            refine mm_aload_n dX5_readMember_59 rfl rfl ?_
            refine mm_bipush (v := 125) dX5_readMember_60 (by decide) ?_
            obtain ⟨v19, σ20, hc18, hx⟩ := b2_some hx
            refine mm_callV3 (a := a) (ci := 5) wM_X5_takes kM_X5_76 wI_X5_takes wS_X5_takes dX5_readMember_62 (e_X5_takes hst hZ hn hs hc18) (mem_obj hs (by decide)) (sh_ltn hs (by decide) hn) rfl rfl rfl (Nat.le_of_ble_eq_true rfl) (by omega) (by omega) (fun v9 S9 hq => ?_)
            obtain ⟨rfl, rfl⟩ := hq
            refine ⟨fun h => ⟨h, rfl⟩, ?_⟩
            refine b_if hx (fun h21 hx => ?_) (fun h21 hx => ?_)
            · refine mm_if_eq 81 dX5_readMember_65 (by decide) (fun _ => ?_) (fun h => absurd h21 h)
              refine mm_aload_n dX5_readMember_81 rfl rfl ?_
              refine mm_bipush (v := 22) dX5_readMember_82 (by decide) ?_
              obtain ⟨v23, σ24, hc22, hx⟩ := b2_some hx
              refine mm_callV3 (a := a) (ci := 5) wM_X5_takesWord kM_X5_72 wI_X5_takesWord wS_X5_takesWord dX5_readMember_84 (e_X5_takesWord hst hZ hn hs hc22) (mem_obj hs (by decide)) (sh_ltn hs (by decide) hn) rfl rfl rfl (Nat.le_of_ble_eq_true rfl) (by omega) (by omega) (fun v9 S9 hq => ?_)
              obtain ⟨rfl, rfl⟩ := hq
              refine ⟨fun h => ⟨h, rfl⟩, ?_⟩
              refine b_if hx (fun h25 hx => ?_) (fun h25 hx => ?_)
              · refine mm_if_eq 98 dX5_readMember_87 (by decide) (fun _ => ?_) (fun h => absurd h25 h)
                refine mm_aload_n dX5_readMember_98 rfl rfl ?_
                obtain ⟨v27, σ28, hc26, hx⟩ := b2_some hx
                refine mm_callV3 (a := a) (ci := 5) wM_X5_readField kM_X5_96 wI_X5_readField wS_X5_readField dX5_readMember_99 (e_X5_readField hst hZ hn hs hc26) (mem_obj hs (by decide)) (sh_ltn hs (by decide) hn) rfl rfl rfl (Nat.le_of_ble_eq_true rfl) (by omega) (by omega) (fun v9 S9 hq => ?_)
                obtain ⟨rfl, rfl⟩ := hq
                refine ⟨fun h => ⟨h, rfl⟩, ?_⟩
                obtain ⟨hz29, hx⟩ := zb_some hx
                refine mm_iret dX5_readMember_102 rfl (zb_nar hz29) ?_ (by omega) (by omega)
                obtain ⟨rfl, rfl⟩ := fin2 hx
                exact ⟨rfl, rfl⟩
              · refine mm_if_eq 98 dX5_readMember_87 (by decide) (fun h => absurd h h25) (fun _ => ?_)
                refine mm_aload_n dX5_readMember_90 rfl rfl ?_
                refine mm_iconst (v := 4) dX5_readMember_91 (by decide) ?_
                obtain ⟨v31, σ32, hc30, hx⟩ := b2_some hx
                refine mm_callV3 (a := a) (ci := 5) wM_X5_begin kM_X5_90 wI_X5_begin wS_X5_begin dX5_readMember_92 (e_X5_begin hst hZ hn hs hc30) (mem_obj hs (by decide)) (sh_ltn hs (by decide) hn) rfl rfl rfl (Nat.le_of_ble_eq_true rfl) (by omega) (by omega) (fun v9 S9 hq => ?_)
                obtain ⟨rfl, rfl⟩ := hq
                refine ⟨fun h => ⟨h, rfl⟩, ?_⟩
                refine mm_goto 102 dX5_readMember_95 (by decide) ?_
                obtain ⟨hz33, hx⟩ := zb_some hx
                refine mm_iret dX5_readMember_102 rfl (zb_nar hz33) ?_ (by omega) (by omega)
                obtain ⟨rfl, rfl⟩ := fin2 hx
                exact ⟨rfl, rfl⟩
            · refine mm_if_eq 81 dX5_readMember_65 (by decide) (fun h => absurd h h21) (fun _ => ?_)
              refine mm_aload_n dX5_readMember_68 rfl rfl ?_
              refine mm_aload_n dX5_readMember_69 rfl rfl ?_
              refine s_getP (r := some a) (b := a) (ci := 5) (k := 2) in_X5 rfl (by decide) rfl kF_X5_19 dX5_readMember_70 rfl hs (by decide) hn (by decide) rfl ?_
              obtain ⟨q34, hr35, hs36, hx⟩ := ck_some hx
              refine s_getPN (r := sP σ20 a 2) (b := q34) (ci := 3) (k := 2) in_X3 rfl (by decide) rfl kF_X5_93 dX5_readMember_73 hr35 hs36 (by decide) hn (by decide) rfl ?_
              refine s_putP (v := sP σ20 q34 2) (r := some a) (b := a) (ci := 5) (k := 2) in_X5 rfl (by decide) rfl tyX5_ok nmX5 rfl kF_X5_19 dX5_readMember_76 (mm_fit_r _ _) rfl hs (by decide) hn (by decide) rfl hx (fun σ37 hx => ?_)
              refine mm_iconst (v := 1) dX5_readMember_79 (by decide) ?_
              refine mm_iret dX5_readMember_80 rfl rfl ?_ (by omega) (by omega)
              obtain ⟨rfl, rfl⟩ := fin2 hx
              exact ⟨rfl, rfl⟩
          · refine mm_if_eq 59 dX5_readMember_54 (by decide) (fun h => absurd h h17) (fun _ => ?_)
            refine mm_iconst (v := 1) dX5_readMember_57 (by decide) ?_
            refine mm_iret dX5_readMember_58 rfl rfl ?_ (by omega) (by omega)
            obtain ⟨rfl, rfl⟩ := fin2 hx
            exact ⟨rfl, rfl⟩
      · refine mm_if_eq 39 dX5_readMember_30 (by decide) (fun h => absurd h h12) (fun _ => ?_)
        refine mm_aload_n dX5_readMember_33 rfl rfl ?_
        refine mm_iconst (v := 1) dX5_readMember_34 (by decide) ?_
        obtain ⟨v39, σ40, hc38, hx⟩ := b2_some hx
        refine mm_callV3 (a := a) (ci := 5) wM_X5_begin kM_X5_90 wI_X5_begin wS_X5_begin dX5_readMember_35 (e_X5_begin hst hZ hn hs hc38) (mem_obj hs (by decide)) (sh_ltn hs (by decide) hn) rfl rfl rfl (Nat.le_of_ble_eq_true rfl) (by omega) (by omega) (fun v9 S9 hq => ?_)
        obtain ⟨rfl, rfl⟩ := hq
        refine ⟨fun h => ⟨h, rfl⟩, ?_⟩
        obtain ⟨hz41, hx⟩ := zb_some hx
        refine mm_iret dX5_readMember_38 rfl (zb_nar hz41) ?_ (by omega) (by omega)
        obtain ⟨rfl, rfl⟩ := fin2 hx
        exact ⟨rfl, rfl⟩
    · refine mm_if_eq 24 dX5_readMember_15 (by decide) (fun h => absurd h h8) (fun _ => ?_)
      refine mm_aload_n dX5_readMember_18 rfl rfl ?_
      refine mm_iconst (v := 0) dX5_readMember_19 (by decide) ?_
      obtain ⟨v43, σ44, hc42, hx⟩ := b2_some hx
      refine mm_callV3 (a := a) (ci := 5) wM_X5_begin kM_X5_90 wI_X5_begin wS_X5_begin dX5_readMember_20 (e_X5_begin hst hZ hn hs hc42) (mem_obj hs (by decide)) (sh_ltn hs (by decide) hn) rfl rfl rfl (Nat.le_of_ble_eq_true rfl) (by omega) (by omega) (fun v9 S9 hq => ?_)
      obtain ⟨rfl, rfl⟩ := hq
      refine ⟨fun h => ⟨h, rfl⟩, ?_⟩
      obtain ⟨hz45, hx⟩ := zb_some hx
      refine mm_iret dX5_readMember_23 rfl (zb_nar hz45) ?_ (by omega) (by omega)
      obtain ⟨rfl, rfl⟩ := fin2 hx
      exact ⟨rfl, rfl⟩
  · refine mm_if_eq 9 dX5_readMember_4 (by decide) (fun h => absurd h h4) (fun _ => ?_)
    refine mm_iconst (v := 0) dX5_readMember_7 (by decide) ?_
    refine mm_iret dX5_readMember_8 rfl rfl ?_ (by omega) (by omega)
    obtain ⟨rfl, rfl⟩ := fin2 hx
    exact ⟨rfl, rfl⟩
set_option maxHeartbeats 4000000 in
set_option maxRecDepth 100000 in
theorem e_X5_read_86 {g : mm_G} {l : Launch} (hst : l.stackTraces = false) {Z : Nat → Nat → Option Nat} (hZ : HZ Z) {n : Nat} (hn : 1186 ≤ n) {z : Bool} {d : Nat} {U : Nat} {a : Nat} (hs : sh a = 5) {k32 : Int32 → Int32 → SG → Option (Int32 × SG)} {k93 : Int32 → SG → Option (Int32 × SG)} {v2_ : Int32} {s0_ : Int32} {σ : SG} {r : Int32} {σ' : SG} (hk32 : ∀ (v1_ : Int32) (v2_ : Int32) (σ8 : SG), k32 v1_ v2_ σ8 = some (r, σ') → mm_V g l RX5 "read" cX5_read 3 (some .int) [] (d + 5) 0 0 (mm_nt (fun v S' => v = some (.int r) ∧ S' = (mem Z σ', n, z))) 32 [some (.ref a), some (.int v1_), some (.int v2_)] [] (mem Z σ8, n, z) 0 0) (hk93 : ∀ (v1_ : Int32) (σ8 : SG), k93 v1_ σ8 = some (r, σ') → mm_V g l RX5 "read" cX5_read 3 (some .int) [] (d + 5) 0 0 (mm_nt (fun v S' => v = some (.int r) ∧ S' = (mem Z σ', n, z))) 93 [some (.ref a), some (.int v1_), none] [] (mem Z σ8, n, z) 0 0) (hx : x_X5_read_86 U a k32 k93 v2_ s0_ σ = some (r, σ')) : mm_V g l RX5 "read" cX5_read 3 (some .int) [] (d + 5) 0 0 (mm_nt (fun v S' => v = some (.int r) ∧ S' = (mem Z σ', n, z))) 86 [some (.ref a), none, some (.int v2_)] [.int s0_] (mem Z σ, n, z) 0 0 := by
  unfold x_X5_read_86 at hx
  refine mm_istore_n [some (.ref a), some (.int s0_), some (.int v2_)] dX5_read_86 (by decide) rfl ?_
  refine mm_iinc (v := v2_ + 1) [some (.ref a), some (.int s0_), some (.int (v2_ + 1))] dX5_read_87 rfl rfl (by decide) rfl ?_
  refine mm_goto 32 dX5_read_90 (by decide) ?_
  exact hk32 _ _ _ hx
set_option maxHeartbeats 4000000 in
set_option maxRecDepth 100000 in
theorem e_X5_read_L32 {g : mm_G} {l : Launch} (hst : l.stackTraces = false) {Z : Nat → Nat → Option Nat} (hZ : HZ Z) {n : Nat} (hn : 1186 ≤ n) {z : Bool} {d : Nat} {U : Nat} {a : Nat} (hs : sh a = 5) {k93 : Int32 → SG → Option (Int32 × SG)} {r : Int32} {σ' : SG} (hk93 : ∀ (v1_ : Int32) (σ8 : SG), k93 v1_ σ8 = some (r, σ') → mm_V g l RX5 "read" cX5_read 3 (some .int) [] (d + 5) 0 0 (mm_nt (fun v S' => v = some (.int r) ∧ S' = (mem Z σ', n, z))) 93 [some (.ref a), some (.int v1_), none] [] (mem Z σ8, n, z) 0 0) : ∀ (U1 : Nat) (v1_ : Int32) (v2_ : Int32) (σ : SG), x_X5_read_L32 U a k93 U1 v1_ v2_ σ = some (r, σ') → mm_V g l RX5 "read" cX5_read 3 (some .int) [] (d + 5) 0 0 (mm_nt (fun v S' => v = some (.int r) ∧ S' = (mem Z σ', n, z))) 32 [some (.ref a), some (.int v1_), some (.int v2_)] [] (mem Z σ, n, z) 0 0 := by
  intro U1
  induction U1 with
  | zero => intro v1_ v2_ σ hx; exact absurd hx (by simp [x_X5_read_L32])
  | succ U1 ih =>
    intro v1_ v2_ σ hx
    rw [x_X5_read_L32] at hx
    refine mm_iload_n dX5_read_32 rfl ?_
    refine mm_aload_n dX5_read_33 rfl rfl ?_
    refine s_getS (q := a - 5) (r := some a) (b := a) (ci := 5) (k := 1) in_X5 rfl (by decide) rfl kF_X5_15 dX5_read_34 rfl hs (by decide) hn (by decide) rfl rfl ?_
    obtain ⟨v10, hc9, hx⟩ := b1_some hx
    refine mm_callV3 (a := a - 5) (ci := 10) wM_X10_count kM_X5_40 wI_X10_count wS_X10_count dX5_read_37 (e_X10_count hst hZ hn (sv5_1 hs) hc9) (mem_obj (sv5_1 hs) (by decide)) (sh_ltn (sv5_1 hs) (by decide) hn) rfl rfl rfl (Nat.le_of_ble_eq_true rfl) (by omega) (by omega) (fun v9 S9 hq => ?_)
    obtain ⟨rfl, rfl⟩ := hq
    refine ⟨fun h => ⟨h, rfl⟩, ?_⟩
    refine b_if hx (fun h11 hx => ?_) (fun h11 hx => ?_)
    · refine mm_icmp_ge 93 dX5_read_40 (by decide) (fun h => absurd h (Int32.not_le.mpr h11)) (fun _ => ?_)
      refine mm_iload_n dX5_read_43 rfl ?_
      refine b_if hx (fun h12 hx => ?_) (fun h12 hx => ?_)
      · refine mm_if_eq 93 dX5_read_44 (by decide) (fun _ => ?_) (fun h => absurd h12 h)
        refine mm_fewer [some (.ref a), some (.int v1_), none] (few_ok (bs := [true, true, false]) rfl) ?_
        exact hk93 _ _ hx
      · refine mm_if_eq 93 dX5_read_44 (by decide) (fun h => absurd h h12) (fun _ => ?_)
        refine mm_aload_n dX5_read_47 rfl rfl ?_
        obtain ⟨v14, hc13, hx⟩ := b1_some hx
        refine mm_callV3 (a := a) (ci := 5) wM_X5_isAtEnd kM_X5_46 wI_X5_isAtEnd wS_X5_isAtEnd dX5_read_48 (e_X5_isAtEnd hst hZ hn hs hc13) (mem_obj hs (by decide)) (sh_ltn hs (by decide) hn) rfl rfl rfl (Nat.le_of_ble_eq_true rfl) (by omega) (by omega) (fun v9 S9 hq => ?_)
        obtain ⟨rfl, rfl⟩ := hq
        refine ⟨fun h => ⟨h, rfl⟩, ?_⟩
        refine b_if hx (fun h15 hx => ?_) (fun h15 hx => ?_)
        · refine mm_if_ne 93 dX5_read_51 (by decide) (fun h => absurd h15 h) (fun _ => ?_)
          refine mm_aload_n dX5_read_54 rfl rfl ?_
          refine s_getP (r := some a) (b := a) (ci := 5) (k := 4) in_X5 rfl (by decide) rfl kF_X5_26 dX5_read_55 rfl hs (by decide) hn (by decide) rfl ?_
          refine b_if hx (fun h16 hx => ?_) (fun h16 hx => ?_)
          · refine mm_ifnull (r := sP σ a 4) 68 dX5_read_58 (by decide) (fun _ => ?_) (fun h => absurd h16 h)
            refine mm_aload_n dX5_read_68 rfl rfl ?_
            refine s_getP (r := some a) (b := a) (ci := 5) (k := 3) in_X5 rfl (by decide) rfl kF_X5_23 dX5_read_69 rfl hs (by decide) hn (by decide) rfl ?_
            refine b_if hx (fun h17 hx => ?_) (fun h17 hx => ?_)
            · refine mm_ifnull (r := sP σ a 3) 82 dX5_read_72 (by decide) (fun _ => ?_) (fun h => absurd h17 h)
              refine mm_aload_n dX5_read_82 rfl rfl ?_
              obtain ⟨v19, σ20, hc18, hx⟩ := b2_some hx
              refine mm_callV3 (a := a) (ci := 5) wM_X5_readMember kM_X5_55 wI_X5_readMember wS_X5_readMember dX5_read_83 (e_X5_readMember hst hZ hn hs hc18) (mem_obj hs (by decide)) (sh_ltn hs (by decide) hn) rfl rfl rfl (Nat.le_of_ble_eq_true rfl) (by omega) (by omega) (fun v9 S9 hq => ?_)
              obtain ⟨rfl, rfl⟩ := hq
              refine ⟨fun h => ⟨h, rfl⟩, ?_⟩
              refine mm_fewer [some (.ref a), none, some (.int v2_)] (few_ok (bs := [true, false, true]) rfl) ?_
              exact e_X5_read_86 hst hZ hn hs ih hk93 hx
            · refine mm_ifnull (r := sP σ a 3) 82 dX5_read_72 (by decide) (fun h => absurd h h17) (fun _ => ?_)
              refine mm_aload_n dX5_read_75 rfl rfl ?_
              obtain ⟨v22, σ23, hc21, hx⟩ := b2_some hx
              refine mm_callV3 (a := a) (ci := 5) wM_X5_readChoice kM_X5_52 wI_X5_readChoice wS_X5_readChoice dX5_read_76 (e_X5_readChoice hst hZ hn hs hc21) (mem_obj hs (by decide)) (sh_ltn hs (by decide) hn) rfl rfl rfl (Nat.le_of_ble_eq_true rfl) (by omega) (by omega) (fun v9 S9 hq => ?_)
              obtain ⟨rfl, rfl⟩ := hq
              refine ⟨fun h => ⟨h, rfl⟩, ?_⟩
              refine mm_goto 86 dX5_read_79 (by decide) ?_
              refine mm_fewer [some (.ref a), none, some (.int v2_)] (few_ok (bs := [true, false, true]) rfl) ?_
              exact e_X5_read_86 hst hZ hn hs ih hk93 hx
          · refine mm_ifnull (r := sP σ a 4) 68 dX5_read_58 (by decide) (fun h => absurd h h16) (fun _ => ?_)
            refine mm_aload_n dX5_read_61 rfl rfl ?_
            obtain ⟨v25, σ26, hc24, hx⟩ := b2_some hx
            refine mm_callV3 (a := a) (ci := 5) wM_X5_readValue kM_X5_49 wI_X5_readValue wS_X5_readValue dX5_read_62 (e_X5_readValue hst hZ hn hs hc24) (mem_obj hs (by decide)) (sh_ltn hs (by decide) hn) rfl rfl rfl (Nat.le_of_ble_eq_true rfl) (by omega) (by omega) (fun v9 S9 hq => ?_)
            obtain ⟨rfl, rfl⟩ := hq
            refine ⟨fun h => ⟨h, rfl⟩, ?_⟩
            refine mm_goto 86 dX5_read_65 (by decide) ?_
            refine mm_fewer [some (.ref a), none, some (.int v2_)] (few_ok (bs := [true, false, true]) rfl) ?_
            exact e_X5_read_86 hst hZ hn hs ih hk93 hx
        · refine mm_if_ne 93 dX5_read_51 (by decide) (fun _ => ?_) (fun h => absurd h h15)
          refine mm_fewer [some (.ref a), some (.int v1_), none] (few_ok (bs := [true, true, false]) rfl) ?_
          exact hk93 _ _ hx
    · refine mm_icmp_ge 93 dX5_read_40 (by decide) (fun _ => ?_) (fun h => absurd (Int32.not_lt.mp h11) h)
      refine mm_fewer [some (.ref a), some (.int v1_), none] (few_ok (bs := [true, true, false]) rfl) ?_
      exact hk93 _ _ hx
set_option maxHeartbeats 4000000 in
set_option maxRecDepth 100000 in
theorem e_X5_read_93 {g : mm_G} {l : Launch} (hst : l.stackTraces = false) {Z : Nat → Nat → Option Nat} (hZ : HZ Z) {n : Nat} (hn : 1186 ≤ n) {z : Bool} {d : Nat} {U : Nat} {a : Nat} (hs : sh a = 5) {v1_ : Int32} {σ : SG} {r : Int32} {σ' : SG} (hx : x_X5_read_93 U a v1_ σ = some (r, σ')) : mm_V g l RX5 "read" cX5_read 3 (some .int) [] (d + 5) 0 0 (mm_nt (fun v S' => v = some (.int r) ∧ S' = (mem Z σ', n, z))) 93 [some (.ref a), some (.int v1_), none] [] (mem Z σ, n, z) 0 0 := by
  unfold x_X5_read_93 at hx
  refine mm_iload_n dX5_read_93 rfl ?_
  refine b_if hx (fun h29 hx => ?_) (fun h29 hx => ?_)
  · refine mm_if_eq 108 dX5_read_94 (by decide) (fun _ => ?_) (fun h => absurd h29 h)
    refine mm_aload_n dX5_read_108 rfl rfl ?_
    refine s_getI (r := some a) (b := a) (ci := 5) (k := 7) in_X5 rfl (by decide) rfl kF_X5_33 dX5_read_109 rfl hs (by decide) hn (by decide) rfl ?_
    refine mm_iret dX5_read_112 rfl rfl ?_ (by omega) (by omega)
    obtain ⟨rfl, rfl⟩ := fin2 hx
    exact ⟨rfl, rfl⟩
  · refine mm_if_eq 108 dX5_read_94 (by decide) (fun h => absurd h h29) (fun _ => ?_)
    refine mm_aload_n dX5_read_97 rfl rfl ?_
    obtain ⟨v31, hc30, hx⟩ := b1_some hx
    refine mm_callV3 (a := a) (ci := 5) wM_X5_isAtEnd kM_X5_46 wI_X5_isAtEnd wS_X5_isAtEnd dX5_read_98 (e_X5_isAtEnd hst hZ hn hs hc30) (mem_obj hs (by decide)) (sh_ltn hs (by decide) hn) rfl rfl rfl (Nat.le_of_ble_eq_true rfl) (by omega) (by omega) (fun v9 S9 hq => ?_)
    obtain ⟨rfl, rfl⟩ := hq
    refine ⟨fun h => ⟨h, rfl⟩, ?_⟩
    refine b_if hx (fun h32 hx => ?_) (fun h32 hx => ?_)
    · refine mm_if_eq 108 dX5_read_101 (by decide) (fun _ => ?_) (fun h => absurd h32 h)
      refine mm_aload_n dX5_read_108 rfl rfl ?_
      refine s_getI (r := some a) (b := a) (ci := 5) (k := 7) in_X5 rfl (by decide) rfl kF_X5_33 dX5_read_109 rfl hs (by decide) hn (by decide) rfl ?_
      refine mm_iret dX5_read_112 rfl rfl ?_ (by omega) (by omega)
      obtain ⟨rfl, rfl⟩ := fin2 hx
      exact ⟨rfl, rfl⟩
    · refine mm_if_eq 108 dX5_read_101 (by decide) (fun h => absurd h h32) (fun _ => ?_)
      refine mm_iconst (v := 0) dX5_read_104 (by decide) ?_
      refine mm_goto 112 dX5_read_105 (by decide) ?_
      refine mm_iret dX5_read_112 rfl rfl ?_ (by omega) (by omega)
      obtain ⟨rfl, rfl⟩ := fin2 hx
      exact ⟨rfl, rfl⟩
set_option maxHeartbeats 4000000 in
set_option maxRecDepth 100000 in
theorem e_X5_read {g : mm_G} {l : Launch} (hst : l.stackTraces = false) {Z : Nat → Nat → Option Nat} (hZ : HZ Z) {n : Nat} (hn : 1186 ≤ n) {z : Bool} {d : Nat} {U : Nat} {a : Nat} (hs : sh a = 5) {σ : SG} {r : Int32} {σ' : SG} (hx : x_X5_read U a σ = some (r, σ')) : mm_Cm g l yX5_read (.code yX5_read cX5_read 3 (some .int)) (d + 5) 0 0 [.ref a] (mem Z σ, n, z) (fun v S' => v = some (.int r) ∧ S' = (mem Z σ', n, z)) := by
  refine mm_Cm_of hst (by decide) (Nat.le_of_ble_eq_true rfl) ?_
  show mm_V g l RX5 "read" cX5_read 3 (some .int) [] (d + 5) 0 0 (mm_nt (fun v S' => v = some (.int r) ∧ S' = (mem Z σ', n, z))) 0 [some (.ref a), none, none] [] (mem Z σ, n, z) 0 0
  unfold x_X5_read at hx
  refine mm_aload_n dX5_read_0 rfl rfl ?_
  refine mm_null dX5_read_1 ?_
  refine s_putP (v := none) (r := some a) (b := a) (ci := 5) (k := 2) in_X5 rfl (by decide) rfl tyX5_ok nmX5 rfl kF_X5_19 dX5_read_2 (mm_fit_r _ _) rfl hs (by decide) hn (by decide) rfl hx (fun σ1 hx => ?_)
  refine mm_aload_n dX5_read_5 rfl rfl ?_
  refine mm_null dX5_read_6 ?_
  refine s_putP (v := none) (r := some a) (b := a) (ci := 5) (k := 3) in_X5 rfl (by decide) rfl tyX5_ok nmX5 rfl kF_X5_23 dX5_read_7 (mm_fit_r _ _) rfl hs (by decide) hn (by decide) rfl hx (fun σ2 hx => ?_)
  refine mm_aload_n dX5_read_10 rfl rfl ?_
  refine mm_null dX5_read_11 ?_
  refine s_putP (v := none) (r := some a) (b := a) (ci := 5) (k := 4) in_X5 rfl (by decide) rfl tyX5_ok nmX5 rfl kF_X5_26 dX5_read_12 (mm_fit_r _ _) rfl hs (by decide) hn (by decide) rfl hx (fun σ3 hx => ?_)
  refine mm_aload_n dX5_read_15 rfl rfl ?_
  refine mm_iconst (v := 0) dX5_read_16 (by decide) ?_
  refine s_putI (v := 0) (r := some a) (b := a) (ci := 5) (k := 6) in_X5 rfl (by decide) rfl tyX5_ok nmX5 rfl kF_X5_29 dX5_read_17 (mm_fit_int _) rfl hs (by decide) hn (by decide) rfl hx (fun σ4 hx => ?_)
  refine mm_aload_n dX5_read_20 rfl rfl ?_
  refine mm_iconst (v := 1) dX5_read_21 (by decide) ?_
  refine s_putI (v := 1) (r := some a) (b := a) (ci := 5) (k := 7) in_X5 rfl (by decide) rfl tyX5_ok nmX5 rfl kF_X5_33 dX5_read_22 (mm_fit_int _) rfl hs (by decide) hn (by decide) rfl hx (fun σ5 hx => ?_)
  refine mm_aload_n dX5_read_25 rfl rfl ?_
  obtain ⟨v7, σ8, hc6, hx⟩ := b2_some hx
  refine mm_callV3 (a := a) (ci := 5) wM_X5_readSyntax kM_X5_36 wI_X5_readSyntax wS_X5_readSyntax dX5_read_26 (e_X5_readSyntax hst hZ hn hs hc6) (mem_obj hs (by decide)) (sh_ltn hs (by decide) hn) rfl rfl rfl (Nat.le_of_ble_eq_true rfl) (by omega) (by omega) (fun v9 S9 hq => ?_)
  obtain ⟨rfl, rfl⟩ := hq
  refine ⟨fun h => ⟨h, rfl⟩, ?_⟩
  refine mm_istore_n [some (.ref a), some (.int v7), none] dX5_read_29 (by decide) rfl ?_
  refine mm_iconst (v := 0) dX5_read_30 (by decide) ?_
  refine mm_istore_n [some (.ref a), some (.int v7), some (.int 0)] dX5_read_31 (by decide) rfl ?_
  refine e_X5_read_L32 hst hZ hn hs ?_ _ _ _ _ hx
  · intro w27 σ28 hx
    exact e_X5_read_93 hst hZ hn hs hx
set_option maxHeartbeats 4000000 in
set_option maxRecDepth 100000 in
theorem e_X5_endPlace {g : mm_G} {l : Launch} (hst : l.stackTraces = false) {Z : Nat → Nat → Option Nat} (hZ : HZ Z) {n : Nat} (hn : 1186 ≤ n) {z : Bool} {d : Nat} {a : Nat} (hs : sh a = 5) {σ : SG} {r : Int32} (hx : x_X5_endPlace a σ = some r) : mm_Cm g l yX5_endPlace (.code yX5_endPlace cX5_endPlace 1 (some .int)) (d + 1) 0 0 [.ref a] (mem Z σ, n, z) (fun v S' => v = some (.int r) ∧ S' = (mem Z σ, n, z)) := by
  refine mm_Cm_of hst (by decide) (Nat.le_of_ble_eq_true rfl) ?_
  show mm_V g l RX5 "endPlace" cX5_endPlace 1 (some .int) [] (d + 1) 0 0 (mm_nt (fun v S' => v = some (.int r) ∧ S' = (mem Z σ, n, z))) 0 [some (.ref a)] [] (mem Z σ, n, z) 0 0
  unfold x_X5_endPlace at hx
  refine mm_aload_n dX5_endPlace_0 rfl rfl ?_
  refine s_getS (q := a - 5) (r := some a) (b := a) (ci := 5) (k := 1) in_X5 rfl (by decide) rfl kF_X5_15 dX5_endPlace_1 rfl hs (by decide) hn (by decide) rfl rfl ?_
  refine mm_aload_n dX5_endPlace_4 rfl rfl ?_
  refine s_getI (r := some a) (b := a) (ci := 5) (k := 6) in_X5 rfl (by decide) rfl kF_X5_29 dX5_endPlace_5 rfl hs (by decide) hn (by decide) rfl ?_
  obtain ⟨v2, hc1, hx⟩ := b1_some hx
  refine mm_callV3 (a := a - 5) (ci := 10) wM_X10_startOf kM_X5_58 wI_X10_startOf wS_X10_startOf dX5_endPlace_8 (e_X10_startOf hst hZ hn (sv5_1 hs) hc1) (mem_obj (sv5_1 hs) (by decide)) (sh_ltn (sv5_1 hs) (by decide) hn) rfl rfl rfl (Nat.le_of_ble_eq_true rfl) (by omega) (by omega) (fun v9 S9 hq => ?_)
  obtain ⟨rfl, rfl⟩ := hq
  refine ⟨fun h => ⟨h, rfl⟩, ?_⟩
  refine mm_iret dX5_endPlace_11 rfl rfl ?_ (by omega) (by omega)
  obtain rfl := fin1 hx
  exact ⟨rfl, rfl⟩
set_option maxHeartbeats 4000000 in
set_option maxRecDepth 100000 in
theorem e_X6_used {g : mm_G} {l : Launch} (hst : l.stackTraces = false) {Z : Nat → Nat → Option Nat} (hZ : HZ Z) {n : Nat} (hn : 1186 ≤ n) {z : Bool} {d : Nat} {a : Nat} (hs : sh a = 6) {σ : SG} {r : Int32} (hx : x_X6_used a σ = some r) : mm_Cm g l yX6_used (.code yX6_used cX6_used 1 (some .int)) (d) 0 0 [.ref a] (mem Z σ, n, z) (fun v S' => v = some (.int r) ∧ S' = (mem Z σ, n, z)) := by
  refine mm_Cm_of hst (by decide) (Nat.le_of_ble_eq_true rfl) ?_
  show mm_V g l RX6 "used" cX6_used 1 (some .int) [] (d) 0 0 (mm_nt (fun v S' => v = some (.int r) ∧ S' = (mem Z σ, n, z))) 0 [some (.ref a)] [] (mem Z σ, n, z) 0 0
  unfold x_X6_used at hx
  refine mm_aload_n dX6_used_0 rfl rfl ?_
  refine s_getI (r := some a) (b := a) (ci := 6) (k := 3) in_X6 rfl (by decide) rfl kF_X6_34 dX6_used_1 rfl hs (by decide) hn (by decide) rfl ?_
  refine mm_iret dX6_used_4 rfl rfl ?_ (by omega) (by omega)
  obtain rfl := fin1 hx
  exact ⟨rfl, rfl⟩
set_option maxHeartbeats 4000000 in
set_option maxRecDepth 100000 in
theorem e_X3_isType {g : mm_G} {l : Launch} (hst : l.stackTraces = false) {Z : Nat → Nat → Option Nat} (hZ : HZ Z) {n : Nat} (hn : 1186 ≤ n) {z : Bool} {d : Nat} {a : Nat} (hs : sh a = 3) {σ : SG} {r : Int32} (hx : x_X3_isType a σ = some r) : mm_Cm g l yX3_isType (.code yX3_isType cX3_isType 1 (some .boolean)) (d) 0 0 [.ref a] (mem Z σ, n, z) (fun v S' => v = some (.int r) ∧ S' = (mem Z σ, n, z)) := by
  refine mm_Cm_of hst (by decide) (Nat.le_of_ble_eq_true rfl) ?_
  show mm_V g l RX3 "isType" cX3_isType 1 (some .boolean) [] (d) 0 0 (mm_nt (fun v S' => v = some (.int r) ∧ S' = (mem Z σ, n, z))) 0 [some (.ref a)] [] (mem Z σ, n, z) 0 0
  unfold x_X3_isType at hx
  refine mm_aload_n dX3_isType_0 rfl rfl ?_
  refine s_getI (r := some a) (b := a) (ci := 3) (k := 0) in_X3 rfl (by decide) rfl kF_X3_9 dX3_isType_1 rfl hs (by decide) hn (by decide) rfl ?_
  refine b_if hx (fun h1 hx => ?_) (fun h1 hx => ?_)
  · refine mm_if_eq 15 dX3_isType_4 (by decide) (fun _ => ?_) (fun h => absurd h1 h)
    refine mm_iconst (v := 1) dX3_isType_15 (by decide) ?_
    refine mm_goto 20 dX3_isType_16 (by decide) ?_
    refine mm_iret dX3_isType_20 rfl rfl ?_ (by omega) (by omega)
    obtain rfl := fin1 hx
    exact ⟨rfl, rfl⟩
  · refine mm_if_eq 15 dX3_isType_4 (by decide) (fun h => absurd h h1) (fun _ => ?_)
    refine mm_aload_n dX3_isType_7 rfl rfl ?_
    refine s_getI (r := some a) (b := a) (ci := 3) (k := 0) in_X3 rfl (by decide) rfl kF_X3_9 dX3_isType_8 rfl hs (by decide) hn (by decide) rfl ?_
    refine mm_iconst (v := 1) dX3_isType_11 (by decide) ?_
    refine b_if hx (fun h2 hx => ?_) (fun h2 hx => ?_)
    · refine mm_icmp_ne 19 dX3_isType_12 (by decide) (fun h => absurd h2 h) (fun _ => ?_)
      refine mm_iconst (v := 1) dX3_isType_15 (by decide) ?_
      refine mm_goto 20 dX3_isType_16 (by decide) ?_
      refine mm_iret dX3_isType_20 rfl rfl ?_ (by omega) (by omega)
      obtain rfl := fin1 hx
      exact ⟨rfl, rfl⟩
    · refine mm_icmp_ne 19 dX3_isType_12 (by decide) (fun _ => ?_) (fun h => absurd h h2)
      refine mm_iconst (v := 0) dX3_isType_19 (by decide) ?_
      refine mm_iret dX3_isType_20 rfl rfl ?_ (by omega) (by omega)
      obtain rfl := fin1 hx
      exact ⟨rfl, rfl⟩
set_option maxHeartbeats 4000000 in
set_option maxRecDepth 100000 in
theorem e_X6_isCalled {g : mm_G} {l : Launch} (hst : l.stackTraces = false) {Z : Nat → Nat → Option Nat} (hZ : HZ Z) {n : Nat} (hn : 1186 ≤ n) {z : Bool} {d : Nat} {U : Nat} {a : Nat} (hs : sh a = 6) {p0 : Option Nat} {p1 : Option Nat} {p2 : Int32} {p3 : Int32} {σ : SG} {r : Int32} (hx : x_X6_isCalled U a p0 p1 p2 p3 σ = some r) : mm_Cm g l yX6_isCalled (.code yX6_isCalled cX6_isCalled 5 (some .boolean)) (d + 1) 0 0 [.ref a, va_rf p0, va_rf p1, .int p2, .int p3] (mem Z σ, n, z) (fun v S' => v = some (.int r) ∧ S' = (mem Z σ, n, z)) := by
  refine mm_Cm_of hst (by decide) (by cases p0 <;> cases p1 <;>  exact Nat.le_of_ble_eq_true rfl) ?_
  rw [show mm_ent [.ref a, va_rf p0, va_rf p1, .int p2, .int p3] 5 = [some (.ref a), some (va_rf p0), some (va_rf p1), some (.int p2), some (.int p3)] from by cases p0 <;> cases p1 <;>  rfl]
  show mm_V g l RX6 "isCalled" cX6_isCalled 5 (some .boolean) [] (d + 1) 0 0 (mm_nt (fun v S' => v = some (.int r) ∧ S' = (mem Z σ, n, z))) 0 [some (.ref a), some (va_rf p0), some (va_rf p1), some (.int p2), some (.int p3)] [] (mem Z σ, n, z) 0 0
  unfold x_X6_isCalled at hx
  refine mm_aload_n dX6_isCalled_0 rfl (isr_rf _) ?_
  obtain ⟨q1, hr2, hs3, hx⟩ := ck_some hx
  refine s_getIN (r := p0) (b := q1) (ci := 3) (k := 5) in_X3 rfl (by decide) rfl kF_X6_55 dX6_isCalled_1 hr2 hs3 (by decide) hn (by decide) rfl ?_
  refine mm_aload_n dX6_isCalled_4 rfl (isr_rf _) ?_
  refine s_getIN (r := p0) (b := q1) (ci := 3) (k := 4) in_X3 rfl (by decide) rfl kF_X6_58 dX6_isCalled_5 hr2 hs3 (by decide) hn (by decide) rfl ?_
  refine mm_isub dX6_isCalled_8 ?_
  refine mm_iload dX6_isCalled_9 rfl ?_
  refine mm_iload_n dX6_isCalled_11 rfl ?_
  refine mm_isub dX6_isCalled_12 ?_
  refine b_if hx (fun h4 hx => ?_) (fun h4 hx => ?_)
  · refine mm_icmp_ne 38 dX6_isCalled_13 (by decide) (fun h => absurd h4 h) (fun _ => ?_)
    refine mm_aload_n dX6_isCalled_16 rfl rfl ?_
    refine s_getS (q := a + 1) (r := some a) (b := a) (ci := 6) (k := 0) in_X6 rfl (by decide) rfl kF_X6_14 dX6_isCalled_17 rfl hs (by decide) hn (by decide) rfl rfl ?_
    refine mm_aload_n dX6_isCalled_20 rfl (isr_rf _) ?_
    refine s_getIN (r := p0) (b := q1) (ci := 3) (k := 4) in_X3 rfl (by decide) rfl kF_X6_58 dX6_isCalled_21 hr2 hs3 (by decide) hn (by decide) rfl ?_
    refine mm_aload_n dX6_isCalled_24 rfl (isr_rf _) ?_
    refine mm_iload_n dX6_isCalled_25 rfl ?_
    refine mm_iload dX6_isCalled_26 rfl ?_
    obtain ⟨v6, hc5, hx⟩ := b1_some hx
    refine mm_callV3 (a := a + 1) (ci := 0) wM_X0_isSame kM_X6_61 wI_X0_isSame wS_X0_isSame dX6_isCalled_28 (e_X0_isSame hst hZ hn (sv6_0 hs) hc5) (mem_obj (sv6_0 hs) (by decide)) (sh_ltn (sv6_0 hs) (by decide) hn) rfl rfl rfl (Nat.le_of_ble_eq_true rfl) (by omega) (by omega) (fun v9 S9 hq => ?_)
    obtain ⟨rfl, rfl⟩ := hq
    refine ⟨fun h => ⟨h, rfl⟩, ?_⟩
    refine b_if hx (fun h7 hx => ?_) (fun h7 hx => ?_)
    · refine mm_if_eq 38 dX6_isCalled_31 (by decide) (fun _ => ?_) (fun h => absurd h7 h)
      refine mm_iconst (v := 0) dX6_isCalled_38 (by decide) ?_
      refine mm_iret dX6_isCalled_39 rfl rfl ?_ (by omega) (by omega)
      obtain rfl := fin1 hx
      exact ⟨rfl, rfl⟩
    · refine mm_if_eq 38 dX6_isCalled_31 (by decide) (fun h => absurd h h7) (fun _ => ?_)
      refine mm_iconst (v := 1) dX6_isCalled_34 (by decide) ?_
      refine mm_goto 39 dX6_isCalled_35 (by decide) ?_
      refine mm_iret dX6_isCalled_39 rfl rfl ?_ (by omega) (by omega)
      obtain rfl := fin1 hx
      exact ⟨rfl, rfl⟩
  · refine mm_icmp_ne 38 dX6_isCalled_13 (by decide) (fun _ => ?_) (fun h => absurd h h4)
    refine mm_iconst (v := 0) dX6_isCalled_38 (by decide) ?_
    refine mm_iret dX6_isCalled_39 rfl rfl ?_ (by omega) (by omega)
    obtain rfl := fin1 hx
    exact ⟨rfl, rfl⟩
set_option maxHeartbeats 4000000 in
set_option maxRecDepth 100000 in
theorem e_X6_typeIn_60 {g : mm_G} {l : Launch} (hst : l.stackTraces = false) {Z : Nat → Nat → Option Nat} (hZ : HZ Z) {n : Nat} (hn : 1186 ≤ n) {z : Bool} {d : Nat} {U : Nat} {a : Nat} (hs : sh a = 6) {k3 : Int32 → Option (Option Nat)} {v1_ : Option Nat} {v2_ : Int32} {v3_ : Int32} {v4_ : Int32} {σ : SG} {r : Option Nat} (hk3 : ∀ (v4_ : Int32), k3 v4_ = some r → mm_V g l RX6 "typeIn" cX6_typeIn 6 (some (.object "ProtoDesk$Item")) [] (d + 2) 0 0 (mm_nt (fun v S' => v = some (va_rf r) ∧ S' = (mem Z σ, n, z))) 3 [some (.ref a), some (va_rf v1_), some (.int v2_), some (.int v3_), some (.int v4_), none] [] (mem Z σ, n, z) 0 0) (hx : x_X6_typeIn_60 U a k3 v1_ v2_ v3_ v4_ σ = some r) : mm_V g l RX6 "typeIn" cX6_typeIn 6 (some (.object "ProtoDesk$Item")) [] (d + 2) 0 0 (mm_nt (fun v S' => v = some (va_rf r) ∧ S' = (mem Z σ, n, z))) 60 [some (.ref a), some (va_rf v1_), some (.int v2_), some (.int v3_), some (.int v4_), none] [] (mem Z σ, n, z) 0 0 := by
  unfold x_X6_typeIn_60 at hx
  refine mm_iinc (v := v4_ + 1) [some (.ref a), some (va_rf v1_), some (.int v2_), some (.int v3_), some (.int (v4_ + 1)), none] dX6_typeIn_60 rfl rfl (by decide) rfl ?_
  refine mm_goto 3 dX6_typeIn_63 (by decide) ?_
  exact hk3 _ hx
set_option maxHeartbeats 4000000 in
set_option maxRecDepth 100000 in
theorem e_X6_typeIn_L3 {g : mm_G} {l : Launch} (hst : l.stackTraces = false) {Z : Nat → Nat → Option Nat} (hZ : HZ Z) {n : Nat} (hn : 1186 ≤ n) {z : Bool} {d : Nat} {U : Nat} {a : Nat} (hs : sh a = 6) {v1_ : Option Nat} {v2_ : Int32} {v3_ : Int32} {σ : SG} {r : Option Nat} : ∀ (U1 : Nat) (v4_ : Int32), x_X6_typeIn_L3 U a v1_ v2_ v3_ σ U1 v4_ = some r → mm_V g l RX6 "typeIn" cX6_typeIn 6 (some (.object "ProtoDesk$Item")) [] (d + 2) 0 0 (mm_nt (fun v S' => v = some (va_rf r) ∧ S' = (mem Z σ, n, z))) 3 [some (.ref a), some (va_rf v1_), some (.int v2_), some (.int v3_), some (.int v4_), none] [] (mem Z σ, n, z) 0 0 := by
  intro U1
  induction U1 with
  | zero => intro v4_ hx; exact absurd hx (by simp [x_X6_typeIn_L3])
  | succ U1 ih =>
    intro v4_ hx
    rw [x_X6_typeIn_L3] at hx
    refine mm_iload dX6_typeIn_3 rfl ?_
    refine mm_aload_n dX6_typeIn_5 rfl rfl ?_
    refine s_getI (r := some a) (b := a) (ci := 6) (k := 3) in_X6 rfl (by decide) rfl kF_X6_34 dX6_typeIn_6 rfl hs (by decide) hn (by decide) rfl ?_
    refine b_if hx (fun h1 hx => ?_) (fun h1 hx => ?_)
    · refine mm_icmp_ge 66 dX6_typeIn_9 (by decide) (fun h => absurd h (Int32.not_le.mpr h1)) (fun _ => ?_)
      refine mm_aload_n dX6_typeIn_12 rfl rfl ?_
      refine mm_iload dX6_typeIn_13 rfl ?_
      obtain ⟨v3, hc2, hx⟩ := b1_some hx
      refine mm_callV3 (a := a) (ci := 6) wM_X6_item kM_X6_45 wI_X6_item wS_X6_item dX6_typeIn_15 (e_X6_item hst hZ hn hs hc2) (mem_obj hs (by decide)) (sh_ltn hs (by decide) hn) rfl rfl rfl (Nat.le_of_ble_eq_true rfl) (by omega) (by omega) (fun v9 S9 hq => ?_)
      obtain ⟨rfl, rfl⟩ := hq
      refine ⟨fun h => ⟨h, rfl⟩, ?_⟩
      refine mm_astore [some (.ref a), some (va_rf v1_), some (.int v2_), some (.int v3_), some (.int v4_), some (va_rf v3)] dX6_typeIn_18 (by decide) (isr_rf _) rfl ?_
      refine mm_aload dX6_typeIn_20 rfl (isr_rf _) ?_
      refine b_if hx (fun h4 hx => ?_) (fun h4 hx => ?_)
      · refine mm_ifnull (r := v3) 60 dX6_typeIn_22 (by decide) (fun _ => ?_) (fun h => absurd h4 h)
        refine mm_fewer [some (.ref a), some (va_rf v1_), some (.int v2_), some (.int v3_), some (.int v4_), none] (few_ok (bs := [true, true, true, true, true, false]) rfl) ?_
        exact e_X6_typeIn_60 hst hZ hn hs ih hx
      · refine mm_ifnull (r := v3) 60 dX6_typeIn_22 (by decide) (fun h => absurd h h4) (fun _ => ?_)
        refine mm_aload dX6_typeIn_25 rfl (isr_rf _) ?_
        obtain ⟨q5, hr6, hs7, hx⟩ := ck_some hx
        refine s_getPN (r := v3) (b := q5) (ci := 3) (k := 2) in_X3 rfl (by decide) rfl kF_X6_65 dX6_typeIn_27 hr6 hs7 (by decide) hn (by decide) rfl ?_
        refine mm_aload_n dX6_typeIn_30 rfl (isr_rf _) ?_
        refine b_if hx (fun h8 hx => ?_) (fun h8 hx => ?_)
        · refine mm_acmp_ne (rx := sP σ q5 2) (ry := v1_) 60 dX6_typeIn_31 (by decide) (fun h => absurd h8 h) (fun _ => ?_)
          refine mm_aload dX6_typeIn_34 rfl (isr_rf _) ?_
          obtain ⟨v10, hc9, hx⟩ := b1_some hx
          refine mm_callV3 (a := q5) (ci := 3) wM_X3_isType kM_X6_69 wI_X3_isType wS_X3_isType dX6_typeIn_36 (e_X3_isType hst hZ hn hs7 hc9) (mem_obj hs7 (by decide)) (sh_ltn hs7 (by decide) hn) rfl rfl (by rw [hr6]; rfl) (Nat.le_of_ble_eq_true rfl) (by omega) (by omega) (fun v9 S9 hq => ?_)
          obtain ⟨rfl, rfl⟩ := hq
          refine ⟨fun h => ⟨h, rfl⟩, ?_⟩
          refine b_if hx (fun h11 hx => ?_) (fun h11 hx => ?_)
          · refine mm_if_eq 60 dX6_typeIn_39 (by decide) (fun _ => ?_) (fun h => absurd h11 h)
            refine mm_fewer [some (.ref a), some (va_rf v1_), some (.int v2_), some (.int v3_), some (.int v4_), none] (few_ok (bs := [true, true, true, true, true, false]) rfl) ?_
            exact e_X6_typeIn_60 hst hZ hn hs ih hx
          · refine mm_if_eq 60 dX6_typeIn_39 (by decide) (fun h => absurd h h11) (fun _ => ?_)
            refine mm_aload_n dX6_typeIn_42 rfl rfl ?_
            refine mm_aload dX6_typeIn_43 rfl (isr_rf _) ?_
            refine mm_aload_n dX6_typeIn_45 rfl rfl ?_
            refine s_getS (q := a + 1) (r := some a) (b := a) (ci := 6) (k := 0) in_X6 rfl (by decide) rfl kF_X6_14 dX6_typeIn_46 rfl hs (by decide) hn (by decide) rfl rfl ?_
            refine mm_iload_n dX6_typeIn_49 rfl ?_
            refine mm_iload_n dX6_typeIn_50 rfl ?_
            obtain ⟨v13, hc12, hx⟩ := b1_some hx
            refine mm_callV3 (a := a) (ci := 6) wM_X6_isCalled kM_X6_73 wI_X6_isCalled wS_X6_isCalled dX6_typeIn_51 (e_X6_isCalled hst hZ hn hs hc12) (mem_obj hs (by decide)) (sh_ltn hs (by decide) hn) rfl rfl rfl (Nat.le_of_ble_eq_true rfl) (by omega) (by omega) (fun v9 S9 hq => ?_)
            obtain ⟨rfl, rfl⟩ := hq
            refine ⟨fun h => ⟨h, rfl⟩, ?_⟩
            refine b_if hx (fun h14 hx => ?_) (fun h14 hx => ?_)
            · refine mm_if_eq 60 dX6_typeIn_54 (by decide) (fun _ => ?_) (fun h => absurd h14 h)
              refine mm_fewer [some (.ref a), some (va_rf v1_), some (.int v2_), some (.int v3_), some (.int v4_), none] (few_ok (bs := [true, true, true, true, true, false]) rfl) ?_
              exact e_X6_typeIn_60 hst hZ hn hs ih hx
            · refine mm_if_eq 60 dX6_typeIn_54 (by decide) (fun h => absurd h h14) (fun _ => ?_)
              refine mm_aload dX6_typeIn_57 rfl (isr_rf _) ?_
              refine mm_aret (a := v3) dX6_typeIn_59 rfl ?_ (by omega) (by omega)
              obtain rfl := fin1 hx
              exact ⟨rfl, rfl⟩
        · refine mm_acmp_ne (rx := sP σ q5 2) (ry := v1_) 60 dX6_typeIn_31 (by decide) (fun _ => ?_) (fun h => absurd h h8)
          refine mm_fewer [some (.ref a), some (va_rf v1_), some (.int v2_), some (.int v3_), some (.int v4_), none] (few_ok (bs := [true, true, true, true, true, false]) rfl) ?_
          exact e_X6_typeIn_60 hst hZ hn hs ih hx
    · refine mm_icmp_ge 66 dX6_typeIn_9 (by decide) (fun _ => ?_) (fun h => absurd (Int32.not_lt.mp h1) h)
      refine mm_null dX6_typeIn_66 ?_
      refine mm_aret (a := none) dX6_typeIn_67 rfl ?_ (by omega) (by omega)
      obtain rfl := fin1 hx
      exact ⟨rfl, rfl⟩
set_option maxHeartbeats 4000000 in
set_option maxRecDepth 100000 in
theorem e_X6_typeIn {g : mm_G} {l : Launch} (hst : l.stackTraces = false) {Z : Nat → Nat → Option Nat} (hZ : HZ Z) {n : Nat} (hn : 1186 ≤ n) {z : Bool} {d : Nat} {U : Nat} {a : Nat} (hs : sh a = 6) {p0 : Option Nat} {p1 : Int32} {p2 : Int32} {σ : SG} {r : Option Nat} (hx : x_X6_typeIn U a p0 p1 p2 σ = some r) : mm_Cm g l yX6_typeIn (.code yX6_typeIn cX6_typeIn 6 (some (.object "ProtoDesk$Item"))) (d + 2) 0 0 [.ref a, va_rf p0, .int p1, .int p2] (mem Z σ, n, z) (fun v S' => v = some (va_rf r) ∧ S' = (mem Z σ, n, z)) := by
  refine mm_Cm_of hst (by decide) (by cases p0 <;>  exact Nat.le_of_ble_eq_true rfl) ?_
  rw [show mm_ent [.ref a, va_rf p0, .int p1, .int p2] 6 = [some (.ref a), some (va_rf p0), some (.int p1), some (.int p2), none, none] from by cases p0 <;>  rfl]
  show mm_V g l RX6 "typeIn" cX6_typeIn 6 (some (.object "ProtoDesk$Item")) [] (d + 2) 0 0 (mm_nt (fun v S' => v = some (va_rf r) ∧ S' = (mem Z σ, n, z))) 0 [some (.ref a), some (va_rf p0), some (.int p1), some (.int p2), none, none] [] (mem Z σ, n, z) 0 0
  unfold x_X6_typeIn at hx
  refine mm_iconst (v := 0) dX6_typeIn_0 (by decide) ?_
  refine mm_istore [some (.ref a), some (va_rf p0), some (.int p1), some (.int p2), some (.int 0), none] dX6_typeIn_1 (by decide) rfl ?_
  refine e_X6_typeIn_L3 hst hZ hn hs _ _ hx
set_option maxHeartbeats 4000000 in
set_option maxRecDepth 100000 in
theorem e_X2_typeAround_L22 {g : mm_G} {l : Launch} (hst : l.stackTraces = false) {Z : Nat → Nat → Option Nat} (hZ : HZ Z) {n : Nat} (hn : 1186 ≤ n) {z : Bool} {d : Nat} {U : Nat} {a : Nat} (hs : sh a = 2) {k59 : Option (Option Nat)} {v3_ : Int32} {v4_ : Int32} {σ : SG} {r : Option Nat} (hk59 : k59 = some r → mm_V g l RX2 "typeAround" cX2_typeAround 7 (some (.object "ProtoDesk$Item")) [] (d + 3) 0 0 (mm_nt (fun v S' => v = some (va_rf r) ∧ S' = (mem Z σ, n, z))) 59 [some (.ref a), none, none, some (.int v3_), some (.int v4_), none, none] [] (mem Z σ, n, z) 0 0) : ∀ (U1 : Nat) (v5_ : Option Nat), x_X2_typeAround_L22 U a k59 v3_ v4_ σ U1 v5_ = some r → mm_V g l RX2 "typeAround" cX2_typeAround 7 (some (.object "ProtoDesk$Item")) [] (d + 3) 0 0 (mm_nt (fun v S' => v = some (va_rf r) ∧ S' = (mem Z σ, n, z))) 22 [some (.ref a), none, none, some (.int v3_), some (.int v4_), some (va_rf v5_), none] [] (mem Z σ, n, z) 0 0 := by
  intro U1
  induction U1 with
  | zero => intro v5_ hx; exact absurd hx (by simp [x_X2_typeAround_L22])
  | succ U1 ih =>
    intro v5_ hx
    rw [x_X2_typeAround_L22] at hx
    refine mm_aload dX2_typeAround_22 rfl (isr_rf _) ?_
    refine b_if hx (fun h5 hx => ?_) (fun h5 hx => ?_)
    · refine mm_ifnull (r := v5_) 59 dX2_typeAround_24 (by decide) (fun _ => ?_) (fun h => absurd h5 h)
      refine mm_fewer [some (.ref a), none, none, some (.int v3_), some (.int v4_), none, none] (few_ok (bs := [true, false, false, true, true, false, false]) rfl) ?_
      exact hk59  hx
    · refine mm_ifnull (r := v5_) 59 dX2_typeAround_24 (by decide) (fun h => absurd h h5) (fun _ => ?_)
      refine mm_aload_n dX2_typeAround_27 rfl rfl ?_
      refine s_getS (q := a + 1) (r := some a) (b := a) (ci := 2) (k := 0) in_X2 rfl (by decide) rfl kF_X2_12 dX2_typeAround_28 rfl hs (by decide) hn (by decide) rfl rfl ?_
      refine mm_aload dX2_typeAround_31 rfl (isr_rf _) ?_
      refine mm_iload_n dX2_typeAround_33 rfl ?_
      refine mm_iload dX2_typeAround_34 rfl ?_
      obtain ⟨v7, hc6, hx⟩ := b1_some hx
      refine mm_callV3 (a := a + 1) (ci := 6) wM_X6_typeIn kM_X2_189 wI_X6_typeIn wS_X6_typeIn dX2_typeAround_36 (e_X6_typeIn hst hZ hn (sv2_0 hs) hc6) (mem_obj (sv2_0 hs) (by decide)) (sh_ltn (sv2_0 hs) (by decide) hn) rfl rfl rfl (Nat.le_of_ble_eq_true rfl) (by omega) (by omega) (fun v9 S9 hq => ?_)
      obtain ⟨rfl, rfl⟩ := hq
      refine ⟨fun h => ⟨h, rfl⟩, ?_⟩
      refine mm_astore [some (.ref a), none, none, some (.int v3_), some (.int v4_), some (va_rf v5_), some (va_rf v7)] dX2_typeAround_39 (by decide) (isr_rf _) ((st1_o (r := v5_) rfl).trans rfl) ?_
      refine mm_aload dX2_typeAround_41 rfl (isr_rf _) ?_
      refine b_if hx (fun h8 hx => ?_) (fun h8 hx => ?_)
      · refine mm_ifnull (r := v7) 49 dX2_typeAround_43 (by decide) (fun _ => ?_) (fun h => absurd h8 h)
        refine mm_aload dX2_typeAround_49 rfl (isr_rf _) ?_
        obtain ⟨q9, hr10, hs11, hx⟩ := ck_some hx
        refine s_getPN (r := v5_) (b := q9) (ci := 3) (k := 2) in_X3 rfl (by decide) rfl kF_X2_121 dX2_typeAround_51 hr10 hs11 (by decide) hn (by decide) rfl ?_
        refine mm_astore [some (.ref a), none, none, some (.int v3_), some (.int v4_), some (va_rf (sP σ q9 2)), some (va_rf v7)] dX2_typeAround_54 (by decide) (isr_rf _) rfl ?_
        refine mm_goto 22 dX2_typeAround_56 (by decide) ?_
        refine mm_fewer [some (.ref a), none, none, some (.int v3_), some (.int v4_), some (va_rf (sP σ q9 2)), none] (few_ok (bs := [true, false, false, true, true, true, false]) rfl) ?_
        exact ih _ hx
      · refine mm_ifnull (r := v7) 49 dX2_typeAround_43 (by decide) (fun h => absurd h h8) (fun _ => ?_)
        refine mm_aload dX2_typeAround_46 rfl (isr_rf _) ?_
        refine mm_aret (a := v7) dX2_typeAround_48 rfl ?_ (by omega) (by omega)
        obtain rfl := fin1 hx
        exact ⟨rfl, rfl⟩
set_option maxHeartbeats 4000000 in
set_option maxRecDepth 100000 in
theorem e_X2_typeAround {g : mm_G} {l : Launch} (hst : l.stackTraces = false) {Z : Nat → Nat → Option Nat} (hZ : HZ Z) {n : Nat} (hn : 1186 ≤ n) {z : Bool} {d : Nat} {U : Nat} {a : Nat} (hs : sh a = 2) {p0 : Option Nat} {p1 : Int32} {σ : SG} {r : Option Nat} (hx : x_X2_typeAround U a p0 p1 σ = some r) : mm_Cm g l yX2_typeAround (.code yX2_typeAround cX2_typeAround 7 (some (.object "ProtoDesk$Item"))) (d + 3) 0 0 [.ref a, va_rf p0, .int p1] (mem Z σ, n, z) (fun v S' => v = some (va_rf r) ∧ S' = (mem Z σ, n, z)) := by
  refine mm_Cm_of hst (by decide) (by cases p0 <;>  exact Nat.le_of_ble_eq_true rfl) ?_
  rw [show mm_ent [.ref a, va_rf p0, .int p1] 7 = [some (.ref a), some (va_rf p0), some (.int p1), none, none, none, none] from by cases p0 <;>  rfl]
  show mm_V g l RX2 "typeAround" cX2_typeAround 7 (some (.object "ProtoDesk$Item")) [] (d + 3) 0 0 (mm_nt (fun v S' => v = some (va_rf r) ∧ S' = (mem Z σ, n, z))) 0 [some (.ref a), some (va_rf p0), some (.int p1), none, none, none, none] [] (mem Z σ, n, z) 0 0
  unfold x_X2_typeAround at hx
  refine mm_aload_n dX2_typeAround_0 rfl rfl ?_
  refine s_getS (q := a + 186) (r := some a) (b := a) (ci := 2) (k := 1) in_X2 rfl (by decide) rfl kF_X2_27 dX2_typeAround_1 rfl hs (by decide) hn (by decide) rfl rfl ?_
  refine mm_iload_n dX2_typeAround_4 rfl ?_
  obtain ⟨v2, hc1, hx⟩ := b1_some hx
  refine mm_callV3 (a := a + 186) (ci := 10) wM_X10_startOf kM_X2_103 wI_X10_startOf wS_X10_startOf dX2_typeAround_5 (e_X10_startOf hst hZ hn (sv2_1 hs) hc1) (mem_obj (sv2_1 hs) (by decide)) (sh_ltn (sv2_1 hs) (by decide) hn) rfl rfl rfl (Nat.le_of_ble_eq_true rfl) (by omega) (by omega) (fun v9 S9 hq => ?_)
  obtain ⟨rfl, rfl⟩ := hq
  refine ⟨fun h => ⟨h, rfl⟩, ?_⟩
  refine mm_istore_n [some (.ref a), some (va_rf p0), some (.int p1), some (.int v2), none, none, none] dX2_typeAround_8 (by decide) rfl ?_
  refine mm_aload_n dX2_typeAround_9 rfl rfl ?_
  refine s_getS (q := a + 186) (r := some a) (b := a) (ci := 2) (k := 1) in_X2 rfl (by decide) rfl kF_X2_27 dX2_typeAround_10 rfl hs (by decide) hn (by decide) rfl rfl ?_
  refine mm_iload_n dX2_typeAround_13 rfl ?_
  obtain ⟨v4, hc3, hx⟩ := b1_some hx
  refine mm_callV3 (a := a + 186) (ci := 10) wM_X10_endOf kM_X2_186 wI_X10_endOf wS_X10_endOf dX2_typeAround_14 (e_X10_endOf hst hZ hn (sv2_1 hs) hc3) (mem_obj (sv2_1 hs) (by decide)) (sh_ltn (sv2_1 hs) (by decide) hn) rfl rfl rfl (Nat.le_of_ble_eq_true rfl) (by omega) (by omega) (fun v9 S9 hq => ?_)
  obtain ⟨rfl, rfl⟩ := hq
  refine ⟨fun h => ⟨h, rfl⟩, ?_⟩
  refine mm_istore [some (.ref a), some (va_rf p0), some (.int p1), some (.int v2), some (.int v4), none, none] dX2_typeAround_17 (by decide) rfl ?_
  refine mm_aload_n dX2_typeAround_19 rfl (isr_rf _) ?_
  refine mm_astore [some (.ref a), some (va_rf p0), some (.int p1), some (.int v2), some (.int v4), some (va_rf p0), none] dX2_typeAround_20 (by decide) (isr_rf _) rfl ?_
  refine mm_fewer [some (.ref a), none, none, some (.int v2), some (.int v4), some (va_rf p0), none] (few_ok (bs := [true, false, false, true, true, true, false]) rfl) ?_
  refine e_X2_typeAround_L22 hst hZ hn hs ?_ _ _ hx
  · intro  hx
    refine mm_aload_n dX2_typeAround_59 rfl rfl ?_
    refine s_getS (q := a + 1) (r := some a) (b := a) (ci := 2) (k := 0) in_X2 rfl (by decide) rfl kF_X2_12 dX2_typeAround_60 rfl hs (by decide) hn (by decide) rfl rfl ?_
    refine mm_null dX2_typeAround_63 ?_
    refine mm_iload_n dX2_typeAround_64 rfl ?_
    refine mm_iload dX2_typeAround_65 rfl ?_
    obtain ⟨v13, hc12, hx⟩ := b1_some hx
    refine mm_callV3 (a := a + 1) (ci := 6) wM_X6_typeIn kM_X2_189 wI_X6_typeIn wS_X6_typeIn dX2_typeAround_67 (e_X6_typeIn hst hZ hn (sv2_0 hs) hc12) (mem_obj (sv2_0 hs) (by decide)) (sh_ltn (sv2_0 hs) (by decide) hn) rfl rfl rfl (Nat.le_of_ble_eq_true rfl) (by omega) (by omega) (fun v9 S9 hq => ?_)
    obtain ⟨rfl, rfl⟩ := hq
    refine ⟨fun h => ⟨h, rfl⟩, ?_⟩
    refine mm_aret (a := v13) dX2_typeAround_70 rfl ?_ (by omega) (by omega)
    obtain rfl := fin1 hx
    exact ⟨rfl, rfl⟩
set_option maxHeartbeats 4000000 in
set_option maxRecDepth 100000 in
theorem e_X2_findsType_L65 {g : mm_G} {l : Launch} (hst : l.stackTraces = false) {Z : Nat → Nat → Option Nat} (hZ : HZ Z) {n : Nat} (hn : 1186 ≤ n) {z : Bool} {d : Nat} {U : Nat} {a : Nat} (hs : sh a = 2) {k129 : Option Nat → Option (Int32 × SG)} {v1_ : Option Nat} {σ : SG} {r : Int32} {σ' : SG} (hk129 : ∀ (v4_ : Option Nat), k129 v4_ = some (r, σ') → mm_V g l RX2 "findsType" cX2_findsType 5 (some .boolean) [] (d + 4) 0 0 (mm_nt (fun v S' => v = some (.int r) ∧ S' = (mem Z σ', n, z))) 129 [none, some (va_rf v1_), none, none, some (va_rf v4_)] [] (mem Z σ, n, z) 0 0) : ∀ (U1 : Nat) (v2_ : Int32) (v4_ : Option Nat), x_X2_findsType_L65 U a k129 v1_ σ U1 v2_ v4_ = some (r, σ') → mm_V g l RX2 "findsType" cX2_findsType 5 (some .boolean) [] (d + 4) 0 0 (mm_nt (fun v S' => v = some (.int r) ∧ S' = (mem Z σ', n, z))) 65 [some (.ref a), some (va_rf v1_), some (.int v2_), none, some (va_rf v4_)] [] (mem Z σ, n, z) 0 0 := by
  intro U1
  induction U1 with
  | zero => intro v2_ v4_ hx; exact absurd hx (by simp [x_X2_findsType_L65])
  | succ U1 ih =>
    intro v2_ v4_ hx
    rw [x_X2_findsType_L65] at hx
    refine mm_aload dX2_findsType_65 rfl (isr_rf _) ?_
    refine b_if hx (fun h13 hx => ?_) (fun h13 hx => ?_)
    · refine mm_ifnull (r := v4_) 129 dX2_findsType_67 (by decide) (fun _ => ?_) (fun h => absurd h13 h)
      refine mm_fewer [none, some (va_rf v1_), none, none, some (va_rf v4_)] (few_ok (bs := [false, true, false, false, true]) rfl) ?_
      exact hk129 _ hx
    · refine mm_ifnull (r := v4_) 129 dX2_findsType_67 (by decide) (fun h => absurd h h13) (fun _ => ?_)
      refine mm_aload_n dX2_findsType_70 rfl rfl ?_
      refine s_getS (q := a + 186) (r := some a) (b := a) (ci := 2) (k := 1) in_X2 rfl (by decide) rfl kF_X2_27 dX2_findsType_71 rfl hs (by decide) hn (by decide) rfl rfl ?_
      refine mm_iload_n dX2_findsType_74 rfl ?_
      refine mm_iconst (v := 1) dX2_findsType_75 (by decide) ?_
      refine mm_iadd dX2_findsType_76 ?_
      refine mm_bipush (v := 46) dX2_findsType_77 (by decide) ?_
      obtain ⟨v15, hc14, hx⟩ := b1_some hx
      refine mm_callV3 (a := a + 186) (ci := 10) wM_X10_isSign kM_X2_182 wI_X10_isSign wS_X10_isSign dX2_findsType_79 (e_X10_isSign hst hZ hn (sv2_1 hs) hc14) (mem_obj (sv2_1 hs) (by decide)) (sh_ltn (sv2_1 hs) (by decide) hn) rfl rfl rfl (Nat.le_of_ble_eq_true rfl) (by omega) (by omega) (fun v9 S9 hq => ?_)
      obtain ⟨rfl, rfl⟩ := hq
      refine ⟨fun h => ⟨h, rfl⟩, ?_⟩
      refine b_if hx (fun h16 hx => ?_) (fun h16 hx => ?_)
      · refine mm_if_eq 129 dX2_findsType_82 (by decide) (fun _ => ?_) (fun h => absurd h16 h)
        refine mm_fewer [none, some (va_rf v1_), none, none, some (va_rf v4_)] (few_ok (bs := [false, true, false, false, true]) rfl) ?_
        exact hk129 _ hx
      · refine mm_if_eq 129 dX2_findsType_82 (by decide) (fun h => absurd h h16) (fun _ => ?_)
        refine mm_iload_n dX2_findsType_85 rfl ?_
        refine mm_aload_n dX2_findsType_86 rfl rfl ?_
        refine s_getS (q := a + 186) (r := some a) (b := a) (ci := 2) (k := 1) in_X2 rfl (by decide) rfl kF_X2_27 dX2_findsType_87 rfl hs (by decide) hn (by decide) rfl rfl ?_
        obtain ⟨v18, hc17, hx⟩ := b1_some hx
        refine mm_callV3 (a := a + 186) (ci := 10) wM_X10_count kM_X2_197 wI_X10_count wS_X10_count dX2_findsType_90 (e_X10_count hst hZ hn (sv2_1 hs) hc17) (mem_obj (sv2_1 hs) (by decide)) (sh_ltn (sv2_1 hs) (by decide) hn) rfl rfl rfl (Nat.le_of_ble_eq_true rfl) (by omega) (by omega) (fun v9 S9 hq => ?_)
        obtain ⟨rfl, rfl⟩ := hq
        refine ⟨fun h => ⟨h, rfl⟩, ?_⟩
        refine b_if hx (fun h19 hx => ?_) (fun h19 hx => ?_)
        · refine mm_icmp_ge 129 dX2_findsType_93 (by decide) (fun h => absurd h (Int32.not_le.mpr h19)) (fun _ => ?_)
          refine mm_iinc (v := v2_ + 2) [some (.ref a), some (va_rf v1_), some (.int (v2_ + 2)), none, some (va_rf v4_)] dX2_findsType_96 rfl rfl (by decide) ((st1_o (r := v1_) rfl).trans rfl) ?_
          refine mm_aload_n dX2_findsType_99 rfl rfl ?_
          refine s_getS (q := a + 1) (r := some a) (b := a) (ci := 2) (k := 0) in_X2 rfl (by decide) rfl kF_X2_12 dX2_findsType_100 rfl hs (by decide) hn (by decide) rfl rfl ?_
          refine mm_aload dX2_findsType_103 rfl (isr_rf _) ?_
          refine mm_aload_n dX2_findsType_105 rfl rfl ?_
          refine s_getS (q := a + 186) (r := some a) (b := a) (ci := 2) (k := 1) in_X2 rfl (by decide) rfl kF_X2_27 dX2_findsType_106 rfl hs (by decide) hn (by decide) rfl rfl ?_
          refine mm_iload_n dX2_findsType_109 rfl ?_
          obtain ⟨v21, hc20, hx⟩ := b1_some hx
          refine mm_callV3 (a := a + 186) (ci := 10) wM_X10_startOf kM_X2_103 wI_X10_startOf wS_X10_startOf dX2_findsType_110 (e_X10_startOf hst hZ hn (sv2_1 hs) hc20) (mem_obj (sv2_1 hs) (by decide)) (sh_ltn (sv2_1 hs) (by decide) hn) rfl rfl rfl (show (([va_rf v4_, .ref (a + 1)] : List Value).map fun v => v.category).sum ≤ 8 by simp only [List.map_cons, List.map_nil, List.sum_cons, List.sum_nil, cat_rf]; exact Nat.le_of_ble_eq_true rfl) (by omega) (by omega) (fun v9 S9 hq => ?_)
          obtain ⟨rfl, rfl⟩ := hq
          refine ⟨fun h => ⟨h, rfl⟩, ?_⟩
          refine mm_aload_n dX2_findsType_113 rfl rfl ?_
          refine s_getS (q := a + 186) (r := some a) (b := a) (ci := 2) (k := 1) in_X2 rfl (by decide) rfl kF_X2_27 dX2_findsType_114 rfl hs (by decide) hn (by decide) rfl rfl ?_
          refine mm_iload_n dX2_findsType_117 rfl ?_
          obtain ⟨v23, hc22, hx⟩ := b1_some hx
          refine mm_callV3 (a := a + 186) (ci := 10) wM_X10_endOf kM_X2_186 wI_X10_endOf wS_X10_endOf dX2_findsType_118 (e_X10_endOf hst hZ hn (sv2_1 hs) hc22) (mem_obj (sv2_1 hs) (by decide)) (sh_ltn (sv2_1 hs) (by decide) hn) rfl rfl rfl (show (([.int v21, va_rf v4_, .ref (a + 1)] : List Value).map fun v => v.category).sum ≤ 8 by simp only [List.map_cons, List.map_nil, List.sum_cons, List.sum_nil, cat_rf]; exact Nat.le_of_ble_eq_true rfl) (by omega) (by omega) (fun v9 S9 hq => ?_)
          obtain ⟨rfl, rfl⟩ := hq
          refine ⟨fun h => ⟨h, rfl⟩, ?_⟩
          obtain ⟨v25, hc24, hx⟩ := b1_some hx
          refine mm_callV3 (a := a + 1) (ci := 6) wM_X6_typeIn kM_X2_189 wI_X6_typeIn wS_X6_typeIn dX2_findsType_121 (e_X6_typeIn hst hZ hn (sv2_0 hs) hc24) (mem_obj (sv2_0 hs) (by decide)) (sh_ltn (sv2_0 hs) (by decide) hn) rfl rfl rfl (Nat.le_of_ble_eq_true rfl) (by omega) (by omega) (fun v9 S9 hq => ?_)
          obtain ⟨rfl, rfl⟩ := hq
          refine ⟨fun h => ⟨h, rfl⟩, ?_⟩
          refine mm_astore [some (.ref a), some (va_rf v1_), some (.int (v2_ + 2)), none, some (va_rf v25)] dX2_findsType_124 (by decide) (isr_rf _) rfl ?_
          refine mm_goto 65 dX2_findsType_126 (by decide) ?_
          exact ih _ _ hx
        · refine mm_icmp_ge 129 dX2_findsType_93 (by decide) (fun _ => ?_) (fun h => absurd (Int32.not_lt.mp h19) h)
          refine mm_fewer [none, some (va_rf v1_), none, none, some (va_rf v4_)] (few_ok (bs := [false, true, false, false, true]) rfl) ?_
          exact hk129 _ hx
set_option maxHeartbeats 4000000 in
set_option maxRecDepth 100000 in
theorem e_X2_findsType_158 {g : mm_G} {l : Launch} (hst : l.stackTraces = false) {Z : Nat → Nat → Option Nat} (hZ : HZ Z) {n : Nat} (hn : 1186 ≤ n) {z : Bool} {d : Nat} {U : Nat} {a : Nat} (hs : sh a = 2) {s0_ : Int32} {s1_ : Option Nat} {σ : SG} {r : Int32} {σ' : SG} (hx : x_X2_findsType_158 U a s0_ s1_ σ = some (r, σ')) : mm_V g l RX2 "findsType" cX2_findsType 5 (some .boolean) [] (d + 4) 0 0 (mm_nt (fun v S' => v = some (.int r) ∧ S' = (mem Z σ', n, z))) 158 [none, none, none, none, none] [.int s0_, va_rf s1_] (mem Z σ, n, z) 0 0 := by
  unfold x_X2_findsType_158 at hx
  obtain ⟨q36, hr37, hs38, hx⟩ := ck_some hx
  refine s_putIN (v := s0_) (r := s1_) (b := q36) (ci := 3) (k := 8) in_X3 rfl (by decide) rfl tyX3_ok nmX3 rfl kF_X2_93 dX2_findsType_158 (mm_fit_int _) hr37 hs38 (by decide) hn (by decide) rfl hx (fun σ39 hx => ?_)
  refine mm_iconst (v := 1) dX2_findsType_161 (by decide) ?_
  refine mm_iret dX2_findsType_162 rfl rfl ?_ (by omega) (by omega)
  obtain ⟨rfl, rfl⟩ := fin2 hx
  exact ⟨rfl, rfl⟩
set_option maxHeartbeats 4000000 in
set_option maxRecDepth 100000 in
theorem e_X2_findsType_129 {g : mm_G} {l : Launch} (hst : l.stackTraces = false) {Z : Nat → Nat → Option Nat} (hZ : HZ Z) {n : Nat} (hn : 1186 ≤ n) {z : Bool} {d : Nat} {U : Nat} {a : Nat} (hs : sh a = 2) {v1_ : Option Nat} {v4_ : Option Nat} {σ : SG} {r : Int32} {σ' : SG} (hx : x_X2_findsType_129 U a v1_ v4_ σ = some (r, σ')) : mm_V g l RX2 "findsType" cX2_findsType 5 (some .boolean) [] (d + 4) 0 0 (mm_nt (fun v S' => v = some (.int r) ∧ S' = (mem Z σ', n, z))) 129 [none, some (va_rf v1_), none, none, some (va_rf v4_)] [] (mem Z σ, n, z) 0 0 := by
  unfold x_X2_findsType_129 at hx
  refine mm_aload dX2_findsType_129 rfl (isr_rf _) ?_
  refine b_if hx (fun h27 hx => ?_) (fun h27 hx => ?_)
  · refine mm_ifnonnull (r := v4_) 136 dX2_findsType_131 (by decide) (fun h => absurd h27 h) (fun _ => ?_)
    refine mm_iconst (v := 0) dX2_findsType_134 (by decide) ?_
    refine mm_iret dX2_findsType_135 rfl rfl ?_ (by omega) (by omega)
    obtain ⟨rfl, rfl⟩ := fin2 hx
    exact ⟨rfl, rfl⟩
  · refine mm_ifnonnull (r := v4_) 136 dX2_findsType_131 (by decide) (fun _ => ?_) (fun h => absurd h h27)
    refine mm_aload_n dX2_findsType_136 rfl (isr_rf _) ?_
    refine mm_aload dX2_findsType_137 rfl (isr_rf _) ?_
    obtain ⟨q28, hr29, hs30, hx⟩ := ck_some hx
    refine s_putPN (v := v4_) (r := v1_) (b := q28) (ci := 3) (k := 10) in_X3 rfl (by decide) rfl tyX3_ok nmX3 rfl kF_X2_200 dX2_findsType_139 (mm_fit_r _ _) hr29 hs30 (by decide) hn (by decide) rfl hx (fun σ31 hx => ?_)
    refine mm_aload_n dX2_findsType_142 rfl (isr_rf _) ?_
    refine mm_aload dX2_findsType_143 rfl (isr_rf _) ?_
    obtain ⟨q32, hr33, hs34, hx⟩ := ck_some hx
    refine s_getIN (r := v4_) (b := q32) (ci := 3) (k := 0) in_X3 rfl (by decide) rfl kF_X2_88 dX2_findsType_145 hr33 hs34 (by decide) hn (by decide) rfl ?_
    refine b_if hx (fun h35 hx => ?_) (fun h35 hx => ?_)
    · refine mm_if_ne 156 dX2_findsType_148 (by decide) (fun h => absurd h35 h) (fun _ => ?_)
      refine mm_bipush (v := 13) dX2_findsType_151 (by decide) ?_
      refine mm_goto 158 dX2_findsType_153 (by decide) ?_
      refine mm_fewer [none, none, none, none, none] (few_ok (bs := [false, false, false, false, false]) rfl) ?_
      exact e_X2_findsType_158 hst hZ hn hs hx
    · refine mm_if_ne 156 dX2_findsType_148 (by decide) (fun _ => ?_) (fun h => absurd h h35)
      refine mm_bipush (v := 14) dX2_findsType_156 (by decide) ?_
      refine mm_fewer [none, none, none, none, none] (few_ok (bs := [false, false, false, false, false]) rfl) ?_
      exact e_X2_findsType_158 hst hZ hn hs hx
set_option maxHeartbeats 4000000 in
set_option maxRecDepth 100000 in
theorem e_X2_findsType_63 {g : mm_G} {l : Launch} (hst : l.stackTraces = false) {Z : Nat → Nat → Option Nat} (hZ : HZ Z) {n : Nat} (hn : 1186 ≤ n) {z : Bool} {d : Nat} {U : Nat} {a : Nat} (hs : sh a = 2) {v1_ : Option Nat} {v2_ : Int32} {s0_ : Option Nat} {σ : SG} {r : Int32} {σ' : SG} (hx : x_X2_findsType_63 U a v1_ v2_ s0_ σ = some (r, σ')) : mm_V g l RX2 "findsType" cX2_findsType 5 (some .boolean) [] (d + 4) 0 0 (mm_nt (fun v S' => v = some (.int r) ∧ S' = (mem Z σ', n, z))) 63 [some (.ref a), some (va_rf v1_), some (.int v2_), none, none] [va_rf s0_] (mem Z σ, n, z) 0 0 := by
  unfold x_X2_findsType_63 at hx
  refine mm_astore [some (.ref a), some (va_rf v1_), some (.int v2_), none, some (va_rf s0_)] dX2_findsType_63 (by decide) (isr_rf _) rfl ?_
  refine e_X2_findsType_L65 hst hZ hn hs ?_ _ _ _ hx
  · intro w26 hx
    exact e_X2_findsType_129 hst hZ hn hs hx
set_option maxHeartbeats 4000000 in
set_option maxRecDepth 100000 in
theorem e_X2_findsType_23 {g : mm_G} {l : Launch} (hst : l.stackTraces = false) {Z : Nat → Nat → Option Nat} (hZ : HZ Z) {n : Nat} (hn : 1186 ≤ n) {z : Bool} {d : Nat} {U : Nat} {a : Nat} (hs : sh a = 2) {v1_ : Option Nat} {v2_ : Int32} {v3_ : Int32} {σ : SG} {r : Int32} {σ' : SG} (hx : x_X2_findsType_23 U a v1_ v2_ v3_ σ = some (r, σ')) : mm_V g l RX2 "findsType" cX2_findsType 5 (some .boolean) [] (d + 4) 0 0 (mm_nt (fun v S' => v = some (.int r) ∧ S' = (mem Z σ', n, z))) 23 [some (.ref a), some (va_rf v1_), some (.int v2_), some (.int v3_), none] [] (mem Z σ, n, z) 0 0 := by
  unfold x_X2_findsType_23 at hx
  refine mm_iload_n dX2_findsType_23 rfl ?_
  refine b_if hx (fun h7 hx => ?_) (fun h7 hx => ?_)
  · refine mm_if_eq 54 dX2_findsType_24 (by decide) (fun _ => ?_) (fun h => absurd h7 h)
    refine mm_aload_n dX2_findsType_54 rfl rfl ?_
    refine mm_aload_n dX2_findsType_55 rfl (isr_rf _) ?_
    obtain ⟨q8, hr9, hs10, hx⟩ := ck_some hx
    refine s_getPN (r := v1_) (b := q8) (ci := 3) (k := 2) in_X3 rfl (by decide) rfl kF_X2_121 dX2_findsType_56 hr9 hs10 (by decide) hn (by decide) rfl ?_
    refine mm_iload_n dX2_findsType_59 rfl ?_
    obtain ⟨v12, hc11, hx⟩ := b1_some hx
    refine mm_callV3 (a := a) (ci := 2) wM_X2_typeAround kM_X2_193 wI_X2_typeAround wS_X2_typeAround dX2_findsType_60 (e_X2_typeAround hst hZ hn hs hc11) (mem_obj hs (by decide)) (sh_ltn hs (by decide) hn) rfl rfl rfl (Nat.le_of_ble_eq_true rfl) (by omega) (by omega) (fun v9 S9 hq => ?_)
    obtain ⟨rfl, rfl⟩ := hq
    refine ⟨fun h => ⟨h, rfl⟩, ?_⟩
    refine mm_fewer [some (.ref a), some (va_rf v1_), some (.int v2_), none, none] (few_ok (bs := [true, true, true, false, false]) rfl) ?_
    exact e_X2_findsType_63 hst hZ hn hs hx
  · refine mm_if_eq 54 dX2_findsType_24 (by decide) (fun h => absurd h h7) (fun _ => ?_)
    refine mm_aload_n dX2_findsType_27 rfl rfl ?_
    refine s_getS (q := a + 1) (r := some a) (b := a) (ci := 2) (k := 0) in_X2 rfl (by decide) rfl kF_X2_12 dX2_findsType_28 rfl hs (by decide) hn (by decide) rfl rfl ?_
    refine mm_null dX2_findsType_31 ?_
    refine mm_aload_n dX2_findsType_32 rfl rfl ?_
    refine s_getS (q := a + 186) (r := some a) (b := a) (ci := 2) (k := 1) in_X2 rfl (by decide) rfl kF_X2_27 dX2_findsType_33 rfl hs (by decide) hn (by decide) rfl rfl ?_
    refine mm_iload_n dX2_findsType_36 rfl ?_
    obtain ⟨v41, hc40, hx⟩ := b1_some hx
    refine mm_callV3 (a := a + 186) (ci := 10) wM_X10_startOf kM_X2_103 wI_X10_startOf wS_X10_startOf dX2_findsType_37 (e_X10_startOf hst hZ hn (sv2_1 hs) hc40) (mem_obj (sv2_1 hs) (by decide)) (sh_ltn (sv2_1 hs) (by decide) hn) rfl rfl rfl (Nat.le_of_ble_eq_true rfl) (by omega) (by omega) (fun v9 S9 hq => ?_)
    obtain ⟨rfl, rfl⟩ := hq
    refine ⟨fun h => ⟨h, rfl⟩, ?_⟩
    refine mm_aload_n dX2_findsType_40 rfl rfl ?_
    refine s_getS (q := a + 186) (r := some a) (b := a) (ci := 2) (k := 1) in_X2 rfl (by decide) rfl kF_X2_27 dX2_findsType_41 rfl hs (by decide) hn (by decide) rfl rfl ?_
    refine mm_iload_n dX2_findsType_44 rfl ?_
    obtain ⟨v43, hc42, hx⟩ := b1_some hx
    refine mm_callV3 (a := a + 186) (ci := 10) wM_X10_endOf kM_X2_186 wI_X10_endOf wS_X10_endOf dX2_findsType_45 (e_X10_endOf hst hZ hn (sv2_1 hs) hc42) (mem_obj (sv2_1 hs) (by decide)) (sh_ltn (sv2_1 hs) (by decide) hn) rfl rfl rfl (Nat.le_of_ble_eq_true rfl) (by omega) (by omega) (fun v9 S9 hq => ?_)
    obtain ⟨rfl, rfl⟩ := hq
    refine ⟨fun h => ⟨h, rfl⟩, ?_⟩
    obtain ⟨v45, hc44, hx⟩ := b1_some hx
    refine mm_callV3 (a := a + 1) (ci := 6) wM_X6_typeIn kM_X2_189 wI_X6_typeIn wS_X6_typeIn dX2_findsType_48 (e_X6_typeIn hst hZ hn (sv2_0 hs) hc44) (mem_obj (sv2_0 hs) (by decide)) (sh_ltn (sv2_0 hs) (by decide) hn) rfl rfl rfl (Nat.le_of_ble_eq_true rfl) (by omega) (by omega) (fun v9 S9 hq => ?_)
    obtain ⟨rfl, rfl⟩ := hq
    refine ⟨fun h => ⟨h, rfl⟩, ?_⟩
    refine mm_goto 63 dX2_findsType_51 (by decide) ?_
    refine mm_fewer [some (.ref a), some (va_rf v1_), some (.int v2_), none, none] (few_ok (bs := [true, true, true, false, false]) rfl) ?_
    exact e_X2_findsType_63 hst hZ hn hs hx
set_option maxHeartbeats 4000000 in
set_option maxRecDepth 100000 in
theorem e_X2_findsType {g : mm_G} {l : Launch} (hst : l.stackTraces = false) {Z : Nat → Nat → Option Nat} (hZ : HZ Z) {n : Nat} (hn : 1186 ≤ n) {z : Bool} {d : Nat} {U : Nat} {a : Nat} (hs : sh a = 2) {p0 : Option Nat} {σ : SG} {r : Int32} {σ' : SG} (hx : x_X2_findsType U a p0 σ = some (r, σ')) : mm_Cm g l yX2_findsType (.code yX2_findsType cX2_findsType 5 (some .boolean)) (d + 4) 0 0 [.ref a, va_rf p0] (mem Z σ, n, z) (fun v S' => v = some (.int r) ∧ S' = (mem Z σ', n, z)) := by
  refine mm_Cm_of hst (by decide) (by cases p0 <;>  exact Nat.le_of_ble_eq_true rfl) ?_
  rw [show mm_ent [.ref a, va_rf p0] 5 = [some (.ref a), some (va_rf p0), none, none, none] from by cases p0 <;>  rfl]
  show mm_V g l RX2 "findsType" cX2_findsType 5 (some .boolean) [] (d + 4) 0 0 (mm_nt (fun v S' => v = some (.int r) ∧ S' = (mem Z σ', n, z))) 0 [some (.ref a), some (va_rf p0), none, none, none] [] (mem Z σ, n, z) 0 0
  unfold x_X2_findsType at hx
  refine mm_aload_n dX2_findsType_0 rfl (isr_rf _) ?_
  obtain ⟨q1, hr2, hs3, hx⟩ := ck_some hx
  refine s_getIN (r := p0) (b := q1) (ci := 3) (k := 9) in_X3 rfl (by decide) rfl kF_X2_100 dX2_findsType_1 hr2 hs3 (by decide) hn (by decide) rfl ?_
  refine mm_istore_n [some (.ref a), some (va_rf p0), some (.int (sI σ q1 9)), none, none] dX2_findsType_4 (by decide) ((st1_o (r := p0) rfl).trans rfl) ?_
  refine mm_aload_n dX2_findsType_5 rfl rfl ?_
  refine s_getS (q := a + 186) (r := some a) (b := a) (ci := 2) (k := 1) in_X2 rfl (by decide) rfl kF_X2_27 dX2_findsType_6 rfl hs (by decide) hn (by decide) rfl rfl ?_
  refine mm_iload_n dX2_findsType_9 rfl ?_
  refine mm_bipush (v := 46) dX2_findsType_10 (by decide) ?_
  obtain ⟨v5, hc4, hx⟩ := b1_some hx
  refine mm_callV3 (a := a + 186) (ci := 10) wM_X10_isSign kM_X2_182 wI_X10_isSign wS_X10_isSign dX2_findsType_12 (e_X10_isSign hst hZ hn (sv2_1 hs) hc4) (mem_obj (sv2_1 hs) (by decide)) (sh_ltn (sv2_1 hs) (by decide) hn) rfl rfl rfl (Nat.le_of_ble_eq_true rfl) (by omega) (by omega) (fun v9 S9 hq => ?_)
  obtain ⟨rfl, rfl⟩ := hq
  refine ⟨fun h => ⟨h, rfl⟩, ?_⟩
  refine mm_istore_n [some (.ref a), some (va_rf p0), some (.int (sI σ q1 9)), some (.int v5), none] dX2_findsType_15 (by decide) rfl ?_
  refine mm_iload_n dX2_findsType_16 rfl ?_
  refine b_if hx (fun h6 hx => ?_) (fun h6 hx => ?_)
  · refine mm_if_eq 23 dX2_findsType_17 (by decide) (fun _ => ?_) (fun h => absurd h6 h)
    exact e_X2_findsType_23 hst hZ hn hs hx
  · refine mm_if_eq 23 dX2_findsType_17 (by decide) (fun h => absurd h h6) (fun _ => ?_)
    refine mm_iinc (v := (sI σ q1 9) + 1) [some (.ref a), some (va_rf p0), some (.int ((sI σ q1 9) + 1)), some (.int v5), none] dX2_findsType_20 rfl rfl (by decide) ((st1_o (r := p0) rfl).trans rfl) ?_
    exact e_X2_findsType_23 hst hZ hn hs hx
set_option maxHeartbeats 4000000 in
set_option maxRecDepth 100000 in
theorem e_X2_fail {g : mm_G} {l : Launch} (hst : l.stackTraces = false) {Z : Nat → Nat → Option Nat} (hZ : HZ Z) {n : Nat} (hn : 1186 ≤ n) {z : Bool} {d : Nat} {a : Nat} (hs : sh a = 2) {p0 : Int32} {p1 : Int32} {σ : SG} {σ' : SG} (hx : x_X2_fail a p0 p1 σ = some σ') : mm_Cm g l yX2_fail (.code yX2_fail cX2_fail 3 none) (d) 0 0 [.ref a, .int p0, .int p1] (mem Z σ, n, z) (fun v S' => v = none ∧ S' = (mem Z σ', n, z)) := by
  refine mm_Cm_of hst (by decide) (Nat.le_of_ble_eq_true rfl) ?_
  show mm_V g l RX2 "fail" cX2_fail 3 none [] (d) 0 0 (mm_nt (fun v S' => v = none ∧ S' = (mem Z σ', n, z))) 0 [some (.ref a), some (.int p0), some (.int p1)] [] (mem Z σ, n, z) 0 0
  unfold x_X2_fail at hx
  refine mm_aload_n dX2_fail_0 rfl rfl ?_
  refine mm_iload_n dX2_fail_1 rfl ?_
  refine s_putI (v := p0) (r := some a) (b := a) (ci := 2) (k := 3) in_X2 rfl (by decide) rfl tyX2_ok nmX2 rfl kF_X2_63 dX2_fail_2 (mm_fit_int _) rfl hs (by decide) hn (by decide) rfl hx (fun σ1 hx => ?_)
  refine mm_aload_n dX2_fail_5 rfl rfl ?_
  refine mm_iload_n dX2_fail_6 rfl ?_
  refine s_putI (v := p1) (r := some a) (b := a) (ci := 2) (k := 4) in_X2 rfl (by decide) rfl tyX2_ok nmX2 rfl kF_X2_40 dX2_fail_7 (mm_fit_int _) rfl hs (by decide) hn (by decide) rfl hx (fun σ2 hx => ?_)
  refine mm_vret dX2_fail_10 rfl ?_ (by omega) (by omega)
  obtain rfl := fin1 hx
  exact ⟨rfl, rfl⟩
set_option maxHeartbeats 4000000 in
set_option maxRecDepth 100000 in
theorem e_X2_isTaken_63 {g : mm_G} {l : Launch} (hst : l.stackTraces = false) {Z : Nat → Nat → Option Nat} (hZ : HZ Z) {n : Nat} (hn : 1186 ≤ n) {z : Bool} {d : Nat} {U : Nat} {a : Nat} (hs : sh a = 2) {k2 : Int32 → Option (Int32)} {v1_ : Option Nat} {v2_ : Int32} {v3_ : Int32} {σ : SG} {r : Int32} (hk2 : ∀ (v3_ : Int32), k2 v3_ = some r → mm_V g l RX2 "isTaken" cX2_isTaken 5 (some .boolean) [] (d + 2) 0 0 (mm_nt (fun v S' => v = some (.int r) ∧ S' = (mem Z σ, n, z))) 2 [some (.ref a), some (va_rf v1_), some (.int v2_), some (.int v3_), none] [] (mem Z σ, n, z) 0 0) (hx : x_X2_isTaken_63 U a k2 v1_ v2_ v3_ σ = some r) : mm_V g l RX2 "isTaken" cX2_isTaken 5 (some .boolean) [] (d + 2) 0 0 (mm_nt (fun v S' => v = some (.int r) ∧ S' = (mem Z σ, n, z))) 63 [some (.ref a), some (va_rf v1_), some (.int v2_), some (.int v3_), none] [] (mem Z σ, n, z) 0 0 := by
  unfold x_X2_isTaken_63 at hx
  refine mm_iinc (v := v3_ + 1) [some (.ref a), some (va_rf v1_), some (.int v2_), some (.int (v3_ + 1)), none] dX2_isTaken_63 rfl rfl (by decide) rfl ?_
  refine mm_goto 2 dX2_isTaken_66 (by decide) ?_
  exact hk2 _ hx
set_option maxHeartbeats 4000000 in
set_option maxRecDepth 100000 in
theorem e_X2_isTaken_L2 {g : mm_G} {l : Launch} (hst : l.stackTraces = false) {Z : Nat → Nat → Option Nat} (hZ : HZ Z) {n : Nat} (hn : 1186 ≤ n) {z : Bool} {d : Nat} {U : Nat} {a : Nat} (hs : sh a = 2) {v1_ : Option Nat} {v2_ : Int32} {σ : SG} {r : Int32} : ∀ (U1 : Nat) (v3_ : Int32), x_X2_isTaken_L2 U a v1_ v2_ σ U1 v3_ = some r → mm_V g l RX2 "isTaken" cX2_isTaken 5 (some .boolean) [] (d + 2) 0 0 (mm_nt (fun v S' => v = some (.int r) ∧ S' = (mem Z σ, n, z))) 2 [some (.ref a), some (va_rf v1_), some (.int v2_), some (.int v3_), none] [] (mem Z σ, n, z) 0 0 := by
  intro U1
  induction U1 with
  | zero => intro v3_ hx; exact absurd hx (by simp [x_X2_isTaken_L2])
  | succ U1 ih =>
    intro v3_ hx
    rw [x_X2_isTaken_L2] at hx
    refine mm_iload_n dX2_isTaken_2 rfl ?_
    refine mm_iload_n dX2_isTaken_3 rfl ?_
    refine b_if hx (fun h1 hx => ?_) (fun h1 hx => ?_)
    · refine mm_icmp_ge 69 dX2_isTaken_4 (by decide) (fun h => absurd h (Int32.not_le.mpr h1)) (fun _ => ?_)
      refine mm_aload_n dX2_isTaken_7 rfl rfl ?_
      refine s_getS (q := a + 1) (r := some a) (b := a) (ci := 2) (k := 0) in_X2 rfl (by decide) rfl kF_X2_12 dX2_isTaken_8 rfl hs (by decide) hn (by decide) rfl rfl ?_
      refine mm_iload_n dX2_isTaken_11 rfl ?_
      obtain ⟨v3, hc2, hx⟩ := b1_some hx
      refine mm_callV3 (a := a + 1) (ci := 6) wM_X6_item kM_X2_72 wI_X6_item wS_X6_item dX2_isTaken_12 (e_X6_item hst hZ hn (sv2_0 hs) hc2) (mem_obj (sv2_0 hs) (by decide)) (sh_ltn (sv2_0 hs) (by decide) hn) rfl rfl rfl (Nat.le_of_ble_eq_true rfl) (by omega) (by omega) (fun v9 S9 hq => ?_)
      obtain ⟨rfl, rfl⟩ := hq
      refine ⟨fun h => ⟨h, rfl⟩, ?_⟩
      refine mm_astore [some (.ref a), some (va_rf v1_), some (.int v2_), some (.int v3_), some (va_rf v3)] dX2_isTaken_15 (by decide) (isr_rf _) rfl ?_
      refine mm_aload dX2_isTaken_17 rfl (isr_rf _) ?_
      refine b_if hx (fun h4 hx => ?_) (fun h4 hx => ?_)
      · refine mm_ifnull (r := v3) 63 dX2_isTaken_19 (by decide) (fun _ => ?_) (fun h => absurd h4 h)
        refine mm_fewer [some (.ref a), some (va_rf v1_), some (.int v2_), some (.int v3_), none] (few_ok (bs := [true, true, true, true, false]) rfl) ?_
        exact e_X2_isTaken_63 hst hZ hn hs ih hx
      · refine mm_ifnull (r := v3) 63 dX2_isTaken_19 (by decide) (fun h => absurd h h4) (fun _ => ?_)
        refine mm_aload dX2_isTaken_22 rfl (isr_rf _) ?_
        obtain ⟨q5, hr6, hs7, hx⟩ := ck_some hx
        refine s_getPN (r := v3) (b := q5) (ci := 3) (k := 2) in_X3 rfl (by decide) rfl kF_X2_121 dX2_isTaken_24 hr6 hs7 (by decide) hn (by decide) rfl ?_
        refine mm_aload_n dX2_isTaken_27 rfl (isr_rf _) ?_
        obtain ⟨q8, hr9, hs10, hx⟩ := ck_some hx
        refine s_getPN (r := v1_) (b := q8) (ci := 3) (k := 2) in_X3 rfl (by decide) rfl kF_X2_121 dX2_isTaken_28 hr9 hs10 (by decide) hn (by decide) rfl ?_
        refine b_if hx (fun h11 hx => ?_) (fun h11 hx => ?_)
        · refine mm_acmp_ne (rx := sP σ q5 2) (ry := sP σ q8 2) 63 dX2_isTaken_31 (by decide) (fun h => absurd h11 h) (fun _ => ?_)
          refine mm_aload_n dX2_isTaken_34 rfl rfl ?_
          refine s_getS (q := a + 1) (r := some a) (b := a) (ci := 2) (k := 0) in_X2 rfl (by decide) rfl kF_X2_12 dX2_isTaken_35 rfl hs (by decide) hn (by decide) rfl rfl ?_
          refine mm_aload dX2_isTaken_38 rfl (isr_rf _) ?_
          refine mm_aload_n dX2_isTaken_40 rfl rfl ?_
          refine s_getS (q := a + 1) (r := some a) (b := a) (ci := 2) (k := 0) in_X2 rfl (by decide) rfl kF_X2_12 dX2_isTaken_41 rfl hs (by decide) hn (by decide) rfl rfl ?_
          obtain ⟨v13, hc12, hx⟩ := b1_some hx
          refine mm_callV3 (a := a + 1) (ci := 6) wM_X6_text kM_X2_20 wI_X6_text wS_X6_text dX2_isTaken_44 (e_X6_text hst hZ hn (sv2_0 hs) hc12) (mem_obj (sv2_0 hs) (by decide)) (sh_ltn (sv2_0 hs) (by decide) hn) rfl rfl rfl (show (([va_rf v3, .ref (a + 1)] : List Value).map fun v => v.category).sum ≤ 8 by simp only [List.map_cons, List.map_nil, List.sum_cons, List.sum_nil, cat_rf]; exact Nat.le_of_ble_eq_true rfl) (by omega) (by omega) (fun v9 S9 hq => ?_)
          obtain ⟨rfl, rfl⟩ := hq
          refine ⟨fun h => ⟨h, rfl⟩, ?_⟩
          refine mm_aload_n dX2_isTaken_47 rfl (isr_rf _) ?_
          refine s_getIN (r := v1_) (b := q8) (ci := 3) (k := 4) in_X3 rfl (by decide) rfl kF_X2_111 dX2_isTaken_48 hr9 hs10 (by decide) hn (by decide) rfl ?_
          refine mm_aload_n dX2_isTaken_51 rfl (isr_rf _) ?_
          refine s_getIN (r := v1_) (b := q8) (ci := 3) (k := 5) in_X3 rfl (by decide) rfl kF_X2_125 dX2_isTaken_52 hr9 hs10 (by decide) hn (by decide) rfl ?_
          obtain ⟨v15, hc14, hx⟩ := b1_some hx
          refine mm_callV3 (a := a + 1) (ci := 6) wM_X6_isCalled kM_X2_128 wI_X6_isCalled wS_X6_isCalled dX2_isTaken_55 (e_X6_isCalled hst hZ hn (sv2_0 hs) hc14) (mem_obj (sv2_0 hs) (by decide)) (sh_ltn (sv2_0 hs) (by decide) hn) rfl rfl rfl (Nat.le_of_ble_eq_true rfl) (by omega) (by omega) (fun v9 S9 hq => ?_)
          obtain ⟨rfl, rfl⟩ := hq
          refine ⟨fun h => ⟨h, rfl⟩, ?_⟩
          refine b_if hx (fun h16 hx => ?_) (fun h16 hx => ?_)
          · refine mm_if_eq 63 dX2_isTaken_58 (by decide) (fun _ => ?_) (fun h => absurd h16 h)
            refine mm_fewer [some (.ref a), some (va_rf v1_), some (.int v2_), some (.int v3_), none] (few_ok (bs := [true, true, true, true, false]) rfl) ?_
            exact e_X2_isTaken_63 hst hZ hn hs ih hx
          · refine mm_if_eq 63 dX2_isTaken_58 (by decide) (fun h => absurd h h16) (fun _ => ?_)
            refine mm_iconst (v := 1) dX2_isTaken_61 (by decide) ?_
            refine mm_iret dX2_isTaken_62 rfl rfl ?_ (by omega) (by omega)
            obtain rfl := fin1 hx
            exact ⟨rfl, rfl⟩
        · refine mm_acmp_ne (rx := sP σ q5 2) (ry := sP σ q8 2) 63 dX2_isTaken_31 (by decide) (fun _ => ?_) (fun h => absurd h h11)
          refine mm_fewer [some (.ref a), some (va_rf v1_), some (.int v2_), some (.int v3_), none] (few_ok (bs := [true, true, true, true, false]) rfl) ?_
          exact e_X2_isTaken_63 hst hZ hn hs ih hx
    · refine mm_icmp_ge 69 dX2_isTaken_4 (by decide) (fun _ => ?_) (fun h => absurd (Int32.not_lt.mp h1) h)
      refine mm_iconst (v := 0) dX2_isTaken_69 (by decide) ?_
      refine mm_iret dX2_isTaken_70 rfl rfl ?_ (by omega) (by omega)
      obtain rfl := fin1 hx
      exact ⟨rfl, rfl⟩
set_option maxHeartbeats 4000000 in
set_option maxRecDepth 100000 in
theorem e_X2_isTaken {g : mm_G} {l : Launch} (hst : l.stackTraces = false) {Z : Nat → Nat → Option Nat} (hZ : HZ Z) {n : Nat} (hn : 1186 ≤ n) {z : Bool} {d : Nat} {U : Nat} {a : Nat} (hs : sh a = 2) {p0 : Option Nat} {p1 : Int32} {σ : SG} {r : Int32} (hx : x_X2_isTaken U a p0 p1 σ = some r) : mm_Cm g l yX2_isTaken (.code yX2_isTaken cX2_isTaken 5 (some .boolean)) (d + 2) 0 0 [.ref a, va_rf p0, .int p1] (mem Z σ, n, z) (fun v S' => v = some (.int r) ∧ S' = (mem Z σ, n, z)) := by
  refine mm_Cm_of hst (by decide) (by cases p0 <;>  exact Nat.le_of_ble_eq_true rfl) ?_
  rw [show mm_ent [.ref a, va_rf p0, .int p1] 5 = [some (.ref a), some (va_rf p0), some (.int p1), none, none] from by cases p0 <;>  rfl]
  show mm_V g l RX2 "isTaken" cX2_isTaken 5 (some .boolean) [] (d + 2) 0 0 (mm_nt (fun v S' => v = some (.int r) ∧ S' = (mem Z σ, n, z))) 0 [some (.ref a), some (va_rf p0), some (.int p1), none, none] [] (mem Z σ, n, z) 0 0
  unfold x_X2_isTaken at hx
  refine mm_iconst (v := 0) dX2_isTaken_0 (by decide) ?_
  refine mm_istore_n [some (.ref a), some (va_rf p0), some (.int p1), some (.int 0), none] dX2_isTaken_1 (by decide) rfl ?_
  refine e_X2_isTaken_L2 hst hZ hn hs _ _ hx
set_option maxHeartbeats 4000000 in
set_option maxRecDepth 100000 in
theorem e_X3_insert_L7 {g : mm_G} {l : Launch} (hst : l.stackTraces = false) {Z : Nat → Nat → Option Nat} (hZ : HZ Z) {n : Nat} (hn : 1186 ≤ n) {z : Bool} {d : Nat} {U : Nat} {a : Nat} (hs : sh a = 3) {k33 : Option Nat → Option (SG)} {v1_ : Option Nat} {σ : SG} {σ' : SG} (hk33 : ∀ (v2_ : Option Nat), k33 v2_ = some σ' → mm_V g l RX3 "insert" cX3_insert 4 none [] (d) 0 0 (mm_nt (fun v S' => v = none ∧ S' = (mem Z σ', n, z))) 33 [some (.ref a), some (va_rf v1_), some (va_rf v2_), none] [] (mem Z σ, n, z) 0 0) : ∀ (U1 : Nat) (v2_ : Option Nat) (v3_ : Option Nat), x_X3_insert_L7 U a k33 v1_ σ U1 v2_ v3_ = some σ' → mm_V g l RX3 "insert" cX3_insert 4 none [] (d) 0 0 (mm_nt (fun v S' => v = none ∧ S' = (mem Z σ', n, z))) 7 [some (.ref a), some (va_rf v1_), some (va_rf v2_), some (va_rf v3_)] [] (mem Z σ, n, z) 0 0 := by
  intro U1
  induction U1 with
  | zero => intro v2_ v3_ hx; exact absurd hx (by simp [x_X3_insert_L7])
  | succ U1 ih =>
    intro v2_ v3_ hx
    rw [x_X3_insert_L7] at hx
    refine mm_aload_n dX3_insert_7 rfl (isr_rf _) ?_
    refine b_if hx (fun h1 hx => ?_) (fun h1 hx => ?_)
    · refine mm_ifnull (r := v3_) 33 dX3_insert_8 (by decide) (fun _ => ?_) (fun h => absurd h1 h)
      refine mm_fewer [some (.ref a), some (va_rf v1_), some (va_rf v2_), none] (few_ok (bs := [true, true, true, false]) rfl) ?_
      exact hk33 _ hx
    · refine mm_ifnull (r := v3_) 33 dX3_insert_8 (by decide) (fun h => absurd h h1) (fun _ => ?_)
      refine mm_aload_n dX3_insert_11 rfl (isr_rf _) ?_
      obtain ⟨q2, hr3, hs4, hx⟩ := ck_some hx
      refine s_getL (r := v3_) (b := q2) (ci := 3) (k := 6) in_X3 rfl (by decide) rfl kF_X3_31 dX3_insert_12 hr3 hs4 (by decide) hn (by decide) rfl ?_
      refine mm_aload_n dX3_insert_15 rfl (isr_rf _) ?_
      obtain ⟨q5, hr6, hs7, hx⟩ := ck_some hx
      refine s_getL (r := v1_) (b := q5) (ci := 3) (k := 6) in_X3 rfl (by decide) rfl kF_X3_31 dX3_insert_16 hr6 hs7 (by decide) hn (by decide) rfl ?_
      refine mm_lcmp dX3_insert_19 ?_
      refine b_if hx (fun h8 hx => ?_) (fun h8 hx => ?_)
      · refine mm_if_ge 33 dX3_insert_20 (by decide) (fun h => absurd (lg_ge.mp h) (Int64.not_le.mpr h8)) (fun _ => ?_)
        refine mm_aload_n dX3_insert_23 rfl (isr_rf _) ?_
        refine mm_astore_n [some (.ref a), some (va_rf v1_), some (va_rf v3_), some (va_rf v3_)] dX3_insert_24 (by decide) (isr_rf _) ((st1_o (r := v1_) rfl).trans rfl) ?_
        refine mm_aload_n dX3_insert_25 rfl (isr_rf _) ?_
        refine s_getP (r := v3_) (b := q2) (ci := 3) (k := 16) in_X3 rfl (by decide) rfl kF_X3_63 dX3_insert_26 hr3 hs4 (by decide) hn (by decide) rfl ?_
        refine mm_astore_n [some (.ref a), some (va_rf v1_), some (va_rf v3_), some (va_rf (sP σ q2 16))] dX3_insert_29 (by decide) (isr_rf _) ((st1_o (r := v3_) rfl).trans rfl) ?_
        refine mm_goto 7 dX3_insert_30 (by decide) ?_
        exact ih _ _ hx
      · refine mm_if_ge 33 dX3_insert_20 (by decide) (fun _ => ?_) (fun h => absurd (lg_ge.mpr (Int64.not_lt.mp h8)) h)
        refine mm_fewer [some (.ref a), some (va_rf v1_), some (va_rf v2_), none] (few_ok (bs := [true, true, true, false]) rfl) ?_
        exact hk33 _ hx
set_option maxHeartbeats 4000000 in
set_option maxRecDepth 100000 in
theorem e_X3_insert_33 {g : mm_G} {l : Launch} (hst : l.stackTraces = false) {Z : Nat → Nat → Option Nat} (hZ : HZ Z) {n : Nat} (hn : 1186 ≤ n) {z : Bool} {d : Nat} {U : Nat} {a : Nat} (hs : sh a = 3) {v1_ : Option Nat} {v2_ : Option Nat} {σ : SG} {σ' : SG} (hx : x_X3_insert_33 U a v1_ v2_ σ = some σ') : mm_V g l RX3 "insert" cX3_insert 4 none [] (d) 0 0 (mm_nt (fun v S' => v = none ∧ S' = (mem Z σ', n, z))) 33 [some (.ref a), some (va_rf v1_), some (va_rf v2_), none] [] (mem Z σ, n, z) 0 0 := by
  unfold x_X3_insert_33 at hx
  refine mm_aload_n dX3_insert_33 rfl (isr_rf _) ?_
  refine b_if hx (fun h10 hx => ?_) (fun h10 hx => ?_)
  · refine mm_ifnonnull (r := v2_) 53 dX3_insert_34 (by decide) (fun h => absurd h10 h) (fun _ => ?_)
    refine mm_aload_n dX3_insert_37 rfl (isr_rf _) ?_
    refine mm_aload_n dX3_insert_38 rfl rfl ?_
    refine s_getP (r := some a) (b := a) (ci := 3) (k := 15) in_X3 rfl (by decide) rfl kF_X3_60 dX3_insert_39 rfl hs (by decide) hn (by decide) rfl ?_
    obtain ⟨q11, hr12, hs13, hx⟩ := ck_some hx
    refine s_putP (v := sP σ a 15) (r := v1_) (b := q11) (ci := 3) (k := 16) in_X3 rfl (by decide) rfl tyX3_ok nmX3 rfl kF_X3_63 dX3_insert_42 (mm_fit_r _ _) hr12 hs13 (by decide) hn (by decide) rfl hx (fun σ14 hx => ?_)
    refine mm_aload_n dX3_insert_45 rfl rfl ?_
    refine mm_aload_n dX3_insert_46 rfl (isr_rf _) ?_
    refine s_putP (v := v1_) (r := some a) (b := a) (ci := 3) (k := 15) in_X3 rfl (by decide) rfl tyX3_ok nmX3 rfl kF_X3_60 dX3_insert_47 (mm_fit_r _ _) rfl hs (by decide) hn (by decide) rfl hx (fun σ15 hx => ?_)
    refine mm_goto 66 dX3_insert_50 (by decide) ?_
    refine mm_vret dX3_insert_66 rfl ?_ (by omega) (by omega)
    obtain rfl := fin1 hx
    exact ⟨rfl, rfl⟩
  · refine mm_ifnonnull (r := v2_) 53 dX3_insert_34 (by decide) (fun _ => ?_) (fun h => absurd h h10)
    refine mm_aload_n dX3_insert_53 rfl (isr_rf _) ?_
    refine mm_aload_n dX3_insert_54 rfl (isr_rf _) ?_
    obtain ⟨q16, hr17, hs18, hx⟩ := ck_some hx
    refine s_getP (r := v2_) (b := q16) (ci := 3) (k := 16) in_X3 rfl (by decide) rfl kF_X3_63 dX3_insert_55 hr17 hs18 (by decide) hn (by decide) rfl ?_
    obtain ⟨q19, hr20, hs21, hx⟩ := ck_some hx
    refine s_putP (v := sP σ q16 16) (r := v1_) (b := q19) (ci := 3) (k := 16) in_X3 rfl (by decide) rfl tyX3_ok nmX3 rfl kF_X3_63 dX3_insert_58 (mm_fit_r _ _) hr20 hs21 (by decide) hn (by decide) rfl hx (fun σ22 hx => ?_)
    refine mm_aload_n dX3_insert_61 rfl (isr_rf _) ?_
    refine mm_aload_n dX3_insert_62 rfl (isr_rf _) ?_
    refine s_putP (v := v1_) (r := v2_) (b := q16) (ci := 3) (k := 16) in_X3 rfl (by decide) rfl tyX3_ok nmX3 rfl kF_X3_63 dX3_insert_63 (mm_fit_r _ _) hr17 hs18 (by decide) hn (by decide) rfl hx (fun σ23 hx => ?_)
    refine mm_vret dX3_insert_66 rfl ?_ (by omega) (by omega)
    obtain rfl := fin1 hx
    exact ⟨rfl, rfl⟩
set_option maxHeartbeats 4000000 in
set_option maxRecDepth 100000 in
theorem e_X3_insert {g : mm_G} {l : Launch} (hst : l.stackTraces = false) {Z : Nat → Nat → Option Nat} (hZ : HZ Z) {n : Nat} (hn : 1186 ≤ n) {z : Bool} {d : Nat} {U : Nat} {a : Nat} (hs : sh a = 3) {p0 : Option Nat} {σ : SG} {σ' : SG} (hx : x_X3_insert U a p0 σ = some σ') : mm_Cm g l yX3_insert (.code yX3_insert cX3_insert 4 none) (d) 0 0 [.ref a, va_rf p0] (mem Z σ, n, z) (fun v S' => v = none ∧ S' = (mem Z σ', n, z)) := by
  refine mm_Cm_of hst (by decide) (by cases p0 <;>  exact Nat.le_of_ble_eq_true rfl) ?_
  rw [show mm_ent [.ref a, va_rf p0] 4 = [some (.ref a), some (va_rf p0), none, none] from by cases p0 <;>  rfl]
  show mm_V g l RX3 "insert" cX3_insert 4 none [] (d) 0 0 (mm_nt (fun v S' => v = none ∧ S' = (mem Z σ', n, z))) 0 [some (.ref a), some (va_rf p0), none, none] [] (mem Z σ, n, z) 0 0
  unfold x_X3_insert at hx
  refine mm_null dX3_insert_0 ?_
  refine mm_astore_n [some (.ref a), some (va_rf p0), some (va_rf none), none] dX3_insert_1 (by decide) rfl ((st1_o (r := p0) rfl).trans rfl) ?_
  refine mm_aload_n dX3_insert_2 rfl rfl ?_
  refine s_getP (r := some a) (b := a) (ci := 3) (k := 15) in_X3 rfl (by decide) rfl kF_X3_60 dX3_insert_3 rfl hs (by decide) hn (by decide) rfl ?_
  refine mm_astore_n [some (.ref a), some (va_rf p0), some (va_rf none), some (va_rf (sP σ a 15))] dX3_insert_6 (by decide) (isr_rf _) rfl ?_
  refine e_X3_insert_L7 hst hZ hn hs ?_ _ _ _ hx
  · intro w9 hx
    exact e_X3_insert_33 hst hZ hn hs hx
set_option maxHeartbeats 4000000 in
set_option maxRecDepth 100000 in
theorem e_X11_isNumeric {g : mm_G} {l : Launch} (hst : l.stackTraces = false) {Z : Nat → Nat → Option Nat} (hZ : HZ Z) {n : Nat} (hn : 1186 ≤ n) {z : Bool} {d : Nat} {p0 : Int32} {σ : SG} {r : Int32} (hx : x_X11_isNumeric p0 = some r) : mm_Cm g l yX11_isNumeric (.code yX11_isNumeric cX11_isNumeric 1 (some .boolean)) (d) 0 0 [.int p0] (mem Z σ, n, z) (fun v S' => v = some (.int r) ∧ S' = (mem Z σ, n, z)) := by
  refine mm_Cm_of hst (by decide) (Nat.le_of_ble_eq_true rfl) ?_
  show mm_V g l RX11 "isNumeric" cX11_isNumeric 1 (some .boolean) [] (d) 0 0 (mm_nt (fun v S' => v = some (.int r) ∧ S' = (mem Z σ, n, z))) 0 [some (.int p0)] [] (mem Z σ, n, z) 0 0
  unfold x_X11_isNumeric at hx
  refine mm_iload_n dX11_isNumeric_0 rfl ?_
  refine mm_bipush (v := 10) dX11_isNumeric_1 (by decide) ?_
  refine b_if hx (fun h1 hx => ?_) (fun h1 hx => ?_)
  · refine mm_icmp_le 12 dX11_isNumeric_3 (by decide) (fun h => absurd h (Int32.not_le.mpr h1)) (fun _ => ?_)
    refine mm_iload_n dX11_isNumeric_6 rfl ?_
    refine mm_bipush (v := 14) dX11_isNumeric_7 (by decide) ?_
    refine b_if hx (fun h2 hx => ?_) (fun h2 hx => ?_)
    · refine mm_icmp_ne 16 dX11_isNumeric_9 (by decide) (fun h => absurd h2 h) (fun _ => ?_)
      refine mm_iconst (v := 1) dX11_isNumeric_12 (by decide) ?_
      refine mm_goto 17 dX11_isNumeric_13 (by decide) ?_
      refine mm_iret dX11_isNumeric_17 rfl rfl ?_ (by omega) (by omega)
      obtain rfl := fin1 hx
      exact ⟨rfl, rfl⟩
    · refine mm_icmp_ne 16 dX11_isNumeric_9 (by decide) (fun _ => ?_) (fun h => absurd h h2)
      refine mm_iconst (v := 0) dX11_isNumeric_16 (by decide) ?_
      refine mm_iret dX11_isNumeric_17 rfl rfl ?_ (by omega) (by omega)
      obtain rfl := fin1 hx
      exact ⟨rfl, rfl⟩
  · refine mm_icmp_le 12 dX11_isNumeric_3 (by decide) (fun _ => ?_) (fun h => absurd (Int32.not_lt.mp h1) h)
    refine mm_iconst (v := 1) dX11_isNumeric_12 (by decide) ?_
    refine mm_goto 17 dX11_isNumeric_13 (by decide) ?_
    refine mm_iret dX11_isNumeric_17 rfl rfl ?_ (by omega) (by omega)
    obtain rfl := fin1 hx
    exact ⟨rfl, rfl⟩
set_option maxHeartbeats 4000000 in
set_option maxRecDepth 100000 in
theorem e_X2_judgeField_67 {g : mm_G} {l : Launch} (hst : l.stackTraces = false) {Z : Nat → Nat → Option Nat} (hZ : HZ Z) {n : Nat} (hn : 1186 ≤ n) {z : Bool} {d : Nat} {U : Nat} {a : Nat} (hs : sh a = 2) {v1_ : Option Nat} {σ : SG} {σ' : SG} (hx : x_X2_judgeField_67 U a v1_ σ = some σ') : mm_V g l RX2 "judgeField" cX2_judgeField 7 none [] (d + 1) 0 0 (mm_nt (fun v S' => v = none ∧ S' = (mem Z σ', n, z))) 67 [some (.ref a), some (va_rf v1_), none, none, none, none, none] [] (mem Z σ, n, z) 0 0 := by
  unfold x_X2_judgeField_67 at hx
  refine mm_aload_n dX2_judgeField_67 rfl rfl ?_
  refine mm_iconst (v := 4) dX2_judgeField_68 (by decide) ?_
  refine mm_aload_n dX2_judgeField_69 rfl (isr_rf _) ?_
  obtain ⟨q10, hr11, hs12, hx⟩ := ck_some hx
  refine s_getIN (r := v1_) (b := q10) (ci := 3) (k := 7) in_X3 rfl (by decide) rfl kF_X2_146 dX2_judgeField_70 hr11 hs12 (by decide) hn (by decide) rfl ?_
  obtain ⟨σ14, hc13, hx⟩ := b1_some hx
  refine mm_callV3 (a := a) (ci := 2) wM_X2_fail kM_X2_84 wI_X2_fail wS_X2_fail dX2_judgeField_73 (e_X2_fail hst hZ hn hs hc13) (mem_obj hs (by decide)) (sh_ltn hs (by decide) hn) rfl rfl rfl (Nat.le_of_ble_eq_true rfl) (by omega) (by omega) (fun v9 S9 hq => ?_)
  obtain ⟨rfl, rfl⟩ := hq
  refine ⟨fun h => ⟨h, rfl⟩, ?_⟩
  refine mm_vret dX2_judgeField_76 rfl ?_ (by omega) (by omega)
  obtain rfl := fin1 hx
  exact ⟨rfl, rfl⟩
set_option maxHeartbeats 4000000 in
set_option maxRecDepth 100000 in
theorem e_X2_judgeField_125 {g : mm_G} {l : Launch} (hst : l.stackTraces = false) {Z : Nat → Nat → Option Nat} (hZ : HZ Z) {n : Nat} (hn : 1186 ≤ n) {z : Bool} {d : Nat} {U : Nat} {a : Nat} (hs : sh a = 2) {v1_ : Option Nat} {v6_ : Int32} {s0_ : Int32} {s1_ : Option Nat} {σ : SG} {σ' : SG} (hx : x_X2_judgeField_125 U a v1_ v6_ s0_ s1_ σ = some σ') : mm_V g l RX2 "judgeField" cX2_judgeField 7 none [] (d + 1) 0 0 (mm_nt (fun v S' => v = none ∧ S' = (mem Z σ', n, z))) 125 [some (.ref a), some (va_rf v1_), none, none, none, none, some (.int v6_)] [.int s0_, va_rf s1_] (mem Z σ, n, z) 0 0 := by
  unfold x_X2_judgeField_125 at hx
  obtain ⟨q25, hr26, hs27, hx⟩ := ck_some hx
  obtain ⟨hz28, hx⟩ := zb_some hx
  refine s_putIN (v := s0_) (r := s1_) (b := q25) (ci := 3) (k := 12) in_X3 rfl (by decide) rfl tyX3_ok nmX3 rfl kF_X2_163 dX2_judgeField_125 (zb_fit hz28) hr26 hs27 (by decide) hn (by decide) rfl hx (fun σ29 hx => ?_)
  refine mm_aload_n dX2_judgeField_128 rfl (isr_rf _) ?_
  obtain ⟨q30, hr31, hs32, hx⟩ := ck_some hx
  refine s_getIN (r := v1_) (b := q30) (ci := 3) (k := 14) in_X3 rfl (by decide) rfl kF_X2_166 dX2_judgeField_129 hr31 hs32 (by decide) hn (by decide) rfl ?_
  refine b_if hx (fun h33 hx => ?_) (fun h33 hx => ?_)
  · refine mm_if_lt 150 dX2_judgeField_132 (by decide) (fun _ => ?_) (fun h => absurd h33 h)
    refine mm_vret dX2_judgeField_150 rfl ?_ (by omega) (by omega)
    obtain rfl := fin1 hx
    exact ⟨rfl, rfl⟩
  · refine mm_if_lt 150 dX2_judgeField_132 (by decide) (fun h => absurd h h33) (fun _ => ?_)
    refine mm_iload dX2_judgeField_135 rfl ?_
    refine b_if hx (fun h34 hx => ?_) (fun h34 hx => ?_)
    · refine mm_if_ne 150 dX2_judgeField_137 (by decide) (fun h => absurd h34 h) (fun _ => ?_)
      refine mm_aload_n dX2_judgeField_140 rfl rfl ?_
      refine mm_bipush (v := 6) dX2_judgeField_141 (by decide) ?_
      refine mm_aload_n dX2_judgeField_143 rfl (isr_rf _) ?_
      refine s_getIN (r := v1_) (b := q30) (ci := 3) (k := 14) in_X3 rfl (by decide) rfl kF_X2_166 dX2_judgeField_144 hr31 hs32 (by decide) hn (by decide) rfl ?_
      obtain ⟨σ36, hc35, hx⟩ := b1_some hx
      refine mm_callV3 (a := a) (ci := 2) wM_X2_fail kM_X2_84 wI_X2_fail wS_X2_fail dX2_judgeField_147 (e_X2_fail hst hZ hn hs hc35) (mem_obj hs (by decide)) (sh_ltn hs (by decide) hn) rfl rfl rfl (Nat.le_of_ble_eq_true rfl) (by omega) (by omega) (fun v9 S9 hq => ?_)
      obtain ⟨rfl, rfl⟩ := hq
      refine ⟨fun h => ⟨h, rfl⟩, ?_⟩
      refine mm_vret dX2_judgeField_150 rfl ?_ (by omega) (by omega)
      obtain rfl := fin1 hx
      exact ⟨rfl, rfl⟩
    · refine mm_if_ne 150 dX2_judgeField_137 (by decide) (fun _ => ?_) (fun h => absurd h h34)
      refine mm_vret dX2_judgeField_150 rfl ?_ (by omega) (by omega)
      obtain rfl := fin1 hx
      exact ⟨rfl, rfl⟩
set_option maxHeartbeats 4000000 in
set_option maxRecDepth 100000 in
theorem e_X2_judgeField_124 {g : mm_G} {l : Launch} (hst : l.stackTraces = false) {Z : Nat → Nat → Option Nat} (hZ : HZ Z) {n : Nat} (hn : 1186 ≤ n) {z : Bool} {d : Nat} {U : Nat} {a : Nat} (hs : sh a = 2) {v1_ : Option Nat} {v6_ : Int32} {s0_ : Option Nat} {σ : SG} {σ' : SG} (hx : x_X2_judgeField_124 U a v1_ v6_ s0_ σ = some σ') : mm_V g l RX2 "judgeField" cX2_judgeField 7 none [] (d + 1) 0 0 (mm_nt (fun v S' => v = none ∧ S' = (mem Z σ', n, z))) 124 [some (.ref a), some (va_rf v1_), none, none, none, none, some (.int v6_)] [va_rf s0_] (mem Z σ, n, z) 0 0 := by
  unfold x_X2_judgeField_124 at hx
  refine mm_iconst (v := 0) dX2_judgeField_124 (by decide) ?_
  exact e_X2_judgeField_125 hst hZ hn hs hx
set_option maxHeartbeats 4000000 in
set_option maxRecDepth 100000 in
theorem e_X2_judgeField_105 {g : mm_G} {l : Launch} (hst : l.stackTraces = false) {Z : Nat → Nat → Option Nat} (hZ : HZ Z) {n : Nat} (hn : 1186 ≤ n) {z : Bool} {d : Nat} {U : Nat} {a : Nat} (hs : sh a = 2) {v1_ : Option Nat} {s0_ : Int32} {σ : SG} {σ' : SG} (hx : x_X2_judgeField_105 U a v1_ s0_ σ = some σ') : mm_V g l RX2 "judgeField" cX2_judgeField 7 none [] (d + 1) 0 0 (mm_nt (fun v S' => v = none ∧ S' = (mem Z σ', n, z))) 105 [some (.ref a), some (va_rf v1_), none, none, none, none, none] [.int s0_] (mem Z σ, n, z) 0 0 := by
  unfold x_X2_judgeField_105 at hx
  refine mm_istore [some (.ref a), some (va_rf v1_), none, none, none, none, some (.int s0_)] dX2_judgeField_105 (by decide) rfl ?_
  refine mm_aload_n dX2_judgeField_107 rfl (isr_rf _) ?_
  refine mm_iload dX2_judgeField_108 rfl ?_
  refine b_if hx (fun h24 hx => ?_) (fun h24 hx => ?_)
  · refine mm_if_eq 124 dX2_judgeField_110 (by decide) (fun _ => ?_) (fun h => absurd h24 h)
    exact e_X2_judgeField_124 hst hZ hn hs hx
  · refine mm_if_eq 124 dX2_judgeField_110 (by decide) (fun h => absurd h h24) (fun _ => ?_)
    refine mm_aload_n dX2_judgeField_113 rfl (isr_rf _) ?_
    obtain ⟨q37, hr38, hs39, hx⟩ := ck_some hx
    refine s_getIN (r := v1_) (b := q37) (ci := 3) (k := 13) in_X3 rfl (by decide) rfl kF_X2_160 dX2_judgeField_114 hr38 hs39 (by decide) hn (by decide) rfl ?_
    refine b_if hx (fun h40 hx => ?_) (fun h40 hx => ?_)
    · refine mm_if_ne 124 dX2_judgeField_117 (by decide) (fun h => absurd h40 h) (fun _ => ?_)
      refine mm_iconst (v := 1) dX2_judgeField_120 (by decide) ?_
      refine mm_goto 125 dX2_judgeField_121 (by decide) ?_
      exact e_X2_judgeField_125 hst hZ hn hs hx
    · refine mm_if_ne 124 dX2_judgeField_117 (by decide) (fun _ => ?_) (fun h => absurd h h40)
      exact e_X2_judgeField_124 hst hZ hn hs hx
set_option maxHeartbeats 4000000 in
set_option maxRecDepth 100000 in
theorem e_X2_judgeField_104 {g : mm_G} {l : Launch} (hst : l.stackTraces = false) {Z : Nat → Nat → Option Nat} (hZ : HZ Z) {n : Nat} (hn : 1186 ≤ n) {z : Bool} {d : Nat} {U : Nat} {a : Nat} (hs : sh a = 2) {v1_ : Option Nat} {σ : SG} {σ' : SG} (hx : x_X2_judgeField_104 U a v1_ σ = some σ') : mm_V g l RX2 "judgeField" cX2_judgeField 7 none [] (d + 1) 0 0 (mm_nt (fun v S' => v = none ∧ S' = (mem Z σ', n, z))) 104 [some (.ref a), some (va_rf v1_), none, none, none, none, none] [] (mem Z σ, n, z) 0 0 := by
  unfold x_X2_judgeField_104 at hx
  refine mm_iconst (v := 0) dX2_judgeField_104 (by decide) ?_
  exact e_X2_judgeField_105 hst hZ hn hs hx
set_option maxHeartbeats 4000000 in
set_option maxRecDepth 100000 in
theorem e_X2_judgeField_40 {g : mm_G} {l : Launch} (hst : l.stackTraces = false) {Z : Nat → Nat → Option Nat} (hZ : HZ Z) {n : Nat} (hn : 1186 ≤ n) {z : Bool} {d : Nat} {U : Nat} {a : Nat} (hs : sh a = 2) {v1_ : Option Nat} {v2_ : Int64} {s0_ : Int32} {σ : SG} {σ' : SG} (hx : x_X2_judgeField_40 U a v1_ v2_ s0_ σ = some σ') : mm_V g l RX2 "judgeField" cX2_judgeField 7 none [] (d + 1) 0 0 (mm_nt (fun v S' => v = none ∧ S' = (mem Z σ', n, z))) 40 [some (.ref a), some (va_rf v1_), some (.long v2_), none, none, none, none] [.int s0_] (mem Z σ, n, z) 0 0 := by
  unfold x_X2_judgeField_40 at hx
  refine mm_istore [some (.ref a), some (va_rf v1_), some (.long v2_), none, some (.int s0_), none, none] dX2_judgeField_40 (by decide) rfl ?_
  refine mm_aload_n dX2_judgeField_42 rfl (isr_rf _) ?_
  obtain ⟨q5, hr6, hs7, hx⟩ := ck_some hx
  refine s_getPN (r := v1_) (b := q5) (ci := 3) (k := 2) in_X3 rfl (by decide) rfl kF_X2_121 dX2_judgeField_43 hr6 hs7 (by decide) hn (by decide) rfl ?_
  refine mm_astore [some (.ref a), some (va_rf v1_), some (.long v2_), none, some (.int s0_), some (va_rf (sP σ q5 2)), none] dX2_judgeField_46 (by decide) (isr_rf _) rfl ?_
  refine mm_iload dX2_judgeField_48 rfl ?_
  refine b_if hx (fun h8 hx => ?_) (fun h8 hx => ?_)
  · refine mm_if_ne 67 dX2_judgeField_50 (by decide) (fun h => absurd h8 h) (fun _ => ?_)
    refine mm_aload dX2_judgeField_53 rfl (isr_rf _) ?_
    refine b_if hx (fun h9 hx => ?_) (fun h9 hx => ?_)
    · refine mm_ifnull (r := sP σ q5 2) 67 dX2_judgeField_55 (by decide) (fun _ => ?_) (fun h => absurd h9 h)
      refine mm_fewer [some (.ref a), some (va_rf v1_), none, none, none, none, none] (few_ok (bs := [true, true, false, false, false, false, false]) rfl) ?_
      exact e_X2_judgeField_67 hst hZ hn hs hx
    · refine mm_ifnull (r := sP σ q5 2) 67 dX2_judgeField_55 (by decide) (fun h => absurd h h9) (fun _ => ?_)
      refine mm_aload dX2_judgeField_58 rfl (isr_rf _) ?_
      refine mm_lload_n dX2_judgeField_60 rfl ?_
      obtain ⟨q15, hr16, hs17, hx⟩ := ck_some hx
      obtain ⟨v19, hc18, hx⟩ := b1_some hx
      refine mm_callV3 (a := q15) (ci := 3) wM_X3_memberNumbered kM_X2_142 wI_X3_memberNumbered wS_X3_memberNumbered dX2_judgeField_61 (e_X3_memberNumbered hst hZ hn hs17 hc18) (mem_obj hs17 (by decide)) (sh_ltn hs17 (by decide) hn) rfl rfl (by rw [hr16]; rfl) (Nat.le_of_ble_eq_true rfl) (by omega) (by omega) (fun v9 S9 hq => ?_)
      obtain ⟨rfl, rfl⟩ := hq
      refine ⟨fun h => ⟨h, rfl⟩, ?_⟩
      refine b_if hx (fun h20 hx => ?_) (fun h20 hx => ?_)
      · refine mm_ifnull (r := v19) 77 dX2_judgeField_64 (by decide) (fun _ => ?_) (fun h => absurd h20 h)
        refine mm_aload dX2_judgeField_77 rfl (isr_rf _) ?_
        refine mm_aload_n dX2_judgeField_79 rfl (isr_rf _) ?_
        obtain ⟨σ22, hc21, hx⟩ := b1_some hx
        refine mm_callV3 (a := q15) (ci := 3) wM_X3_insert kM_X2_149 wI_X3_insert wS_X3_insert dX2_judgeField_80 (e_X3_insert hst hZ hn hs17 hc21) (mem_obj hs17 (by decide)) (sh_ltn hs17 (by decide) hn) rfl rfl (by rw [hr16]; rfl) (Nat.le_of_ble_eq_true rfl) (by omega) (by omega) (fun v9 S9 hq => ?_)
        obtain ⟨rfl, rfl⟩ := hq
        refine ⟨fun h => ⟨h, rfl⟩, ?_⟩
        refine mm_aload_n dX2_judgeField_83 rfl (isr_rf _) ?_
        refine s_getIN (r := v1_) (b := q5) (ci := 3) (k := 11) in_X3 rfl (by decide) rfl kF_X2_152 dX2_judgeField_84 hr6 hs7 (by decide) hn (by decide) rfl ?_
        refine b_if hx (fun h23 hx => ?_) (fun h23 hx => ?_)
        · refine mm_if_eq 104 dX2_judgeField_87 (by decide) (fun _ => ?_) (fun h => absurd h23 h)
          refine mm_fewer [some (.ref a), some (va_rf v1_), none, none, none, none, none] (few_ok (bs := [true, true, false, false, false, false, false]) rfl) ?_
          exact e_X2_judgeField_104 hst hZ hn hs hx
        · refine mm_if_eq 104 dX2_judgeField_87 (by decide) (fun h => absurd h h23) (fun _ => ?_)
          refine mm_aload_n dX2_judgeField_90 rfl (isr_rf _) ?_
          refine s_getIN (r := v1_) (b := q5) (ci := 3) (k := 8) in_X3 rfl (by decide) rfl kF_X2_93 dX2_judgeField_91 hr6 hs7 (by decide) hn (by decide) rfl ?_
          obtain ⟨v42, hc41, hx⟩ := b1_some hx
          refine mm_callSN wM_X11_isNumeric kM_X2_156 wT_X11_isNumeric dX2_judgeField_94 (e_X11_isNumeric hst hZ hn hc41) rfl rfl (Nat.le_of_ble_eq_true rfl) (by omega) (by omega) (fun v9 S9 hq => ?_)
          obtain ⟨rfl, rfl⟩ := hq
          refine ⟨fun h => ⟨h, rfl⟩, ?_⟩
          refine b_if hx (fun h43 hx => ?_) (fun h43 hx => ?_)
          · refine mm_if_eq 104 dX2_judgeField_97 (by decide) (fun _ => ?_) (fun h => absurd h43 h)
            refine mm_fewer [some (.ref a), some (va_rf v1_), none, none, none, none, none] (few_ok (bs := [true, true, false, false, false, false, false]) rfl) ?_
            exact e_X2_judgeField_104 hst hZ hn hs hx
          · refine mm_if_eq 104 dX2_judgeField_97 (by decide) (fun h => absurd h h43) (fun _ => ?_)
            refine mm_iconst (v := 1) dX2_judgeField_100 (by decide) ?_
            refine mm_goto 105 dX2_judgeField_101 (by decide) ?_
            refine mm_fewer [some (.ref a), some (va_rf v1_), none, none, none, none, none] (few_ok (bs := [true, true, false, false, false, false, false]) rfl) ?_
            exact e_X2_judgeField_105 hst hZ hn hs hx
      · refine mm_ifnull (r := v19) 77 dX2_judgeField_64 (by decide) (fun h => absurd h h20) (fun _ => ?_)
        refine mm_fewer [some (.ref a), some (va_rf v1_), none, none, none, none, none] (few_ok (bs := [true, true, false, false, false, false, false]) rfl) ?_
        exact e_X2_judgeField_67 hst hZ hn hs hx
  · refine mm_if_ne 67 dX2_judgeField_50 (by decide) (fun _ => ?_) (fun h => absurd h h8)
    refine mm_fewer [some (.ref a), some (va_rf v1_), none, none, none, none, none] (few_ok (bs := [true, true, false, false, false, false, false]) rfl) ?_
    exact e_X2_judgeField_67 hst hZ hn hs hx
set_option maxHeartbeats 4000000 in
set_option maxRecDepth 100000 in
theorem e_X2_judgeField_35 {g : mm_G} {l : Launch} (hst : l.stackTraces = false) {Z : Nat → Nat → Option Nat} (hZ : HZ Z) {n : Nat} (hn : 1186 ≤ n) {z : Bool} {d : Nat} {U : Nat} {a : Nat} (hs : sh a = 2) {v1_ : Option Nat} {v2_ : Int64} {σ : SG} {σ' : SG} (hx : x_X2_judgeField_35 U a v1_ v2_ σ = some σ') : mm_V g l RX2 "judgeField" cX2_judgeField 7 none [] (d + 1) 0 0 (mm_nt (fun v S' => v = none ∧ S' = (mem Z σ', n, z))) 35 [some (.ref a), some (va_rf v1_), some (.long v2_), none, none, none, none] [] (mem Z σ, n, z) 0 0 := by
  unfold x_X2_judgeField_35 at hx
  refine mm_iconst (v := 1) dX2_judgeField_35 (by decide) ?_
  refine mm_goto 40 dX2_judgeField_36 (by decide) ?_
  exact e_X2_judgeField_40 hst hZ hn hs hx
set_option maxHeartbeats 4000000 in
set_option maxRecDepth 100000 in
theorem e_X2_judgeField_39 {g : mm_G} {l : Launch} (hst : l.stackTraces = false) {Z : Nat → Nat → Option Nat} (hZ : HZ Z) {n : Nat} (hn : 1186 ≤ n) {z : Bool} {d : Nat} {U : Nat} {a : Nat} (hs : sh a = 2) {v1_ : Option Nat} {v2_ : Int64} {σ : SG} {σ' : SG} (hx : x_X2_judgeField_39 U a v1_ v2_ σ = some σ') : mm_V g l RX2 "judgeField" cX2_judgeField 7 none [] (d + 1) 0 0 (mm_nt (fun v S' => v = none ∧ S' = (mem Z σ', n, z))) 39 [some (.ref a), some (va_rf v1_), some (.long v2_), none, none, none, none] [] (mem Z σ, n, z) 0 0 := by
  unfold x_X2_judgeField_39 at hx
  refine mm_iconst (v := 0) dX2_judgeField_39 (by decide) ?_
  exact e_X2_judgeField_40 hst hZ hn hs hx
set_option maxHeartbeats 4000000 in
set_option maxRecDepth 100000 in
theorem e_X2_judgeField {g : mm_G} {l : Launch} (hst : l.stackTraces = false) {Z : Nat → Nat → Option Nat} (hZ : HZ Z) {n : Nat} (hn : 1186 ≤ n) {z : Bool} {d : Nat} {U : Nat} {a : Nat} (hs : sh a = 2) {p0 : Option Nat} {σ : SG} {σ' : SG} (hx : x_X2_judgeField U a p0 σ = some σ') : mm_Cm g l yX2_judgeField (.code yX2_judgeField cX2_judgeField 7 none) (d + 1) 0 0 [.ref a, va_rf p0] (mem Z σ, n, z) (fun v S' => v = none ∧ S' = (mem Z σ', n, z)) := by
  refine mm_Cm_of hst (by decide) (by cases p0 <;>  exact Nat.le_of_ble_eq_true rfl) ?_
  rw [show mm_ent [.ref a, va_rf p0] 7 = [some (.ref a), some (va_rf p0), none, none, none, none, none] from by cases p0 <;>  rfl]
  show mm_V g l RX2 "judgeField" cX2_judgeField 7 none [] (d + 1) 0 0 (mm_nt (fun v S' => v = none ∧ S' = (mem Z σ', n, z))) 0 [some (.ref a), some (va_rf p0), none, none, none, none, none] [] (mem Z σ, n, z) 0 0
  unfold x_X2_judgeField at hx
  refine mm_aload_n dX2_judgeField_0 rfl (isr_rf _) ?_
  obtain ⟨q1, hr2, hs3, hx⟩ := ck_some hx
  refine s_getLN (r := p0) (b := q1) (ci := 3) (k := 6) in_X3 rfl (by decide) rfl kF_X2_132 dX2_judgeField_1 hr2 hs3 (by decide) hn (by decide) rfl ?_
  refine mm_lstore_n [some (.ref a), some (va_rf p0), some (.long (sL σ q1 6)), none, none, none, none] dX2_judgeField_4 (by decide) ((st2_o (r := p0) rfl).trans rfl) ?_
  refine mm_lload_n dX2_judgeField_5 rfl ?_
  refine mm_lconst (v := 1) dX2_judgeField_6 (by decide) ?_
  refine mm_lcmp dX2_judgeField_7 ?_
  refine b_if hx (fun h4 hx => ?_) (fun h4 hx => ?_)
  · refine mm_if_lt 35 dX2_judgeField_8 (by decide) (fun _ => ?_) (fun h => absurd (lg_lt.mpr h4) h)
    exact e_X2_judgeField_35 hst hZ hn hs hx
  · refine mm_if_lt 35 dX2_judgeField_8 (by decide) (fun h => absurd (lg_lt.mp h) h4) (fun _ => ?_)
    refine mm_lload_n dX2_judgeField_11 rfl ?_
    refine mm_ldc2 kL_X2_136 dX2_judgeField_12 ?_
    refine mm_lcmp dX2_judgeField_15 ?_
    refine b_if hx (fun h44 hx => ?_) (fun h44 hx => ?_)
    · refine mm_if_gt 35 dX2_judgeField_16 (by decide) (fun _ => ?_) (fun h => absurd (lg_gt.mpr h44) h)
      exact e_X2_judgeField_35 hst hZ hn hs hx
    · refine mm_if_gt 35 dX2_judgeField_16 (by decide) (fun h => absurd (lg_gt.mp h) h44) (fun _ => ?_)
      refine mm_lload_n dX2_judgeField_19 rfl ?_
      refine mm_ldc2 kL_X2_138 dX2_judgeField_20 ?_
      refine mm_lcmp dX2_judgeField_23 ?_
      refine b_if hx (fun h45 hx => ?_) (fun h45 hx => ?_)
      · refine mm_if_lt 39 dX2_judgeField_24 (by decide) (fun _ => ?_) (fun h => absurd (lg_lt.mpr h45) h)
        exact e_X2_judgeField_39 hst hZ hn hs hx
      · refine mm_if_lt 39 dX2_judgeField_24 (by decide) (fun h => absurd (lg_lt.mp h) h45) (fun _ => ?_)
        refine mm_lload_n dX2_judgeField_27 rfl ?_
        refine mm_ldc2 kL_X2_140 dX2_judgeField_28 ?_
        refine mm_lcmp dX2_judgeField_31 ?_
        refine b_if hx (fun h46 hx => ?_) (fun h46 hx => ?_)
        · refine mm_if_gt 39 dX2_judgeField_32 (by decide) (fun _ => ?_) (fun h => absurd (lg_gt.mpr h46) h)
          exact e_X2_judgeField_39 hst hZ hn hs hx
        · refine mm_if_gt 39 dX2_judgeField_32 (by decide) (fun h => absurd (lg_gt.mp h) h46) (fun _ => ?_)
          exact e_X2_judgeField_35 hst hZ hn hs hx
set_option maxHeartbeats 4000000 in
set_option maxRecDepth 100000 in
theorem e_X3_append_L5 {g : mm_G} {l : Launch} (hst : l.stackTraces = false) {Z : Nat → Nat → Option Nat} (hZ : HZ Z) {n : Nat} (hn : 1186 ≤ n) {z : Bool} {d : Nat} {U : Nat} {a : Nat} (hs : sh a = 3) {k24 : Option Nat → Option (SG)} {v1_ : Option Nat} {σ : SG} {σ' : SG} (hk24 : ∀ (v2_ : Option Nat), k24 v2_ = some σ' → mm_V g l RX3 "append" cX3_append 3 none [] (d) 0 0 (mm_nt (fun v S' => v = none ∧ S' = (mem Z σ', n, z))) 24 [some (.ref a), some (va_rf v1_), some (va_rf v2_)] [] (mem Z σ, n, z) 0 0) : ∀ (U1 : Nat) (v2_ : Option Nat), x_X3_append_L5 U a k24 v1_ σ U1 v2_ = some σ' → mm_V g l RX3 "append" cX3_append 3 none [] (d) 0 0 (mm_nt (fun v S' => v = none ∧ S' = (mem Z σ', n, z))) 5 [some (.ref a), some (va_rf v1_), some (va_rf v2_)] [] (mem Z σ, n, z) 0 0 := by
  intro U1
  induction U1 with
  | zero => intro v2_ hx; exact absurd hx (by simp [x_X3_append_L5])
  | succ U1 ih =>
    intro v2_ hx
    rw [x_X3_append_L5] at hx
    refine mm_aload_n dX3_append_5 rfl (isr_rf _) ?_
    refine b_if hx (fun h1 hx => ?_) (fun h1 hx => ?_)
    · refine mm_ifnull (r := v2_) 24 dX3_append_6 (by decide) (fun _ => ?_) (fun h => absurd h1 h)
      exact hk24 _ hx
    · refine mm_ifnull (r := v2_) 24 dX3_append_6 (by decide) (fun h => absurd h h1) (fun _ => ?_)
      refine mm_aload_n dX3_append_9 rfl (isr_rf _) ?_
      obtain ⟨q2, hr3, hs4, hx⟩ := ck_some hx
      refine s_getP (r := v2_) (b := q2) (ci := 3) (k := 16) in_X3 rfl (by decide) rfl kF_X3_63 dX3_append_10 hr3 hs4 (by decide) hn (by decide) rfl ?_
      refine b_if hx (fun h5 hx => ?_) (fun h5 hx => ?_)
      · refine mm_ifnull (r := sP σ q2 16) 24 dX3_append_13 (by decide) (fun _ => ?_) (fun h => absurd h5 h)
        exact hk24 _ hx
      · refine mm_ifnull (r := sP σ q2 16) 24 dX3_append_13 (by decide) (fun h => absurd h h5) (fun _ => ?_)
        refine mm_aload_n dX3_append_16 rfl (isr_rf _) ?_
        refine s_getP (r := v2_) (b := q2) (ci := 3) (k := 16) in_X3 rfl (by decide) rfl kF_X3_63 dX3_append_17 hr3 hs4 (by decide) hn (by decide) rfl ?_
        refine mm_astore_n [some (.ref a), some (va_rf v1_), some (va_rf (sP σ q2 16))] dX3_append_20 (by decide) (isr_rf _) ((st1_o (r := v1_) rfl).trans rfl) ?_
        refine mm_goto 5 dX3_append_21 (by decide) ?_
        exact ih _ hx
set_option maxHeartbeats 4000000 in
set_option maxRecDepth 100000 in
theorem e_X3_append_24 {g : mm_G} {l : Launch} (hst : l.stackTraces = false) {Z : Nat → Nat → Option Nat} (hZ : HZ Z) {n : Nat} (hn : 1186 ≤ n) {z : Bool} {d : Nat} {U : Nat} {a : Nat} (hs : sh a = 3) {v1_ : Option Nat} {v2_ : Option Nat} {σ : SG} {σ' : SG} (hx : x_X3_append_24 U a v1_ v2_ σ = some σ') : mm_V g l RX3 "append" cX3_append 3 none [] (d) 0 0 (mm_nt (fun v S' => v = none ∧ S' = (mem Z σ', n, z))) 24 [some (.ref a), some (va_rf v1_), some (va_rf v2_)] [] (mem Z σ, n, z) 0 0 := by
  unfold x_X3_append_24 at hx
  refine mm_aload_n dX3_append_24 rfl (isr_rf _) ?_
  refine b_if hx (fun h7 hx => ?_) (fun h7 hx => ?_)
  · refine mm_ifnonnull (r := v2_) 36 dX3_append_25 (by decide) (fun h => absurd h7 h) (fun _ => ?_)
    refine mm_aload_n dX3_append_28 rfl rfl ?_
    refine mm_aload_n dX3_append_29 rfl (isr_rf _) ?_
    refine s_putP (v := v1_) (r := some a) (b := a) (ci := 3) (k := 15) in_X3 rfl (by decide) rfl tyX3_ok nmX3 rfl kF_X3_60 dX3_append_30 (mm_fit_r _ _) rfl hs (by decide) hn (by decide) rfl hx (fun σ8 hx => ?_)
    refine mm_goto 41 dX3_append_33 (by decide) ?_
    refine mm_vret dX3_append_41 rfl ?_ (by omega) (by omega)
    obtain rfl := fin1 hx
    exact ⟨rfl, rfl⟩
  · refine mm_ifnonnull (r := v2_) 36 dX3_append_25 (by decide) (fun _ => ?_) (fun h => absurd h h7)
    refine mm_aload_n dX3_append_36 rfl (isr_rf _) ?_
    refine mm_aload_n dX3_append_37 rfl (isr_rf _) ?_
    obtain ⟨q9, hr10, hs11, hx⟩ := ck_some hx
    refine s_putP (v := v1_) (r := v2_) (b := q9) (ci := 3) (k := 16) in_X3 rfl (by decide) rfl tyX3_ok nmX3 rfl kF_X3_63 dX3_append_38 (mm_fit_r _ _) hr10 hs11 (by decide) hn (by decide) rfl hx (fun σ12 hx => ?_)
    refine mm_vret dX3_append_41 rfl ?_ (by omega) (by omega)
    obtain rfl := fin1 hx
    exact ⟨rfl, rfl⟩
set_option maxHeartbeats 4000000 in
set_option maxRecDepth 100000 in
theorem e_X3_append {g : mm_G} {l : Launch} (hst : l.stackTraces = false) {Z : Nat → Nat → Option Nat} (hZ : HZ Z) {n : Nat} (hn : 1186 ≤ n) {z : Bool} {d : Nat} {U : Nat} {a : Nat} (hs : sh a = 3) {p0 : Option Nat} {σ : SG} {σ' : SG} (hx : x_X3_append U a p0 σ = some σ') : mm_Cm g l yX3_append (.code yX3_append cX3_append 3 none) (d) 0 0 [.ref a, va_rf p0] (mem Z σ, n, z) (fun v S' => v = none ∧ S' = (mem Z σ', n, z)) := by
  refine mm_Cm_of hst (by decide) (by cases p0 <;>  exact Nat.le_of_ble_eq_true rfl) ?_
  rw [show mm_ent [.ref a, va_rf p0] 3 = [some (.ref a), some (va_rf p0), none] from by cases p0 <;>  rfl]
  show mm_V g l RX3 "append" cX3_append 3 none [] (d) 0 0 (mm_nt (fun v S' => v = none ∧ S' = (mem Z σ', n, z))) 0 [some (.ref a), some (va_rf p0), none] [] (mem Z σ, n, z) 0 0
  unfold x_X3_append at hx
  refine mm_aload_n dX3_append_0 rfl rfl ?_
  refine s_getP (r := some a) (b := a) (ci := 3) (k := 15) in_X3 rfl (by decide) rfl kF_X3_60 dX3_append_1 rfl hs (by decide) hn (by decide) rfl ?_
  refine mm_astore_n [some (.ref a), some (va_rf p0), some (va_rf (sP σ a 15))] dX3_append_4 (by decide) (isr_rf _) ((st1_o (r := p0) rfl).trans rfl) ?_
  refine e_X3_append_L5 hst hZ hn hs ?_ _ _ hx
  · intro w6 hx
    exact e_X3_append_24 hst hZ hn hs hx
set_option maxHeartbeats 4000000 in
set_option maxRecDepth 100000 in
theorem e_X2_judgeValue_57 {g : mm_G} {l : Launch} (hst : l.stackTraces = false) {Z : Nat → Nat → Option Nat} (hZ : HZ Z) {n : Nat} (hn : 1186 ≤ n) {z : Bool} {d : Nat} {U : Nat} {a : Nat} (hs : sh a = 2) {v1_ : Option Nat} {σ : SG} {σ' : SG} (hx : x_X2_judgeValue_57 U a v1_ σ = some σ') : mm_V g l RX2 "judgeValue" cX2_judgeValue 4 none [] (d + 1) 0 0 (mm_nt (fun v S' => v = none ∧ S' = (mem Z σ', n, z))) 57 [some (.ref a), some (va_rf v1_), none, none] [] (mem Z σ, n, z) 0 0 := by
  unfold x_X2_judgeValue_57 at hx
  refine mm_aload_n dX2_judgeValue_57 rfl rfl ?_
  refine mm_bipush (v := 6) dX2_judgeValue_58 (by decide) ?_
  refine mm_aload_n dX2_judgeValue_60 rfl (isr_rf _) ?_
  obtain ⟨q7, hr8, hs9, hx⟩ := ck_some hx
  refine s_getIN (r := v1_) (b := q7) (ci := 3) (k := 7) in_X3 rfl (by decide) rfl kF_X2_146 dX2_judgeValue_61 hr8 hs9 (by decide) hn (by decide) rfl ?_
  obtain ⟨σ11, hc10, hx⟩ := b1_some hx
  refine mm_callV3 (a := a) (ci := 2) wM_X2_fail kM_X2_84 wI_X2_fail wS_X2_fail dX2_judgeValue_64 (e_X2_fail hst hZ hn hs hc10) (mem_obj hs (by decide)) (sh_ltn hs (by decide) hn) rfl rfl rfl (Nat.le_of_ble_eq_true rfl) (by omega) (by omega) (fun v9 S9 hq => ?_)
  obtain ⟨rfl, rfl⟩ := hq
  refine ⟨fun h => ⟨h, rfl⟩, ?_⟩
  refine mm_vret dX2_judgeValue_67 rfl ?_ (by omega) (by omega)
  obtain rfl := fin1 hx
  exact ⟨rfl, rfl⟩
set_option maxHeartbeats 4000000 in
set_option maxRecDepth 100000 in
theorem e_X2_judgeValue_68 {g : mm_G} {l : Launch} (hst : l.stackTraces = false) {Z : Nat → Nat → Option Nat} (hZ : HZ Z) {n : Nat} (hn : 1186 ≤ n) {z : Bool} {d : Nat} {U : Nat} {a : Nat} (hs : sh a = 2) {v1_ : Option Nat} {v2_ : Option Nat} {σ : SG} {σ' : SG} (hx : x_X2_judgeValue_68 U a v1_ v2_ σ = some σ') : mm_V g l RX2 "judgeValue" cX2_judgeValue 4 none [] (d + 1) 0 0 (mm_nt (fun v S' => v = none ∧ S' = (mem Z σ', n, z))) 68 [none, some (va_rf v1_), some (va_rf v2_), none] [] (mem Z σ, n, z) 0 0 := by
  unfold x_X2_judgeValue_68 at hx
  refine mm_aload_n dX2_judgeValue_68 rfl (isr_rf _) ?_
  refine mm_aload_n dX2_judgeValue_69 rfl (isr_rf _) ?_
  obtain ⟨q20, hr21, hs22, hx⟩ := ck_some hx
  obtain ⟨σ24, hc23, hx⟩ := b1_some hx
  refine mm_callV3 (a := q20) (ci := 3) wM_X3_append kM_X2_179 wI_X3_append wS_X3_append dX2_judgeValue_70 (e_X3_append hst hZ hn hs22 hc23) (mem_obj hs22 (by decide)) (sh_ltn hs22 (by decide) hn) rfl rfl (by rw [hr21]; rfl) (Nat.le_of_ble_eq_true rfl) (by omega) (by omega) (fun v9 S9 hq => ?_)
  obtain ⟨rfl, rfl⟩ := hq
  refine ⟨fun h => ⟨h, rfl⟩, ?_⟩
  refine mm_vret dX2_judgeValue_73 rfl ?_ (by omega) (by omega)
  obtain rfl := fin1 hx
  exact ⟨rfl, rfl⟩
set_option maxHeartbeats 4000000 in
set_option maxRecDepth 100000 in
theorem e_X2_judgeValue_32 {g : mm_G} {l : Launch} (hst : l.stackTraces = false) {Z : Nat → Nat → Option Nat} (hZ : HZ Z) {n : Nat} (hn : 1186 ≤ n) {z : Bool} {d : Nat} {U : Nat} {a : Nat} (hs : sh a = 2) {v1_ : Option Nat} {v2_ : Option Nat} {s0_ : Int32} {σ : SG} {σ' : SG} (hx : x_X2_judgeValue_32 U a v1_ v2_ s0_ σ = some σ') : mm_V g l RX2 "judgeValue" cX2_judgeValue 4 none [] (d + 1) 0 0 (mm_nt (fun v S' => v = none ∧ S' = (mem Z σ', n, z))) 32 [some (.ref a), some (va_rf v1_), some (va_rf v2_), none] [.int s0_] (mem Z σ, n, z) 0 0 := by
  unfold x_X2_judgeValue_32 at hx
  refine mm_istore_n [some (.ref a), some (va_rf v1_), some (va_rf v2_), some (.int s0_)] dX2_judgeValue_32 (by decide) ((st1_o (r := v2_) rfl).trans rfl) ?_
  refine mm_iload_n dX2_judgeValue_33 rfl ?_
  refine b_if hx (fun h5 hx => ?_) (fun h5 hx => ?_)
  · refine mm_if_ne 57 dX2_judgeValue_34 (by decide) (fun h => absurd h5 h) (fun _ => ?_)
    refine mm_aload_n dX2_judgeValue_37 rfl (isr_rf _) ?_
    refine b_if hx (fun h6 hx => ?_) (fun h6 hx => ?_)
    · refine mm_ifnull (r := v2_) 57 dX2_judgeValue_38 (by decide) (fun _ => ?_) (fun h => absurd h6 h)
      refine mm_fewer [some (.ref a), some (va_rf v1_), none, none] (few_ok (bs := [true, true, false, false]) rfl) ?_
      exact e_X2_judgeValue_57 hst hZ hn hs hx
    · refine mm_ifnull (r := v2_) 57 dX2_judgeValue_38 (by decide) (fun h => absurd h h6) (fun _ => ?_)
      refine mm_aload_n dX2_judgeValue_41 rfl (isr_rf _) ?_
      obtain ⟨q12, hr13, hs14, hx⟩ := ck_some hx
      refine s_getPN (r := v2_) (b := q12) (ci := 3) (k := 15) in_X3 rfl (by decide) rfl kF_X2_176 dX2_judgeValue_42 hr13 hs14 (by decide) hn (by decide) rfl ?_
      refine b_if hx (fun h15 hx => ?_) (fun h15 hx => ?_)
      · refine mm_ifnonnull (r := sP σ q12 15) 68 dX2_judgeValue_45 (by decide) (fun h => absurd h15 h) (fun _ => ?_)
        refine mm_aload_n dX2_judgeValue_48 rfl (isr_rf _) ?_
        obtain ⟨q16, hr17, hs18, hx⟩ := ck_some hx
        refine s_getLN (r := v1_) (b := q16) (ci := 3) (k := 6) in_X3 rfl (by decide) rfl kF_X2_132 dX2_judgeValue_49 hr17 hs18 (by decide) hn (by decide) rfl ?_
        refine mm_lconst (v := 0) dX2_judgeValue_52 (by decide) ?_
        refine mm_lcmp dX2_judgeValue_53 ?_
        refine b_if hx (fun h19 hx => ?_) (fun h19 hx => ?_)
        · refine mm_if_eq 68 dX2_judgeValue_54 (by decide) (fun _ => ?_) (fun h => absurd (lg_eq.mpr h19) h)
          refine mm_fewer [none, some (va_rf v1_), some (va_rf v2_), none] (few_ok (bs := [false, true, true, false]) rfl) ?_
          exact e_X2_judgeValue_68 hst hZ hn hs hx
        · refine mm_if_eq 68 dX2_judgeValue_54 (by decide) (fun h => absurd (lg_eq.mp h) h19) (fun _ => ?_)
          refine mm_fewer [some (.ref a), some (va_rf v1_), none, none] (few_ok (bs := [true, true, false, false]) rfl) ?_
          exact e_X2_judgeValue_57 hst hZ hn hs hx
      · refine mm_ifnonnull (r := sP σ q12 15) 68 dX2_judgeValue_45 (by decide) (fun _ => ?_) (fun h => absurd h h15)
        refine mm_fewer [none, some (va_rf v1_), some (va_rf v2_), none] (few_ok (bs := [false, true, true, false]) rfl) ?_
        exact e_X2_judgeValue_68 hst hZ hn hs hx
  · refine mm_if_ne 57 dX2_judgeValue_34 (by decide) (fun _ => ?_) (fun h => absurd h h5)
    refine mm_fewer [some (.ref a), some (va_rf v1_), none, none] (few_ok (bs := [true, true, false, false]) rfl) ?_
    exact e_X2_judgeValue_57 hst hZ hn hs hx
set_option maxHeartbeats 4000000 in
set_option maxRecDepth 100000 in
theorem e_X2_judgeValue_27 {g : mm_G} {l : Launch} (hst : l.stackTraces = false) {Z : Nat → Nat → Option Nat} (hZ : HZ Z) {n : Nat} (hn : 1186 ≤ n) {z : Bool} {d : Nat} {U : Nat} {a : Nat} (hs : sh a = 2) {v1_ : Option Nat} {v2_ : Option Nat} {σ : SG} {σ' : SG} (hx : x_X2_judgeValue_27 U a v1_ v2_ σ = some σ') : mm_V g l RX2 "judgeValue" cX2_judgeValue 4 none [] (d + 1) 0 0 (mm_nt (fun v S' => v = none ∧ S' = (mem Z σ', n, z))) 27 [some (.ref a), some (va_rf v1_), some (va_rf v2_), none] [] (mem Z σ, n, z) 0 0 := by
  unfold x_X2_judgeValue_27 at hx
  refine mm_iconst (v := 1) dX2_judgeValue_27 (by decide) ?_
  refine mm_goto 32 dX2_judgeValue_28 (by decide) ?_
  exact e_X2_judgeValue_32 hst hZ hn hs hx
set_option maxHeartbeats 4000000 in
set_option maxRecDepth 100000 in
theorem e_X2_judgeValue {g : mm_G} {l : Launch} (hst : l.stackTraces = false) {Z : Nat → Nat → Option Nat} (hZ : HZ Z) {n : Nat} (hn : 1186 ≤ n) {z : Bool} {d : Nat} {U : Nat} {a : Nat} (hs : sh a = 2) {p0 : Option Nat} {σ : SG} {σ' : SG} (hx : x_X2_judgeValue U a p0 σ = some σ') : mm_Cm g l yX2_judgeValue (.code yX2_judgeValue cX2_judgeValue 4 none) (d + 1) 0 0 [.ref a, va_rf p0] (mem Z σ, n, z) (fun v S' => v = none ∧ S' = (mem Z σ', n, z)) := by
  refine mm_Cm_of hst (by decide) (by cases p0 <;>  exact Nat.le_of_ble_eq_true rfl) ?_
  rw [show mm_ent [.ref a, va_rf p0] 4 = [some (.ref a), some (va_rf p0), none, none] from by cases p0 <;>  rfl]
  show mm_V g l RX2 "judgeValue" cX2_judgeValue 4 none [] (d + 1) 0 0 (mm_nt (fun v S' => v = none ∧ S' = (mem Z σ', n, z))) 0 [some (.ref a), some (va_rf p0), none, none] [] (mem Z σ, n, z) 0 0
  unfold x_X2_judgeValue at hx
  refine mm_aload_n dX2_judgeValue_0 rfl (isr_rf _) ?_
  obtain ⟨q1, hr2, hs3, hx⟩ := ck_some hx
  refine s_getPN (r := p0) (b := q1) (ci := 3) (k := 3) in_X3 rfl (by decide) rfl kF_X2_169 dX2_judgeValue_1 hr2 hs3 (by decide) hn (by decide) rfl ?_
  refine mm_astore_n [some (.ref a), some (va_rf p0), some (va_rf (sP σ q1 3)), none] dX2_judgeValue_4 (by decide) (isr_rf _) ((st1_o (r := p0) rfl).trans rfl) ?_
  refine mm_aload_n dX2_judgeValue_5 rfl (isr_rf _) ?_
  refine s_getLN (r := p0) (b := q1) (ci := 3) (k := 6) in_X3 rfl (by decide) rfl kF_X2_132 dX2_judgeValue_6 hr2 hs3 (by decide) hn (by decide) rfl ?_
  refine mm_ldc2 kL_X2_172 dX2_judgeValue_9 ?_
  refine mm_lcmp dX2_judgeValue_12 ?_
  refine b_if hx (fun h4 hx => ?_) (fun h4 hx => ?_)
  · refine mm_if_lt 27 dX2_judgeValue_13 (by decide) (fun _ => ?_) (fun h => absurd (lg_lt.mpr h4) h)
    exact e_X2_judgeValue_27 hst hZ hn hs hx
  · refine mm_if_lt 27 dX2_judgeValue_13 (by decide) (fun h => absurd (lg_lt.mp h) h4) (fun _ => ?_)
    refine mm_aload_n dX2_judgeValue_16 rfl (isr_rf _) ?_
    refine s_getLN (r := p0) (b := q1) (ci := 3) (k := 6) in_X3 rfl (by decide) rfl kF_X2_132 dX2_judgeValue_17 hr2 hs3 (by decide) hn (by decide) rfl ?_
    refine mm_ldc2 kL_X2_174 dX2_judgeValue_20 ?_
    refine mm_lcmp dX2_judgeValue_23 ?_
    refine b_if hx (fun h25 hx => ?_) (fun h25 hx => ?_)
    · refine mm_if_le 31 dX2_judgeValue_24 (by decide) (fun h => absurd (lg_le.mp h) (Int64.not_le.mpr h25)) (fun _ => ?_)
      exact e_X2_judgeValue_27 hst hZ hn hs hx
    · refine mm_if_le 31 dX2_judgeValue_24 (by decide) (fun _ => ?_) (fun h => absurd (lg_le.mpr (Int64.not_lt.mp h25)) h)
      refine mm_iconst (v := 0) dX2_judgeValue_31 (by decide) ?_
      exact e_X2_judgeValue_32 hst hZ hn hs hx
set_option maxHeartbeats 4000000 in
set_option maxRecDepth 100000 in
theorem e_X2_judge_59 {g : mm_G} {l : Launch} (hst : l.stackTraces = false) {Z : Nat → Nat → Option Nat} (hZ : HZ Z) {n : Nat} (hn : 1186 ≤ n) {z : Bool} {d : Nat} {U : Nat} {a : Nat} (hs : sh a = 2) {v1_ : Option Nat} {v2_ : Int32} {v3_ : Int32} {σ : SG} {σ' : SG} (hx : x_X2_judge_59 U a v1_ v2_ v3_ σ = some σ') : mm_V g l RX2 "judge" cX2_judge 4 none [] (d + 5) 0 0 (mm_nt (fun v S' => v = none ∧ S' = (mem Z σ', n, z))) 59 [some (.ref a), some (va_rf v1_), some (.int v2_), some (.int v3_)] [] (mem Z σ, n, z) 0 0 := by
  unfold x_X2_judge_59 at hx
  refine mm_aload_n dX2_judge_59 rfl rfl ?_
  refine mm_aload_n dX2_judge_60 rfl (isr_rf _) ?_
  refine mm_iload_n dX2_judge_61 rfl ?_
  obtain ⟨v8, hc7, hx⟩ := b1_some hx
  refine mm_callV3 (a := a) (ci := 2) wM_X2_isTaken kM_X2_107 wI_X2_isTaken wS_X2_isTaken dX2_judge_62 (e_X2_isTaken hst hZ hn hs hc7) (mem_obj hs (by decide)) (sh_ltn hs (by decide) hn) rfl rfl rfl (Nat.le_of_ble_eq_true rfl) (by omega) (by omega) (fun v9 S9 hq => ?_)
  obtain ⟨rfl, rfl⟩ := hq
  refine ⟨fun h => ⟨h, rfl⟩, ?_⟩
  refine b_if hx (fun h9 hx => ?_) (fun h9 hx => ?_)
  · refine mm_if_eq 80 dX2_judge_65 (by decide) (fun _ => ?_) (fun h => absurd h9 h)
    refine mm_iload_n dX2_judge_80 rfl ?_
    refine b_if hx (fun h10 hx => ?_) (fun h10 hx => ?_)
    · refine mm_if_eq 92 dX2_judge_81 (by decide) (fun _ => ?_) (fun h => absurd h10 h)
      refine mm_aload_n dX2_judge_92 rfl (isr_rf _) ?_
      obtain ⟨q11, hr12, hs13, hx⟩ := ck_some hx
      refine s_getIN (r := v1_) (b := q11) (ci := 3) (k := 0) in_X3 rfl (by decide) rfl kF_X2_88 dX2_judge_93 hr12 hs13 (by decide) hn (by decide) rfl ?_
      refine mm_iconst (v := 3) dX2_judge_96 (by decide) ?_
      refine b_if hx (fun h14 hx => ?_) (fun h14 hx => ?_)
      · refine mm_icmp_ne 105 dX2_judge_97 (by decide) (fun h => absurd h14 h) (fun _ => ?_)
        refine mm_aload_n dX2_judge_100 rfl rfl ?_
        refine mm_aload_n dX2_judge_101 rfl (isr_rf _) ?_
        obtain ⟨σ16, hc15, hx⟩ := b1_some hx
        refine mm_callV3 (a := a) (ci := 2) wM_X2_judgeValue kM_X2_118 wI_X2_judgeValue wS_X2_judgeValue dX2_judge_102 (e_X2_judgeValue hst hZ hn hs hc15) (mem_obj hs (by decide)) (sh_ltn hs (by decide) hn) rfl rfl rfl (Nat.le_of_ble_eq_true rfl) (by omega) (by omega) (fun v9 S9 hq => ?_)
        obtain ⟨rfl, rfl⟩ := hq
        refine ⟨fun h => ⟨h, rfl⟩, ?_⟩
        refine mm_vret dX2_judge_105 rfl ?_ (by omega) (by omega)
        obtain rfl := fin1 hx
        exact ⟨rfl, rfl⟩
      · refine mm_icmp_ne 105 dX2_judge_97 (by decide) (fun _ => ?_) (fun h => absurd h h14)
        refine mm_vret dX2_judge_105 rfl ?_ (by omega) (by omega)
        obtain rfl := fin1 hx
        exact ⟨rfl, rfl⟩
    · refine mm_if_eq 92 dX2_judge_81 (by decide) (fun h => absurd h h10) (fun _ => ?_)
      refine mm_aload_n dX2_judge_84 rfl rfl ?_
      refine mm_aload_n dX2_judge_85 rfl (isr_rf _) ?_
      obtain ⟨σ18, hc17, hx⟩ := b1_some hx
      refine mm_callV3 (a := a) (ci := 2) wM_X2_judgeField kM_X2_114 wI_X2_judgeField wS_X2_judgeField dX2_judge_86 (e_X2_judgeField hst hZ hn hs hc17) (mem_obj hs (by decide)) (sh_ltn hs (by decide) hn) rfl rfl rfl (Nat.le_of_ble_eq_true rfl) (by omega) (by omega) (fun v9 S9 hq => ?_)
      obtain ⟨rfl, rfl⟩ := hq
      refine ⟨fun h => ⟨h, rfl⟩, ?_⟩
      refine mm_goto 105 dX2_judge_89 (by decide) ?_
      refine mm_vret dX2_judge_105 rfl ?_ (by omega) (by omega)
      obtain rfl := fin1 hx
      exact ⟨rfl, rfl⟩
  · refine mm_if_eq 80 dX2_judge_65 (by decide) (fun h => absurd h h9) (fun _ => ?_)
    refine mm_aload_n dX2_judge_68 rfl rfl ?_
    refine mm_iconst (v := 3) dX2_judge_69 (by decide) ?_
    refine mm_aload_n dX2_judge_70 rfl (isr_rf _) ?_
    obtain ⟨q19, hr20, hs21, hx⟩ := ck_some hx
    refine s_getIN (r := v1_) (b := q19) (ci := 3) (k := 4) in_X3 rfl (by decide) rfl kF_X2_111 dX2_judge_71 hr20 hs21 (by decide) hn (by decide) rfl ?_
    obtain ⟨σ23, hc22, hx⟩ := b1_some hx
    refine mm_callV3 (a := a) (ci := 2) wM_X2_fail kM_X2_84 wI_X2_fail wS_X2_fail dX2_judge_74 (e_X2_fail hst hZ hn hs hc22) (mem_obj hs (by decide)) (sh_ltn hs (by decide) hn) rfl rfl rfl (Nat.le_of_ble_eq_true rfl) (by omega) (by omega) (fun v9 S9 hq => ?_)
    obtain ⟨rfl, rfl⟩ := hq
    refine ⟨fun h => ⟨h, rfl⟩, ?_⟩
    refine mm_goto 105 dX2_judge_77 (by decide) ?_
    refine mm_vret dX2_judge_105 rfl ?_ (by omega) (by omega)
    obtain rfl := fin1 hx
    exact ⟨rfl, rfl⟩
set_option maxHeartbeats 4000000 in
set_option maxRecDepth 100000 in
theorem e_X2_judge_18 {g : mm_G} {l : Launch} (hst : l.stackTraces = false) {Z : Nat → Nat → Option Nat} (hZ : HZ Z) {n : Nat} (hn : 1186 ≤ n) {z : Bool} {d : Nat} {U : Nat} {a : Nat} (hs : sh a = 2) {v1_ : Option Nat} {v2_ : Int32} {s0_ : Int32} {σ : SG} {σ' : SG} (hx : x_X2_judge_18 U a v1_ v2_ s0_ σ = some σ') : mm_V g l RX2 "judge" cX2_judge 4 none [] (d + 5) 0 0 (mm_nt (fun v S' => v = none ∧ S' = (mem Z σ', n, z))) 18 [some (.ref a), some (va_rf v1_), some (.int v2_), none] [.int s0_] (mem Z σ, n, z) 0 0 := by
  unfold x_X2_judge_18 at hx
  refine mm_istore_n [some (.ref a), some (va_rf v1_), some (.int v2_), some (.int s0_)] dX2_judge_18 (by decide) rfl ?_
  refine mm_iload_n dX2_judge_19 rfl ?_
  refine b_if hx (fun h6 hx => ?_) (fun h6 hx => ?_)
  · refine mm_if_eq 59 dX2_judge_20 (by decide) (fun _ => ?_) (fun h => absurd h6 h)
    exact e_X2_judge_59 hst hZ hn hs hx
  · refine mm_if_eq 59 dX2_judge_20 (by decide) (fun h => absurd h h6) (fun _ => ?_)
    refine mm_aload_n dX2_judge_23 rfl (isr_rf _) ?_
    obtain ⟨q24, hr25, hs26, hx⟩ := ck_some hx
    refine s_getIN (r := v1_) (b := q24) (ci := 3) (k := 8) in_X3 rfl (by decide) rfl kF_X2_93 dX2_judge_24 hr25 hs26 (by decide) hn (by decide) rfl ?_
    refine mm_bipush (v := 13) dX2_judge_27 (by decide) ?_
    refine b_if hx (fun h27 hx => ?_) (fun h27 hx => ?_)
    · refine mm_icmp_ne 59 dX2_judge_29 (by decide) (fun h => absurd h27 h) (fun _ => ?_)
      refine mm_aload_n dX2_judge_32 rfl rfl ?_
      refine mm_aload_n dX2_judge_33 rfl (isr_rf _) ?_
      obtain ⟨v29, σ30, hc28, hx⟩ := b2_some hx
      refine mm_callV3 (a := a) (ci := 2) wM_X2_findsType kM_X2_96 wI_X2_findsType wS_X2_findsType dX2_judge_34 (e_X2_findsType hst hZ hn hs hc28) (mem_obj hs (by decide)) (sh_ltn hs (by decide) hn) rfl rfl rfl (Nat.le_of_ble_eq_true rfl) (by omega) (by omega) (fun v9 S9 hq => ?_)
      obtain ⟨rfl, rfl⟩ := hq
      refine ⟨fun h => ⟨h, rfl⟩, ?_⟩
      refine b_if hx (fun h31 hx => ?_) (fun h31 hx => ?_)
      · refine mm_if_ne 59 dX2_judge_37 (by decide) (fun h => absurd h31 h) (fun _ => ?_)
        refine mm_aload_n dX2_judge_40 rfl rfl ?_
        refine mm_iconst (v := 5) dX2_judge_41 (by decide) ?_
        refine mm_aload_n dX2_judge_42 rfl rfl ?_
        refine s_getS (q := a + 186) (r := some a) (b := a) (ci := 2) (k := 1) in_X2 rfl (by decide) rfl kF_X2_27 dX2_judge_43 rfl hs (by decide) hn (by decide) rfl rfl ?_
        refine mm_aload_n dX2_judge_46 rfl (isr_rf _) ?_
        refine s_getIN (r := v1_) (b := q24) (ci := 3) (k := 9) in_X3 rfl (by decide) rfl kF_X2_100 dX2_judge_47 hr25 hs26 (by decide) hn (by decide) rfl ?_
        obtain ⟨v33, hc32, hx⟩ := b1_some hx
        refine mm_callV3 (a := a + 186) (ci := 10) wM_X10_startOf kM_X2_103 wI_X10_startOf wS_X10_startOf dX2_judge_50 (e_X10_startOf hst hZ hn (sv2_1 hs) hc32) (mem_obj (sv2_1 hs) (by decide)) (sh_ltn (sv2_1 hs) (by decide) hn) rfl rfl rfl (Nat.le_of_ble_eq_true rfl) (by omega) (by omega) (fun v9 S9 hq => ?_)
        obtain ⟨rfl, rfl⟩ := hq
        refine ⟨fun h => ⟨h, rfl⟩, ?_⟩
        obtain ⟨σ35, hc34, hx⟩ := b1_some hx
        refine mm_callV3 (a := a) (ci := 2) wM_X2_fail kM_X2_84 wI_X2_fail wS_X2_fail dX2_judge_53 (e_X2_fail hst hZ hn hs hc34) (mem_obj hs (by decide)) (sh_ltn hs (by decide) hn) rfl rfl rfl (Nat.le_of_ble_eq_true rfl) (by omega) (by omega) (fun v9 S9 hq => ?_)
        obtain ⟨rfl, rfl⟩ := hq
        refine ⟨fun h => ⟨h, rfl⟩, ?_⟩
        refine mm_goto 105 dX2_judge_56 (by decide) ?_
        refine mm_vret dX2_judge_105 rfl ?_ (by omega) (by omega)
        obtain rfl := fin1 hx
        exact ⟨rfl, rfl⟩
      · refine mm_if_ne 59 dX2_judge_37 (by decide) (fun _ => ?_) (fun h => absurd h h31)
        exact e_X2_judge_59 hst hZ hn hs hx
    · refine mm_icmp_ne 59 dX2_judge_29 (by decide) (fun _ => ?_) (fun h => absurd h h27)
      exact e_X2_judge_59 hst hZ hn hs hx
