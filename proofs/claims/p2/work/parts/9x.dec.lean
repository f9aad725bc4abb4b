/-! ===== decode, as both answer ===== -/
/-- the answer at the end of a value, and the value that stays -/
def seR (T : List Nat) (D : List Dc) (o : Option AV) : mm_R × Option AV := match o with
  | none => (.inr IAE, none)
  | some A => if 200 < nV T D A then (.inr ISE, none) else (.inl (some (.int (nI (nV T D A)))), some A)
/-- what a reading finds, given a message and a limit -/
def rdV (D : List Dc) (rd : Nat → Nat → Option AV) (x y : Int32) : Option AV := match msg D x with
  | none => none
  | some m => if y < 1 ∨ 20 < y then none else rd y.toNatClampNeg m
theorem clamp20 : ∀ k, k < 21 → (nI k).toNatClampNeg = k := by decide +kernel
theorem rdV_no {D : List Dc} {rd : Nat → Nat → Option AV} {x y : Int32} (h : msg D x = none ∨ y < 1 ∨ 20 < y) : rdV D rd x y = none := by
  unfold rdV
  cases hm : msg D x with
  | none => rfl
  | some m =>
    have : y < 1 ∨ 20 < y := h.elim (fun z => by rw [hm] at z; cases z) id
    simp only
    rw [if_pos this]
theorem rdV_yes {D : List Dc} {rd : Nat → Nat → Option AV} {x : Int32} {m lm : Nat} (hm : msg D x = some m) (h1 : 1 ≤ lm) (h20 : lm ≤ 20) : rdV D rd x (nI lm) = rd lm m := by
  unfold rdV
  rw [hm]
  simp only
  rw [if_neg (fun z => z.elim (fun z => by have := (ltI (b := 1) (by omega) (by decide)).mp z; omega) (fun z => by have := (ltI (a := 20) (by decide) (by omega)).mp z; omega)), clamp20 lm (by omega)]
/-- a value at rest, as the class holds it -/
def VCs (σ : SG) (c : Nat) (T : List Nat) (D : List Dc) (m : Nat) (A : AV) : Prop := (∃ G, VG σ c T D G ∧ VE T D G A) ∧ sP σ 389 4 = some (c + 1) ∧ sP σ 389 5 = ad c (some m)
def fCd (σ τ : SG) : Prop := ∀ b, b ≠ 1 → (b < 389 ∨ b = 390 ∨ 1096 ≤ b) → sm σ τ b
theorem C_settle {U c m : Nat} {σ : SG} {T : List Nat} {D : List Dc} {o : Option AV} (hU4 : 4000 < U) (hcb : cb c) (hg : GSc T D) (h92 : o = none → sI σ 1092 2 = 0) (hV : ∀ A, o = some A → CS σ c T D ∧ VCs σ c T D m A ∧ ∃ z, AW T D A z) : ∃ τ, tcI (x_X11_settle U 0 (zI o.isSome) σ) = some ((seR T D o).1, τ) ∧ fCd σ τ ∧ RB τ 1 [] 0 ∧ ((seR T D o).2 = none → VCn τ) ∧ ∀ A, (seR T D o).2 = some A → VCs τ c T D m A := by
  unfold x_X11_settle x_X11_settle_22 x_X11_settle_40 x_X11_settle_45 x_X11_settle_54 x_X11_settle_61
  obtain ⟨τ1, a1, a2, a3⟩ := X0_clear (σ := σ) (a := 1)
  rw [a1, b1_eq, ifz]
  obtain ⟨τ2, d1, d2, d3, _⟩ := X8_drop (σ := τ1)
  have F2 : fCd σ τ2 := fun b h1 h2 => sm_trans (a3 b h1) (d2 b (by omega) (by omega) (by omega))
  have B2 : RB τ2 1 [] 0 := a2.sm (d2 1 (by decide) (by decide) (by decide)) (d2 2 (by decide) (by decide) (by decide))
  cases o with
  | none =>
    rw [Option.isSome_none, if_neg (show ¬ false = true by decide), if_neg (show ¬ (200 : Int32) < 0 by decide)]
    have e92 : x_X8_isSpilt 389 τ1 = some 0 := by
      unfold x_X8_isSpilt x_X0_isSpilt
      rw [(a3 1092 (by decide) 2).1, h92 rfl, zb0, b1_eq, zb0]
    rw [e92, b1_eq, if_pos (show (0 : Int32) = 0 from rfl), if_pos (show zI false = 0 from rfl), d1, b1_eq, if_pos (show zI false = 0 from rfl)]
    exact ⟨τ2, rfl, F2, B2, fun _ => d3, fun A z => by cases z⟩
  | some A =>
    obtain ⟨hC, ⟨⟨G, hG, hE⟩, p4, p5⟩, z, hz⟩ := hV A rfl
    have hc : c = 5 ∨ c = 197 := hcb
    have C1 : CS τ1 c T D := CS_sm hC (fun b h1 h2 => a3 b (by omega))
    have G1 : VG τ1 c T D G := VG_sm hG (fun b hb => a3 b (by omega))
    have hnv : x_X8_count U 389 τ1 = some (nI (nV T D A)) := C_count hU4 hcb hg C1 G1 hE hz
    rw [Option.isSome_some, if_pos (show true = true from rfl), hnv, b1_eq]
    have hb : nV T D A < 2 ^ 31 := by
      have : ∀ (L : List Nat), (∀ n ∈ L, n < gC G) → (L.map (fun n => (its D A n).length)).sum ≤ L.length * 700 := by
        intro L
        induction L with
        | nil => intro _; exact Nat.le_refl _
        | cons n L ih =>
          intro h
          rw [List.map_cons, List.sum_cons, List.length_cons, Nat.succ_mul]
          have h1 := ih (fun x hx => h x (List.mem_cons_of_mem _ hx))
          have hn := h n (List.mem_cons_self ..)
          have h2 : (its D A n).length ≤ 700 := by
            have e := ce_sum (h := fun _ => 0) hg G1 hE hn
            have e1 : ((gL G n).map (ceE T D (fun _ => 0))).sum ≤ (gL G n).length := by
              generalize gL G n = L
              induction L with
              | nil => exact Nat.le_refl _
              | cons e L ih =>
                rw [List.map_cons, List.sum_cons, List.length_cons]
                have h9 : ceE T D (fun _ => 0) e ≤ 1 := by
                  unfold ceE
                  split
                  · exact Nat.zero_le _
                  · split
                    · exact Nat.zero_le _
                    · split
                      · rw [ite_self]; exact Nat.le_refl _
                      · exact Nat.zero_le _
                omega
            have := G1.len hn
            omega
          omega
      have h3 := this (alL T D A (aC A)) (fun n hn => by rw [hE.1]; exact List.mem_range.mp ((alL_lt _).subset hn))
      have h4 : (alL T D A (aC A)).length ≤ aC A := by have := (alL_lt (T := T) (D := D) (A := A) (aC A)).length_le; rw [List.length_range] at this; exact this
      have h5 : aC A ≤ 701 := by
        rw [← hE.1]
        have hnd : ((List.range (gC G)).map (gH G)).Nodup := by
          rw [List.Nodup, List.pairwise_map]
          have := List.nodup_range (n := gC G)
          refine List.Pairwise.imp_of_mem ?_ this
          intro a b ha hb hab he
          exact hab (G1.2.2.2.2.2.2.1 a b (List.mem_range.mp ha) (List.mem_range.mp hb) he)
        have := nd_len 1092 _ hnd 391 (fun a ha => by
          obtain ⟨n, hn, rfl⟩ := List.mem_map.mp ha
          have := G1.h (List.mem_range.mp hn)
          omega)
        rw [List.length_map, List.length_range] at this
        omega
      have : (alL T D A (aC A)).length * 700 ≤ 701 * 700 := Nat.mul_le_mul_right _ (by omega)
      unfold nV
      omega
    have e92 : x_X8_isSpilt 389 τ1 = some 0 := by
      unfold x_X8_isSpilt x_X0_isSpilt
      rw [G1.2.2.1.2.1, zb0, b1_eq, zb0]
    have t0 : ¬ zI true = 0 := by decide
    have lt2 : (200 : Int32) < nI (nV T D A) ↔ 200 < nV T D A := ltI (a := 200) (by decide) hb
    rw [ifd lt2, show seR T D (some A) = if 200 < nV T D A then (.inr ISE, none) else (.inl (some (.int (nI (nV T D A)))), some A) from rfl]
    by_cases q : 200 < nV T D A
    · rw [if_pos q, if_pos q, if_neg t0, if_neg (show ¬ (1 : Int32) = 0 by decide), d1, b1_eq, if_neg t0, if_neg (show ¬ (1 : Int32) = 0 by decide)]
      exact ⟨τ2, rfl, F2, B2, fun _ => d3, fun A' y => by cases y⟩
    · rw [if_neg q, if_neg q, e92, b1_eq, if_pos (show (0 : Int32) = 0 from rfl), if_neg t0, if_pos (show (0 : Int32) = 0 from rfl), if_neg t0, if_pos (show (0 : Int32) = 0 from rfl)]
      refine ⟨τ1, rfl, fun b h1 _ => a3 b h1, a2, fun y => (by cases y), fun A' y => ?_⟩
      cases y
      exact ⟨⟨G, G1, hE⟩, ((a3 389 (by decide) 4).2.2).trans p4, ((a3 389 (by decide) 5).2.2).trans p5⟩
theorem C_opens {U s : Nat} {σ : SG} {T : List Nat} {D : List Dc} {x y : Int32} (hU4 : 4000 < U) (hs : s < 2) (hg : GSc T D) (hC : CS σ (cA s) T D) : ((msg D x = none ∨ y < 1 ∨ 20 < y) → x_X11_opens U 0 (nI s) x y σ = some (0, σ)) ∧ ∀ m, msg D x = some m → ¬ y < 1 → ¬ 20 < y → x_X11_opens U 0 (nI s) x y σ = (b1 (x_X8_begin 389 (some (cA s + 1)) (ad (cA s) (some m)) σ) fun σ15 => some (1, σ15)) := by
  have hcb := cA_cb (s := s)
  unfold x_X11_opens x_X11_messageOf
  rw [cOf hs, b1_eq, b1_eq, if_neg (show ¬ some (cA s) = none by intro z; cases z), ck_eq (cb_sh hcb).2.2.2.2, show x_X2_schema (cA s) σ = some (some (cA s + 1)) from rfl, b1_eq, ck_eq (cb_sh hcb).2.2.1, C_message hU4 hcb hC hg.1, b1_eq, b1_eq, if_neg (show ¬ some (cA s) = none by intro z; cases z)]
  refine ⟨fun h => ?_, fun m hm h1 h2 => ?_⟩
  · cases hm : msg D x with
    | none => rw [if_pos (show ad (cA s) none = none from rfl)]
    | some m =>
      rw [if_neg (show ¬ ad (cA s) (some m) = none by intro z; cases z)]
      by_cases q1 : y < 1
      · rw [if_pos q1]
      · rw [if_neg q1]
        by_cases q2 : 20 < y
        · rw [if_pos q2]
        · rcases h with z | z | z
          · rw [hm] at z; cases z
          · exact absurd z q1
          · exact absurd z q2
  · rw [hm, if_neg (show ¬ ad (cA s) (some m) = none by intro z; cases z), if_neg h1, if_neg h2, ck_eq (cb_sh hcb).2.2.2.2, show x_X2_schema (cA s) σ = some (some (cA s + 1)) from rfl, b1_eq]
/-- the class's decode -/
theorem C_decode {U s : Nat} {σ : SG} {T S : List Nat} {D : List Dc} {x y : Int32} (hU4 : 4000 < U) (hs : s < 2) (hg : GSc T D) (hC : CS σ (cA s) T D) (hB : RB σ 1 S 0) (h92 : sI σ 1092 2 = 0) (hW : ∀ A, rdV D (dcS T D S) x y = some A → ∃ z, AW T D A z) : ∃ τ, x_X11_decode U 0 (nI s) x y σ = some ((seR T D (rdV D (dcS T D S) x y)).1, τ) ∧ fCd σ τ ∧ RB τ 1 [] 0 ∧ ((seR T D (rdV D (dcS T D S) x y)).2 = none → VCn τ) ∧ ∀ A, (seR T D (rdV D (dcS T D S) x y)).2 = some A → ∃ m, msg D x = some m ∧ VCs τ (cA s) T D m A := by
  have hcb := cA_cb (s := s)
  have hc : cA s = 5 ∨ cA s = 197 := hcb
  obtain ⟨o1, o2⟩ := C_opens (U := U) (x := x) (y := y) hU4 hs hg hC
  unfold x_X11_decode x_X11_decode_26 x_X11_decode_27
  by_cases hbad : msg D x = none ∨ y < 1 ∨ 20 < y
  · rw [o1 hbad, b2_eq, if_pos (show (0 : Int32) = 0 from rfl)]
    have hno := rdV_no (rd := dcS T D S) hbad
    obtain ⟨τ, t1, t2, t3, t4, t5⟩ := C_settle (U := U) (c := cA s) (m := 0) (σ := σ) (T := T) (D := D) (o := none) hU4 hcb hg (fun _ => h92) (fun A z => by cases z)
    rw [hno]
    exact ⟨τ, t1, t2, t3, t4, fun A z => by cases z⟩
  · cases hm : msg D x with
    | none => exact absurd (Or.inl hm) hbad
    | some m =>
      have h1 : ¬ y < 1 := fun z => hbad (Or.inr (Or.inl z))
      have h2 : ¬ 20 < y := fun z => hbad (Or.inr (Or.inr z))
      obtain ⟨lm, rfl, h1', h20⟩ := lim_n h1 h2
      obtain ⟨hM, _⟩ := msg_some hm
      obtain ⟨τ1, a1, a2, a3, a4, a5, a6, a7⟩ := C_begin hcb hC hM
      rw [o2 m hm h1 h2, a1, b1_eq, b2_eq, if_neg (show ¬ (1 : Int32) = 0 by decide)]
      have B1 : RB τ1 1 S 0 := hB.sm (a5 1 (by decide) (by decide) (by decide)) (a5 2 (by decide) (by decide) (by decide))
      obtain ⟨τ2, r1, r2, r3⟩ := C_read (lm := lm) hU4 hcb hg h20 a4 a2 a3 B1 a7
      have hrd := rdV_yes (rd := dcS T D S) hm h1' h20
      have hrd' : dMs T D S lm 24 1 (a0 m) 0 m S.length 0 = rdV D (dcS T D S) x (nI lm) := by rw [hrd]; rfl
      rw [hrd'] at r1 r3
      have f2 : ∀ b, (b < 389 ∨ b = 390 ∨ 1096 ≤ b) → sm τ1 τ2 b := fun b hb => sm_trans (sm_uI (by omega)) (r2.1 b hb)
      have F2 : fCd σ τ2 := fun b h1 h2 => sm_trans (a5 b (by omega) (by omega) (by omega)) (f2 b h2)
      have e92 : sI τ2 1092 2 = 0 := by
        rw [r2.2.2.2.2, sI_o (Or.inl (by decide))]
        exact a2.2.2.1.2.1
      have e4 : sP τ2 389 4 = some (cA s + 1) := ((r2.2.1 4 (by decide)).2.2).trans a6
      have e5 : sP τ2 389 5 = ad (cA s) (some m) := ((r2.2.1 5 (by decide)).2.2).trans a7
      rw [r1, b2_eq]
      obtain ⟨τ, t1, t2, t3, t4, t5⟩ := C_settle (U := U) (c := cA s) (m := m) (σ := τ2) (T := T) (D := D) (o := rdV D (dcS T D S) x (nI lm)) hU4 hcb hg (fun _ => e92) (fun A hA => by
        obtain ⟨G, hG⟩ := r3 A hA
        exact ⟨hG.1, ⟨⟨G, hG.2.1, hG.2.2.1⟩, e4, e5⟩, hW A hA⟩)
      refine ⟨τ, ?_, fun b h1 h2 => sm_trans (F2 b h1 h2) (t2 b h1 h2), t3, t4, fun A hA => ⟨m, rfl, t5 A hA⟩⟩
      cases ho : rdV D (dcS T D S) x (nI lm) with
      | none =>
        rw [ho] at t1
        rw [if_pos (show zI (none : Option AV).isSome = 0 from rfl)]
        exact t1
      | some A =>
        rw [ho] at t1
        rw [if_neg (show ¬ zI (some A).isSome = 0 from (by decide : ¬ zI true = 0))]
        exact t1
/-- what is decoded is a forest -/
theorem dc_AW {U s : Nat} {σ : SG} {T S : List Nat} {D : List Dc} {x y : Int32} (hU4 : 4000 < U) (hs : s < 2) (hg : GSc T D) (hC : CS σ (cA s) T D) (hB : RB σ 1 S 0) (hS : RS σ s T D) (hT : RTr σ S) : ∀ A, rdV D (dcS T D S) x y = some A → ∃ z, AW T D A z := by
  intro A hA
  have hcb := cA_cb (s := s)
  have hl : S.length ≤ 700 := hB.2.2.1
  have h8 : ok8 S := hB.2.2.2.2
  by_cases hbad : msg D x = none ∨ y < 1 ∨ 20 < y
  · rw [rdV_no hbad] at hA; cases hA
  · cases hm : msg D x with
    | none => exact absurd (Or.inl hm) hbad
    | some m =>
      have h1 : ¬ y < 1 := fun z => hbad (Or.inr (Or.inl z))
      have h2 : ¬ 20 < y := fun z => hbad (Or.inr (Or.inr z))
      obtain ⟨lm, rfl, h1', h20⟩ := lim_n h1 h2
      rw [rdV_yes hm h1' h20] at hA
      obtain ⟨hM, _⟩ := msg_some hm
      obtain ⟨τ1, a1, a2, a3, a4, a5, a6, a7⟩ := C_begin hcb hC hM
      have B1 : RB τ1 1 S 0 := hB.sm (a5 1 (by decide) (by decide) (by decide)) (a5 2 (by decide) (by decide) (by decide))
      obtain ⟨τ2, r1, r2, r3⟩ := C_read (lm := lm) hU4 hcb hg h20 a4 a2 a3 B1 a7
      obtain ⟨G, hG⟩ := r3 A hA
      obtain ⟨w1, w2⟩ := C_forest hg hG.2.1 hG.2.2.1
      obtain ⟨τ3, b1', b2', b3, b4, b5, b6⟩ := (N_dec (U := U) (x := x) (y := nI lm) hU4 hs hg hS hT h8 hl).2 m lm hm rfl h1' h20
      obtain ⟨H, hH, hz, _⟩ := b6 A hA
      obtain ⟨c1, c2, c3, _⟩ := hH
      refine ⟨zD H, c2.2.2.2.2.1.2.1, hz, fun n hn => ⟨Nat.le_trans (c3.1 n hn) h20, fun k hk => ?_⟩, w2⟩
      obtain ⟨q1, q2⟩ := w1 n hn k hk
      obtain ⟨r, hr, e1, _, d, e2, e3, e4⟩ := (chN_r hg c2 hn).mp hk
      have := c3.2.1 r hr d e2 e3
      rw [e4, e1] at this
      exact ⟨q1, q2, this⟩
/-- the reference has no value, or has this one -/
def VRo (σ : SG) (s : Nat) (T : List Nat) (D : List Dc) (o : Option AV) : Prop := match o with
  | none => sI σ 1101 79 = 0
  | some A => sI σ 1101 79 = 1 ∧ ∃ H, VS σ s T D A H
def Pdf (b k : Nat) : Prop := Pdec b k ∨ Pfin b k
theorem N_decode {U s : Nat} {σ : SG} {T S : List Nat} {D : List Dc} {x y : Int32} (hU4 : 4000 < U) (hs : s < 2) (hg : GSc T D) (hS : RS σ s T D) (hT : RTr σ S) (h8 : ok8 S) (hl : S.length ≤ 700) : ∃ v τ, x_X12_decode U 1101 (nI s) x y σ = some (v, τ) ∧ fP Pdf σ τ ∧ sI τ 1101 1 = 0 ∧ sI τ 1101 5 = fdC (seR T D (rdV D (dcS T D S) x y)).1 ∧ (∀ w, (seR T D (rdV D (dcS T D S) x y)).1 = .inl (some (.int w)) → v = w) ∧ VRo τ s T D (seR T D (rdV D (dcS T D S) x y)).2 ∧ ∀ A, (seR T D (rdV D (dcS T D S) x y)).2 = some A → msg D x = some (aN A 0) := by
  obtain ⟨n1, n2⟩ := N_dec (U := U) (x := x) (y := y) hU4 hs hg hS hT h8 hl
  by_cases hbad : msg D x = none ∨ y < 1 ∨ 20 < y
  · obtain ⟨τ, t1, t2, t3, t4, t5⟩ := n1 hbad
    rw [rdV_no hbad]
    exact ⟨0, τ, t1, fP_mono t2 (fun b k z => Or.inl z), t5, t3, fun w z => (by cases z), t4, fun A z => by cases z⟩
  · cases hm : msg D x with
    | none => exact absurd (Or.inl hm) hbad
    | some m =>
      have h1 : ¬ y < 1 := fun z => hbad (Or.inr (Or.inl z))
      have h2 : ¬ 20 < y := fun z => hbad (Or.inr (Or.inr z))
      obtain ⟨lm, rfl, h1', h20⟩ := lim_n h1 h2
      obtain ⟨τ, t1, t2, t3, t4, t5, t6⟩ := n2 m lm hm rfl h1' h20
      rw [rdV_yes hm h1' h20, t1]
      have F1 : fP Pdf σ τ := fP_mono t2 (fun b k z => Or.inl z)
      cases hd : dcS T D S lm m with
      | none =>
        rw [N_finish_no (t5 hd)]
        exact ⟨0, _, rfl, fP_trans F1 (fP_u (Or.inr (Or.inl ⟨rfl, Or.inl rfl⟩))), by rw [sI_o (Or.inr (by decide))]; exact t4, sI_s _ _ _ _, fun w z => (by cases z), by show sI _ 1101 79 = 0; rw [sI_o (Or.inr (by decide))]; exact t3, fun A z => by cases z⟩
      | some A =>
        obtain ⟨H, hH, hz, h0⟩ := t6 A hd
        obtain ⟨c1, c2, c3, c4, c5, c6, c7, c8, _⟩ := hH
        obtain ⟨ψ, p1, p2, p3⟩ := N_finish (U := U) hU4 hg c6 c2 c3 c8.2.2.2.2 t3
        have e1 : sI ψ 1101 1 = 0 := ((p1 1101 1 (by unfold Pfin; omega)).1).trans t4
        unfold seR
        simp only
        by_cases q : 200 < nV T D A
        · obtain ⟨q1, q2, q3⟩ := p2 q
          rw [q1, if_pos q]
          exact ⟨0, ψ, rfl, fP_trans F1 (fP_mono p1 (fun b k z => Or.inr z)), e1, q2, fun w z => (by cases z), q3, fun A' z => by cases z⟩
        · obtain ⟨q1, q2, q3, q4⟩ := p3 q
          rw [q1, if_neg q]
          exact ⟨_, ψ, rfl, fP_trans F1 (fP_mono p1 (fun b k z => Or.inr z)), e1, q2, fun w z => (by cases z; rfl), ⟨q3, q4⟩, fun A' z => by cases z; rw [h0]⟩
