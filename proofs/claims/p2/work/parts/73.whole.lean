/-! ===== the reference's reader: a member, the whole schema ===== -/
theorem oq_mo {σ : SG} {D : List Dc} {d : Nat} {f : Nat → Nat} (hT : ST σ D (d + 1) f) : sI σ 1159 d = oq D 0 (mo (d + 1) f) := by
  have := (hT.2 d (by omega)).1
  rw [this]
  unfold oq mo
  rw [if_neg (by omega)]
  rfl
theorem N_beginMessage {U k p n d : Nat} {f : Nat → Nat} {σ : SG} {T : List Nat} {Ws : List Wd} {D : List Dc} {b : Bool} (hU : 4000 < U) (hS : WS T Ws) (hn : 701 ≤ n + pos Ws k) (hC : sC Ws k = nI 20) (hMI : MI σ T Ws k b d f D p) (hd : d ≤ 100) :
    NL T Ws σ n (k, mo d f, none, none, b) D (x_X12_beginMessage U 1101 (nI d) σ) := by
  have key := N_begin_16 hU hS hn hC hMI
  unfold x_X12_beginMessage
  cases d with
  | zero =>
    rw [if_pos (show nI 0 = 0 from rfl)]
    exact key
  | succ d =>
    rw [if_neg (show ¬ nI (d + 1) = 0 from fun z => by have := (nI_eq (b := 0) (by omega) (by decide)).mp z; omega), show (1 : Int32) = nI 1 from rfl, nI_sub (by omega), show d + 1 - 1 = d by omega, ix_in (by omega) (by decide), oq_mo hMI.2.1]
    exact key
/-- one word more, and nothing else -/
theorem NL_word {U k p n d d' : Nat} {f : Nat → Nat} {σ : SG} {T : List Nat} {Ws : List Wd} {D : List Dc} {b : Bool} (hU : 4000 < U) (hS : WS T Ws) (hn : 701 ≤ n + pos Ws k) (hMI : MI σ T Ws k b d f D p) (h4 : sK Ws k = 4) (hdd : d' ≤ d) (hst : sStep T Ws (k, mo d f, none, none, b) D = some ((k + 1, mo d' f, none, none, b), D)) :
    NL T Ws σ n (k, mo d f, none, none, b) D (b1 (x_X12_next U 1101 σ) fun τ => some (nI d', τ)) := by
  obtain ⟨hI, hT, hc0, hc1, h74, hQ, hM, hp⟩ := hMI
  have hp700 : pos Ws k ≤ 700 := (hI.len hS).2.2
  obtain ⟨n0, rfl⟩ : ∃ n0, n = n0 + 1 := by
    cases n with
    | zero => omega
    | succ n0 => exact ⟨n0, rfl⟩
  obtain ⟨τ, a1, a2, a3⟩ := N_next hU hS hQ (by rw [h4]; decide) (by rw [h4]; decide)
  rw [a1, b1_eq]
  have g := sStep_IV hS hI hst
  have gf : far Ws k (k + 1) 1 := g.2
  have a3' : fq KF σ τ := fq_mono a3 (by decide)
  refine ⟨nI d', τ, rfl, f9_Z (fZ_q a3 (by decide)), Or.inl ⟨n0, k + 1, b, D, p, d', f, rfl, rd_step (atE_k (by rw [h4]; decide)) hst, by have := gf.2; omega, by omega, g.1, ⟨by have := hT.1; omega, fun t ht => ?_⟩, by have := gf.2; omega, by have := gf.2; omega, (a3.2.1 74 (by decide)).trans h74, a2, RM_q hM a3', by have := gf.2; omega⟩⟩
  obtain ⟨w1, w2, w3⟩ := hT.2 t (by omega)
  exact ⟨((a3.1 1159 (by decide) t).1).trans w1, w2, w3⟩
theorem sS_4 {T : List Nat} {Ws : List Wd} {c k : Nat} (h : sS T Ws c k = true) : sK Ws k = 4 := by
  unfold sS at h
  cases e : Ws[k]? with
  | none => rw [e] at h; cases h
  | some x => rw [e] at h; rw [sK_some e]; exact sg_4 h
/-- a sign has no code -/
theorem sC_4 {T : List Nat} {Ws : List Wd} {c k q : Nat} (h : sS T Ws c k = true) (hq : q < 256) : ¬ sC Ws k = nI q := fun z => by
  rw [sS_not hq z] at h; cases h
/-- two signs are one -/
theorem sS_1 {T : List Nat} {Ws : List Wd} {c c' k : Nat} (h : sS T Ws c k = true) (hcc : c ≠ c') : sS T Ws c' k = false := by
  unfold sS at *
  cases e : Ws[k]? with
  | none => rfl
  | some x =>
    rw [e] at h
    simp only at h ⊢
    have h1 := (of_decide_eq_true h).2
    exact decide_eq_false (fun z => by
      have h2 := z.2
      rw [h1] at h2
      first | exact hcc h2 | (cases h2; exact hcc rfl) | (have := Option.some.inj h2; exact hcc this))
theorem N_takeMember {U k p n d : Nat} {f : Nat → Nat} {σ : SG} {T : List Nat} {Ws : List Wd} {D : List Dc} {b : Bool} (hU : 4000 < U) (hS : WS T Ws) (hn : 701 ≤ n + pos Ws k) (hn9 : n < 3000) (hMI : MI σ T Ws k b (d + 1) f D p) (hd : d < 100) :
    NL T Ws σ n (k, mo (d + 1) f, none, none, b) D (x_X12_takeMember U 1101 (nI (d + 1)) σ) := by
  have hMI' := hMI
  obtain ⟨hI, hT, hc0, hc1, h74, hQ, hM, hp⟩ := hMI'
  have hp700 : pos Ws k ≤ 700 := (hI.len hS).2.2
  obtain ⟨n0, hn0⟩ : ∃ n0, n = n0 + 1 := by
    cases n with
    | zero => omega
    | succ n0 => exact ⟨n0, rfl⟩
  have hmo : mo (d + 1) f = some (f d) := by unfold mo; rw [if_neg (by omega)]; rfl
  have hml : ∀ i, mo (d + 1) f = some i → i ≤ D.length := fun i hi => Nat.le_of_lt (KM_lt (hI.2.2.2.1 i hi))
  have hstep : sStep T Ws (k, mo (d + 1) f, none, none, b) D = sMm T Ws (k, mo (d + 1) f, none, none, b) D := rfl
  have e1 : x_X12_isSign 1101 125 σ = some (zI (sS T Ws 125 k)) := N_isSign (q := 125) hS hQ (by decide)
  have e2 : x_X12_isSign 1101 59 σ = some (zI (sS T Ws 59 k)) := N_isSign (q := 59) hS hQ (by decide)
  have w0' : x_X12_isWord U 1101 30792318992869221 σ = some (zI (decide (sC Ws k = nI 20))) := N_isKw (q := 0) hU hS hQ (by decide) (by decide +kernel)
  have w1' : x_X12_isWord U 1101 1701737837 σ = some (zI (decide (sC Ws k = nI 21))) := N_isKw (q := 1) hU hS hQ (by decide) (by decide +kernel)
  have w2' : x_X12_isWord U 1101 478593511270 σ = some (zI (decide (sC Ws k = nI 22))) := N_isKw (q := 2) hU hS hQ (by decide) (by decide +kernel)
  unfold x_X12_takeMember
  rw [show nI (d + 1) - 1 = nI d by rw [show (1 : Int32) = nI 1 from rfl, nI_sub (by omega)]; rfl, ix_in (by omega) (by decide), oq_mo hT, e1, b1_eq, ifz]
  cases q1 : sS T Ws 125 k with
  | true =>
    simp only [if_true]
    refine NL_word hU hS hn hMI (sS_4 q1) (by omega) ?_
    rw [hstep]
    unfold sMm
    show (if sC Ws k = 40 then none else if sC Ws k = nI 20 then _ else if sC Ws k = nI 21 then _ else if mo (d + 1) f = none then none else if sS T Ws 59 k = true then _ else if sS T Ws 125 k = true then some ((k + 1, scp D (mo (d + 1) f), none, none, b), D) else _) = _
    rw [if_neg (show ¬ sC Ws k = 40 from sC_4 (q := 40) q1 (by decide)), if_neg (sC_4 (q := 20) q1 (by decide)), if_neg (sC_4 (q := 21) q1 (by decide)), if_neg (by rw [hmo]; exact fun z => by cases z), sS_1 (c' := 59) q1 (by decide), if_neg (by decide), if_pos q1, hmo, (hT.2 d (by omega)).2.2]
  | false =>
  simp only [Bool.false_eq_true, if_false]
  rw [e2, b1_eq, ifz]
  cases q2 : sS T Ws 59 k with
  | true =>
    simp only [if_true]
    refine NL_word hU hS hn hMI (sS_4 q2) (by omega) ?_
    rw [hstep]
    unfold sMm
    show (if sC Ws k = 40 then none else if sC Ws k = nI 20 then _ else if sC Ws k = nI 21 then _ else if mo (d + 1) f = none then none else if sS T Ws 59 k = true then some ((k + 1, mo (d + 1) f, none, none, b), D) else _) = _
    rw [if_neg (show ¬ sC Ws k = 40 from sC_4 (q := 40) q2 (by decide)), if_neg (sC_4 (q := 20) q2 (by decide)), if_neg (sC_4 (q := 21) q2 (by decide)), if_neg (by rw [hmo]; exact fun z => by cases z), if_pos q2]
  | false =>
  simp only [Bool.false_eq_true, if_false]
  rw [N_isForeign hU hS hQ, b1_eq, ifz]
  have hk0 : ∀ q, q < 256 → sC Ws k = nI q → sK Ws k ≠ 0 := fun q hq z => by rw [(far_sC hS hq z).2]; decide
  by_cases q3 : sC Ws k = 40
  · rw [decide_eq_true q3]
    simp only [if_true]
    obtain ⟨τ, a1, a2, a3⟩ := N_fail (σ := σ) (v := 2) (w := sI σ 1101 71) (by decide)
    rw [a1, b1_eq]
    refine ⟨_, τ, rfl, f9_Z (fZ_q a3 (by decide)), Or.inr ⟨?_, a2⟩⟩
    rw [hn0]
    refine rd_no (atE_k (hk0 40 (by decide) q3)) ?_
    rw [hstep]
    unfold sMm
    rw [if_pos q3]
  rw [decide_eq_false q3, w0', b1_eq, ifz]
  simp only [Bool.false_eq_true, if_false]
  by_cases q4 : sC Ws k = nI 20
  · rw [decide_eq_true q4]
    simp only [if_true]
    have := N_beginMessage hU hS hn q4 hMI (by omega)
    obtain ⟨v, τ, a1, a2⟩ := this
    rw [a1, b2_eq]
    exact ⟨v, τ, rfl, a2⟩
  rw [decide_eq_false q4, w1', b1_eq, ifz]
  simp only [Bool.false_eq_true, if_false]
  by_cases q5 : sC Ws k = nI 21
  · rw [decide_eq_true q5]
    simp only [if_true]
    exact NL_of hT (N_takeEnum hU hS hn hI hn9 q5 hQ h74 hM hp hc0 hc1)
  rw [decide_eq_false q5, w2', b1_eq, ifz]
  simp only [Bool.false_eq_true, if_false]
  by_cases q6 : sC Ws k = nI 22
  · rw [decide_eq_true q6]
    simp only [if_true]
    have hI2 := hI
    have key : NB T Ws σ n (k, mo (d + 1) f, none, none, b) D (x_X12_takeOneof U 1101 (oq D 0 (mo (d + 1) f)) σ) := by
      rw [hmo] at hI2 ⊢
      exact N_takeOneof hU hS hn hI2 hn9 q6 hQ h74 hM hp hc0 hc1
    exact NL_of hT key
  rw [decide_eq_false q6]
  simp only [Bool.false_eq_true, if_false]
  refine NL_of hT ?_
  have hst : sStep T Ws (k, mo (d + 1) f, none, none, b) D = adv (mo (d + 1) f, none, none, b) D (sFd T Ws (mo (d + 1) f) none k) := by
    rw [hstep]
    unfold sMm
    show (if sC Ws k = 40 then none else if sC Ws k = nI 20 then _ else if sC Ws k = nI 21 then _ else if mo (d + 1) f = none then none else if sS T Ws 59 k = true then _ else if sS T Ws 125 k = true then _ else if sC Ws k = nI 22 then _ else _) = _
    rw [if_neg q3, if_neg q4, if_neg q5, if_neg (by rw [hmo]; exact fun z => by cases z), q2, if_neg (by decide), q1, if_neg (by decide), if_neg q6]
  have hat : atE Ws (k, mo (d + 1) f, none, none, b) = false := by rw [hmo]; exact atE_m
  obtain ⟨τ, a1, a2, a3, a4⟩ := N_takeField (m := mo (d + 1) f) (o := none) hU hS hI.2.2.1 hM hQ h74 hI.2.1 hp hml (fun i hi => by cases hi)
  refine ⟨τ, a1, fZ_X a2, ?_⟩
  cases hs : sFd T Ws (mo (d + 1) f) none k with
  | none =>
    refine Or.inr ⟨?_, a4 hs⟩
    rw [hn0]
    exact rd_no hat (by rw [hst, hs]; rfl)
  | some kd =>
    obtain ⟨k', e⟩ := kd
    obtain ⟨z1, Q1, p', hp', hM1⟩ := a3 k' e hs
    have hst' : sStep T Ws (k, mo (d + 1) f, none, none, b) D = some ((k', mo (d + 1) f, none, none, b), D ++ [e]) := by rw [hst, hs]; rfl
    have g := sStep_IV hS hI hst'
    have gf : far Ws k k' 1 := g.2
    have d1 := sFd_dO hS hs
    have c0 : cnt (D ++ [e]) 0 = cnt D 0 := by rw [cnt_snoc, if_neg (show ¬ e.1 = 0 from fun z => by have : dK e = 0 := z; omega)]; rfl
    have c1 : cnt (D ++ [e]) 1 = cnt D 1 := by rw [cnt_snoc, if_neg (show ¬ e.1 = 1 from fun z => by have : dK e = 1 := z; omega)]; rfl
    subst hn0
    exact Or.inl ⟨n0, k', b, [e], p', rd_step hat hst', by have := gf.2; omega, by omega, g.1, c0, by rw [c0]; have := gf.2; omega, by rw [c1]; have := gf.2; omega, z1, Q1, hM1, hp'⟩
/-- what the whole reading leaves -/
def NS (T : List Nat) (Ws : List Wd) (σ : SG) (o : Option (List Dc)) (x : Option SG) : Prop := ∃ τ, x = some τ ∧ fP P9 σ τ ∧ (∀ D', o = some D' → sI τ 1101 74 = 0 ∧ ∃ p', RM τ T Ws D' p' ∧ cnt D' 0 ≤ 100 ∧ cnt D' 1 ≤ 100 ∧ p' ≤ 350) ∧ (o = none → ¬ sI τ 1101 74 = 0)
theorem NS_e {U U1 : Nat} {v : Int32} {σ υ : SG} {T : List Nat} {Ws : List Wd} (hf : fP P9 σ υ) (h : ¬ sI υ 1101 74 = 0) : NS T Ws σ none (x_X12_readSchema_L105 U 1101 (U1 + 1) v υ) := by
  rw [x_X12_readSchema_L105, if_neg h]
  exact ⟨υ, rfl, hf, fun D' z => (by cases z), fun _ => h⟩
theorem N_schema_L {U : Nat} {T : List Nat} {Ws : List Wd} (hU : 4000 < U) (hS : WS T Ws) : ∀ (N n U1 k p d : Nat) (b : Bool) (f : Nat → Nat) (D : List Dc) (σ : SG), n < N → n + 1 < U1 → n < 3000 → 701 ≤ n + pos Ws k → MI σ T Ws k b d f D p → NS T Ws σ (rd T Ws n (k, mo d f, none, none, b) D) (x_X12_readSchema_L105 U 1101 U1 (nI d) σ) := by
  intro N
  induction N with
  | zero => intro n U1 k p d b f D σ h; omega
  | succ N ih =>
    intro n U1 k p d b f D σ hN hu hn9 hn hMI
    have hMI' := hMI
    obtain ⟨hI, hT, hc0, hc1, h74, hQ, hM, hp⟩ := hMI'
    have hlen := hI.len hS
    have hp700 : pos Ws k ≤ 700 := hlen.2.2
    have hd100 : d ≤ 100 := by have := hT.1; omega
    cases U1 with
    | zero => omega
    | succ U1 =>
    have hcont : ∀ (x : Option (Int32 × SG)), NL T Ws σ n (k, mo d f, none, none, b) D x → NS T Ws σ (rd T Ws n (k, mo d f, none, none, b) D) (b2 x fun v τ => x_X12_readSchema_L105 U 1101 U1 v τ) := by
      intro x hx
      obtain ⟨v, τ, a1, a2, a3⟩ := hx
      rw [a1, b2_eq]
      rcases a3 with ⟨n', k', b', D', p', d', f', g1, g2, g3, g4, g5⟩ | ⟨g1, g2⟩
      · rw [g1, g2]
        obtain ⟨υ, w1, w2, w3⟩ := ih n' U1 k' p' d' b' f' D' τ (by omega) (by omega) (by omega) g3 g5
        exact ⟨υ, w1, fP_trans a2 w2, w3⟩
      · rw [g1]
        cases U1 with
        | zero => omega
        | succ U2 => exact NS_e a2 g2
    rw [x_X12_readSchema_L105, if_pos h74]
    obtain ⟨n0, hn0⟩ : ∃ n0, n = n0 + 1 := by
      cases n with
      | zero => omega
      | succ n0 => exact ⟨n0, rfl⟩
    cases d with
    | succ d =>
      rw [if_pos (show (0 : Int32) < nI (d + 1) from (ltI (a := 0) (by decide) (by omega)).mpr (by omega))]
      unfold x_X12_readSchema_123
      rw [if_pos (show (0 : Int32) < nI (d + 1) from (ltI (a := 0) (by decide) (by omega)).mpr (by omega))]
      exact hcont _ (N_takeMember hU hS hn hn9 hMI (by omega))
    | zero =>
      rw [if_neg (show ¬ (0 : Int32) < nI 0 by decide), N_kind hQ]
      have hk6 : sK Ws k < 100 := by
        obtain ⟨_, x, hx, _⟩ := hQ
        rw [sK_some hx]
        have := (hS.G.2 _ _ hx).1
        omega
      have hmo : mo 0 f = none := rfl
      by_cases q0 : sK Ws k = 0
      · rw [if_pos (show nI (sK Ws k) = 0 by rw [q0]; rfl)]
        have ha : atE Ws (k, mo 0 f, none, none, b) = true := decide_eq_true ⟨q0, rfl, rfl, rfl⟩
        rw [hn0, rd, ha]
        exact ⟨σ, rfl, fP_refl _ σ, fun D' z => (by cases z; exact ⟨h74, p, hM, by omega, by omega, by omega⟩), fun z => (by cases z)⟩
      · rw [if_neg (show ¬ nI (sK Ws k) = 0 from fun z => q0 ((nI_eq (b := 0) (by omega) (by decide)).mp z))]
        unfold x_X12_readSchema_123
        rw [if_neg (show ¬ (0 : Int32) < nI 0 by decide), N_isForeign hU hS hQ, b1_eq, ifz]
        have bad : ∀ υ, ¬ sI υ 1101 74 = 0 → fP P9 σ υ → sMm T Ws (k, mo 0 f, none, none, b) D = none → NS T Ws σ (rd T Ws n (k, mo 0 f, none, none, b) D) (x_X12_readSchema_L105 U 1101 U1 (nI 0) υ) := by
          intro υ zυ fυ hno
          have hr : rd T Ws n (k, mo 0 f, none, none, b) D = none := by
            rw [hn0]
            exact rd_no (atE_k q0) hno
          rw [hr]
          cases U1 with
          | zero => omega
          | succ U2 => exact NS_e fυ zυ
        by_cases q3 : sC Ws k = 40
        · rw [decide_eq_true q3]
          simp only [if_true]
          obtain ⟨τ, a1, a2, a3⟩ := N_fail (σ := σ) (v := 2) (w := sI σ 1101 71) (by decide)
          rw [a1, b1_eq]
          refine bad τ a2 (f9_Z (fZ_q a3 (by decide))) ?_
          unfold sMm
          rw [if_pos q3]
        rw [decide_eq_false q3]
        simp only [Bool.false_eq_true, if_false]
        have w0' : x_X12_isWord U 1101 30792318992869221 σ = some (zI (decide (sC Ws k = nI 20))) := N_isKw (q := 0) hU hS hQ (by decide) (by decide +kernel)
        have w1' : x_X12_isWord U 1101 1701737837 σ = some (zI (decide (sC Ws k = nI 21))) := N_isKw (q := 1) hU hS hQ (by decide) (by decide +kernel)
        rw [w0', b1_eq, ifz]
        by_cases q4 : sC Ws k = nI 20
        · rw [decide_eq_true q4]
          simp only [if_true]
          exact hcont _ (N_beginMessage (d := 0) hU hS hn q4 hMI (by decide))
        rw [decide_eq_false q4, w1', b1_eq, ifz]
        simp only [Bool.false_eq_true, if_false]
        by_cases q5 : sC Ws k = nI 21
        · rw [decide_eq_true q5]
          simp only [if_true]
          have key := NL_of hT (N_takeEnum hU hS hn hI hn9 q5 hQ h74 hM hp hc0 hc1)
          have := hcont _ key
          obtain ⟨υ, u1, u2⟩ := N_takeEnum hU hS hn hI hn9 q5 hQ h74 hM hp hc0 hc1
          have e : x_X12_takeEnum U 1101 (-1) σ = some υ := u1
          rw [u1, b1_eq, b2_eq] at this
          rw [e, b1_eq]
          exact this
        rw [decide_eq_false q5]
        simp only [Bool.false_eq_true, if_false]
        obtain ⟨τ, a1, a2, a3⟩ := N_fail (σ := σ) (v := 1) (w := sI σ 1101 71) (by decide)
        rw [a1, b1_eq]
        refine bad τ a2 (f9_Z (fZ_q a3 (by decide))) ?_
        unfold sMm
        show (if sC Ws k = 40 then none else if sC Ws k = nI 20 then _ else if sC Ws k = nI 21 then _ else if mo 0 f = none then none else _) = _
        rw [if_neg q3, if_neg q4, if_neg q5, if_pos hmo]
/-- the reference reads a schema -/
theorem N_97 {U : Nat} {σ0 σ : SG} {T : List Nat} {Ws : List Wd} (hU : 4000 < U) (hS : WS T Ws) (hf : fP P9 σ0 σ) (h74 : sI σ 1101 74 = 0) (hQ : QX σ T Ws 3) (hM : RM σ T Ws [] 0) :
    NS T Ws σ0 (if sS T Ws 59 3 then rd T Ws 701 (4, none, none, none, false) [] else none) (x_X12_readSchema_97 U 1101 σ) := by
  unfold x_X12_readSchema_97
  obtain ⟨σ26, a1, a2, a3, a4⟩ := N_takeSign (q := 59) hU hS hQ h74 (by decide)
  have a1' : x_X12_takeSign U 1101 59 σ = some σ26 := a1
  rw [a1', b1_eq]
  cases q : sS T Ws 59 3 with
  | false =>
    simp only [Bool.false_eq_true, if_false]
    cases U with
    | zero => omega
    | succ U1 => exact NS_e (fP_trans hf (f9_Z (fZ_q a2 (by decide)))) (a4 (by rw [q]; rfl))
  | true =>
    simp only [if_true]
    obtain ⟨z26, Q26⟩ := a3 4 (by rw [q]; rfl)
    have hx : ∃ y, Ws[4]? = some y := by obtain ⟨_, x, hx, _⟩ := Q26; exact ⟨x, hx⟩
    have I0 : IV Ws (4, mo 0 (fun _ => 0), none, none, false) [] := ⟨hx, Nat.zero_le _, WF_nil, fun m h => (by cases h), fun m h => (by cases h), fun m h => (by cases h)⟩
    have key := N_schema_L hU hS 702 701 U 4 0 0 false (fun _ => 0) [] σ26 (by decide) (by omega) (by decide) (by omega) ⟨I0, ⟨Nat.zero_le _, fun t ht => (by omega)⟩, Nat.zero_le _, Nat.zero_le _, z26, Q26, RM_q hM a2, Nat.zero_le _⟩
    obtain ⟨τ, w1, w2, w3⟩ := key
    exact ⟨τ, w1, fP_trans hf (fP_trans (f9_Z (fZ_q a2 (by decide))) w2), w3⟩
theorem N_97e {U : Nat} {σ0 σ : SG} {T : List Nat} {Ws : List Wd} (hU : 4000 < U) (hf : fP P9 σ0 σ) (h74 : ¬ sI σ 1101 74 = 0) : NS T Ws σ0 none (x_X12_readSchema_97 U 1101 σ) := by
  unfold x_X12_readSchema_97
  rw [N_takeSign_e h74, b1_eq]
  cases U with
  | zero => omega
  | succ U1 => exact NS_e hf h74
theorem N_readSchema {U : Nat} {σ : SG} {T : List Nat} (hU : 4000 < U) (hL : LR σ T) : NS T (wl T 701 0) σ (dcl T) (x_X12_readSchema U 1101 σ) := by
  have hS : WS T (wl T 701 0) := WS_wl hL.2.2.2 hL.2.2.1
  unfold dcl
  generalize wl T 701 0 = Ws at *
  unfold x_X12_readSchema rdS sSy
  rw [sb_eq, sb_eq, sb_eq, sb_eq, sb_eq, sb_eq, sb_eq, sb_eq, sb_eq]
  have L9 : LR (uI (uI (uI (uI (uI (uI (uI (uI (uI σ 1101 74 0) 1101 76 0) 1101 32 0) 1101 33 0) 1101 34 0) 1101 35 0) 1101 36 0) 1101 37 0) 1101 38 0) T := ((((((((hL.u (by decide)).u (by decide)).u (by decide)).u (by decide)).u (by decide)).u (by decide)).u (by decide)).u (by decide)).u (by decide)
  have c9 : ∀ i, i ∈ [74, 76, 32, 33, 34, 35, 36, 37, 38] → sI (uI (uI (uI (uI (uI (uI (uI (uI (uI σ 1101 74 0) 1101 76 0) 1101 32 0) 1101 33 0) 1101 34 0) 1101 35 0) 1101 36 0) 1101 37 0) 1101 38 0) 1101 i = 0 := by
    intro i hi
    simp only [sI_uI]
    simp only [List.mem_cons, List.not_mem_nil, or_false] at hi
    rcases hi with h | h | h | h | h | h | h | h | h <;> subst h <;> simp
  have f9 : fP P9 σ (uI (uI (uI (uI (uI (uI (uI (uI (uI σ 1101 74 0) 1101 76 0) 1101 32 0) 1101 33 0) 1101 34 0) 1101 35 0) 1101 36 0) 1101 37 0) 1101 38 0) := by
    refine fP_trans (fP_trans (fP_trans (fP_trans (fP_trans (fP_trans (fP_trans (fP_trans (fP_u ?_) (fP_u ?_)) (fP_u ?_)) (fP_u ?_)) (fP_u ?_)) (fP_u ?_)) (fP_u ?_)) (fP_u ?_)) (fP_u ?_)
    all_goals exact Or.inl (Or.inl ⟨rfl, by decide⟩)
  generalize (uI (uI (uI (uI (uI (uI (uI (uI (uI σ 1101 74 0) 1101 76 0) 1101 32 0) 1101 33 0) 1101 34 0) 1101 35 0) 1101 36 0) 1101 37 0) 1101 38 0) = σ9 at *
  obtain ⟨σ11, a1, a2, a3⟩ := X12_look (p := 0) hU L9 (Nat.zero_le _) (c9 76 (by decide))
  have a1' : x_X12_look U 1101 0 σ9 = some σ11 := a1
  rw [a1', b1_eq]
  have f11 : fP P9 σ σ11 := fP_trans f9 (f9_Z (fZ_q a3 (by decide)))
  have Q11 : QX σ11 T Ws 0 := ⟨L9.fq a3 (by decide), nw T 0, hS.2.2.1, a2⟩
  have z11 : sI σ11 1101 74 = 0 := (a3.2.1 74 (by decide)).trans (c9 74 (by decide))
  have M11 : RM σ11 T Ws [] 0 := by
    refine ⟨fun q hq => ?_, ?_, ?_, fun i d hd => by simp at hd⟩
    · rw [a3.2.1 (32 + q) (by simp only [List.mem_cons, List.not_mem_nil, or_false]; omega), c9 (32 + q) (by simp only [List.mem_cons, List.not_mem_nil, or_false]; omega)]; rfl
    · rw [a3.2.1 37 (by decide), c9 37 (by decide)]; rfl
    · rw [a3.2.1 38 (by decide), c9 38 (by decide)]; rfl
  obtain ⟨σ13, b1', b2', b3, b4⟩ := N_takeWord (q := 4) (w := 126965381357944) hU hS Q11 z11 (by decide) (by decide +kernel)
  rw [b1', b1_eq]
  have f13 : fP P9 σ σ13 := fP_trans f11 (f9_Z (fZ_q b2' (by decide)))
  have M13 := RM_q M11 b2'
  -- an error
  have bad : ∀ υ, ¬ sI υ 1101 74 = 0 → fP P9 σ υ → NS T Ws σ none (x_X12_readSchema_86 U 1101 υ) := fun υ z g => by
    unfold x_X12_readSchema_86
    rw [if_neg z]
    exact N_97e hU g z
  by_cases q1 : sC Ws 0 = nI 24
  · rw [decide_eq_true q1]
    obtain ⟨z13, Q13⟩ := b3 1 (if_pos q1)
    obtain ⟨σ15, c1, c2, c3, c4⟩ := N_takeSign (q := 61) hU hS Q13 z13 (by decide)
    have c1' : x_X12_takeSign U 1101 61 σ13 = some σ15 := c1
    rw [c1', b1_eq]
    have f15 : fP P9 σ σ15 := fP_trans f13 (f9_Z (fZ_q c2 (by decide)))
    have M15 := RM_q M13 c2
    cases q2 : sS T Ws 61 1 with
    | false =>
      have z15 := c4 (by rw [q2]; rfl)
      rw [if_neg z15]
      simp only [Bool.and_false, Bool.false_and, Bool.false_eq_true, if_false]
      exact bad σ15 z15 f15
    | true =>
      obtain ⟨z15, Q15⟩ := c3 2 (by rw [q2]; rfl)
      rw [if_pos z15]
      obtain ⟨hL5, x, hx, hC5⟩ := Q15
      have Q15 : QX σ15 T Ws 2 := ⟨hL5, x, hx, hC5⟩
      rw [X12_isProto3 hU hL5 (hS.G.2 _ _ hx) hC5, b1_eq, ifz, hx]
      simp only [Bool.true_and]
      by_cases q3 : x.1 = 3 ∧ x.2.2.2 = Int32.toInt64 (nI 28)
      · rw [decide_eq_true q3]
        simp only [if_true, Bool.true_and]
        unfold x_X12_readSchema_86
        rw [if_pos z15]
        obtain ⟨σ24, d1, d2, d3⟩ := N_next hU hS Q15 (by rw [sK_some hx]; omega) (by rw [sK_some hx]; omega)
        rw [d1, b1_eq]
        exact N_97 hU hS (fP_trans f15 (f9_Z (fZ_q d3 (by decide)))) ((d3.2.1 74 (by decide)).trans z15) d2 (RM_q M15 (fq_mono d3 (by decide)))
      · rw [decide_eq_false q3]
        simp only [Bool.false_eq_true, if_false, Bool.false_and]
        obtain ⟨τ, g1, g2, g3⟩ := N_fail (σ := σ15) (v := 1) (w := sI σ15 1101 71) (by decide)
        rw [g1, b1_eq]
        exact bad τ g2 (fP_trans f15 (f9_Z (fZ_q g3 (by decide))))
  · rw [decide_eq_false q1]
    simp only [Bool.false_and, Bool.false_eq_true, if_false]
    have z13 := b4 (if_neg q1)
    rw [N_takeSign_e z13, b1_eq, if_neg z13]
    exact bad σ13 z13 f13
