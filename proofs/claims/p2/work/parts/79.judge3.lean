/-! ===== the class judges values, and all declarations ===== -/
theorem nL_toInt {v : Bool × Nat} (h : v.2 < 2 ^ 62) : (nL v).toInt = if v.1 then -(v.2 : Int) else (v.2 : Int) := by
  unfold nL
  cases v.1 with
  | false => simp only [Bool.false_eq_true, if_false]; exact pk_lT (by omega)
  | true =>
    simp only [if_true]
    rw [Int64.toInt_neg, pk_lT (by omega)]
    apply Int.bmod_eq_of_le
    · have : (2 : Int) ^ 64 = 18446744073709551616 := by decide
      have h9 : (2 : Nat) ^ 62 = 4611686018427387904 := by decide
      simp; omega
    · have h9 : (2 : Nat) ^ 62 = 4611686018427387904 := by decide
      simp; omega
theorem nL_lo {v : Bool × Nat} (h : v.2 < 2 ^ 62) : nL v < (-2147483648) ↔ v.1 = true ∧ 2147483648 < v.2 := by
  rw [Int64.lt_iff_toInt_lt, nL_toInt h, show ((-2147483648 : Int64)).toInt = -2147483648 by decide]
  cases v.1 <;> simp <;> omega
theorem nL_hi {v : Bool × Nat} (h : v.2 < 2 ^ 62) : (2147483647 : Int64) < nL v ↔ v.1 = false ∧ 2147483647 < v.2 := by
  rw [Int64.lt_iff_toInt_lt, nL_toInt h, show ((2147483647 : Int64)).toInt = 2147483647 by decide]
  cases v.1 <;> simp <;> omega
theorem nL_0 {v : Bool × Nat} (h : v.2 < 2 ^ 62) : nL v = 0 ↔ v.2 = 0 := by
  rw [← Int64.toInt_inj, nL_toInt h, show ((0 : Int64)).toInt = 0 by decide]
  cases v.1 <;> simp
theorem LK_nil {σ : SG} {c : Nat} {L : List Nat} {p : Option Nat} (h : LK σ c L p) : p = none ↔ L = [] := by
  cases L with
  | nil => exact ⟨fun _ => rfl, fun _ => h⟩
  | cons i L => rw [h.1]; exact ⟨fun z => (by cases z), fun z => (by cases z)⟩
theorem b1_id (x : Option SG) : (b1 x fun τ => some τ) = x := by cases x <;> rfl
theorem X2_judgeValue {U c k : Nat} {T : List Nat} {Ws : List Wd} {D : List Dc} {d : Dc} {σ : SG} (hU : 4000 < U) (hcb : cb c) (hJ : JS σ c D) (hW : WF D) (hd : D[k]? = some d) (h3 : dK d = 3) (hN2 : (dN d).2 ≤ 2 ^ 40) (hD0 : JD σ c T Ws D k) :
    JR c T Ws D k σ (okK (lkC T D) T Ws D k d) (b1 (x_X2_judgeValue U c (some (c + 5 + k)) σ) fun τ => some τ) := by
  have hl := hJ.2.1
  have hkl := (List.getElem?_eq_some_iff.mp hd).1
  have hI := hJ.2.2 k _ hd
  obtain ⟨e, he⟩ : ∃ e, dO d = some e := by
    rcases (hW k d hd).2 with z | z | z | z | z
    · omega
    · omega
    · omega
    · omega
    · obtain ⟨_, e, he, _⟩ := z; exact ⟨e, he⟩
  have hel : e < k := (hW.before hd).2 e he
  have hed := List.getElem?_eq_getElem (show e < D.length by omega)
  have hkk := hD0 k d hd
  obtain ⟨u8, u10, u12, u16⟩ := hkk.1 (Nat.le_refl _)
  have hLK := (hD0 e _ hed).2.2
  have hch := chD_len (D := D) (a := e) k
  have hkn : k ∉ chD D k e := fun z => by have := (chD_lt z).1; omega
  have okk : okK (lkC T D) T Ws D k d = (okV (dN d) && decide (chD D k e = [] → (dN d).2 = 0)) := by
    unfold okK
    rw [if_neg (by omega), if_pos h3, he]
  rw [okk, b1_id]
  have bad : (okV (dN d) && decide (chD D k e = [] → (dN d).2 = 0)) = false → JR c T Ws D k σ (okV (dN d) && decide (chD D k e = [] → (dN d).2 = 0)) (x_X2_judgeValue_57 U c (some (c + 5 + k)) σ) := by
    intro z
    unfold x_X2_judgeValue_57
    rw [ck_eq (it_sh hcb (by omega))]
    exact JR_fail (by decide) (fP_refl _ _) z
  unfold x_X2_judgeValue
  rw [ck_eq (it_sh hcb (by omega)), hI.2.2.2.2.2.2.1, hI.2.2.2.1, he]
  have good : okV (dN d) = true → JR c T Ws D k σ (okV (dN d) && decide (chD D k e = [] → (dN d).2 = 0)) (x_X2_judgeValue_32 U c (some (c + 5 + k)) (ad c (some e)) 0 σ) := by
    intro zv
    unfold x_X2_judgeValue_32
    rw [if_pos rfl, if_neg (by intro z; cases z), ad_some, ck_eq (it_sh hcb (by omega))]
    have app : (chD D k e = [] → (dN d).2 = 0) → JR c T Ws D k σ (okV (dN d) && decide (chD D k e = [] → (dN d).2 = 0)) (x_X2_judgeValue_68 U c (some (c + 5 + k)) (some (c + 5 + e)) σ) := by
      intro z0
      rw [zv, decide_eq_true z0]
      unfold x_X2_judgeValue_68
      rw [ck_eq (it_sh hcb (by omega)), b1_id]
      obtain ⟨τ, e1, e2, e3⟩ := X3_append (U := U) hU hcb hl hkl (by omega) hLK (fun i hi => (chD_lt hi).2) (by omega) hkn (chD_nodup k) u16
      have cell : ∀ i j, j ≠ 15 → j ≠ 16 → sI τ (c + 5 + i) j = sI σ (c + 5 + i) j ∧ sL τ (c + 5 + i) j = sL σ (c + 5 + i) j ∧ sP τ (c + 5 + i) j = sP σ (c + 5 + i) j := fun i j h15 h16 => e3 _ _ (by
        rintro (z | z)
        · exact h15 z.2
        · exact h16 z.1)
      refine ⟨τ, e1, fP_mono e3 (fun b j z => ?_), fun _ => ⟨?_, ?_⟩, fun z => (by cases z)⟩
      · rcases z with z | ⟨z1, i, z2, z3⟩
        · exact Or.inr (by omega)
        · have := (chD_lt z2).2; exact Or.inr (by omega)
      · rw [(e3 c 3 (by rintro (z | ⟨_, i, z2, z3⟩) <;> omega)).1]
      · refine JD_step hD0 (fun i hi hil => ?_) (fun i hi hil => ?_) (fun d' hd' => ?_) (fun a ha => ?_)
        · exact ⟨(cell i 8 (by decide) (by decide)).1, (cell i 10 (by decide) (by decide)).2.2, (cell i 12 (by decide) (by decide)).1⟩
        · exact (e3 (c + 5 + i) 16 (by
            rintro (z | ⟨_, j, z2, z3⟩)
            · omega
            · have := (chD_lt z2).1; omega)).2.2
        · rw [hd] at hd'
          cases hd'
          have hn : nmd d = false := decide_eq_false (fun z => by omega)
          rw [(cell k 8 (by decide) (by decide)).1, (cell k 10 (by decide) (by decide)).2.2, (cell k 12 (by decide) (by decide)).1, u8, u10, u12]
          unfold dTy dTg dPa
          rw [hn, decide_eq_false (show ¬ dK d = 2 by omega), Bool.and_false]
          exact ⟨rfl, rfl, rfl⟩
        · by_cases q : a = e
          · subst q
            have ec : chD D (k + 1) a = chD D k a ++ [k] := by rw [chD, hd]; simp only; rw [if_neg (by omega), if_pos ⟨h3, he⟩]
            rw [ec]
            exact e2
          · have had := List.getElem?_eq_getElem ha
            rw [chD_other hd (fun z => by omega) (fun z => q (by rw [he] at z; exact (Option.some.inj z.2).symm)), (e3 (c + 5 + a) 15 (by rintro (z | z) <;> omega)).2.2]
            refine LK_keep _ _ (hD0 a _ had).2.2 (fun i hi => ?_)
            exact (e3 (c + 5 + i) 16 (by
              rintro (z | ⟨_, j, z2, z3⟩)
              · omega
              · have : i = j := by omega
                subst this
                exact chD_apart q hi z2)).2.2
    by_cases q1 : chD D k e = []
    · rw [if_pos ((LK_nil hLK).mpr q1), ck_eq (it_sh hcb (by omega)), hI.2.2.2.2.2.2.1]
      by_cases q2 : (dN d).2 = 0
      · rw [if_pos ((nL_0 (by omega)).mpr q2)]; exact app (fun _ => q2)
      · rw [if_neg (fun z => q2 ((nL_0 (by omega)).mp z))]
        exact bad (by rw [zv, decide_eq_false (fun z => q2 (z q1))]; rfl)
    · rw [if_neg (fun z => q1 ((LK_nil hLK).mp z))]
      exact app (fun z => absurd z q1)
  have out27 : okV (dN d) = false → JR c T Ws D k σ (okV (dN d) && decide (chD D k e = [] → (dN d).2 = 0)) (x_X2_judgeValue_27 U c (some (c + 5 + k)) (ad c (some e)) σ) := by
    intro z
    unfold x_X2_judgeValue_27 x_X2_judgeValue_32
    rw [if_neg (by decide)]
    exact bad (by rw [z]; rfl)
  rw [ifd (nL_lo (v := dN d) (by omega)), ifd (nL_hi (v := dN d) (by omega))]
  by_cases q1 : (dN d).1 = true ∧ 2147483648 < (dN d).2
  · rw [if_pos q1]
    exact out27 (decide_eq_false (by rintro (z | z) <;> omega))
  rw [if_neg q1]
  by_cases q2 : (dN d).1 = false ∧ 2147483647 < (dN d).2
  · rw [if_pos q2]
    refine out27 (decide_eq_false ?_)
    rintro (z | z)
    · omega
    · rw [q2.1] at z; cases z.1
  rw [if_neg q2]
  refine good (decide_eq_true ?_)
  cases hb : (dN d).1 with
  | true =>
    have : ¬ 2147483648 < (dN d).2 := fun z => q1 ⟨hb, z⟩
    by_cases q : (dN d).2 = 2147483648
    · exact Or.inr ⟨rfl, q⟩
    · exact Or.inl (by omega)
  | false =>
    have : ¬ 2147483647 < (dN d).2 := fun z => q2 ⟨hb, z⟩
    exact Or.inl (by omega)
/-- the class judges one declaration -/
theorem X2_judge {U c k : Nat} {T : List Nat} {Ws : List Wd} {D : List Dc} {d : Dc} {σ : SG} (hU : 4000 < U) (hcb : cb c) (hS : WS T Ws) (hWA : WA σ (c + 186) Ws) (hT : RB σ (c + 2) T 0) (hJ : JS σ c D) (hW : WF D) (hG : GD T Ws D) (hd : D[k]? = some d) (h0 : sI σ c 3 = 0) (hD0 : JD σ c T Ws D k) :
    JR c T Ws D k σ (okD (lkC T D) T Ws D k d) (x_X2_judge U c (some (c + 5 + k)) (nI k) σ) := by
  have hl := hJ.2.1
  have hkl := (List.getElem?_eq_some_iff.mp hd).1
  have hI := hJ.2.2 k _ hd
  have hN : GNs T D := fun i d hd => (hG i d hd).1
  obtain ⟨g1, g2, g3⟩ := hG k d hd
  have hk5 := hW.k5 hd
  obtain ⟨u8, u10, u12, u16⟩ := (hD0 k d hd).1 (Nat.le_refl _)
  -- a declaration whose type is told, or that has none
  have rest : ∀ (v : Int32) (σ1 : SG), (v = 0 ↔ dK d ≠ 2) → fP (PJ c) σ σ1 → sI σ1 c 3 = sI σ c 3 → okT (lkC T D) T Ws D d = true → (∀ i, i ≠ k → i < D.length → sI σ1 (c + 5 + i) 8 = sI σ (c + 5 + i) 8 ∧ sP σ1 (c + 5 + i) 10 = sP σ (c + 5 + i) 10 ∧ sI σ1 (c + 5 + i) 12 = sI σ (c + 5 + i) 12) → (∀ i, i < D.length → sP σ1 (c + 5 + i) 16 = sP σ (c + 5 + i) 16 ∧ sP σ1 (c + 5 + i) 15 = sP σ (c + 5 + i) 15) → sI σ1 (c + 5 + k) 8 = nI (dTy (lkC T D) T Ws D d) → sP σ1 (c + 5 + k) 10 = ad c (dTg (lkC T D) T Ws D d) → (dK d ≠ 2 → σ1 = σ) → JR c T Ws D k σ (okD (lkC T D) T Ws D k d) (x_X2_judge_59 U c (some (c + 5 + k)) (nI k) v σ1) := by
    intro v σ1 hv f1 h31 hoT a8 a16 k8 k10 hsame
    have J1 := JS_PJ hJ f1
    have I1 := J1.2.2 k _ hd
    have hT1 : RB σ1 (c + 2) T 0 := RB_PJ hT f1 (by omega) (by omega) (by omega) (by omega)
    unfold x_X2_judge_59
    rw [X2_isTaken hU hcb hT1 J1 hN hd, b1_eq, ifz]
    cases ht : tkn T D k d with
    | true =>
      rw [if_pos rfl, ck_eq (it_sh hcb (by omega))]
      refine JR_fail (by decide) f1 ?_
      unfold okD; rw [ht]; simp
    | false =>
      rw [if_neg (by decide)]
      have hok : okD (lkC T D) T Ws D k d = okK (lkC T D) T Ws D k d := by unfold okD; rw [ht, hoT]; simp
      rw [hok]
      by_cases q2 : dK d = 2
      · rw [if_neg (fun z => (hv.mp z) q2)]
        obtain ⟨n1, n2, n3⟩ := g2.2.2.1 q2
        exact X2_judgeField hU hcb J1 hW hd q2 n1 g2.1 g2.2.1 n2 f1 hD0 h31 a8 a16 k8 k10
      · rw [if_pos (hv.mpr q2), ck_eq (it_sh hcb (by omega)), I1.1]
        have hs := hsame q2
        subst hs
        by_cases q3 : dK d = 3
        · rw [if_pos (show nI (dK d) = 3 by rw [q3]; rfl)]
          exact X2_judgeValue hU hcb hJ hW hd q3 g2.1 hD0
        · rw [if_neg (show ¬ nI (dK d) = 3 from fun z => q3 ((nI_eq (b := 3) (by omega) (by decide)).mp z))]
          have okt : okK (lkC T D) T Ws D k d = true := by unfold okK; rw [if_neg q2, if_neg q3]
          refine ⟨_, rfl, fP_refl _ _, fun _ => ⟨rfl, ?_⟩, fun z => (by rw [okt] at z; cases z)⟩
          refine JD_step hD0 (fun i hi hil => ⟨rfl, rfl, rfl⟩) (fun i hi hil => rfl) (fun d' hd' => ?_) (fun a ha => ?_)
          · rw [hd] at hd'
            cases hd'
            refine ⟨k8, k10, ?_⟩
            rw [u12]
            unfold dPa
            rw [decide_eq_false q2, Bool.and_false]
            rfl
          · rw [chD_other hd (fun z => q2 z.1) (fun z => q3 z.1)]
            exact (hD0 a _ (List.getElem?_eq_getElem ha)).2.2
  unfold x_X2_judge
  rw [if_neg (by intro z; cases z), ck_eq (it_sh hcb (by omega)), hI.1]
  by_cases q2 : dK d = 2
  · rw [if_pos (show nI (dK d) = 2 by rw [q2]; rfl)]
    unfold x_X2_judge_18
    rw [if_neg (by decide), ck_eq (it_sh hcb (by omega)), u8]
    obtain ⟨n1, n2, n3⟩ := g2.2.2.1 q2
    by_cases q13 : dT d = 13
    · rw [if_pos (show nI (dT d) = 13 by rw [q13]; rfl)]
      obtain ⟨k', hk'⟩ := n3 q13
      have hnm : nmd d = true := decide_eq_true ⟨q2, q13⟩
      rw [X2_findsType hU hcb hS hWA hT hJ hW hN hd q13 hk']
      unfold x_X2_findsType_129
      cases er : rsl (lkC T D) T Ws D d with
      | none =>
        rw [if_pos (show ad c none = none from rfl), b2_eq, if_pos rfl, hI.2.2.2.2.2.2.2.1 q13]
        obtain ⟨p, hp⟩ := X10_startOf_any (w := c + 186) (σ := σ) (nI (dW d))
        rw [hp, b1_eq]
        refine JR_fail (by decide) (fP_refl _ _) ?_
        unfold okD okT
        rw [hnm, er]; rfl
      | some t =>
        have htl : t < D.length := by
          have hrs : ∀ (n j : Nat) (f : Option Nat), (∀ t, f = some t → t < D.length) → ∀ t, rsN (lkC T D) T Ws n j f = some t → t < D.length := by
            intro n
            induction n with
            | zero => intro j f hf t h; exact hf t h
            | succ n ih =>
              intro j f hf t h
              cases f with
              | none => cases h
              | some x =>
                rw [rsN] at h
                by_cases q : sS T Ws 46 (j + 1) = true
                · rw [if_pos q] at h
                  refine ih _ _ (fun t ht => ?_) t h
                  obtain ⟨y, w1, _⟩ := ff_some _ _ _ ht
                  have := (List.getElem?_eq_some_iff.mp w1).1; omega
                · rw [if_neg q] at h; exact hf t h
          have hlk : ∀ sc nm t, lkC T D sc nm = some t → t < D.length := fun sc nm t ht => by
            obtain ⟨y, w1, _⟩ := ff_some _ _ _ ht
            have := (List.getElem?_eq_some_iff.mp w1).1; omega
          have hru : ∀ (n : Nat) (sc : Option Nat) nm t, rsU (lkC T D) D nm n sc = some t → t < D.length := by
            intro n
            induction n with
            | zero => intro sc nm t h; cases h
            | succ n ih =>
              intro sc nm t h
              cases sc with
              | none => exact hlk _ _ _ h
              | some m =>
                rw [rsU] at h
                cases e9 : lkC T D (some m) nm with
                | some y => rw [e9] at h; cases h; exact hlk _ _ _ e9
                | none => rw [e9] at h; exact ih _ _ _ h
          unfold rsl at er
          refine hrs _ _ _ (fun t ht => ?_) t er
          split at ht
          · exact hlk _ _ _ ht
          · exact hru _ _ _ _ ht
        have htd := List.getElem?_eq_getElem htl
        have hkn : knd D t = dK D[t] := by unfold knd; rw [htd]
        rw [if_neg (by intro z; cases z), ck_eq (it_sh hcb (by omega)), sb_eq, ad_some, ck_eq (it_sh hcb (by omega)), sI_uP, (hJ.2.2 t _ htd).1]
        have hk5t := hW.k5 htd
        have key : ∀ ty : Nat, dTy (lkC T D) T Ws D d = ty → JR c T Ws D k σ (okD (lkC T D) T Ws D k d) (b2 (x_X2_findsType_158 U c (nI ty) (some (c + 5 + k)) (uP σ (c + 5 + k) 10 (some (c + 5 + t)))) fun v29 σ30 => if v29 = 0 then (b1 (x_X10_startOf (c + 186) (sI σ30 (c + 5 + k) 9) σ30) fun v33 => b1 (x_X2_fail c 5 v33 σ30) fun σ35 => some σ35) else (x_X2_judge_59 U c (some (c + 5 + k)) (nI k) 1 σ30)) := by
          intro ty hty
          unfold x_X2_findsType_158
          rw [ck_eq (it_sh hcb (by omega)), sb_eq, b2_eq, if_neg (by decide)]
          refine rest 1 _ ⟨fun z => (by cases z), fun z => absurd q2 z⟩ (fP_trans (τ := uP σ (c + 5 + k) 10 (some (c + 5 + t))) (fun b j hj => ⟨rfl, rfl, ?_⟩) (fP_u (Or.inr (by omega)))) ?_ ?_ (fun i hi hil => ?_) (fun i hil => ?_) ?_ ?_ (fun z => absurd q2 z)
          · rw [sP_o]
            by_cases z : b = c + 5 + k
            · exact Or.inr (fun y => hj (Or.inr (by omega)))
            · exact Or.inl z
          · rw [sI_o (Or.inl (by omega)), sI_uP]
          · unfold okT; rw [hnm, er]; rfl
          · rw [sI_o (Or.inl (by omega)), sI_uP, sP_uI, sP_o (Or.inl (by omega)), sI_o (Or.inl (by omega)), sI_uP]
            exact ⟨rfl, rfl, rfl⟩
          · rw [sP_uI, sP_uI, sP_o (Or.inr (by decide)), sP_o (Or.inr (by decide))]
            exact ⟨rfl, rfl⟩
          · rw [sI_s, hty]
          · rw [sP_uI, sP_s]
            unfold dTg; rw [hnm, er]; rfl
        by_cases q0 : dK D[t] = 0
        · rw [if_pos (show nI (dK D[t]) = 0 by rw [q0]; rfl)]
          exact key 13 (by unfold dTy; rw [hnm, er]; simp only [if_true]; rw [hkn, if_pos q0])
        · rw [if_neg (show ¬ nI (dK D[t]) = 0 from fun z => q0 ((nI_eq (b := 0) (by omega) (by decide)).mp z))]
          exact key 14 (by unfold dTy; rw [hnm, er]; simp only [if_true]; rw [hkn, if_neg q0])
    · rw [if_neg (show ¬ nI (dT d) = 13 from fun z => q13 ((nI_eq (b := 13) (by omega) (by decide)).mp z))]
      have hnm : nmd d = false := decide_eq_false (fun z => q13 z.2)
      refine rest 1 σ ⟨fun z => (by cases z), fun z => absurd q2 z⟩ (fP_refl _ _) rfl ?_ (fun i _ _ => ⟨rfl, rfl, rfl⟩) (fun i _ => ⟨rfl, rfl⟩) ?_ ?_ (fun _ => rfl)
      · unfold okT; rw [hnm]; rfl
      · rw [u8]; unfold dTy; rw [hnm]; rfl
      · rw [u10]; unfold dTg; rw [hnm]; rfl
  · rw [if_neg (show ¬ nI (dK d) = 2 from fun z => q2 ((nI_eq (b := 2) (by omega) (by decide)).mp z))]
    unfold x_X2_judge_18
    rw [if_pos rfl]
    have hnm : nmd d = false := decide_eq_false (fun z => q2 z.1)
    refine rest 0 σ ⟨fun _ => q2, fun _ => rfl⟩ (fP_refl _ _) rfl ?_ (fun i _ _ => ⟨rfl, rfl, rfl⟩) (fun i _ => ⟨rfl, rfl⟩) ?_ ?_ (fun _ => rfl)
    · unfold okT; rw [hnm]; rfl
    · rw [u8]; unfold dTy; rw [hnm]; rfl
    · rw [u10]; unfold dTg; rw [hnm]; rfl
