/-! ===== the reference parses a name, a text ===== -/
theorem N_ename_L {U s e p q : Nat} {σ : SG} {T S : List Nat} {D : List Dc} {y : Dc} {f : Nat} {K : Int64 → Int32 → Option SG} {v1 : Int32} (hU4 : 4000 < U) (hs : s < 2) (h80 : sI σ 1101 80 = nI s) (hg : GSc T D) (h : RS σ s T D) (he : D[e]? = some y) (h1 : dK y = 1) (hL : LR σ S) (h9 : sI σ 1101 109 = nI p) (hpq : p ≤ q) (hq : q ≤ S.length) (hf : f < 120) (h19 : sI σ 1119 f = nI (cnt (D.take e) 1)) : ∀ (j g U1 : Nat) (v5 : Int64) (v7 : Int32), g + j = cnt D 3 → j < U1 → ((∀ (i : Nat) (d : Dc), D[i]? = some d → dK d = 3 → g ≤ cnt (D.take i) 3 → pVn T e (slc S p q) d = false) → x_X12_parseName_L100 U 1101 K v1 (nI f) (nI q) 14 σ U1 v5 v7 (nI (40 * s + g)) = K v5 v7) ∧ ∀ i, vNm T D e (slc S p q) = some i → g ≤ cnt (D.take i) 3 → x_X12_parseName_L100 U 1101 K v1 (nI f) (nI q) 14 σ U1 v5 v7 (nI (40 * s + g)) = K (nLi D i) 1 := by
  have hl := hg.2.1
  obtain ⟨l0, l1, l2, l3, l4, l5⟩ := lim_of h.1
  have hc : sI σ 1107 s = nI (cnt D 3) := h.2.1 3 (by decide)
  intro j
  induction j with
  | zero =>
    intro g U1 v5 v7 hgj hu
    obtain ⟨V, rfl⟩ : ∃ V, U1 = V + 1 := ⟨U1 - 1, by omega⟩
    have stp : x_X12_parseName_L100 U 1101 K v1 (nI f) (nI q) 14 σ (V + 1) v5 v7 (nI (40 * s + g)) = K v5 v7 := by
      rw [x_X12_parseName_L100, h80, ix_in hs (by decide), show (40 : Int32) = nI 40 from rfl, pk_mul, hc, nI_add, if_neg (fun q => by have := (ltI (by omega) (by omega)).mp q; omega)]
    refine ⟨fun _ => stp, fun i hi hgi => ?_⟩
    obtain ⟨d, hd, h3, _⟩ := vNm_some hi
    have := cnt_take_lt hd h3
    omega
  | succ j ih =>
    intro g U1 v5 v7 hgj hu
    obtain ⟨V, rfl⟩ : ∃ V, U1 = V + 1 := ⟨U1 - 1, by omega⟩
    obtain ⟨i0, d0, hd0, hk0, hi0⟩ := plc (D := D) (q := 3) g (by omega)
    have row := (h.2.2 i0 d0 hd0).2.2.2 hk0
    rw [hi0] at row
    have hown : oq D 1 (dO d0) = nI (cnt (D.take e) 1) ↔ dO d0 = some e := oq_inj (q := 1) (o := dO d0) (o' := some e) hl (hg.1.ow hd0 hk0) (fun m hm => by cases hm; exact ⟨y, he, h1⟩)
    have hnl := nLv (hg.all.2.1.2 i0 d0 hd0 hk0).1
    have hnm := N_isNamed (U := U) hU4 hs hL row.2.1 hpq hq (nmT8 hg (d := d0))
    have hnm' : x_X12_isNamed U 1101 (nI p) (nI q) (sI σ 1124 (40 * s + g)) (sI σ 1125 (40 * s + g)) σ = some (zI (decide (slc S p q = nmT T d0))) := hnm
    have enl : nL (dN d0) = nLi D i0 := by unfold nLi; rw [hd0]
    have stp : x_X12_parseName_L100 U 1101 K v1 (nI f) (nI q) 14 σ (V + 1) v5 v7 (nI (40 * s + g)) = if pVn T e (slc S p q) d0 then x_X12_parseName_L100 U 1101 K v1 (nI f) (nI q) 14 σ V (nLi D i0) 1 (nI (40 * s + (g + 1))) else x_X12_parseName_L100 U 1101 K v1 (nI f) (nI q) 14 σ V v5 v7 (nI (40 * s + (g + 1))) := by
      rw [x_X12_parseName_L100, h80, ix_in hs (by decide), show (40 : Int32) = nI 40 from rfl, pk_mul, hc, nI_add, if_pos ((ltI (by omega) (by omega)).mpr (by omega)), if_pos (show (14 : Int32) = 14 from rfl), ix_in (by omega) (by decide), ix_in hf (by decide), row.1, h19, ifd hown, ix_in (by omega) (by decide), ix_in (by omega) (by decide), h9, hnm', b1_eq, ifz, ix_in (by omega) (by decide), row.2.2, hnl, enl]
      unfold x_X12_parseName_184
      rw [nI_1, show 40 * s + g + 1 = 40 * s + (g + 1) by omega]
      unfold pVn
      by_cases q1 : dO d0 = some e
      · rw [if_pos q1]
        by_cases q2 : slc S p q = nmT T d0
        · rw [decide_eq_true q2, if_pos (show true = true from rfl), decide_eq_true ⟨hk0, q1, q2.symm⟩, if_pos (show true = true from rfl)]
        · rw [decide_eq_false q2, if_neg (show ¬ false = true by decide), decide_eq_false (fun z => q2 z.2.2.symm), if_neg (show ¬ false = true by decide)]
      · rw [if_neg q1, decide_eq_false (fun z => q1 z.2.1), if_neg (show ¬ false = true by decide)]
    rw [stp]
    refine ⟨fun hall => ?_, fun i hi hgi => ?_⟩
    · rw [hall i0 d0 hd0 hk0 (by omega), if_neg (show ¬ false = true by decide)]
      exact (ih (g + 1) V v5 v7 (by omega) (by omega)).1 (fun i d hd h3 hgi => hall i d hd h3 (by omega))
    · obtain ⟨d, hd, h3, ho, hnmd⟩ := vNm_some hi
      have uniq : ∀ (i' : Nat) (d' : Dc), D[i']? = some d' → dK d' = 3 → pVn T e (slc S p q) d' = true → i' = i := by
        intro i' d' hd' h3' hp'
        have hp := of_decide_eq_true hp'
        have sc : ∀ (k : Nat) (x : Dc), D[k]? = some x → dK x = 3 → dO x = some e → dS x = dS y := by
          intro k x hx hx3 hxo
          have hw := (hg.1 k x hx).2
          rcases hw with z | z | z | z | ⟨_, e', z1, z2, hz, _, z4⟩
          · omega
          · omega
          · omega
          · omega
          · rw [hxo] at z1
            cases z1
            have hz' : D[e]? = some z2 := by
              have hlt := (List.getElem?_eq_some_iff.mp hz).1
              rw [List.length_take] at hlt
              rw [List.getElem?_take_of_lt (by omega)] at hz
              exact hz
            rw [he] at hz'
            cases hz'
            exact z4.symm
        exact nam_inj hg hd' hd ((sc i' d' hd' h3' hp.2.1).trans (sc i d hd h3 ho).symm) (hp.2.2.trans hnmd.symm)
      cases hp : pVn T e (slc S p q) d0 with
      | true =>
        have e1 := uniq i0 d0 hd0 hk0 hp
        rw [if_pos (show true = true from rfl)]
        refine ((ih (g + 1) V (nLi D i0) 1 (by omega) (by omega)).1 (fun i' d' hd' h3' hgi' => ?_)).trans (by rw [e1])
        cases hp' : pVn T e (slc S p q) d' with
        | false => rfl
        | true =>
          have := uniq i' d' hd' h3' hp'
          rw [this, ← e1, hi0] at hgi'
          omega
      | false =>
        rw [if_neg (show ¬ false = true by decide)]
        refine (ih (g + 1) V v5 v7 (by omega) (by omega)).2 i hi ?_
        by_cases z : cnt (D.take i) 3 = g
        · exfalso
          have := ord_inj hd h3 hd0 hk0 (by omega)
          subst this
          rw [hd] at hd0
          cases hd0
          have : pVn T e (slc S p q) d0 = true := decide_eq_true ⟨h3, ho, hnmd⟩
          rw [hp] at this
          cases this
        · omega
theorem N_name {U s n f lm p b : Nat} {σ : SG} {T S : List Nat} {D : List Dc} {A : AV} {H : Rh} {d : Dc} {tl : Tl} (hU4 : 4000 < U) (hs : s < 2) (hg : GSc T D) (hD : DR σ s T D S lm A H p b) (hb : b < p) (hn : n < aC A) (hF : isF D (aN A n) f d) (hnm : nmr (fty T D d) = true) (htl : TLr H tl) (htk : tk D tl n f d = false) (hlt : bP pL S p = true) : OV s T D S lm A H tl n f d σ ((nvS T D S d p).map (fun y => (y.1, [], y.2))) (x_X12_parseName U 1101 (nI n) (nI (fx D s f)) σ) := by
  have hD' := hD
  obtain ⟨a1, a2, a3, a4, a5, a6, a7, a8, a9, a10⟩ := hD'
  have hSl := a4.2.2.1
  have h8 := a4.2.2.2
  have hft : fty T D d ≤ 14 := dTy_lt (hg.fld hF.1 hF.2.1).2.2.2.1
  have h13 : fty T D d ≠ 13 := fun z => by rw [z] at hnm; cases hnm
  obtain ⟨w1, w2⟩ := weS_le a10
  have hne : neS S p = weS S p := by unfold neS; rw [hlt, if_pos rfl]
  obtain ⟨f1, _, _, f4, f5, _⟩ := a1.f hF.1 hF.2.1
  have hl9 := hg.2.1
  obtain ⟨l0, l1, l2, l3, l4, l5⟩ := lim_of a1.1
  have hlt' : p < weS S p := by
    unfold weS
    have : bP pW S p = true := by
      unfold bP at hlt ⊢
      cases hs : S[p]? with
      | none => rw [hs] at hlt; cases hlt
      | some c =>
        rw [hs] at hlt
        have hc : pL c = true := hlt
        show pW c = true
        unfold pW
        rw [hc]
        rfl
    have := (rn_yes this).2
    omega
  -- the end
  have F9 : fP P109 σ (uI σ 1101 109 (nI (weS S p))) := fP_u ⟨rfl, rfl⟩
  have yes : ∀ v : Int64, OV s T D S lm A H tl n f d σ (some (v, [], weS S p)) (x_X12_parseName_190 U 1101 (nI n) (nI (fx D s f)) (nI (weS S p)) v 1 σ) := by
    intro v
    unfold x_X12_parseName_190
    rw [sb_eq, if_neg (show ¬ (1 : Int32) = 0 by decide), b1_id]
    exact OV_num (U := U) (v := v) hU4 hs hg hD hn hF h13 hnm htl htk F9 (sI_s _ _ _ _) (by omega) w1 w2
  have no : ∀ v : Int64, OV s T D S lm A H tl n f d σ none (x_X12_parseName_190 U 1101 (nI n) (nI (fx D s f)) (nI (weS S p)) v 0 σ) := by
    intro v
    unfold x_X12_parseName_190
    rw [sb_eq, if_pos (show (0 : Int32) = 0 from rfl), sb_eq]
    exact OV_no (fP_trans (fP_u (by unfold PDn; omega)) (fP_u (by unfold PDn; omega))) (by rw [sI_s]; decide)
  unfold x_X12_parseName x_X12_parseName_62 x_X12_parseName_67 x_X12_parseName_89 x_X12_parseName_91
  have e10 : nI (fty T D d) = 10 ↔ fty T D d = 10 := nI_eq (b := 10) (by omega) (by decide)
  have hpl1 := X12_isPlain (U := U) (w := 1953658213) hU4 a4.2.1 h8 hSl w1 w2
  have hpl2 := X12_isPlain (U := U) (w := 439721161573) hU4 a4.2.1 h8 hSl w1 w2
  rw [bw4] at hpl1
  rw [bw3] at hpl2
  rw [a5, N_nend hU4 a4 a10, b1_eq, hne, ix_in (by omega) (by decide), f4, ifd e10, hpl1, b1_eq, b1_eq, hpl2, b1_eq, ifz, ifz, ifz, a2.1, show (40 : Int32) = nI 40 from rfl, pk_mul]
  -- no enum: the loop does nothing
  have skip : fty T D d ≠ 14 → ∀ (v : Int64) (w : Int32), x_X12_parseName_L100 U 1101 (fun w47 w48 => x_X12_parseName_190 U 1101 (nI n) (nI (fx D s f)) (nI (weS S p)) w47 w48 σ) (nI n) (nI (fx D s f)) (nI (weS S p)) (nI (fty T D d)) σ U v w (nI (40 * s)) = x_X12_parseName_190 U 1101 (nI n) (nI (fx D s f)) (nI (weS S p)) v w σ := by
    intro q v w
    obtain ⟨V, rfl⟩ : ∃ V, U = V + 1 := ⟨U - 1, by omega⟩
    rw [x_X12_parseName_L100, a2.1, ix_in hs (by decide), if_neg (show ¬ nI (fty T D d) = 14 from fun z => q ((nI_eq (b := 14) (by omega) (by decide)).mp z)), ite_self]
  unfold nvS
  by_cases q10 : fty T D d = 10
  · rw [if_pos q10, if_pos q10, skip (by omega), skip (by omega), skip (by omega), skip (by omega)]
    simp only [b1_eq, ifz]
    unfold bvS fi fi fi
    have ne : [102, 97, 108, 115, 101] ≠ [116, 114, 117, 101] := by decide
    by_cases qt : slc S p (weS S p) = [116, 114, 117, 101]
    · rw [decide_eq_true qt, if_pos (show true = true from rfl), if_pos (show true = true from rfl), if_neg (fun z => ne (z.symm.trans qt)), if_pos qt]
      exact yes 1
    · rw [decide_eq_false qt, if_neg (show ¬ false = true by decide)]
      by_cases qf : slc S p (weS S p) = [102, 97, 108, 115, 101]
      · rw [decide_eq_true qf, if_pos (show true = true from rfl), if_neg (show ¬ false = true by decide), if_pos qf]
        exact yes 0
      · rw [decide_eq_false qf, if_neg (show ¬ false = true by decide), if_neg (show ¬ false = true by decide), if_neg qf, if_neg qt]
        exact no _
  · rw [if_neg q10, if_neg q10]
    by_cases q14 : fty T D d = 14
    · obtain ⟨e, y, h3, h4, h5⟩ := (ftg_msg hg hF.1 hF.2.1).2.1 q14
      have hrf : refI D (some e) = nI (cnt (D.take e) 1) := by show nI (cnt (D.take e) (knd D e)) = _; rw [knd_some h4, h5]
      rw [if_pos ⟨q14, hlt⟩, h3, q14, show nI 14 = (14 : Int32) from rfl]
      rw [h3, hrf] at f5
      have key := N_ename_L (U := U) (K := fun w47 w48 => x_X12_parseName_190 U 1101 (nI n) (nI (fx D s f)) (nI (weS S p)) w47 w48 σ) (v1 := nI n) hU4 hs a2.1 hg a1 h4 h5 a4 a5 w1 w2 (show fx D s f < 120 by omega) f5 (cnt D 3) 0 U (-1) 0 (by omega) (by omega)
      rw [Nat.add_zero] at key
      simp only [evS]
      cases hv : vNm T D e (slc S p (weS S p)) with
      | none =>
        rw [key.1 (fun i x hx h3' _ => by
          cases hp : pVn T e (slc S p (weS S p)) x with
          | false => rfl
          | true =>
            have := ff_none _ _ hv x (List.mem_of_getElem? hx)
            rw [hp] at this
            cases this)]
        exact no _
      | some i =>
        rw [key.2 i hv (Nat.zero_le _)]
        exact yes _
    · rw [if_neg (fun z => q14 z.1), skip q14]
      have hnone : numS S (fty T D d) p = none := by
        unfold numS
        have n45 : S[p]? ≠ some 45 := fun z => by unfold bP at hlt; rw [z] at hlt; cases hlt
        have hdg : bP pD S p = false := by
          unfold bP at hlt ⊢
          cases hs : S[p]? with
          | none => rfl
          | some c =>
            rw [hs] at hlt
            have hc : pL c = true := hlt
            show pD c = false
            have hc256 : c < 256 := h8 c (List.mem_of_getElem? hs)
            exact (by decide +kernel : ∀ c, c < 256 → pL c = true → pD c = false) c hc256 hc
        rw [if_neg n45, rn_no hdg, if_pos (Or.inl rfl)]
      rw [hnone]
      exact no _
