/-! ===== the class decodes a message ===== -/
theorem C_tnum {U c n m e p w p1 : Nat} {σ : SG} {T : List Nat} {D : List Dc} {S : List Nat} {G : Gh} {A : AV} {rc : AV → Nat → Nat → Nat → Nat → Option AV} (hU : 4000 < U) (hcb : cb c) (hg : GSc T D) (he : e ≤ S.length) (hp : p < p1) (hp1 : p1 ≤ e) (hD : DC σ c T D S G A p1) (hpu : gU G ≤ p) (hpP : (gP G).length ≤ p) (hn : n < gC G) (hm : gN G n = m) (hw : w % 8 ≠ 2) :
    OD c T D S G σ (dSt T D S rc n m e p w p1 A) (x_X9_takeNumber U 1094 (some (gH G n)) (ad c (fOf D m (w / 8))) (nI (w % 8)) (nI p) (nI e) σ) := by
  have hSl : S.length ≤ 700 := hD.2.2.2.1.2.2.1
  have hl := hg.2.1
  have hmM : isM D m := by rw [← hm]; exact hD.2.1.2.2.2.2.2.2.2.1 n hn
  have hw8 : w % 8 < 8 := Nat.mod_lt _ (by decide)
  unfold x_X9_takeNumber dSt
  rw [if_neg hw]
  obtain ⟨τ, t1, t2, t3⟩ := X9_readNumber (U := U) (q := w % 8) hU he hw8 hp1 hD.2.2.2.1 hD.2.2.2.2.1
  rw [t1, b2_eq, ifz]
  cases hr : rdN S (w % 8) p1 e with
  | none =>
    rw [Option.isSome_none, if_neg (show ¬ false = true by decide)]
    exact OD_no (fX_N t2)
  | some y =>
    obtain ⟨x, p2⟩ := y
    obtain ⟨v1, v2⟩ := t3 x p2 hr
    have hlt := rdN_lt hr
    rw [Option.isSome_some, if_pos (show true = true from rfl)]
    simp only
    have D1 := DC_N hD hcb t2 v2 (by omega) (by omega)
    have D1' := D1
    obtain ⟨b1', b2', b3, b4, b5, b6, b7, b8⟩ := D1'
    have unk : OD c T D S G σ (some (aUnk A n (slc S p p2), p2)) (x_X9_takeNumber_36 U 1094 (some (gH G n)) (nI p) τ) := by
      unfold x_X9_takeNumber_36
      obtain ⟨υ, G', u1, u2, u3, u4, u5, u6, u7, u8, u9, u10, u11⟩ := C_unk (p := p) (q := p2) hU hcb hg b1' b2' b3 b4 hn (by omega) b5 (by omega) (by omega) (by omega)
      rw [u1, b2_eq, show (1 : Int32) = zI true from rfl, zb_zI]
      refine ⟨υ, rfl, fX_trans (fX_N t2) u5, fun A' p' h => ?_⟩
      cases h
      exact ⟨G', ⟨u4, u2, u3, b4.sm (u5.1 _ (by decide)) (u5.1 _ (by decide)), u6, by omega, by omega, by omega⟩, by omega, fun m hm => ⟨by rw [u9], by rw [u10]⟩⟩
    cases hf : fOf D m (w / 8) with
    | none =>
      rw [if_pos (show ad c none = none from rfl)]
      exact unk
    | some f =>
      obtain ⟨d, hd⟩ := fOf_isF hg hmM hf
      have hF : isF D (gN G n) f d := by rw [hm]; exact hd
      have hfl := (List.getElem?_eq_some_iff.mp hd.1).1
      have hft : fty T D d ≤ 14 := dTy_lt (hg.fld hd.1 hd.2.1).2.2.2.1
      have ety : sI τ (c + 5 + f) 8 = nI (fty T D d) := (b1'.it hd.1).2.1
      have hk8 := (kdO_nmr hft).2
      simp only
      rw [hd.1]
      simp only
      rw [if_neg (show ¬ ad c (some f) = none by intro z; cases z), ad_some, ck_eq (it_sh hcb (by omega)), ety, X9_kindOf hft, b1_eq, ifd (nI_eq (by omega) (by omega))]
      by_cases q : kdO (fty T D d) = w % 8
      · rw [if_pos q, if_pos q]
        have hnm : nmr (fty T D d) = true := by
          cases h : nmr (fty T D d) with
          | true => rfl
          | false => exact absurd (q.symm.trans ((kdO_nmr hft).1.mpr h)) hw
        have h13 : fty T D d ≠ 13 := fun z => by rw [z] at hnm; cases hnm
        obtain ⟨υ, G', u1, u2, u3, u4, u5, u6, u7, u8, u9, u10, u11⟩ := C_num hU hcb hg b1' b2' b3 hn (by omega) hF h13 hnm
        have u1' : x_X9_putNumber U 1094 (some (gH G n)) (some (c + 5 + f)) τ = some (1, υ) := u1
        rw [u1', b2_eq, show (1 : Int32) = zI true from rfl, zb_zI]
        rw [v1] at u3
        refine ⟨υ, rfl, fX_trans (fX_N t2) u5, fun A' p' h => ?_⟩
        cases h
        exact ⟨G', ⟨u4, u2, u3, b4.sm (u5.1 _ (by decide)) (u5.1 _ (by decide)), u6.trans v2, by omega, by rw [u11]; omega, by omega⟩, by omega, fun m hm => ⟨by rw [u9], by rw [u10]⟩⟩
      · rw [if_neg q, if_neg q]
        exact unk
theorem dSt_lt {T : List Nat} {D : List Dc} {S : List Nat} {rc : AV → Nat → Nat → Nat → Nat → Option AV} {n m e p w p1 : Nat} {A A' : AV} {p' : Nat} (h : dSt T D S rc n m e p w p1 A = some (A', p')) (he : e ≤ 700) : p1 < p' ∧ p' ≤ e := by
  unfold dSt at h
  by_cases hw : w % 8 = 2
  · rw [if_pos hw] at h
    cases hln : lnS S p1 e with
    | none => rw [hln] at h; cases h
    | some y =>
      obtain ⟨l, p2⟩ := y
      have hle := lnS_le hln he
      rw [hln] at h
      simp only at h
      have hq : p' = p2 + l := by
        cases hf : fOf D m (w / 8) with
        | none => rw [hf] at h; cases h; rfl
        | some f =>
          rw [hf] at h
          simp only at h
          cases hd : D[f]? with
          | none => rw [hd] at h; cases h
          | some d =>
            rw [hd] at h
            simp only at h
            split at h
            · split at h
              · cases h
              · cases h; rfl
            · split at h
              · cases h; rfl
              · split at h
                · cases h
                · split at h
                  · split at h
                    · cases h
                    · split at h
                      · cases h
                      · cases h; rfl
                  · cases h; rfl
      omega
  · rw [if_neg hw] at h
    cases hr : rdN S (w % 8) p1 e with
    | none => rw [hr] at h; cases h
    | some y =>
      obtain ⟨x, p2⟩ := y
      have hlt := rdN_lt hr
      rw [hr] at h
      simp only at h
      have hq : p' = p2 := by
        cases hf : fOf D m (w / 8) with
        | none => rw [hf] at h; cases h; rfl
        | some f =>
          rw [hf] at h
          simp only at h
          cases hd : D[f]? with
          | none => rw [hd] at h; cases h
          | some d =>
            rw [hd] at h
            simp only at h
            split at h <;> (cases h; rfl)
      omega
theorem find_congr {L : List Nat} {p q : Nat → Bool} (h : ∀ i ∈ L, p i = q i) : L.find? p = L.find? q := by
  induction L with
  | nil => rfl
  | cons a L ih =>
    rw [List.find?_cons, List.find?_cons, h a (List.mem_cons_self ..), ih (fun i hi => h i (List.mem_cons_of_mem _ hi))]
theorem C_msgL {σb : SG} {U c n m e dp : Nat} {T : List Nat} {D : List Dc} {S : List Nat} {rcC : Option Nat → Option Nat → Int32 → Int32 → SG → Option (Int32 × SG)} {rc : AV → Nat → Nat → Nat → Nat → Option AV} (hU : 4000 < U) (hcb : cb c) (hg : GSc T D) (he : e ≤ S.length) (hSl : S.length ≤ 700) (hmM : isM D m)
    (hrc : ∀ (τ : SG) (G' : Gh) (A' : AV) (n' t e' q : Nat), fX σb τ → e' ≤ S.length → q ≤ e' → DC τ c T D S G' A' q → n' < gC G' → gN G' n' = t → OD c T D S G' τ ((rc A' n' t e' q).map (fun A => (A, e'))) (rcC (some (gH G' n')) (ad c (some t)) (nI e') (nI (dp + 1)) τ)) : ∀ (j k p U1 : Nat) (σ : SG) (G : Gh) (A : AV), e < j + p → k ≤ p → j < U1 → p ≤ e → DC σ c T D S G A p → n < gC G → gN G n = m → fX σb σ →
    OD c T D S G σ ((dLp T D S rc n m e j A p).map (fun A => (A, e))) (x_X9_readMessage_L18 U rcC 1094 (fun σ24 => x_X9_readMessage_145 U rcC 1094 (nI e) σ24) (some (gH G n)) (ad c (some m)) (nI e) (nI dp) U1 (nI k) σ) := by
  have hl := hg.2.1
  obtain ⟨dm, hdm, _⟩ := hmM
  have hml := (List.getElem?_eq_some_iff.mp hdm).1
  intro j
  induction j with
  | zero => intro k p U1 σ G A hj hk hu hp; omega
  | succ j ih =>
    intro k p U1 σ G A hj hk hu hp hD hn hm hfb
    obtain ⟨V, rfl⟩ : ∃ V, U1 = V + 1 := ⟨U1 - 1, by omega⟩
    have hD' := hD
    obtain ⟨a1, a2, a3, a4, a5, a6, a7, a8⟩ := hD'
    rw [x_X9_readMessage_L18, a5, ifd (ltI (by omega) (by omega)), dLp]
    by_cases q : p < e
    · rw [if_pos q, if_pos q, show (700 : Int32) = nI 700 from rfl, if_pos ((ltI (by omega) (by decide)).mpr (by omega))]
      obtain ⟨τ, t1, t2, t3⟩ := X9_readNumber (U := U) (q := 0) hU he (by decide) hp a4 a5
      have t1' : x_X9_readNumber U 1094 0 (nI e) σ = some (zI (rdN S 0 p e).isSome, τ) := t1
      rw [t1', b2_eq, ifz]
      unfold tgS
      cases hr : rdN S 0 p e with
      | none =>
        rw [Option.isSome_none, if_neg (show ¬ false = true by decide)]
        exact OD_no (fX_N t2)
      | some y =>
        obtain ⟨x, p1⟩ := y
        obtain ⟨v1, v2⟩ := t3 x p1 hr
        have hlt := rdN_lt hr
        rw [Option.isSome_some, if_pos (show true = true from rfl), v1, tag_C]
        simp only
        by_cases hx : x < 8 ∨ 4294967295 < x
        · rw [if_pos hx, if_pos hx]
          exact OD_no (fX_N t2)
        · rw [if_neg hx, if_neg hx]
          obtain ⟨w, rfl, hw1, hw2, hw3⟩ := tag_of hx
          simp only
          rw [hw3]
          have D1 := DC_N hD hcb t2 v2 (by omega) (by omega)
          have e3 : lush (lN w) 3 = lN (w / 8) := lush_N (k := 3) (by omega) (by decide)
          have e7 : Int64.toInt32 (lN w &&& 7) = nI (w % 8) := by
            have := land_N (w := w) (k := 3) (by omega) (by decide)
            have h7 : lN w &&& 7 = lN (w % 8) := this
            rw [h7, lN_i]
          have hw8 : w % 8 < 8 := Nat.mod_lt _ (by decide)
          have fnd : (chF D m).find? (fun i => decide (nLi D i = lN (w / 8))) = fOf D m (w / 8) := by
            unfold fOf
            have hM : isM D m := ⟨dm, hdm, by assumption⟩
            apply find_congr
            intro i hi
            obtain ⟨d, hd⟩ := (chF_mem hg hM).mp hi
            have hnu := hg.nu hd.1 hd.2.1
            rw [hnu.1]
            have : lN (nmn D i) = lN (w / 8) ↔ nmn D i = w / 8 := pk_lEQ (by omega) (by have := Nat.div_le_self w 8; omega)
            by_cases y : nmn D i = w / 8
            · rw [decide_eq_true y, decide_eq_true (this.mpr y)]
            · rw [decide_eq_false y, decide_eq_false (fun z => y (this.mp z))]
          rw [ad_some, ck_eq (it_sh hcb (by omega)), e3, C_numbered hU hcb D1.1 hml, b1_eq, e7, fnd]
          -- what follows a field
          have next : ∀ (x9 : Option (Int32 × SG)), OD c T D S G τ (dSt T D S rc n m e p w p1 A) x9 → OD c T D S G σ ((match dSt T D S rc n m e p w p1 A with | none => none | some (A', p') => dLp T D S rc n m e j A' p').map (fun A => (A, e))) (b2 x9 fun v18 σ19 => x_X9_readMessage_130 U rcC 1094 (x_X9_readMessage_L18 U rcC 1094 (fun σ24 => x_X9_readMessage_145 U rcC 1094 (nI e) σ24) (some (gH G n)) (some (c + 5 + m)) (nI e) (nI dp) V) (fun σ24 => x_X9_readMessage_145 U rcC 1094 (nI e) σ24) (some (gH G n)) (some (c + 5 + m)) (nI e) (nI dp) (nI k) v18 σ19) := by
            intro x9 h9
            obtain ⟨υ, u1, u2, u3⟩ := h9
            rw [u1, b2_eq]
            unfold x_X9_readMessage_130
            rw [ifz, nI_1]
            cases hs : dSt T D S rc n m e p w p1 A with
            | none =>
              rw [Option.isSome_none, if_neg (show ¬ false = true by decide)]
              exact OD_no (fX_trans (fX_N t2) u2)
            | some y =>
              obtain ⟨A', p'⟩ := y
              have hd9 := dSt_lt hs (by omega)
              rw [Option.isSome_some, if_pos (show true = true from rfl)]
              obtain ⟨G', w1, w2⟩ := u3 A' p' hs
              have key := ih (k + 1) p' V υ G' A' (by omega) (by omega) (by omega) (by omega) w1 (by have := w2.1; omega) ((w2.2 n hn).1.trans hm) (fX_trans hfb (fX_trans (fX_N t2) u2))
              rw [(w2.2 n hn).2] at key
              exact OD_from (fX_trans (fX_N t2) u2) w2 key
          by_cases hw : w % 8 = 2
          · rw [if_pos (show nI (w % 8) = 2 by rw [hw]; rfl)]
            exact next _ (C_tlen hU hcb hg he (by omega) (by omega) D1 a6 a7 hn hm hw (fun τ' G' A' n' t e' q' hf' => hrc τ' G' A' n' t e' q' (fX_trans hfb (fX_trans (fX_N t2) hf'))))
          · rw [if_neg (show ¬ nI (w % 8) = 2 from fun z => hw ((nI_eq (b := 2) (by omega) (by decide)).mp z))]
            exact next _ (C_tnum hU hcb hg he (by omega) (by omega) D1 a6 a7 hn hm hw)
    · have hpe : p = e := by omega
      rw [if_neg q, if_neg q]
      have fin : OD c T D S G σ (some (A, e)) (x_X9_readMessage_145 U rcC 1094 (nI e) σ) := by
        unfold x_X9_readMessage_145
        rw [a5, if_pos (by rw [hpe])]
        exact ⟨σ, rfl, fX_refl σ, fun A' p' h => by cases h; rw [← hpe]; exact ⟨G, hD, gX_refl G⟩⟩
      split
      · exact fin
      · exact fin
theorem C_ms {U c lm : Nat} {T : List Nat} {D : List Dc} {S : List Nat} (hU : 4000 < U) (hcb : cb c) (hg : GSc T D) (hSl : S.length ≤ 700) (hlm : lm ≤ 20) : ∀ (j dp : Nat) (σ : SG) (G : Gh) (A : AV) (n m e p : Nat), j + dp = 25 → dp ≤ lm + 1 → e ≤ S.length → p ≤ e → DC σ c T D S G A p → n < gC G → gN G n = m → sI σ 1094 5 = nI lm →
    OD c T D S G σ ((dMs T D S lm j dp A n m e p).map (fun A => (A, e))) (x_X9_readMessage U 1094 j (some (gH G n)) (ad c (some m)) (nI e) (nI dp) σ) := by
  intro j
  induction j with
  | zero => intro dp σ G A n m e p hj hdp; omega
  | succ j ih =>
    intro dp σ G A n m e p hj hdp he hp hD hn hm h5
    have hmM : isM D m := by rw [← hm]; exact hD.2.1.2.2.2.2.2.2.2.1 n hn
    rw [x_X9_readMessage, dMs]
    unfold x_X9_readMessage_b
    rw [if_neg (show ¬ ad c (some m) = none by intro z; cases z), h5, ifd (ltI (by omega) (by omega))]
    by_cases q : lm < dp
    · rw [if_pos q, if_pos q]
      exact OD_no (fX_refl σ)
    · rw [if_neg q, if_neg q]
      exact C_msgL (σb := σ) (rc := dMs T D S lm j (dp + 1)) hU hcb hg he hSl hmM (fun τ G' A' n' t e' q' hf' he' hq' hD' hn' ht' => ih (dp + 1) τ G' A' n' t e' q' (by omega) (by omega) he' hq' hD' hn' ht' (hf'.2.2.1.trans h5)) 701 0 p U σ G A (by omega) (Nat.zero_le _) (by omega) hp hD hn hm (fX_refl σ)
/-- the empty value of a message -/
def a0 (m : Nat) : AV := (fun _ => m, 1, fun _ _ => [], fun _ => [])
def g0 (m : Nat) : Gh := (fun _ => m, fun _ => 1091, fun _ => [], 1, 0, [])
/-- the class begins a value -/
theorem C_begin {σ : SG} {c m : Nat} {T : List Nat} {D : List Dc} (hcb : cb c) (hC : CS σ c T D) (hm : isM D m) : ∃ τ, x_X8_begin 389 (some (c + 1)) (ad c (some m)) σ = some τ ∧ VG τ c T D (g0 m) ∧ VE T D (g0 m) (a0 m) ∧ CS τ c T D ∧ (∀ b, b ≠ 389 → b ≠ 1091 → b ≠ 1092 → sm σ τ b) ∧ sP τ 389 4 = some (c + 1) ∧ sP τ 389 5 = ad c (some m) := by
  unfold x_X8_begin
  obtain ⟨υ, a1, a2, a3, a4, a5, a6⟩ := X8_drop (σ := σ)
  rw [a1, b1_eq, sb_eq, sb_eq]
  have fr : ∀ b, b ≠ 389 → sm υ (uP (uP υ 389 4 (some (c + 1))) 389 5 (ad c (some m))) b := fun b hb => sm_trans (sm_uP hb) (sm_uP hb)
  have hc : c = 5 ∨ c = 197 := hcb
  refine ⟨_, rfl, ?_, ⟨rfl, fun _ _ => rfl, fun n _ => ⟨fun f d _ => rfl, rfl⟩⟩, CS_sm hC (fun b h1 h2 => sm_trans (a2 b (by omega) (by omega) (by omega)) (fr b (by omega))), fun b h1 h2 h3 => sm_trans (a2 b h1 h2 h3) (fr b h1), ?_, sP_s _ _ _ _⟩
  · refine ⟨a3.2.2.1, Nat.zero_le _, a3.2.2.2.sm (fr _ (by decide)) (fr _ (by decide)), Nat.one_pos, rfl, fun n hn h0 => ?_, fun n n' hn hn' _ => ?_, fun n _ => hm, fun n n' _ _ _ e he => (by cases he), fun n hn => ⟨?_, Or.inl ?_, List.Pairwise.nil, List.nodup_nil, List.Pairwise.nil, fun e he => (by cases he)⟩⟩
    · have : n < 1 := hn
      omega
    · have : n < 1 := hn
      have : n' < 1 := hn'
      omega
    · show sP _ 1091 2 = none
      rw [(fr 1091 (by decide) 2).2.2]; exact a4
    · show sP _ 1091 3 = none
      rw [(fr 1091 (by decide) 3).2.2]; exact a5
  · rw [sP_o (Or.inr (by decide)), sP_s]
/-- the class reads the tape into a new value -/
theorem C_read {σ : SG} {U c m lm : Nat} {T S : List Nat} {D : List Dc} (hU : 4000 < U) (hcb : cb c) (hg : GSc T D) (hlm : lm ≤ 20) (hC : CS σ c T D) (hV : VG σ c T D (g0 m)) (hE : VE T D (g0 m) (a0 m)) (hS : RB σ 1 S 0) (h5 : sP σ 389 5 = ad c (some m)) :
    ∃ τ, x_X9_read U 1094 (nI lm) σ = some (zI (dMs T D S lm 24 1 (a0 m) 0 m S.length 0).isSome, τ) ∧ fX (uI σ 1094 5 (nI lm)) τ ∧ ∀ A, dMs T D S lm 24 1 (a0 m) 0 m S.length 0 = some A → ∃ G, DC τ c T D S G A S.length := by
  have hSl : S.length ≤ 700 := hS.2.2.1
  unfold x_X9_read
  rw [sb_eq, sb_eq]
  have fr : ∀ b, b ≠ 1094 → sm σ (uI (uI σ 1094 3 0) 1094 5 (nI lm)) b := fun b hb => sm_trans (sm_uI hb) (sm_uI hb)
  have hc : c = 5 ∨ c = 197 := hcb
  have S2 := hS.sm (fr 1 (by decide)) (fr 2 (by decide))
  rw [X0_size S2, b1_eq]
  have D0 : DC (uI (uI σ 1094 3 0) 1094 5 (nI lm)) c T D S (g0 m) (a0 m) 0 := ⟨CS_sm hC (fun b h1 h2 => fr b (by omega)), VG_sm hV (fun b hb => fr b (by omega)), hE, S2, by rw [sI_o (Or.inr (by decide)), sI_s]; rfl, Nat.zero_le _, Nat.zero_le _, Nat.zero_le _⟩
  have e5 : sP (uI (uI σ 1094 3 0) 1094 5 (nI lm)) 389 5 = ad c (some m) := h5
  have key := C_ms (U := U) (lm := lm) hU hcb hg hSl hlm 24 1 _ (g0 m) (a0 m) 0 m S.length 0 (by omega) (by omega) (Nat.le_refl _) (Nat.zero_le _) D0 Nat.one_pos rfl (sI_s _ _ _ _)
  obtain ⟨τ, k1, k2, k3⟩ := key
  have k1' : x_X9_readMessage U 1094 24 (some 1091) (ad c (some m)) (nI S.length) 1 (uI (uI σ 1094 3 0) 1094 5 (nI lm)) = some (zI ((dMs T D S lm 24 1 (a0 m) 0 m S.length 0).map (fun A => (A, S.length))).isSome, τ) := k1
  rw [e5, k1', b2_eq, zb_zI]
  refine ⟨τ, ?_, ?_, fun A hA => ?_⟩
  · cases dMs T D S lm 24 1 (a0 m) 0 m S.length 0 <;> rfl
  · refine ⟨fun b hb => sm_trans (fun k => ?_) (k2.1 b hb), fun k hk => ?_, ?_, ?_, ?_⟩
    · have : b ≠ 1094 := by omega
      exact ⟨by rw [sI_o (Or.inl this), sI_o (Or.inl this), sI_o (Or.inl this)], rfl, rfl⟩
    · exact k2.2.1 k hk
    · rw [k2.2.2.1, sI_s, sI_s]
    · rw [k2.2.2.2.1, sI_o (Or.inl (by decide)), sI_o (Or.inl (by decide)), sI_o (Or.inl (by decide))]
    · rw [k2.2.2.2.2, sI_o (Or.inl (by decide)), sI_o (Or.inl (by decide)), sI_o (Or.inl (by decide))]
  · obtain ⟨G, w1, w2⟩ := k3 A S.length (by rw [hA]; rfl)
    exact ⟨G, w1⟩
