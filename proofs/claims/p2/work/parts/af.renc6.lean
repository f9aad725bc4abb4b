/-! ===== the reference writes packed rows, finds rows ===== -/
theorem RT_fw {σ τ : SG} {s : Nat} {T : List Nat} {D : List Dc} {P : List Nat} {R : List Rg} (h : RT σ s T D P R) (hf : fw σ τ) : RT τ s T D P R := ⟨(fw_I hf (by decide) (by omega)).1.trans h.1, h.2.1, fun i r hi => ⟨RWs_sm (h.2.2 i r hi).1 (fun b h1 h2 => fw_I hf (by omega) (by omega)), (fw_I hf (by decide) (by omega)).1.trans (h.2.2 i r hi).2⟩⟩
theorem N_wpk_L {U s n f : Nat} {T : List Nat} {D : List Dc} {P : List Nat} {R : List Rg} {d : Dc} (hU4 : 4000 < U) (hs : s < 2) (hg : GSc T D) (hn : n < 400) (hRn : ∀ r ∈ R, rN r < 400) (hd : D[f]? = some d) (h2 : dK d = 2) (hnm : nmr (fty T D d) = true) (h4 : ∀ r ∈ R, pRw n f r = true → okV4 (fty T D d) (rV r)) : ∀ (j i U1 : Nat) (σ : SG) (w : List Nat × Int32), i + j = R.length → j < U1 → RS σ s T D → RT σ s T D P R → ROr σ w → ∃ τ, x_X12_putPacked_L31 U 1101 (nI n) (nI (fx D s f)) U1 (nI i) σ = some τ ∧ ROr τ (wrL 4000 w (pkB T D d ((R.drop i).filter (pRw n f)))) ∧ fw σ τ := by
  have hft : fty T D d ≤ 14 := dTy_lt (hg.fld hd h2).2.2.2.1
  intro j
  induction j with
  | zero =>
    intro i U1 σ w hi hu hS hR hw
    have hR7 := hR.2.1
    obtain ⟨V, rfl⟩ : ∃ V, U1 = V + 1 := ⟨U1 - 1, by omega⟩
    rw [x_X12_putPacked_L31, hR.1, if_neg (fun q => by have := (ltI (by omega) (by omega)).mp q; omega), List.drop_eq_nil_of_le (by omega)]
    exact ⟨σ, rfl, hw, fw_refl' _⟩
  | succ j ih =>
    intro i U1 σ w hi hu hS hR hw
    have hR7 := hR.2.1
    obtain ⟨f1, _, f3, f4, _⟩ := hS.f hd h2
    obtain ⟨V, rfl⟩ : ∃ V, U1 = V + 1 := ⟨U1 - 1, by omega⟩
    have hil : i < R.length := by omega
    have hri := List.getElem?_eq_getElem hil
    have hmem : R[i] ∈ R := List.getElem_mem hil
    obtain ⟨⟨w1, w2, w3, _, d', w8, w9, _⟩, wA⟩ := hR.2.2 i R[i] hri
    have hdr : R.drop i = R[i] :: R.drop (i + 1) := List.drop_eq_getElem_cons hil
    have hne : nI (rN R[i]) = nI n ↔ rN R[i] = n := nI_eq (by have := hRn _ hmem; omega) (by omega)
    have hfe : nI (fx D s (rF R[i])) = nI (fx D s f) ↔ rF R[i] = f := fx_inj hg hs w8 w9 hd h2
    rw [x_X12_putPacked_L31, hR.1, if_pos ((ltI (by omega) (by omega)).mpr hil), ix_in (by omega) (by decide), wA, ifz, hdr, List.filter_cons]
    unfold x_X12_putPacked_89
    rw [nI_1]
    have skip : pRw n f R[i] = false → ∃ τ, x_X12_putPacked_L31 U 1101 (nI n) (nI (fx D s f)) V (nI (i + 1)) σ = some τ ∧ ROr τ (wrL 4000 w (pkB T D d (if pRw n f R[i] = true then R[i] :: (R.drop (i + 1)).filter (pRw n f) else (R.drop (i + 1)).filter (pRw n f)))) ∧ fw σ τ := fun z => by
      rw [z, if_neg (show ¬ false = true by decide)]
      exact ih (i + 1) V σ w (by omega) (by omega) hS hR hw
    cases hA : rA R[i] with
    | false =>
      rw [if_neg (show ¬ false = true by decide)]
      exact skip (by unfold pRw; rw [hA, Bool.and_false])
    | true =>
      rw [if_pos (show true = true from rfl), ix_in (by omega) (by decide), w1, ifd hne]
      by_cases q1 : rN R[i] = n
      · rw [if_pos q1, ix_in (by omega) (by decide), w2, ifd hfe]
        by_cases q2 : rF R[i] = f
        · have hp : pRw n f R[i] = true := by unfold pRw; rw [hA, decide_eq_true q1, decide_eq_true q2]; rfl
          rw [if_pos q2, ix_in (by omega) (by decide), ix_in (by omega) (by decide), f4, w3, hp, if_pos (show true = true from rfl)]
          obtain ⟨τ, t1, t2, t3⟩ := N_wnum (U := U) hU4 hft hnm (h4 _ hmem hp) hw
          rw [t1, b1_eq]
          obtain ⟨υ, u1, u2, u3⟩ := ih (i + 1) V τ _ (by omega) (by omega) (RS_fw hS t3) (RT_fw hR t3) t2
          refine ⟨υ, u1, ?_, fw_trans t3 u3⟩
          show ROr υ (wrL 4000 w ((R[i] :: (R.drop (i + 1)).filter (pRw n f)).flatMap (fun r => nuB (fty T D d) (rV r))))
          rw [List.flatMap_cons, wrL_app]
          exact u2
        · rw [if_neg q2]
          exact skip (by unfold pRw; rw [decide_eq_false q2, Bool.and_false, Bool.false_and])
      · rw [if_neg q1]
        exact skip (by unfold pRw; rw [decide_eq_false q1, Bool.false_and, Bool.false_and])
/-- what a packed row writes -/
def pkW (T : List Nat) (D : List Dc) (d : Dc) (L : List Rg) : List Nat := if 0 < (pkB T D d L).length then tgB d 2 ++ lnB (pkB T D d L) else []
theorem N_putPacked {U s n f : Nat} {σ : SG} {T : List Nat} {D : List Dc} {P : List Nat} {R : List Rg} {d : Dc} {w : List Nat × Int32} (hU4 : 4000 < U) (hs : s < 2) (hg : GSc T D) (hS : RS σ s T D) (hR : RT σ s T D P R) (hn : n < 400) (hRn : ∀ r ∈ R, rN r < 400) (hd : D[f]? = some d) (h2 : dK d = 2) (hnm : nmr (fty T D d) = true) (h4 : ∀ r ∈ R, pRw n f r = true → okV4 (fty T D d) (rV r)) (hb : (pkB T D d (R.filter (pRw n f))).length < 2 ^ 31) (hw : ROr σ w) : ∃ τ, x_X12_putPacked U 1101 (nI n) (nI (fx D s f)) σ = some τ ∧ ROr τ (wrL 4000 w (pkW T D d (R.filter (pRw n f)))) ∧ fw σ τ := by
  unfold x_X12_putPacked pkW
  have hR7 := hR.2.1
  have htg : x_X12_tagOf 1101 (nI (fx D s f)) 2 σ = some ((lshl9 (lN (dN d).2) 3) ||| lN 2) := N_tagOf (k := 2) hs hg hS hd h2 (by decide)
  rw [N_packedBytes hU4 hs hg hS hR hn hRn hd h2 hnm h4, b1_eq, ifd (show nI (pkB T D d (R.filter (pRw n f))).length = 0 ↔ (pkB T D d (R.filter (pRw n f))).length = 0 from nI_eq (b := 0) hb (by decide)), htg, b1_eq, nI_l hb]
  by_cases q : (pkB T D d (R.filter (pRw n f))).length = 0
  · rw [if_pos q, if_neg (by omega)]
    exact ⟨σ, rfl, hw, fw_refl' _⟩
  · rw [if_neg q, if_pos (by omega)]
    obtain ⟨τ, t1, t2, t3⟩ := N_varW (U := U) (x := (lshl9 (lN (dN d).2) 3) ||| lN 2) hU4 hw
    obtain ⟨υ, u1, u2, u3⟩ := N_varW (U := U) (x := lN (pkB T D d (R.filter (pRw n f))).length) hU4 t2
    rw [t1, b1_eq, u1, b1_eq]
    obtain ⟨ω, o1, o2, o3⟩ := N_wpk_L (U := U) hU4 hs hg hn hRn hd h2 hnm h4 R.length 0 U υ _ (by omega) (by omega) (RS_fw (RS_fw hS t3) u3) (RT_fw (RT_fw hR t3) u3) u2
    have o1' : x_X12_putPacked_L31 U 1101 (nI n) (nI (fx D s f)) U 0 υ = some ω := o1
    rw [o1']
    refine ⟨ω, rfl, ?_, fw_trans t3 (fw_trans u3 o3)⟩
    unfold lnB tgB
    rw [wrL_app, wrL_app]
    rw [List.drop_zero] at o2
    exact o2
theorem N_nextRow {U s n f : Nat} {σ : SG} {T : List Nat} {D : List Dc} {P : List Nat} {R : List Rg} {d : Dc} (hU4 : 4000 < U) (hs : s < 2) (hg : GSc T D) (hR : RT σ s T D P R) (hn : n < 400) (hRn : ∀ r ∈ R, rN r < 400) (hd : D[f]? = some d) (h2 : dK d = 2) : ∀ (j i U1 : Nat), i + j = R.length → j < U1 → x_X12_nextRow_L3 U 1101 (nI n) (nI (fx D s f)) σ U1 (nI i) = some (rwI (ff (pRw n f) (R.drop i) i)) := by
  have hR7 := hR.2.1
  intro j
  induction j with
  | zero =>
    intro i U1 hi hu
    obtain ⟨V, rfl⟩ : ∃ V, U1 = V + 1 := ⟨U1 - 1, by omega⟩
    rw [x_X12_nextRow_L3, hR.1, if_neg (fun q => by have := (ltI (by omega) (by omega)).mp q; omega), List.drop_eq_nil_of_le (by omega)]
    rfl
  | succ j ih =>
    intro i U1 hi hu
    obtain ⟨V, rfl⟩ : ∃ V, U1 = V + 1 := ⟨U1 - 1, by omega⟩
    have hil : i < R.length := by omega
    have hri := List.getElem?_eq_getElem hil
    have hmem : R[i] ∈ R := List.getElem_mem hil
    obtain ⟨⟨w1, w2, w3, _, d', w8, w9, _⟩, wA⟩ := hR.2.2 i R[i] hri
    have hdr : R.drop i = R[i] :: R.drop (i + 1) := List.drop_eq_getElem_cons hil
    have hne : nI (rN R[i]) = nI n ↔ rN R[i] = n := nI_eq (by have := hRn _ hmem; omega) (by omega)
    have hfe : nI (fx D s (rF R[i])) = nI (fx D s f) ↔ rF R[i] = f := fx_inj hg hs w8 w9 hd h2
    rw [x_X12_nextRow_L3, hR.1, if_pos ((ltI (by omega) (by omega)).mpr hil), ix_in (by omega) (by decide), wA, ifz, hdr, ff]
    unfold x_X12_nextRow_47
    rw [nI_1, ih (i + 1) V (by omega) (by omega)]
    cases hA : rA R[i] with
    | false =>
      have hp : pRw n f R[i] = false := by unfold pRw; rw [hA, Bool.and_false]
      rw [if_neg (show ¬ false = true by decide), hp, if_neg (show ¬ false = true by decide)]
    | true =>
      rw [if_pos (show true = true from rfl), ix_in (by omega) (by decide), w1, ifd hne]
      by_cases q1 : rN R[i] = n
      · rw [if_pos q1, ix_in (by omega) (by decide), w2, ifd hfe]
        by_cases q2 : rF R[i] = f
        · have hp : pRw n f R[i] = true := by unfold pRw; rw [hA, decide_eq_true q1, decide_eq_true q2]; rfl
          rw [if_pos q2, hp, if_pos (show true = true from rfl)]
          rfl
        · have hp : pRw n f R[i] = false := by unfold pRw; rw [decide_eq_false q2, Bool.and_false, Bool.false_and]
          rw [if_neg q2, hp, if_neg (show ¬ false = true by decide)]
      · have hp : pRw n f R[i] = false := by unfold pRw; rw [decide_eq_false q1, Bool.false_and, Bool.false_and]
        rw [if_neg q1, hp, if_neg (show ¬ false = true by decide)]
