/-! ===== the reference prints ===== -/
theorem N_pstep {U s dp n k i : Nat} {σ : SG} {T : List Nat} {D : List Dc} {A : AV} {H : Rh} {w : List Nat × Int32} (hU4 : 4000 < U) (hs : s < 2) (hg : GSc T D) (hE : PS σ s T D A H w) (hM : isM D (aN A n)) (hn : n < aC A) (hdp : dp < 20) (hk : k < 2 ^ 31) (hi : i ≤ (zR H).length) (ht : TP σ dp n k i) :
    ((chF D (aN A n))[k]? = none → x_X12_printStep U 1101 σ = (sb (uI σ 1101 106 (nI dp)) fun σ16 => if sI σ16 1101 106 = 0 then (some σ16) else (b1 (x_X12_blanks U 1101 (2 * ((sI σ16 1101 106) - 1)) σ16) fun σ19 => b1 (x_X12_put 1101 125 σ19) fun σ21 => b1 (x_X12_put 1101 10 σ21) fun σ23 => some σ23))) ∧
    ∀ f d, (chF D (aN A n))[k]? = some f → isF D (aN A n) f d → (ff (pRw n f) ((zR H).drop i) i = none → x_X12_printStep U 1101 σ = some (uI (uI σ 1179 dp (nI (k + 1))) 1178 dp 0)) ∧ ∀ i', i' < 800 → ff (pRw n f) ((zR H).drop i) i = some i' → x_X12_printStep U 1101 σ = (sb (uI σ 1178 dp (nI (i' + 1))) fun σ49 => b1 (x_X12_blanks U 1101 (2 * nI dp) σ49) fun σ51 => b1 (x_X12_putName U 1101 (sI σ51 1115 (fx D s f)) (sI σ51 1116 (fx D s f)) σ51) fun σ61 => if sI σ61 1118 (fx D s f) = 13 then (b1 (x_X12_putWord U 1101 8315 σ61) fun σ68 => b1 (x_X12_put 1101 10 σ68) fun σ70 => b1 (x_X12_goInto 1101 (sI σ70 1170 i') σ70) fun σ76 => some σ76) else (b1 (x_X12_putWord U 1101 14880 σ61) fun σ78 => b1 (x_X12_putPlain U 1101 (nI i') σ78) fun σ80 => b1 (x_X12_put 1101 10 σ80) fun σ82 => some σ82)) := by
  obtain ⟨hS, hV, hw⟩ := hE
  obtain ⟨t1, t2, t3, t4⟩ := ht
  have hc := hV.2.2.2.2.1
  have hR7 := hV.2.1.2.1
  have hRn : ∀ r ∈ zR H, rN r < 400 := fun r hr => by have := (hV.2.2.2.2.2.1 r hr).1; omega
  have e1 : nI (dp + 1) - 1 = nI dp := nI_sub (b := 1) (by omega)
  have hmA : mAt (chF D (aN A n)) (nI k) = (chF D (aN A n))[k]? := by unfold mAt; rw [if_neg (nI_neg hk), clampN hk]
  unfold x_X12_printStep
  rw [t1, e1, ix_in (by omega) (by decide), t2, ix_in (by omega) (by decide), ix_in (by omega) (by decide), hV.1, (hc.2.2.2 n hn).2.1, t3, N_fieldAt hU4 hs hg hS hM, b1_eq, hmA]
  refine ⟨fun h0 => ?_, fun f d hf hd => ?_⟩
  · rw [h0, if_pos (show fIx D s none = -1 from rfl)]
  · obtain ⟨f1, _, f3, f4, f5, f6, f7, _⟩ := hS.f hd.1 hd.2.1
    have hne : ¬ nI (fx D s f) = -1 := fun z => nI_neg (by omega : fx D s f < 2 ^ 31) (by rw [z]; decide)
    rw [hf, show fIx D s (some f) = nI (fx D s f) from rfl, if_neg hne]
    unfold x_X12_nextRow
    rw [ix_in (show dp < 40 by omega) (by decide), t4, N_nextRow hU4 hs hg hV.2.1 (by omega) hRn hd.1 hd.2.1 ((zR H).length - i) i U (by omega) (by omega), b1_eq]
    refine ⟨fun hff => ?_, fun i' hi' hff => ?_⟩
    · rw [hff, if_pos (show rwI none = -1 from rfl), ix_in (show dp < 40 by omega) (by decide), ix_in (show dp < 40 by omega) (by decide), t3, nI_1, sb_eq, ix_in (show dp < 40 by omega) (by decide), sb_eq]
    · have hne' : ¬ rwI (some i') = -1 := fun y => nI_neg (by omega : i' < 2 ^ 31) (show nI i' < 0 by have y' : nI i' = -1 := y; rw [y']; decide)
      rw [hff, if_neg hne', ix_in (show dp < 40 by omega) (by decide)]
      simp only [show rwI (some i') = nI i' from rfl, ix_in (show fx D s f < 120 by omega) (by decide), ix_in hi' (by decide), nI_1]
/-- what the loop does with a piece of a message -/
def PL (U s : Nat) (T : List Nat) (D : List Dc) (A : AV) (H : Rh) (K : SG → Option (Int32 × SG)) (dp : Nat) (w : List Nat × Int32) (B : List Nat) (c : Nat) (Q : SG → Prop) (U1 : Nat) (σ : SG) : Prop := ∃ τ U2, x_X12_print_L39 U 1101 K U1 σ = x_X12_print_L39 U 1101 K U2 τ ∧ U1 ≤ U2 + c ∧ PS τ s T D A H (wrL 4000 w B) ∧ Q τ ∧ fP PPr σ τ ∧ ∀ j, j < dp → sI τ 1176 j = sI σ 1176 j ∧ sI τ 1178 j = sI σ 1178 j ∧ sI τ 1179 j = sI σ 1179 j
theorem L39_step {U dp n k i V : Nat} {σ τ : SG} {K : SG → Option (Int32 × SG)} (ht : TP σ dp n k i) (hdp : dp < 20) (h : x_X12_printStep U 1101 σ = some τ) : x_X12_print_L39 U 1101 K (V + 1) σ = x_X12_print_L39 U 1101 K V τ := by
  rw [x_X12_print_L39, ht.1, if_pos (show (0 : Int32) < nI (dp + 1) from (ltI (a := 0) (by decide) (by omega)).mpr (by omega)), h, b1_eq]
/-- what closes a message -/
def clB (dp : Nat) : List Nat := if dp = 0 then [] else inB dp ++ [125, 10]
theorem PS_end {U s dp n k i : Nat} {σ : SG} {T : List Nat} {D : List Dc} {A : AV} {H : Rh} {w : List Nat × Int32} (hU4 : 4000 < U) (hE : PS σ s T D A H w) (hdp : dp < 20) : ∃ τ, (sb (uI σ 1101 106 (nI dp)) fun σ16 => if sI σ16 1101 106 = 0 then (some σ16) else (b1 (x_X12_blanks U 1101 (2 * ((sI σ16 1101 106) - 1)) σ16) fun σ19 => b1 (x_X12_put 1101 125 σ19) fun σ21 => b1 (x_X12_put 1101 10 σ21) fun σ23 => some σ23)) = some τ ∧ PS τ s T D A H (wrL 4000 w (clB dp)) ∧ sI τ 1101 106 = nI dp ∧ fP PPr σ τ ∧ ∀ j, sI τ 1176 j = sI σ 1176 j ∧ sI τ 1178 j = sI σ 1178 j ∧ sI τ 1179 j = sI σ 1179 j := by
  rw [sb_eq, sI_s]
  have E1 := PS_uI (b := 1101) (j := 106) (v := nI dp) hE (by omega)
  have c1 : sI (uI σ 1101 106 (nI dp)) 1101 106 = nI dp := sI_s _ _ _ _
  have F1 : fP PPr σ (uI σ 1101 106 (nI dp)) := fP_u (by unfold PPr; omega)
  have L1 : ∀ j, sI (uI σ 1101 106 (nI dp)) 1176 j = sI σ 1176 j ∧ sI (uI σ 1101 106 (nI dp)) 1178 j = sI σ 1178 j ∧ sI (uI σ 1101 106 (nI dp)) 1179 j = sI σ 1179 j := fun j => ⟨sI_o (Or.inl (by decide)), sI_o (Or.inl (by decide)), sI_o (Or.inl (by decide))⟩
  generalize uI σ 1101 106 (nI dp) = σ1 at *
  have e0 : nI dp = 0 ↔ dp = 0 := nI_eq (b := 0) (by omega) (by decide)
  rw [ifd e0]
  unfold clB
  by_cases q : dp = 0
  · rw [if_pos q, if_pos q]
    exact ⟨σ1, rfl, E1, c1, F1, L1⟩
  · rw [if_neg q, if_neg q, show nI dp - 1 = nI (dp - 1) from nI_sub (a := dp) (b := 1) (by omega)]
    have key : WN w (inB dp ++ [125, 10]) σ1 (b1 (x_X12_blanks U 1101 (2 * nI (dp - 1)) σ1) fun σ19 => b1 (x_X12_put 1101 125 σ19) fun σ21 => b1 (x_X12_put 1101 10 σ21) fun σ23 => some σ23) := by
      have hb := N_blanks (U := U) (dp := dp - 1) hU4 (by omega) E1.2.2
      rw [show dp - 1 + 1 = dp by omega] at hb
      refine WN_b1 hb (fun τ t2 t3 => ?_)
      refine WN_b1 (B := [125]) (N_put1 (c := 125) t2) (fun υ u2 u3 => ?_)
      rw [b1_id]
      exact N_put1 (c := 10) u2
    obtain ⟨τ, t1, t2, t3⟩ := key
    refine ⟨τ, t1, PS_fw E1 t3 t2, ((t3 1101 106 (by unfold Pfw; omega)).1).trans c1, fP_trans F1 (Pfw_PPr t3), fun j => ⟨?_, ?_, ?_⟩⟩
    · exact ((t3 1176 j (by unfold Pfw; omega)).1).trans (L1 j).1
    · exact ((t3 1178 j (by unfold Pfw; omega)).1).trans (L1 j).2.1
    · exact ((t3 1179 j (by unfold Pfw; omega)).1).trans (L1 j).2.2
theorem PS_row {U s dp n k i i' f : Nat} {σ : SG} {T : List Nat} {D : List Dc} {A : AV} {H : Rh} {w : List Nat × Int32} {r : Rg} {d : Dc} {rc : Nat → List Nat} (hU4 : 4000 < U) (hs : s < 2) (hg : GSc T D) (hE : PS σ s T D A H w) (hdp : dp < 20) (ht : TP σ dp n k i) (hr : (zR H)[i']? = some r) (hp : pRw n f r = true) (hd : D[f]? = some d) (h2 : dK d = 2) : ∃ τ, (sb (uI σ 1178 dp (nI (i' + 1))) fun σ49 => b1 (x_X12_blanks U 1101 (2 * nI dp) σ49) fun σ51 => b1 (x_X12_putName U 1101 (sI σ51 1115 (fx D s f)) (sI σ51 1116 (fx D s f)) σ51) fun σ61 => if sI σ61 1118 (fx D s f) = 13 then (b1 (x_X12_putWord U 1101 8315 σ61) fun σ68 => b1 (x_X12_put 1101 10 σ68) fun σ70 => b1 (x_X12_goInto 1101 (sI σ70 1170 i') σ70) fun σ76 => some σ76) else (b1 (x_X12_putWord U 1101 14880 σ61) fun σ78 => b1 (x_X12_putPlain U 1101 (nI i') σ78) fun σ80 => b1 (x_X12_put 1101 10 σ80) fun σ82 => some σ82)) = some τ ∧ fP PPr σ τ ∧ (∀ j, j < dp → sI τ 1176 j = sI σ 1176 j ∧ sI τ 1178 j = sI σ 1178 j ∧ sI τ 1179 j = sI σ 1179 j) ∧ (fty T D d ≠ 13 → PS τ s T D A H (wrL 4000 w (pIt T D (dp + 1) rc d (itR T D d r))) ∧ TP τ dp n k (i' + 1)) ∧ (fty T D d = 13 → PS τ s T D A H (wrL 4000 w (inB (dp + 1) ++ (nmT T d ++ [32, 123, 10]))) ∧ TP τ (dp + 1) (rK r) 0 0 ∧ sI τ 1176 dp = nI n ∧ sI τ 1179 dp = nI k ∧ sI τ 1178 dp = nI (i' + 1)) := by
  obtain ⟨t1, t2, t3, t4⟩ := ht
  have hil := (List.getElem?_eq_some_iff.mp hr).1
  have hR7 := hE.2.1.2.1.2.1
  obtain ⟨p1, p2⟩ := pRw_of hp
  have hft : fty T D d ≤ 14 := dTy_lt (hg.fld hd h2).2.2.2.1
  have E1 := PS_uI (b := 1178) (j := dp) (v := nI (i' + 1)) hE (by omega)
  rw [sb_eq]
  have F1 : fP PPr σ (uI σ 1178 dp (nI (i' + 1))) := fP_u (by unfold PPr; omega)
  have T1 : TP (uI σ 1178 dp (nI (i' + 1))) dp n k (i' + 1) := ⟨(sI_o (Or.inl (by decide))).trans t1, (sI_o (Or.inl (by decide))).trans t2, (sI_o (Or.inl (by decide))).trans t3, sI_s _ _ _ _⟩
  have L1 : ∀ j, j < dp → sI (uI σ 1178 dp (nI (i' + 1))) 1176 j = sI σ 1176 j ∧ sI (uI σ 1178 dp (nI (i' + 1))) 1178 j = sI σ 1178 j ∧ sI (uI σ 1178 dp (nI (i' + 1))) 1179 j = sI σ 1179 j := fun j hj => ⟨sI_o (Or.inl (by decide)), sI_o (Or.inr (by omega)), sI_o (Or.inl (by decide))⟩
  generalize uI σ 1178 dp (nI (i' + 1)) = σ1 at *
  -- the beginning of the line
  obtain ⟨τ, a1, a2, a3⟩ := N_blanks (U := U) (dp := dp) hU4 (by omega) E1.2.2
  have E2 := PS_fw E1 a3 a2
  have hnm2 : NM τ s 1115 (fx D s f) (nmT T d) := ((E2.1.2.2 f d hd).2.2.1 h2).2.1
  obtain ⟨υ, u1, u2, u3⟩ := N_putName (U := U) hU4 hs hnm2 E2.2.2
  have u1' : x_X12_putName U 1101 (sI τ 1115 (fx D s f)) (sI τ 1116 (fx D s f)) τ = some υ := u1
  have E3 := PS_fw E2 u3 u2
  have f3 := fP_trans a3 u3
  obtain ⟨_, _, _, f4, _⟩ := E3.1.f hd h2
  have e13 : nI (fty T D d) = 13 ↔ fty T D d = 13 := nI_eq (b := 13) (by omega) (by decide)
  rw [a1, b1_eq, u1', b1_eq, f4, ifd e13]
  by_cases q : fty T D d = 13
  · rw [if_pos q]
    have key : WN (wrL 4000 (wrL 4000 w (inB (dp + 1))) (nmT T d)) ([32, 123] ++ [10]) υ (b1 (x_X12_putWord U 1101 8315 υ) fun σ68 => x_X12_put 1101 10 σ68) := by
      rw [← bw1]
      refine WN_b1 (N_putWord hU4 E3.2.2) (fun ω o2 o3 => ?_)
      exact N_put1 (c := 10) o2
    obtain ⟨φ, v1, v2, v3⟩ := key
    have v1' : ∀ (F : SG → Option SG), (b1 (x_X12_putWord U 1101 8315 υ) fun σ68 => b1 (x_X12_put 1101 10 σ68) F) = F φ := by
      intro F
      cases h : x_X12_putWord U 1101 8315 υ with
      | none => rw [h] at v1; cases v1
      | some ψ =>
        rw [h] at v1
        have v1'' : x_X12_put 1101 10 ψ = some φ := v1
        rw [b1_eq, v1'', b1_eq]
    have E4 := PS_fw E3 v3 v2
    have f4' := fP_trans f3 v3
    have T4 := TP_P T1 f4'
    obtain ⟨s1, s2, s3, s4⟩ := T4
    obtain ⟨⟨w1, w2, w3, _, d', w8, w9, w10⟩, _⟩ := E4.2.1.2.1.2.2 i' r hr
    rw [p2, hd] at w8
    cases w8
    rw [if_pos q] at w10
    rw [v1', w10, b1_id]
    unfold x_X12_goInto
    rw [s1, ix_in (by omega) (by decide), sb_eq, sI_o (Or.inl (by decide)), s1, ix_in (by omega) (by decide), sb_eq, sI_o (Or.inl (by decide)), sI_o (Or.inl (by decide)), s1, ix_in (by omega) (by decide), sb_eq, sb_eq, sI_o (Or.inl (by decide)), sI_o (Or.inl (by decide)), sI_o (Or.inl (by decide)), s1, nI_1]
    refine ⟨_, rfl, fP_trans (fP_trans F1 (Pfw_PPr f4')) (fP_trans (fP_trans (fP_trans (fP_u (by unfold PPr; omega)) (fP_u (by unfold PPr; omega))) (fP_u (by unfold PPr; omega))) (fP_u (by unfold PPr; omega))), fun j hj => ⟨?_, ?_, ?_⟩, fun z => absurd q z, fun _ => ⟨?_, ⟨sI_s _ _ _ _, ?_, ?_, ?_⟩, ?_, ?_, ?_⟩⟩
    · rw [sI_o (Or.inl (by decide)), sI_o (Or.inl (by decide)), sI_o (Or.inl (by decide)), sI_o (Or.inr (by omega))]
      exact ((f4' 1176 j (by unfold Pfw; omega)).1).trans (L1 j hj).1
    · rw [sI_o (Or.inl (by decide)), sI_o (Or.inr (by omega)), sI_o (Or.inl (by decide)), sI_o (Or.inl (by decide))]
      exact ((f4' 1178 j (by unfold Pfw; omega)).1).trans (L1 j hj).2.1
    · rw [sI_o (Or.inl (by decide)), sI_o (Or.inl (by decide)), sI_o (Or.inr (by omega)), sI_o (Or.inl (by decide))]
      exact ((f4' 1179 j (by unfold Pfw; omega)).1).trans (L1 j hj).2.2
    · rw [wrL_app, wrL_app]
      exact PS_uI (PS_uI (PS_uI (PS_uI E4 (by omega)) (by omega)) (by omega)) (by omega)
    · rw [sI_o (Or.inl (by decide)), sI_o (Or.inl (by decide)), sI_o (Or.inl (by decide)), sI_s]
    · rw [sI_o (Or.inl (by decide)), sI_o (Or.inl (by decide)), sI_s]; rfl
    · rw [sI_o (Or.inl (by decide)), sI_s]; rfl
    · rw [sI_o (Or.inl (by decide)), sI_o (Or.inl (by decide)), sI_o (Or.inl (by decide)), sI_o (Or.inr (by omega))]; exact s2
    · rw [sI_o (Or.inl (by decide)), sI_o (Or.inl (by decide)), sI_o (Or.inr (by omega)), sI_o (Or.inl (by decide))]; exact s3
    · rw [sI_o (Or.inl (by decide)), sI_o (Or.inr (by omega)), sI_o (Or.inl (by decide)), sI_o (Or.inl (by decide))]; exact s4
  · rw [if_neg q]
    have key : WN (wrL 4000 (wrL 4000 w (inB (dp + 1))) (nmT T d)) ([58, 32] ++ (pVl' T D d (itR T D d r) ++ [10])) υ (b1 (x_X12_putWord U 1101 14880 υ) fun σ78 => b1 (x_X12_putPlain U 1101 (nI i') σ78) fun σ80 => b1 (x_X12_put 1101 10 σ80) fun σ82 => some σ82) := by
      rw [← bw2]
      refine WN_b1 (N_putWord hU4 E3.2.2) (fun ω o2 o3 => ?_)
      refine WN_b1 (N_putPlain hU4 hs hg (PS_fw E3 o3 o2) hr p2 hd h2 q) (fun φ v2 v3 => ?_)
      rw [b1_id]
      exact N_put1 (c := 10) v2
    obtain ⟨φ, v1, v2, v3⟩ := key
    have f4' := fP_trans f3 v3
    refine ⟨φ, v1, fP_trans F1 (Pfw_PPr f4'), fun j hj => ⟨?_, ?_, ?_⟩, fun _ => ⟨?_, TP_P T1 f4'⟩, fun z => absurd z q⟩
    · exact ((f4' 1176 j (by unfold Pfw; omega)).1).trans (L1 j hj).1
    · exact ((f4' 1178 j (by unfold Pfw; omega)).1).trans (L1 j hj).2.1
    · exact ((f4' 1179 j (by unfold Pfw; omega)).1).trans (L1 j hj).2.2
    · have eI : pIt T D (dp + 1) rc d (itR T D d r) = inB (dp + 1) ++ (nmT T d ++ ([58, 32] ++ (pVl' T D d (itR T D d r) ++ [10]))) := by unfold pIt pVl'; rw [if_neg q]
      rw [eI, wrL_app, wrL_app]
      exact PS_fw E3 v3 v2
theorem N_prows {U s dp n k f : Nat} {T : List Nat} {D : List Dc} {A : AV} {H : Rh} {K : SG → Option (Int32 × SG)} {rc : Nat → List Nat} {cst : Nat → Nat} {d : Dc} (hU4 : 4000 < U) (hs : s < 2) (hg : GSc T D) (hM : isM D (aN A n)) (hal : al T D A n = true) (hn : n < aC A) (hdp : dp < 20) (hk : (chF D (aN A n))[k]? = some f) (hd : isF D (aN A n) f d)
    (hrc : ∀ m ∈ chN T D A n, ∀ (τ : SG) (w' : List Nat × Int32) (U1 : Nat), PS τ s T D A H w' → TP τ (dp + 1) m 0 0 → cst m < U1 → PL U s T D A H K (dp + 1) w' (rc m ++ clB (dp + 1)) (cst m) (fun υ => sI υ 1101 106 = nI (dp + 1)) U1 τ) : ∀ (j i : Nat) (σ : SG) (w : List Nat × Int32) (U1 : Nat), i + j = (zR H).length → PS σ s T D A H w → TP σ dp n k i → 1 + (((((zR H).drop i).filter (pRw n f)).map (itR T D d)).map (cIt T D cst d)).sum < U1 → PL U s T D A H K dp w (((((zR H).drop i).filter (pRw n f)).map (itR T D d)).flatMap (pIt T D (dp + 1) rc d)) (1 + (((((zR H).drop i).filter (pRw n f)).map (itR T D d)).map (cIt T D cst d)).sum) (fun τ => TP τ dp n (k + 1) 0) U1 σ := by
  intro j
  induction j using Nat.strongRecOn with
  | ind j ih =>
    intro i σ w U1 hij hE ht hu
    obtain ⟨V, rfl⟩ : ∃ V, U1 = V + 1 := ⟨U1 - 1, by omega⟩
    have hR7 := hE.2.1.2.1.2.1
    have hk31 : k < 2 ^ 31 := by
      have h1 := (List.getElem?_eq_some_iff.mp hk).1
      have h2 := chF_len (a := aN A n) hg.2.1
      omega
    obtain ⟨stn, sts⟩ := (N_pstep (U := U) hU4 hs hg hE hM hn hdp hk31 (show i ≤ (zR H).length by omega) ht).2 f d hk hd
    obtain ⟨fn, fs⟩ := ff_rest (p := pRw n f) (R := zR H) j i hij
    cases hff : ff (pRw n f) ((zR H).drop i) i with
    | none =>
      rw [fn hff]
      obtain ⟨t1, t2, t3, t4⟩ := ht
      refine ⟨_, V, L39_step ⟨t1, t2, t3, t4⟩ hdp (stn hff), by show V + 1 ≤ V + (1 + 0); omega, PS_uI (PS_uI hE (by omega)) (by omega), ⟨?_, ?_, ?_, sI_s _ _ _ _⟩, fP_trans (fP_u (by unfold PPr; omega)) (fP_u (by unfold PPr; omega)), fun j hj => ⟨?_, ?_, ?_⟩⟩
      · rw [sI_o (Or.inl (by decide)), sI_o (Or.inl (by decide))]; exact t1
      · rw [sI_o (Or.inl (by decide)), sI_o (Or.inl (by decide))]; exact t2
      · rw [sI_o (Or.inl (by decide)), sI_s]
      · rw [sI_o (Or.inl (by decide)), sI_o (Or.inl (by decide))]
      · rw [sI_o (Or.inr (by omega)), sI_o (Or.inl (by decide))]
      · rw [sI_o (Or.inl (by decide)), sI_o (Or.inr (by omega))]
    | some i' =>
      obtain ⟨r, r1, r2, r3, r4, r5⟩ := fs i' hff
      rw [r5, List.map_cons, List.map_cons, List.sum_cons] at hu
      rw [r5, List.map_cons, List.flatMap_cons, List.map_cons, List.sum_cons]
      obtain ⟨p1, p2⟩ := pRw_of r2
      have hA : rA r = true := by have := r2; unfold pRw at this; rw [Bool.and_eq_true] at this; exact this.2
      obtain ⟨τ, t1, t2, t3, t4, t5⟩ := PS_row (U := U) (rc := rc) hU4 hs hg hE hdp ht r1 r2 hd.1 hd.2.1
      have stp' : x_X12_printStep U 1101 σ = some τ := by rw [sts i' (by omega) hff]; exact t1
      by_cases q13 : fty T D d = 13
      · have hit := (VS_it hE.2.1 (List.mem_of_getElem? r1) hA p1 (show D[rF r]? = some d by rw [p2]; exact hd.1)).2.2
        rw [p2] at hit
        have hkc : rK r ∈ chN T D A n := chN_mem.mpr ⟨f, (chF_mem hg hM).mpr ⟨d, hd⟩, by unfold isT; rw [hd.1]; exact decide_eq_true q13, _, hit, by unfold itR; rw [if_pos q13]⟩
        obtain ⟨s1, s2, s3, s4, s5⟩ := t5 q13
        have ecI : cIt T D cst d (itR T D d r) = 1 + cst (rK r) := by unfold cIt itR; rw [if_pos q13, if_pos q13]
        rw [ecI] at hu ⊢
        obtain ⟨υ, U2, u1, u2, u3, u4, u5, u6⟩ := hrc _ hkc τ _ V s1 s2 (by omega)
        have T2 : TP υ dp n k (i' + 1) := ⟨u4, (u6 dp (by omega)).1.trans s3, (u6 dp (by omega)).2.2.trans s4, (u6 dp (by omega)).2.1.trans s5⟩
        obtain ⟨ω, U3, o1, o2, o3, o4, o5, o6⟩ := ih ((zR H).length - (i' + 1)) (by omega) (i' + 1) υ _ U2 (by omega) u3 T2 (by omega)
        refine ⟨ω, U3, by rw [L39_step ht hdp stp', u1, o1], by omega, ?_, o4, fP_trans t2 (fP_trans u5 o5), fun x hx => ⟨?_, ?_, ?_⟩⟩
        · have eI : pIt T D (dp + 1) rc d (itR T D d r) = (inB (dp + 1) ++ (nmT T d ++ [32, 123, 10])) ++ (rc (rK r) ++ clB (dp + 1)) := by
            unfold pIt itR clB
            rw [if_pos q13, if_pos q13, if_neg (by omega)]
            simp only [List.append_assoc]
          rw [eI, wrL_app, wrL_app (L := inB (dp + 1) ++ (nmT T d ++ [32, 123, 10]))]
          exact o3
        · exact (o6 x hx).1.trans ((u6 x (by omega)).1.trans (t3 x hx).1)
        · exact (o6 x hx).2.1.trans ((u6 x (by omega)).2.1.trans (t3 x hx).2.1)
        · exact (o6 x hx).2.2.trans ((u6 x (by omega)).2.2.trans (t3 x hx).2.2)
      · obtain ⟨s1, s2⟩ := t4 q13
        have ecI : cIt T D cst d (itR T D d r) = 1 := by unfold cIt; rw [if_neg q13]
        rw [ecI] at hu ⊢
        obtain ⟨ω, U3, o1, o2, o3, o4, o5, o6⟩ := ih ((zR H).length - (i' + 1)) (by omega) (i' + 1) τ _ V (by omega) s1 s2 (by omega)
        refine ⟨ω, U3, by rw [L39_step ht hdp stp', o1], by omega, by rw [wrL_app]; exact o3, o4, fP_trans t2 o5, fun x hx => ⟨?_, ?_, ?_⟩⟩
        · exact (o6 x hx).1.trans (t3 x hx).1
        · exact (o6 x hx).2.1.trans (t3 x hx).2.1
        · exact (o6 x hx).2.2.trans (t3 x hx).2.2
