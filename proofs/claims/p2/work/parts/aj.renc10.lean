/-! ===== the reference encodes a packed row ===== -/
theorem S_pack {U s dp n k i f : Nat} {σ : SG} {T : List Nat} {D : List Dc} {A : AV} {H : Rh} {z : Nat → Nat} {w : List Nat × Int32} {d : Dc} (hU4 : 4000 < U) (hs : s < 2) (hg : GSc T D) (hE : ES σ s T D A H z w) (hO : VO T D A) (hal : al T D A n = true) (hn : n < aC A) (hdp : dp < 20) (ht : TP σ dp n k i) (hd : isF D (aN A n) f d) (hpk : dPa (lkC T D) T (wl T 701 0) D d = true) : ∃ τ, (b1 (x_X12_putPacked U 1101 (nI n) (nI (fx D s f)) σ) fun σ125 => x_X12_encodeStep_98 U 1101 (nI dp) (nI (fx D s f)) (-1) σ125) = some τ ∧ ES τ s T D A H z (wrL 4000 w (eRw T D d (aE A n f))) ∧ TP τ dp n (k + 1) 0 ∧ fP PEs σ τ ∧ ∀ j, j < dp → sI τ 1176 j = sI σ 1176 j ∧ sI τ 1178 j = sI σ 1178 j ∧ sI τ 1179 j = sI σ 1179 j := by
  have hV := hE.2.1
  have hc := hV.2.2.2.2.1
  have hR7 := hV.2.1.2.1
  have hRn : ∀ r ∈ zR H, rN r < 400 := fun r hr => by have := (hV.2.2.2.2.2.1 r hr).1; omega
  have hpk' := hpk
  unfold dPa at hpk'
  rw [Bool.and_eq_true, Bool.and_eq_true, Bool.and_eq_true] at hpk'
  have hnm : nmr (fty T D d) = true := hpk'.1.1.2
  have q13 : fty T D d ≠ 13 := fun y => by rw [y] at hnm; cases hnm
  have h4 : ∀ r ∈ zR H, pRw n f r = true → okV4 (fty T D d) (rV r) := fun r hr hp => by
    obtain ⟨p1, p2⟩ := pRw_of hp
    unfold pRw at hp
    rw [Bool.and_eq_true] at hp
    exact VS_ok4 hV hO hr hp.2 p1 (by rw [p2]; exact hd.1)
  have hb : (pkB T D d ((zR H).filter (pRw n f))).length < 2 ^ 31 := by
    have : ∀ (L : List Rg), (pkB T D d L).length ≤ 10 * L.length := by
      intro L
      induction L with
      | nil => exact Nat.le_refl _
      | cons a L ih =>
        unfold pkB at ih ⊢
        rw [List.flatMap_cons, List.length_append, List.length_cons]
        have := nuB_le (fty T D d) (rV a)
        omega
    have h1 := this ((zR H).filter (pRw n f))
    have h2 := List.length_filter_le (pRw n f) (zR H)
    omega
  obtain ⟨τ, t1, t2, t3⟩ := N_putPacked (U := U) hU4 hs hg hE.1 hV.2.1 (by omega) hRn hd.1 hd.2.1 hnm h4 hb hE.2.2.2
  have hE' := (hV.2.2.2.2.2.2.1 n hal).1 f d hd
  have hpb : pkB T D d ((zR H).filter (pRw n f)) = (aE A n f).flatMap (fun it => nuB (fty T D d) it.1) := by
    rw [← hE', List.flatMap_map]
    unfold pkB
    apply flatMap_congr'
    intro r _
    unfold itR
    rw [if_neg q13, hnm, if_pos rfl]
  have ew : pkW T D d ((zR H).filter (pRw n f)) = eRw T D d (aE A n f) := by
    unfold pkW
    rw [hpb]
    cases aE A n f with
    | nil => rfl
    | cons it E =>
      rw [if_pos (show 0 < ((it :: E).flatMap (fun it => nuB (fty T D d) it.1)).length by rw [List.flatMap_cons, List.length_append]; have := nuB_pos (fty T D d) it.1; omega)]
      rfl
  rw [ew] at t2
  have E1 := ES_fw hE t3 t2
  obtain ⟨υ, u1, u2, u3, u4, u5⟩ := S_next (U := U) (v3 := nI (fx D s f)) E1 hdp (TP_fw ht t3)
  rw [t1, b1_eq]
  refine ⟨υ, u1, u2, u3, fP_trans (fw_PEs t3) u4, fun j hj => ⟨?_, ?_, ?_⟩⟩
  · exact (u5 j hj).1.trans (fw_I t3 (by decide) (by omega)).1
  · exact (u5 j hj).2.1.trans (fw_I t3 (by decide) (by omega)).1
  · exact (u5 j hj).2.2.trans (fw_I t3 (by decide) (by omega)).1
