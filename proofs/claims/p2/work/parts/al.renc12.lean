/-! ===== the reference encodes: a message ===== -/
def cFd (T : List Nat) (D : List Dc) (A : AV) (cst : Nat → Nat) (n f : Nat) : Nat := match D[f]? with
  | none => 0
  | some d => if dPa (lkC T D) T (wl T 701 0) D d then 1 else 1 + ((aE A n f).map (cIt T D cst d)).sum
theorem N_eflds {U s dp n : Nat} {T : List Nat} {D : List Dc} {A : AV} {H : Rh} {z : Nat → Nat} {cst : Nat → Nat} (hU4 : 4000 < U) (hs : s < 2) (hg : GSc T D) (hO : VO T D A) (hM : isM D (aN A n)) (hal : al T D A n = true) (hn : n < aC A) (hdp : dp < 20)
    (hch : ∀ m ∈ chN T D A n, al T D A m = true ∧ m < 400 ∧ (eMf T D A z m).length < 2 ^ 31)
    (hrc : ∀ m ∈ chN T D A n, ∀ (τ : SG) (w' : List Nat × Int32) (U1 : Nat), ES τ s T D A H z w' → TP τ (dp + 1) m 0 0 → cst m < U1 → EL U s T D A H z (dp + 1) w' (eMf T D A z m) (cst m) (fun υ => sI υ 1101 106 = nI (dp + 1)) U1 τ) : ∀ (j k : Nat) (σ : SG) (w : List Nat × Int32) (U1 : Nat), k + j = (chF D (aN A n)).length → ES σ s T D A H z w → TP σ dp n k 0 → (((chF D (aN A n)).drop k).map (cFd T D A cst n)).sum + 1 < U1 → EL U s T D A H z dp w (((chF D (aN A n)).drop k).flatMap (eFd T D A (eMf T D A z) n) ++ aU A n) ((((chF D (aN A n)).drop k).map (cFd T D A cst n)).sum + 1) (fun τ => sI τ 1101 106 = nI dp) U1 σ := by
  have hFl := chF_len (a := aN A n) hg.2.1
  intro j
  induction j with
  | zero =>
    intro k σ w U1 hk hE ht hu
    obtain ⟨V, rfl⟩ : ∃ V, U1 = V + 1 := ⟨U1 - 1, by omega⟩
    have h0 : (chF D (aN A n))[k]? = none := List.getElem?_eq_none (by omega)
    have stp := (N_estep (U := U) hU4 hs hg hE hM hn hdp (by omega) (Nat.zero_le _) ht).1 h0
    obtain ⟨τ, t1, t2, t3, t4, t5⟩ := S_end (U := U) hU4 hE hal hn hdp ht
    rw [List.drop_eq_nil_of_le (by omega), List.flatMap_nil, List.nil_append]
    exact ⟨τ, V, L43_step ht hdp (by rw [stp]; exact t1), by show V + 1 ≤ V + (0 + 1); omega, t2, t3, t4, fun j _ => t5 j⟩
  | succ j ih =>
    intro k σ w U1 hk hE ht hu
    have hkl : k < (chF D (aN A n)).length := by omega
    have hkf := List.getElem?_eq_getElem hkl
    obtain ⟨d, hd⟩ := (chF_mem hg hM).mp (List.getElem_mem hkl)
    rw [List.drop_eq_getElem_cons hkl, List.map_cons, List.sum_cons] at hu
    rw [List.drop_eq_getElem_cons hkl, List.map_cons, List.sum_cons, List.flatMap_cons, List.append_assoc]
    have ec : cFd T D A cst n (chF D (aN A n))[k] = if dPa (lkC T D) T (wl T 701 0) D d then 1 else 1 + ((aE A n (chF D (aN A n))[k]).map (cIt T D cst d)).sum := by unfold cFd; rw [hd.1]
    have ee : eFd T D A (eMf T D A z) n (chF D (aN A n))[k] = if dPa (lkC T D) T (wl T 701 0) D d then eRw T D d (aE A n (chF D (aN A n))[k]) else (aE A n (chF D (aN A n))[k]).flatMap (eIt T D (eMf T D A z) d) := by unfold eFd; rw [hd.1]
    -- this field
    have one : EL U s T D A H z dp w (eFd T D A (eMf T D A z) n (chF D (aN A n))[k]) (cFd T D A cst n (chF D (aN A n))[k]) (fun τ => TP τ dp n (k + 1) 0) U1 σ := by
      rw [ec] at hu
      rw [ee, ec]
      cases hpk : dPa (lkC T D) T (wl T 701 0) D d with
      | true =>
        obtain ⟨V, rfl⟩ : ∃ V, U1 = V + 1 := ⟨U1 - 1, by omega⟩
        rw [if_pos (show true = true from rfl), if_pos (show true = true from rfl)]
        have stp := ((N_estep (U := U) hU4 hs hg hE hM hn hdp (by omega) (Nat.zero_le _) ht).2 _ d hkf hd).2 hpk
        obtain ⟨τ, t1, t2, t3, t4, t5⟩ := S_pack (U := U) hU4 hs hg hE hO hal hn hdp ht hd hpk
        exact ⟨τ, V, L43_step ht hdp (by rw [stp]; exact t1), Nat.le_refl _, t2, t3, t4, t5⟩
      | false =>
        rw [hpk, if_neg (show ¬ false = true by decide)] at hu
        rw [if_neg (show ¬ false = true by decide), if_neg (show ¬ false = true by decide)]
        have hEf := (hE.2.1.2.2.2.2.2.2.1 n hal).1 _ d hd
        have key := N_erows (U := U) (cst := cst) hU4 hs hg hO hM hal hn hdp hkf hd hpk hch hrc (zR H).length 0 σ w U1 (by omega) hE ht (by rw [List.drop_zero, hEf]; omega)
        rw [List.drop_zero, hEf] at key
        exact key
    obtain ⟨τ, U2, t1, t2, t3, t4, t5, t6⟩ := one
    obtain ⟨υ, U3, u1, u2, u3, u4, u5, u6⟩ := ih (k + 1) τ _ U2 (by omega) t3 t4 (by omega)
    refine ⟨υ, U3, by rw [t1, u1], by omega, by rw [wrL_app]; exact u3, u4, fP_trans t5 u5, fun x hx => ⟨?_, ?_, ?_⟩⟩
    · exact (u6 x hx).1.trans (t6 x hx).1
    · exact (u6 x hx).2.1.trans (t6 x hx).2.1
    · exact (u6 x hx).2.2.trans (t6 x hx).2.2
