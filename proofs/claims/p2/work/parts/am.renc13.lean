/-! ===== the reference's encode ===== -/
theorem cFd_congr {T : List Nat} {D : List Dc} {A : AV} {c c' : Nat → Nat} {n f : Nat} (hf : f ∈ chF D (aN A n)) (h : ∀ k ∈ chN T D A n, c k = c' k) : cFd T D A c n f = cFd T D A c' n f := by
  unfold cFd
  cases hd : D[f]? with
  | none => rfl
  | some d =>
    simp only
    split
    · rfl
    · congr 2
      apply List.map_congr_left
      intro it hit
      unfold cIt
      by_cases q : fty T D d = 13
      · rw [if_pos q, if_pos q, h _ (chN_mem.mpr ⟨f, hf, by unfold isT; rw [hd]; exact decide_eq_true q, it, hit, rfl⟩)]
      · rw [if_neg q, if_neg q]
def cMs (T : List Nat) (D : List Dc) (A : AV) : Nat → Nat → Nat
  | 0, _ => 0
  | j + 1, n => ((chF D (aN A n)).map (cFd T D A (cMs T D A j) n)).sum + 1
def cMf (T : List Nat) (D : List Dc) (A : AV) (z : Nat → Nat) (n : Nat) : Nat := cMs T D A (21 - z n) n
theorem cMf_eq {T : List Nat} {D : List Dc} {A : AV} {z : Nat → Nat} (h : AW T D A z) {n : Nat} (hn : n < aC A) : cMf T D A z n = ((chF D (aN A n)).map (cFd T D A (cMf T D A z) n)).sum + 1 := by
  obtain ⟨a, b⟩ := h.2.2.1 n hn
  unfold cMf
  rw [show 21 - z n = (20 - z n) + 1 by omega, cMs]
  congr 2
  apply List.map_congr_left
  intro f hf
  apply cFd_congr hf
  intro k hk
  rw [(b k hk).2.2, show 21 - (z n + 1) = 20 - z n by omega]
theorem N_emsg {U s : Nat} {T : List Nat} {D : List Dc} {A : AV} {H : Rh} {z : Nat → Nat} (hU4 : 4000 < U) (hs : s < 2) (hg : GSc T D) (hK : AK T D A) (hZ : AW T D A z) (hc351 : aC A ≤ 351) (hb : (eMf T D A z 0).length ≤ 3900) : ∀ (j dp n : Nat) (σ : SG) (w : List Nat × Int32) (U1 : Nat), dp + j = 20 → z n = dp + 1 → al T D A n = true → ES σ s T D A H z w → TP σ dp n 0 0 → cMf T D A z n < U1 → EL U s T D A H z dp w (eMf T D A z n) (cMf T D A z n) (fun τ => sI τ 1101 106 = nI dp) U1 σ := by
  obtain ⟨hO, _, hM⟩ := hK
  have hlt : ∀ n, al T D A n = true → n < aC A := fun n hn => List.mem_range.mp ((alL_lt _).subset (of_decide_eq_true hn))
  intro j
  induction j with
  | zero =>
    intro dp n σ w U1 hj hz hal
    have := (hZ.2.2.1 n (hlt n hal)).1
    omega
  | succ j ih =>
    intro dp n σ w U1 hj hz hal hE ht hu
    have hn := hlt n hal
    rw [cMf_eq hZ hn] at hu ⊢
    rw [eMf_eq hZ hn]
    have key := N_eflds (U := U) (dp := dp) (cst := cMf T D A z) hU4 hs hg hO (hM n hn) hal hn (by omega) (fun m hm => by
      obtain ⟨a1, a2, a3⟩ := al_child hZ hal hm
      have := al_le hg hM hZ (m + 1) m (by omega) a1
      exact ⟨a1, by omega, by omega⟩) (fun m hm τ w' U1 hE' ht' hu' => by
      obtain ⟨a1, a2, a3⟩ := al_child hZ hal hm
      exact ih (dp + 1) m τ w' U1 (by omega) (by rw [((hZ.2.2.1 n hn).2 m hm).2.2, hz]) a1 hE' ht' hu') (chF D (aN A n)).length 0 σ w U1 (by omega) hE ht (by rw [List.drop_zero]; exact hu)
    rw [List.drop_zero] at key
    exact key
