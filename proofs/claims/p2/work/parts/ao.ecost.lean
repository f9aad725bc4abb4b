/-! ===== what encoding costs the reference ===== -/
def wC (D : List Dc) (A : AV) (n : Nat) : Nat := (its D A n).length + ((chF D (aN A n)).length + 1)
theorem cFd_le {T : List Nat} {D : List Dc} {A : AV} {cst : Nat → Nat} {n f : Nat} : cFd T D A cst n f ≤ 1 + ((aE A n f).map (fun it => 1 + if isT T D f then cst it.2.2 else 0)).sum := by
  unfold cFd
  cases hd : D[f]? with
  | none => exact Nat.zero_le _
  | some d =>
    have hT : isT T D f = decide (fty T D d = 13) := by unfold isT; rw [hd]
    simp only
    split
    · omega
    · apply Nat.add_le_add_left
      apply sum_le
      intro it _
      unfold cIt
      rw [hT]
      by_cases q : fty T D d = 13
      · rw [if_pos q, decide_eq_true q, if_pos rfl]; exact Nat.le_refl _
      · rw [if_neg q, decide_eq_false q, if_neg (by decide)]; exact Nat.le_refl _
theorem cMf_le {T : List Nat} {D : List Dc} {A : AV} {z : Nat → Nat} (h : AW T D A z) : ∀ (j n : Nat), n < aC A → z n + j = 21 → cMf T D A z n ≤ twf T D A (wC D A) z n := by
  intro j
  induction j with
  | zero => intro n hn hz; have := (h.2.2.1 n hn).1; omega
  | succ j ih =>
    intro n hn hz
    rw [cMf_eq h hn, twf_eq h hn]
    have h1 := sum_le (f := cFd T D A (cMf T D A z) n) (g := fun f => 1 + ((aE A n f).map (fun it => 1 + if isT T D f then cMf T D A z it.2.2 else 0)).sum) (chF D (aN A n)) (fun f _ => cFd_le)
    have h0 : ((chF D (aN A n)).map (fun f => 1 + ((aE A n f).map (fun it => 1 + if isT T D f then cMf T D A z it.2.2 else 0)).sum)).sum = (chF D (aN A n)).length + ((its D A n).length + ((chN T D A n).map (cMf T D A z)).sum) := by
      rw [sum_add, sum_its (h := cMf T D A z)]
      congr 1
      generalize chF D (aN A n) = F
      induction F with
      | nil => rfl
      | cons a F ih => rw [List.map_cons, List.sum_cons, ih, List.length_cons]; omega
    have h3 : ((chN T D A n).map (cMf T D A z)).sum ≤ ((chN T D A n).map (twf T D A (wC D A) z)).sum := sum_le _ (fun c hc => by
      obtain ⟨_, b⟩ := h.2.2.1 n hn
      obtain ⟨b1, b2, b3⟩ := b c hc
      exact ih c b2 (by omega))
    have e0 : wC D A n = (its D A n).length + ((chF D (aN A n)).length + 1) := rfl
    omega
theorem e_cost {T : List Nat} {D : List Dc} {A : AV} {z : Nat → Nat} (hg : GSc T D) (h : AW T D A z) (hc : aC A ≤ 351) (hv : nV T D A ≤ 200) : cMf T D A z 0 + 1 < 70000 := by
  have h1 := cMf_le h 20 0 h.1 (by rw [h.2.1])
  rw [tw_al h] at h1
  have h2 : ((alL T D A (aC A)).map (wC D A)).sum = nV T D A + ((alL T D A (aC A)).map (fun n => (chF D (aN A n)).length + 1)).sum := by
    unfold nV wC
    exact sum_add _ _ _
  have h3 : ∀ (L : List Nat), (L.map (fun n => (chF D (aN A n)).length + 1)).sum ≤ 181 * L.length := by
    intro L
    induction L with
    | nil => exact Nat.le_refl _
    | cons n L ih =>
      rw [List.map_cons, List.sum_cons, List.length_cons]
      have := chF_len (a := aN A n) hg.2.1
      omega
  have h4 := h3 (alL T D A (aC A))
  have h5 := (alL_lt (T := T) (D := D) (A := A) (aC A)).length_le
  rw [List.length_range] at h5
  omega
