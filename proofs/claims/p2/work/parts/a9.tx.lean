/-! ===== the bytes of a value that the reference holds ===== -/
theorem sum_ge {a : Nat} {v : Nat} : ∀ (F : List Nat), F.Nodup → (F.map (fun x => if x = a then v else 0)).sum ≤ v := by
  intro F hF
  rw [sum_ind F hF]
  split
  · exact Nat.le_refl _
  · exact Nat.zero_le _
/-- texts of reached messages are texts of rows -/
theorem tX_rows {σ : SG} {s : Nat} {T : List Nat} {D : List Dc} {A : AV} {H : Rh} (hg : GSc T D) (h : VR σ s T D A H) : tX T D A ≤ zT H := by
  have hnd : (alL T D A (aC A)).Nodup := List.Nodup.sublist (alL_lt _) List.nodup_range
  have hlt : ∀ n ∈ alL T D A (aC A), n < aC A := fun n hn => List.mem_range.mp ((alL_lt _).subset hn)
  have e0 : tX T D A = ((alL T D A (aC A)).map (fun n => ((its D A n).map (fun y => y.2.2.1.length)).sum)).sum + ((alL T D A (aC A)).map (fun n => (aU A n).length)).sum := by
    unfold tX tXn
    exact sum_add _ _ _
  have itsW : ∀ n, ((its D A n).map (fun y => y.2.2.1.length)).sum = ((chF D (aN A n)).map (fun f => ((aE A n f).map (fun it => it.2.1.length)).sum)).sum := fun n => by
    unfold its
    generalize chF D (aN A n) = F
    induction F with
    | nil => rfl
    | cons f F ih =>
      rw [List.flatMap_cons, List.map_append, List.sum_append, ih, List.map_cons, List.sum_cons, List.map_map]
      rfl
  -- the rows
  have rows : ((alL T D A (aC A)).map (fun n => ((its D A n).map (fun y => y.2.2.1.length)).sum)).sum ≤ ((zR H).map (fun r => (rT r).length)).sum := by
    have e1 : ((alL T D A (aC A)).map (fun n => ((its D A n).map (fun y => y.2.2.1.length)).sum)).sum ≤ ((alL T D A (aC A)).map (fun n => ((chF D (aN A n)).map (fun f => (((zR H).filter (pRw n f)).map (fun r => (rT r).length)).sum)).sum)).sum := by
      apply sum_le
      intro n hn
      rw [itsW]
      apply sum_le
      intro f hf
      obtain ⟨d, hd⟩ := (chF_mem hg (h.2.2.2.2.1.2.2.2 n (hlt n hn)).1).mp hf
      rw [← (h.2.2.2.2.2.2 n (hlt n hn)).1 f d hd, List.map_map]
      apply sum_le
      intro r _
      show (itR T D d r).2.1.length ≤ (rT r).length
      unfold itR
      split
      · exact Nat.zero_le _
      · split
        · exact Nat.zero_le _
        · exact Nat.le_refl _
    refine Nat.le_trans e1 ?_
    generalize zR H = R
    induction R with
    | nil =>
      have : ∀ n, ((chF D (aN A n)).map (fun f => ((([] : List Rg).filter (pRw n f)).map (fun r => (rT r).length)).sum)).sum = 0 := fun n => sum_zero _
      rw [show (fun n => ((chF D (aN A n)).map (fun f => ((([] : List Rg).filter (pRw n f)).map (fun r => (rT r).length)).sum)).sum) = fun _ => 0 from funext this, sum_zero]
      exact Nat.zero_le _
    | cons r R ih =>
      have c1 : ∀ n f, (((r :: R).filter (pRw n f)).map (fun r => (rT r).length)).sum ≤ (if n = rN r then (if f = rF r then (rT r).length else 0) else 0) + ((R.filter (pRw n f)).map (fun r => (rT r).length)).sum := fun n f => by
        rw [List.filter_cons]
        cases hp : pRw n f r with
        | false => rw [if_neg (show ¬ false = true by decide)]; omega
        | true =>
          obtain ⟨q1, q2⟩ := pRw_of hp
          rw [if_pos (show true = true from rfl), if_pos q1.symm, if_pos q2.symm, List.map_cons, List.sum_cons]
          exact Nat.le_refl _
      have c2 : ∀ n, ((chF D (aN A n)).map (fun f => (((r :: R).filter (pRw n f)).map (fun r => (rT r).length)).sum)).sum ≤ (if n = rN r then (rT r).length else 0) + ((chF D (aN A n)).map (fun f => ((R.filter (pRw n f)).map (fun r => (rT r).length)).sum)).sum := fun n => by
        refine Nat.le_trans (sum_le _ (fun f _ => c1 n f)) ?_
        rw [sum_add]
        apply Nat.add_le_add_right
        by_cases q1 : n = rN r
        · rw [if_pos q1]
          have := sum_ge (a := rF r) (v := (rT r).length) (chF D (aN A n)) (chD_nodup _)
          refine Nat.le_trans (Nat.le_of_eq ?_) this
          congr 1
          apply List.map_congr_left
          intro f _
          rw [if_pos q1]
        · rw [if_neg q1]
          rw [show (fun (f : Nat) => if n = rN r then (if f = rF r then (rT r).length else 0) else 0) = fun _ => 0 from funext (fun f => by rw [if_neg q1]), sum_zero]
          exact Nat.le_refl _
      refine Nat.le_trans (sum_le _ (fun n _ => c2 n)) ?_
      rw [sum_add, List.map_cons, List.sum_cons]
      have := sum_ge (a := rN r) (v := (rT r).length) _ hnd
      omega
  -- the unknown fields
  have unks : ((alL T D A (aC A)).map (fun n => (aU A n).length)).sum ≤ ((zU H).map (fun u => u.2.length)).sum := by
    have e1 : (alL T D A (aC A)).map (fun n => (aU A n).length) = (alL T D A (aC A)).map (fun n => (((zU H).filter (fun u => decide (u.1 = n))).map (fun u => u.2.length)).sum) := by
      apply List.map_congr_left
      intro n hn
      rw [← (h.2.2.2.2.2.2 n (hlt n hn)).2, List.length_flatten, List.map_map]
      rfl
    rw [e1]
    generalize zU H = L
    induction L with
    | nil =>
      rw [show (fun n => ((([] : List (Nat × List Nat)).filter (fun u => decide (u.1 = n))).map (fun u => u.2.length)).sum) = fun _ => 0 from funext (fun n => rfl), sum_zero]
      exact Nat.zero_le _
    | cons u L ih =>
      have c1 : ∀ n, (((u :: L).filter (fun u => decide (u.1 = n))).map (fun u => u.2.length)).sum = (if n = u.1 then u.2.length else 0) + ((L.filter (fun u => decide (u.1 = n))).map (fun u => u.2.length)).sum := fun n => by
        rw [List.filter_cons]
        by_cases q : u.1 = n
        · rw [if_pos (decide_eq_true q), if_pos q.symm, List.map_cons, List.sum_cons]
        · rw [if_neg (by rw [decide_eq_true_iff]; exact q), if_neg (fun z => q z.symm), Nat.zero_add]
      rw [show (fun n => (((u :: L).filter (fun u => decide (u.1 = n))).map (fun u => u.2.length)).sum) = fun n => (if n = u.1 then u.2.length else 0) + ((L.filter (fun u => decide (u.1 = n))).map (fun u => u.2.length)).sum from funext c1, sum_add, List.map_cons, List.sum_cons]
      have := sum_ge (a := u.1) (v := u.2.length) _ hnd
      omega
  rw [e0]
  unfold zT
  omega
