/-! ===== the reference measures: the sums ===== -/
theorem sum_swap {a : Nat → Nat → Nat} (F : List Nat) : ∀ (G : List Nat), (G.map (fun x => (F.map (fun f => a x f)).sum)).sum = (F.map (fun f => (G.map (fun x => a x f)).sum)).sum := by
  intro G
  induction G with
  | nil => exact (sum_zero F).symm
  | cons x G ih =>
    rw [List.map_cons, List.sum_cons, ih, ← sum_add]
    rfl
theorem sum_same {h : Nat → Nat} {F G : List Nat} (hF : F.Nodup) (hG : G.Nodup) (h1 : ∀ x ∈ G, x ∉ F → h x = 0) (h2 : ∀ x ∈ F, x ∈ G) : (G.map h).sum = (F.map h).sum := by
  have e1 : G.map h = G.map (fun x => (F.map (fun f => if f = x then h x else 0)).sum) := by
    apply List.map_congr_left
    intro x hx
    rw [sum_ind F hF]
    split
    · rfl
    · rename_i q; exact h1 x hx q
  rw [e1, sum_swap]
  congr 1
  apply List.map_congr_left
  intro f hf
  have e2 : G.map (fun x => if f = x then h x else 0) = G.map (fun x => if x = f then h f else 0) := by
    apply List.map_congr_left
    intro x _
    by_cases q : x = f
    · rw [if_pos q.symm, if_pos q, q]
    · rw [if_neg (fun z => q z.symm), if_neg q]
  rw [e2, sum_ind G hG, if_pos (h2 f hf)]
/-- rows, field by field -/
theorem sum_partR {L : List Rg} {g : Rg → Nat} {F : List Nat} (hF : F.Nodup) (h1 : ∀ r ∈ L, rF r ∈ F) : (L.map g).sum = (F.map (fun f => ((L.filter (fun r => decide (rF r = f))).map g).sum)).sum := by
  induction L with
  | nil => exact (sum_zero F).symm
  | cons r L ih =>
    have c1 : ∀ f, (((r :: L).filter (fun r => decide (rF r = f))).map g).sum = (if f = rF r then g r else 0) + ((L.filter (fun r => decide (rF r = f))).map g).sum := fun f => by
      rw [List.filter_cons]
      by_cases q : rF r = f
      · rw [if_pos (decide_eq_true q), if_pos q.symm, List.map_cons, List.sum_cons]
      · rw [if_neg (by rw [decide_eq_true_iff]; exact q), if_neg (fun z => q z.symm), Nat.zero_add]
    rw [show (fun f => (((r :: L).filter (fun r => decide (rF r = f))).map g).sum) = fun f => (if f = rF r then g r else 0) + ((L.filter (fun r => decide (rF r = f))).map g).sum from funext c1, sum_add, sum_ind F hF, if_pos (h1 r (List.mem_cons_self ..)), List.map_cons, List.sum_cons, ih (fun x hx => h1 x (List.mem_cons_of_mem _ hx))]
theorem vb_pos : ∀ (j u : Nat), 0 < (vb j u).length := by
  intro j u
  cases j with
  | zero => exact Nat.one_pos
  | succ j =>
    rw [vb]
    split
    · exact Nat.one_pos
    · rw [List.length_cons]; omega
theorem nuB_pos (t : Nat) (x : Int64) : 0 < (nuB t x).length := by
  unfold nuB
  split
  · rw [fxB_len]; decide
  · split
    · rw [fxB_len]; decide
    · split
      · exact vb_pos _ _
      · exact vb_pos _ _
theorem flD_mem {D : List Dc} {i : Nat} : i ∈ flD D ↔ ∃ d, D[i]? = some d ∧ dK d = 2 := by
  unfold flD
  rw [List.mem_filter, List.mem_range, decide_eq_true_iff]
  constructor
  · rintro ⟨h1, h2⟩
    have := List.getElem?_eq_getElem h1
    rw [knd_some this] at h2
    exact ⟨_, this, h2⟩
  · rintro ⟨d, h1, h2⟩
    exact ⟨(List.getElem?_eq_some_iff.mp h1).1, by rw [knd_some h1]; exact h2⟩
theorem meas_sum {σ : SG} {s n : Nat} {T : List Nat} {D : List Dc} {A : AV} {H : Rh} {rc : Nat → List Nat} (hg : GSc T D) (h : VS σ s T D A H) (hal : al T D A n = true) (hM : isM D (aN A n)) : (((zR H).filter (ofN n)).map (szR T D rc)).sum + ((flD D).map (szP T D (zR H) n (aN A n))).sum + (((zU H).filter (fun u => decide (u.1 = n))).map (fun u => u.2.length)).sum = ((chF D (aN A n)).flatMap (eFd T D A rc n) ++ aU A n).length := by
  obtain ⟨k1, k2⟩ := h.2.2.2.2.2.2.1 n hal
  have e3 : (((zU H).filter (fun u => decide (u.1 = n))).map (fun u => u.2.length)).sum = (aU A n).length := by
    rw [← k2, List.length_flatten, List.map_map]
    rfl
  have e2 : ((flD D).map (szP T D (zR H) n (aN A n))).sum = ((chF D (aN A n)).map (szP T D (zR H) n (aN A n))).sum := by
    apply sum_same (chD_nodup _) (List.Nodup.sublist List.filter_sublist List.nodup_range)
    · intro i hi hni
      obtain ⟨d, hd, h2⟩ := flD_mem.mp hi
      unfold szP
      rw [hd]
      simp only
      rw [if_neg (fun z => hni ((chF_mem hg hM).mpr ⟨d, hd, h2, z.1⟩))]
    · intro f hf
      obtain ⟨d, hd⟩ := (chF_mem hg hM).mp hf
      exact flD_mem.mpr ⟨d, hd.1, hd.2.1⟩
  have e1 : (((zR H).filter (ofN n)).map (szR T D rc)).sum = ((chF D (aN A n)).map (fun f => (((zR H).filter (pRw n f)).map (szR T D rc)).sum)).sum := by
    rw [sum_partR (F := chF D (aN A n)) (chD_nodup _)]
    · congr 1
      apply List.map_congr_left
      intro f _
      rw [List.filter_filter]
      congr 2
      apply List.filter_congr
      intro r _
      unfold pRw ofN
      cases rA r <;> cases decide (rN r = n) <;> cases decide (rF r = f) <;> rfl
    · intro r hr
      obtain ⟨h1, h2⟩ := List.mem_filter.mp hr
      unfold ofN at h2
      rw [Bool.and_eq_true] at h2
      have hrn : rN r = n := of_decide_eq_true h2.2
      obtain ⟨_, d, o2, _⟩ := h.2.2.2.2.2.1 r h1
      rw [hrn] at o2
      exact (chF_mem hg hM).mpr ⟨d, o2⟩
  rw [e1, e2, e3, List.length_append, len_flatMap, ← sum_add]
  congr 2
  apply List.map_congr_left
  intro f hf
  obtain ⟨d, hd⟩ := (chF_mem hg hM).mp hf
  have hE := k1 f d hd
  have hrf : ∀ r ∈ (zR H).filter (pRw n f), szR T D rc r = if dPa (lkC T D) T (wl T 701 0) D d then 0 else (eIt T D rc d (itR T D d r)).length := fun r hr => by
    have := (pRw_of (List.mem_filter.mp hr).2).2
    unfold szR
    rw [this, hd.1]
  rw [List.map_congr_left hrf]
  unfold szP eFd
  rw [hd.1]
  simp only
  cases hpk : dPa (lkC T D) T (wl T 701 0) D d with
  | false =>
    rw [if_neg (show ¬ (dS d = some (aN A n) ∧ false = true) from fun z => by cases z.2), if_neg (show ¬ false = true by decide), ← hE, len_flatMap, List.map_map, Nat.add_zero]
    rfl
  | true =>
    have hpk' := hpk
    unfold dPa at hpk'
    rw [Bool.and_eq_true, Bool.and_eq_true, Bool.and_eq_true] at hpk'
    have hnm : nmr (fty T D d) = true := hpk'.1.1.2
    have q13 : fty T D d ≠ 13 := fun z => by rw [z] at hnm; cases hnm
    have z0 : ∀ (L : List Rg), (L.map (fun _ => 0)).sum = 0 := by intro L; induction L with | nil => rfl | cons a L ih => rw [List.map_cons, List.sum_cons, ih]
    rw [if_pos (show dS d = some (aN A n) ∧ true = true from ⟨hd.2.2, rfl⟩), if_pos (show true = true from rfl)]
    have e9 : ((zR H).filter (pRw n f)).map (fun r => if true = true then 0 else (eIt T D rc d (itR T D d r)).length) = ((zR H).filter (pRw n f)).map (fun _ => 0) := rfl
    rw [e9, z0, Nat.zero_add]
    have hpb : pkB T D d ((zR H).filter (pRw n f)) = (aE A n f).flatMap (fun it => nuB (fty T D d) it.1) := by
      rw [← hE, List.flatMap_map]
      unfold pkB
      apply flatMap_congr'
      intro r _
      unfold itR
      rw [if_neg q13, hnm, if_pos rfl]
    rw [hpb]
    cases aE A n f with
    | nil => rfl
    | cons it E =>
      rw [if_pos (show 0 < ((it :: E).flatMap (fun it => nuB (fty T D d) it.1)).length by rw [List.flatMap_cons, List.length_append]; have := nuB_pos (fty T D d) it.1; omega)]
      show _ = (tgB d 2 ++ lnB ((it :: E).flatMap (fun it => nuB (fty T D d) it.1))).length
      unfold lnB
      rw [List.length_append, List.length_append]
      omega
