/-! ===== the reference's end of a value: its number of values, its bytes ===== -/
theorem sum_ind {v a : Nat} : ∀ (F : List Nat), F.Nodup → (F.map (fun x => if x = a then v else 0)).sum = if a ∈ F then v else 0 := by
  intro F
  induction F with
  | nil => intro _; rfl
  | cons f F ih =>
    intro h
    obtain ⟨n1, n2⟩ := List.nodup_cons.mp h
    rw [List.map_cons, List.sum_cons, ih n2]
    by_cases q : f = a
    · subst q
      rw [if_pos rfl, if_neg n1, if_pos (List.mem_cons_self ..)]; rfl
    · have : a ∈ f :: F ↔ a ∈ F := by
        rw [List.mem_cons]
        exact ⟨fun z => z.elim (fun y => absurd y.symm q) id, Or.inr⟩
      rw [if_neg q, Nat.zero_add, ifd this]
theorem sum_add (F : List Nat) (a b : Nat → Nat) : (F.map (fun f => a f + b f)).sum = (F.map a).sum + (F.map b).sum := by
  induction F with
  | nil => rfl
  | cons f F ih => rw [List.map_cons, List.sum_cons, List.map_cons, List.sum_cons, List.map_cons, List.sum_cons, ih]; omega
theorem sum_zero (F : List Nat) : (F.map (fun _ => 0)).sum = 0 := by
  induction F with
  | nil => rfl
  | cons f F ih => rw [List.map_cons, List.sum_cons, ih]
theorem its_len {D : List Dc} {A : AV} {n : Nat} : (its D A n).length = ((chF D (aN A n)).map (fun f => (aE A n f).length)).sum := by
  unfold its
  generalize chF D (aN A n) = F
  induction F with
  | nil => rfl
  | cons f F ih => rw [List.flatMap_cons, List.length_append, List.length_map, List.map_cons, List.sum_cons, ih]
/-- the number of rows that count is the number of values -/
theorem nV_rows {σ : SG} {s : Nat} {T : List Nat} {D : List Dc} {A : AV} {H : Rh} (hg : GSc T D) (h : VR σ s T D A H) : ((zR H).filter (fun r => rA r && al T D A (rN r))).length = nV T D A := by
  have hnd : (alL T D A (aC A)).Nodup := List.Nodup.sublist (alL_lt _) List.nodup_range
  have hlt : ∀ n ∈ alL T D A (aC A), n < aC A := fun n hn => List.mem_range.mp ((alL_lt _).subset hn)
  unfold nV
  have e1 : (alL T D A (aC A)).map (fun n => (its D A n).length) = (alL T D A (aC A)).map (fun n => ((chF D (aN A n)).map (fun f => ((zR H).filter (pRw n f)).length)).sum) := by
    apply List.map_congr_left
    intro n hn
    rw [its_len]
    congr 1
    apply List.map_congr_left
    intro f hf
    obtain ⟨d, hd⟩ := (chF_mem hg (h.2.2.2.2.1.2.2.2 n (hlt n hn)).1).mp hf
    rw [← (h.2.2.2.2.2.2 n (hlt n hn)).1 f d hd, List.length_map]
  rw [e1]
  have key : ∀ (R : List Rg), (∀ r ∈ R, RwOk T D A r) → (R.filter (fun r => rA r && al T D A (rN r))).length = ((alL T D A (aC A)).map (fun n => ((chF D (aN A n)).map (fun f => (R.filter (pRw n f)).length)).sum)).sum := by
    intro R
    induction R with
    | nil =>
      intro _
      have : ∀ n, ((chF D (aN A n)).map (fun f => (([] : List Rg).filter (pRw n f)).length)).sum = 0 := fun n => sum_zero _
      rw [show (fun n => ((chF D (aN A n)).map (fun f => (([] : List Rg).filter (pRw n f)).length)).sum) = fun _ => 0 from funext this, sum_zero]
      rfl
    | cons r R ih =>
      intro hR
      have ih' := ih (fun x hx => hR x (List.mem_cons_of_mem _ hx))
      obtain ⟨o1, d, o2, _⟩ := hR r (List.mem_cons_self ..)
      have hM := (h.2.2.2.2.1.2.2.2 (rN r) o1).1
      have hfm : rF r ∈ chF D (aN A (rN r)) := (chF_mem hg hM).mpr ⟨d, o2⟩
      have c1 : ∀ n f, ((r :: R).filter (pRw n f)).length = (if rA r then (if n = rN r then (if f = rF r then 1 else 0) else 0) else 0) + (R.filter (pRw n f)).length := fun n f => by
        rw [List.filter_cons]
        unfold pRw
        cases hA : rA r with
        | false => rw [Bool.and_false, if_neg (show ¬ false = true by decide), if_neg (show ¬ false = true by decide), Nat.zero_add]
        | true =>
          rw [Bool.and_true, if_pos (show true = true from rfl)]
          by_cases q1 : n = rN r
          · by_cases q2 : f = rF r
            · rw [if_pos q1, if_pos q2, decide_eq_true q1.symm, decide_eq_true q2.symm, if_pos (show (true && true) = true from rfl), List.length_cons]
              omega
            · rw [if_pos q1, if_neg q2, decide_eq_false (show ¬ rF r = f from fun z => q2 z.symm), Bool.and_false, if_neg (show ¬ false = true by decide), Nat.zero_add]
          · rw [if_neg q1, decide_eq_false (fun z => q1 z.symm), Bool.false_and, if_neg (show ¬ false = true by decide), Nat.zero_add]
      have c2 : ∀ n, ((chF D (aN A n)).map (fun f => ((r :: R).filter (pRw n f)).length)).sum = (if n = rN r then (if rA r then 1 else 0) else 0) + ((chF D (aN A n)).map (fun f => (R.filter (pRw n f)).length)).sum := fun n => by
        rw [show (fun f => ((r :: R).filter (pRw n f)).length) = fun f => (if rA r then (if n = rN r then (if f = rF r then 1 else 0) else 0) else 0) + (R.filter (pRw n f)).length from funext (c1 n), sum_add]
        congr 1
        by_cases q1 : n = rN r
        · rw [if_pos q1]
          cases hA : rA r with
          | false => rw [if_neg (show ¬ false = true by decide)]; exact sum_zero _
          | true =>
            rw [if_pos (show true = true from rfl)]
            have := sum_ind (v := 1) (a := rF r) (chF D (aN A n)) (chD_nodup _)
            rw [if_pos (by rw [q1]; exact hfm)] at this
            refine Eq.trans ?_ this
            congr 1
            apply List.map_congr_left
            intro f _
            rw [if_pos (show true = true from rfl), if_pos q1]
        · rw [if_neg q1]
          rw [show (fun (f : Nat) => if rA r = true then (if n = rN r then (if f = rF r then 1 else 0) else 0) else 0) = fun _ => 0 from funext (fun f => by rw [if_neg q1, ite_self])]
          exact sum_zero _
      rw [show (fun n => ((chF D (aN A n)).map (fun f => ((r :: R).filter (pRw n f)).length)).sum) = fun n => (if n = rN r then (if rA r then 1 else 0) else 0) + ((chF D (aN A n)).map (fun f => (R.filter (pRw n f)).length)).sum from funext c2, sum_add, ← ih', sum_ind _ hnd, List.filter_cons]
      have ha : al T D A (rN r) = decide (rN r ∈ alL T D A (aC A)) := rfl
      rw [ha]
      by_cases q : rN r ∈ alL T D A (aC A)
      · rw [decide_eq_true q, Bool.and_true, if_pos q]
        cases hA : rA r with
        | true => rw [if_pos (show true = true from rfl), if_pos (show true = true from rfl), List.length_cons]; omega
        | false => rw [if_neg (show ¬ false = true by decide), if_neg (show ¬ false = true by decide), Nat.zero_add]
      · rw [decide_eq_false q, Bool.and_false, if_neg (show ¬ false = true by decide), if_neg q, Nat.zero_add]
  exact key _ h.2.2.2.2.2.1
/-- a value at rest, as the reference holds it -/
def VS (σ : SG) (s : Nat) (T : List Nat) (D : List Dc) (A : AV) (H : Rh) : Prop := sI σ 1101 80 = nI s ∧ RT σ s T D (zP H) (zR H) ∧ (sI σ 1101 84 = nI (zP H).length ∧ RI σ 1175 (zP H) ∧ ok8 (zP H) ∧ (zP H).length ≤ 700) ∧ (sI σ 1101 83 = nI (zU H).length ∧ (zU H).length ≤ 350 ∧ ∀ i u, (zU H)[i]? = some u → u.1 < aC A ∧ UKs σ (zP H) i u) ∧ (sI σ 1101 81 = nI (aC A) ∧ 0 < aC A ∧ aC A ≤ 351 ∧ ∀ n, n < aC A → NdOk σ T D A H n) ∧ (∀ r ∈ zR H, RwOk T D A r) ∧ (∀ n, al T D A n = true → (∀ f d, isF D (aN A n) f d → ((zR H).filter (pRw n f)).map (itR T D d) = aE A n f) ∧ (((zU H).filter (fun u => decide (u.1 = n))).map (fun u => u.2)).flatten = aU A n) ∧ ∀ r ∈ zR H, rA r = true → al T D A (rN r) = true
theorem fnR_get {T : List Nat} {D : List Dc} {A : AV} {R : List Rg} {i : Nat} {r : Rg} (h : R[i]? = some r) : ∃ x, (fnR T D A R)[i]? = some x ∧ rN x = rN r ∧ rF x = rF r ∧ rK x = rK r ∧ rT x = rT r := by
  refine ⟨if al T D A (rN r) then r else off r, by unfold fnR; rw [List.getElem?_map, h]; rfl, ?_, ?_, ?_, ?_⟩ <;> (split <;> rfl)
theorem fnR_fil {T : List Nat} {D : List Dc} {A : AV} {n f : Nat} (hn : al T D A n = true) : ∀ (R : List Rg), (fnR T D A R).filter (pRw n f) = R.filter (pRw n f) := by
  intro R
  induction R with
  | nil => rfl
  | cons r R ih =>
    unfold fnR at ih ⊢
    rw [List.map_cons, List.filter_cons, List.filter_cons, ih]
    cases ha : al T D A (rN r) with
    | true => rw [if_pos (show true = true from rfl)]
    | false =>
      have hne : rN r ≠ n := fun z => by rw [z, hn] at ha; cases ha
      have : pRw n f r = false := by unfold pRw; rw [decide_eq_false hne, Bool.false_and, Bool.false_and]
      rw [if_neg (show ¬ false = true by decide), pRw_off, this, if_neg (show ¬ false = true by decide), if_neg (show ¬ false = true by decide)]
theorem VS_of {σ τ : SG} {s : Nat} {T : List Nat} {D : List Dc} {A : AV} {H : Rh} (h : VR σ s T D A H) (hR : RT τ s T D (zP H) (fnR T D A (zR H))) (hf : fP Pr71 σ τ) : VS τ s T D A (fnR T D A (zR H), zU H, zP H, zW H, zD H) := by
  obtain ⟨g1, g2, g3, g4, g5, g6, g7⟩ := h
  have ci : ∀ b k, b ≠ 1171 → sI τ b k = sI σ b k := fun b k hb => (hf b k hb).1
  refine ⟨(ci 1101 80 (by decide)).trans g1, hR, ⟨(ci 1101 84 (by decide)).trans g3.1, fun i c hi => (ci 1175 i (by decide)).trans (g3.2.1 i c hi), g3.2.2⟩, ⟨(ci 1101 83 (by decide)).trans g4.1, g4.2.1, fun i u hu => ?_⟩, ⟨(ci 1101 81 (by decide)).trans g5.1, g5.2.1, g5.2.2.1, fun m hm => ?_⟩, fun r hr => ?_, fun n hn => ?_, fun r hr hA => ?_⟩
  · obtain ⟨u1, u2, a, u3, u4, u5⟩ := g4.2.2 i u hu
    exact ⟨u1, (ci 1172 i (by decide)).trans u2, a, (ci 1173 i (by decide)).trans u3, (ci 1174 i (by decide)).trans u4, u5⟩
  · obtain ⟨n1, n2, n3, n4, n5⟩ := g5.2.2.2 m hm
    refine ⟨n1, (ci 1160 m (by decide)).trans n2, (ci 1161 m (by decide)).trans n3, (ci 1162 m (by decide)).trans n4, fun z => ?_⟩
    obtain ⟨r, d, r1, r2, r3, r4, r5⟩ := n5 z
    obtain ⟨x, x1, x2, x3, x4, _⟩ := fnR_get (T := T) (D := D) (A := A) r1
    exact ⟨x, d, x1, by rw [x3]; exact r2, r3, x4.trans r4, by rw [x2]; exact r5⟩
  · obtain ⟨y, hy, e⟩ := List.mem_map.mp (show r ∈ (zR H).map (fun r => if al T D A (rN r) then r else off r) from hr)
    have := g6 y hy
    rw [← e]
    split
    · exact this
    · exact this
  · have hlt : n < aC A := List.mem_range.mp ((alL_lt _).subset (of_decide_eq_true hn))
    refine ⟨fun f d hF => ?_, (g7 n hlt).2⟩
    show ((fnR T D A (zR H)).filter (pRw n f)).map (itR T D d) = aE A n f
    rw [fnR_fil hn]
    exact (g7 n hlt).1 f d hF
  · obtain ⟨y, hy, e⟩ := List.mem_map.mp (show r ∈ (zR H).map (fun r => if al T D A (rN r) then r else off r) from hr)
    rw [← e] at hA ⊢
    cases ha : al T D A (rN y) with
    | true => rw [if_pos (show true = true from rfl)]; exact ha
    | false => rw [ha, if_neg (show ¬ false = true by decide)] at hA; cases hA
theorem N_bytes1 {U s : Nat} {σ : SG} {T : List Nat} {D : List Dc} {P : List Nat} {R : List Rg} {K : Int32 → Option Int32} (hR : RT σ s T D P R) : ∀ (j i v U1 : Nat), i + j = R.length → j < U1 → v ≤ ((R.take i).map (fun r => (rT r).length)).sum → ∃ w, w ≤ (R.map (fun r => (rT r).length)).sum ∧ x_X12_liveBytes_L4 U 1101 K σ U1 (nI v) (nI i) = K (nI w) := by
  have hR7 := hR.2.1
  intro j
  induction j with
  | zero =>
    intro i v U1 hi hu hv
    obtain ⟨V, rfl⟩ : ∃ V, U1 = V + 1 := ⟨U1 - 1, by omega⟩
    rw [x_X12_liveBytes_L4, hR.1, if_neg (fun q => by have := (ltI (by omega) (by omega)).mp q; omega)]
    rw [List.take_of_length_le (by omega)] at hv
    exact ⟨v, hv, rfl⟩
  | succ j ih =>
    intro i v U1 hi hu hv
    obtain ⟨V, rfl⟩ : ∃ V, U1 = V + 1 := ⟨U1 - 1, by omega⟩
    have hil : i < R.length := by omega
    obtain ⟨w1, w2⟩ := hR.2.2 i R[i] (List.getElem?_eq_getElem hil)
    obtain ⟨_, _, _, ⟨a, _, w3, _⟩, _⟩ := w1
    have hs : ((R.take (i + 1)).map (fun r => (rT r).length)).sum = ((R.take i).map (fun r => (rT r).length)).sum + (rT R[i]).length := by
      rw [List.take_succ_eq_append_getElem hil, List.map_append, List.sum_append]; rfl
    rw [x_X12_liveBytes_L4, hR.1, if_pos ((ltI (by omega) (by omega)).mpr hil), ix_in (by omega) (by decide), w2, ifz]
    unfold x_X12_liveBytes_30
    rw [ix_in (by omega) (by decide), w3, nI_add, nI_1]
    cases rA R[i] with
    | true => rw [if_pos (show true = true from rfl)]; exact ih (i + 1) _ V (by omega) (by omega) (by omega)
    | false => rw [if_neg (show ¬ false = true by decide)]; exact ih (i + 1) _ V (by omega) (by omega) (by omega)
theorem N_bytes2 {U n : Nat} {σ : SG} {P : List Nat} {L : List (Nat × List Nat)} (h83 : sI σ 1101 83 = nI L.length) (hl : L.length ≤ 350) (hL : ∀ i u, L[i]? = some u → u.1 < n ∧ UKs σ P i u) (hn : n ≤ 351) (hal : ∀ i, i < n → ∃ b, sI σ 1164 i = zI b) : ∀ (j i v U1 x : Nat), i + j = L.length → j < U1 → v ≤ x + ((L.take i).map (fun u => u.2.length)).sum → ∃ w, w ≤ x + (L.map (fun u => u.2.length)).sum ∧ x_X12_liveBytes_L38 U 1101 σ U1 (nI v) (nI i) = some (nI w) := by
  intro j
  induction j with
  | zero =>
    intro i v U1 x hi hu hv
    obtain ⟨V, rfl⟩ : ∃ V, U1 = V + 1 := ⟨U1 - 1, by omega⟩
    rw [x_X12_liveBytes_L38, h83, if_neg (fun q => by have := (ltI (by omega) (by omega)).mp q; omega)]
    rw [List.take_of_length_le (by omega)] at hv
    exact ⟨v, hv, rfl⟩
  | succ j ih =>
    intro i v U1 x hi hu hv
    obtain ⟨V, rfl⟩ : ∃ V, U1 = V + 1 := ⟨U1 - 1, by omega⟩
    have hil : i < L.length := by omega
    obtain ⟨u1, u2, a, u3, u4, _⟩ := hL i L[i] (List.getElem?_eq_getElem hil)
    obtain ⟨b, hb⟩ := hal _ u1
    have hs : ((L.take (i + 1)).map (fun u => u.2.length)).sum = ((L.take i).map (fun u => u.2.length)).sum + L[i].2.length := by
      rw [List.take_succ_eq_append_getElem hil, List.map_append, List.sum_append]; rfl
    rw [x_X12_liveBytes_L38, h83, if_pos ((ltI (by omega) (by omega)).mpr hil), ix_in (by omega) (by decide), u2, ix_in (by omega) (by decide), hb, ifz]
    unfold x_X12_liveBytes_69
    rw [ix_in (by omega) (by decide), u4, nI_add, nI_1]
    cases b with
    | true => rw [if_pos (show true = true from rfl)]; exact ih (i + 1) _ V x (by omega) (by omega) (by omega)
    | false => rw [if_neg (show ¬ false = true by decide)]; exact ih (i + 1) _ V x (by omega) (by omega) (by omega)
def Pfin (b k : Nat) : Prop := (b = 1101 ∧ (k = 5 ∨ k = 79)) ∨ b = 1164 ∨ b = 1171
theorem N_finish {U s lm : Nat} {σ : SG} {T : List Nat} {D : List Dc} {A : AV} {H : Rh} (hU4 : 4000 < U) (hg : GSc T D) (h7 : sI σ 1101 107 = 0) (h : VR σ s T D A H) (hdp : DPk T D lm A H) (hT : zT H ≤ (zP H).length) (h79 : sI σ 1101 79 = 0) : ∃ τ, fP Pfin σ τ ∧ (200 < nV T D A → x_X12_finish U 1101 σ = some (0, τ) ∧ sI τ 1101 5 = 2 ∧ sI τ 1101 79 = 0) ∧ (¬ 200 < nV T D A → x_X12_finish U 1101 σ = some (nI (nV T D A), τ) ∧ sI τ 1101 5 = 0 ∧ sI τ 1101 79 = 1 ∧ ∃ H', VS τ s T D A H') := by
  unfold x_X12_finish x_X12_finish_13 x_X12_finish_48 x_X12_finish_53 x_X12_liveValues
  rw [if_pos h7, sb_eq, sI_s, if_pos (show (0 : Int32) = 0 from rfl)]
  have F0 : fP (fun b k => b = 1101 ∧ k = 5) σ (uI σ 1101 5 0) := fP_u ⟨rfl, rfl⟩
  have V0 : VR (uI σ 1101 5 0) s T D A H := VR_keep h (fun b k hb => ⟨(F0 b k (by omega)).1, (F0 b k (by omega)).2.1⟩)
  have hc := h.2.2.2.2.1
  obtain ⟨τ1, t1, t2, t3, t4⟩ := N_alive_L (U := U) (v1 := 0) (K := fun σ34 => x_X12_liveValues_L74 U 1101 U 0 0 σ34) hg hdp (aC A) 0 U (uI σ 1101 5 0) (by omega) (by omega) V0 (fun i hi => by omega)
  have t1' : x_X12_liveValues_L4 U 1101 (fun σ34 => x_X12_liveValues_L74 U 1101 U 0 0 σ34) 0 U 0 (uI σ 1101 5 0) = x_X12_liveValues_L74 U 1101 U 0 0 τ1 := t1
  obtain ⟨τ2, u1, u2, u3⟩ := N_rows_L (U := U) (A := A) (R := zR H) (P := zP H) (s := s) hc.2.2.1 t3.2.1.2.1 (fun r hr => (t3.2.2.2.2.2.1 r hr).1) (zR H).length 0 0 U τ1 (by omega) (Nat.le_refl _) (by have := t3.2.1.2.1; omega) t3.2.1 t4
  have u1' : x_X12_liveValues_L74 U 1101 U 0 0 τ1 = some (nI (nV T D A), τ2) := by
    have : x_X12_liveValues_L74 U 1101 U 0 0 τ1 = some (nI (0 + ((zR H).filter (fun r => rA r && al T D A (rN r))).length), τ2) := u1
    rw [this, Nat.zero_add, nV_rows hg t3]
  have hnv : nV T D A ≤ 700 := by
    rw [← nV_rows hg t3]
    exact Nat.le_trans (List.length_filter_le ..) t3.2.1.2.1
  rw [t1', u1', b2_eq, ifd (show (200 : Int32) < nI (nV T D A) ↔ 200 < nV T D A from ltI (a := 200) (by decide) (by omega))]
  have F2 : fP Pfin σ τ2 := fP_trans (fP_trans (fP_mono F0 (fun b k z => Or.inl ⟨z.1, Or.inl z.2⟩)) (fP_mono t2 (fun b k z => Or.inr (Or.inl z)))) (fP_mono u3 (fun b k z => Or.inr (Or.inr z)))
  have c79 : sI τ2 1101 79 = 0 := ((u3 1101 79 (by unfold Pr71; decide)).1).trans (((t2 1101 79 (by unfold Pal; decide)).1).trans (((F0 1101 79 (by decide)).1).trans h79))
  by_cases q : 200 < nV T D A
  · rw [if_pos q, sb_eq, sI_s, if_neg (show ¬ (2 : Int32) = 0 by decide)]
    exact ⟨_, fP_trans F2 (fP_u (Or.inl ⟨rfl, Or.inl rfl⟩)), fun _ => ⟨rfl, sI_s _ _ _ _, by rw [sI_o (Or.inr (by decide))]; exact c79⟩, fun z => absurd q z⟩
  · rw [if_neg q]
    have S2 := VS_of t3 u2 u3
    unfold x_X12_liveBytes
    have hmap : (fnR T D A (zR H)).map (fun r => (rT r).length) = (zR H).map (fun r => (rT r).length) := by
      unfold fnR
      rw [List.map_map]
      apply List.map_congr_left
      intro r _
      show (rT (if al T D A (rN r) = true then r else off r)).length = _
      split <;> rfl
    obtain ⟨w, w1, w2⟩ := N_bytes1 (U := U) (K := fun w11 => x_X12_liveBytes_L38 U 1101 τ2 U w11 0) u2 (fnR T D A (zR H)).length 0 0 U (by omega) (by have := u2.2.1; omega) (Nat.zero_le _)
    have w2' : x_X12_liveBytes_L4 U 1101 (fun w11 => x_X12_liveBytes_L38 U 1101 τ2 U w11 0) τ2 U 0 0 = x_X12_liveBytes_L38 U 1101 τ2 U (nI w) 0 := w2
    obtain ⟨y, y1, y2⟩ := N_bytes2 (U := U) (σ := τ2) (n := aC A) S2.2.2.2.1.1 S2.2.2.2.1.2.1 S2.2.2.2.1.2.2 hc.2.2.1 (fun i hi => ⟨al T D A i, ((u3 1164 i (by unfold Pr71; decide)).1).trans (t4 i hi)⟩) (zU H).length 0 w U w (by show 0 + (zU H).length = (zU H).length; omega) (by have := h.2.2.2.1.2.1; omega) (Nat.le_add_right _ _)
    have y2' : x_X12_liveBytes_L38 U 1101 τ2 U (nI w) 0 = some (nI y) := y2
    have hy : y ≤ 700 := by
      rw [hmap] at w1
      have y1' : y ≤ w + ((zU H).map (fun u => u.2.length)).sum := y1
      have := h.2.2.1.2.2.2
      unfold zT at hT
      omega
    rw [w2', y2', b1_eq, if_neg (show ¬ (1000 : Int32) < nI y from fun z => by have := (ltI (a := 1000) (by decide) (by omega)).mp z; omega), sb_eq, sI_s, if_pos (show (0 : Int32) = 0 from rfl), sb_eq]
    have F3 : fP (fun b k => b = 1101 ∧ (k = 5 ∨ k = 79)) τ2 (uI (uI τ2 1101 5 0) 1101 79 1) := fP_trans (fP_u ⟨rfl, Or.inl rfl⟩) (fP_u ⟨rfl, Or.inr rfl⟩)
    refine ⟨_, fP_trans F2 (fP_mono F3 (fun b k z => Or.inl z)), fun z => absurd z q, fun _ => ⟨rfl, by rw [sI_o (Or.inr (by decide)), sI_s], sI_s _ _ _ _, (fnR T D A (zR H), zU H, zP H, zW H, zD H), ?_⟩⟩
    · obtain ⟨g1, g2, g3, g4, g5, g6, g7⟩ := S2
      have ci : ∀ b k, (b ≠ 1101 ∨ (k ≠ 5 ∧ k ≠ 79)) → sI (uI (uI τ2 1101 5 0) 1101 79 1) b k = sI τ2 b k ∧ sL (uI (uI τ2 1101 5 0) 1101 79 1) b k = sL τ2 b k := fun b k hb => ⟨(F3 b k (by omega)).1, (F3 b k (by omega)).2.1⟩
      refine ⟨((ci 1101 80 (by omega)).1).trans g1, ⟨((ci 1101 82 (by omega)).1).trans g2.1, g2.2.1, fun i r hi => ?_⟩, ⟨((ci 1101 84 (by omega)).1).trans g3.1, fun i c hi => ((ci 1175 i (by omega)).1).trans (g3.2.1 i c hi), g3.2.2⟩, ⟨((ci 1101 83 (by omega)).1).trans g4.1, g4.2.1, fun i u hu => ?_⟩, ⟨((ci 1101 81 (by omega)).1).trans g5.1, g5.2.1, g5.2.2.1, fun m hm => ?_⟩, g6, g7⟩
      · obtain ⟨y1, y2⟩ := g2.2.2 i r hi
        exact ⟨RWs_sm y1 (fun b h1 h2 => ci b i (by omega)), ((ci 1171 i (by omega)).1).trans y2⟩
      · obtain ⟨u1, u2, a, u3, u4, u5⟩ := g4.2.2 i u hu
        exact ⟨u1, ((ci 1172 i (by omega)).1).trans u2, a, ((ci 1173 i (by omega)).1).trans u3, ((ci 1174 i (by omega)).1).trans u4, u5⟩
      · obtain ⟨n1, n2, n3, n4, n5⟩ := g5.2.2.2 m hm
        exact ⟨n1, ((ci 1160 m (by omega)).1).trans n2, ((ci 1161 m (by omega)).1).trans n3, ((ci 1162 m (by omega)).1).trans n4, n5⟩
theorem N_finish_no {U : Nat} {σ : SG} (h7 : ¬ sI σ 1101 107 = 0) : x_X12_finish U 1101 σ = some (0, uI σ 1101 5 1) := by
  unfold x_X12_finish x_X12_finish_13
  rw [if_neg h7, sb_eq, sI_s, if_neg (show ¬ (1 : Int32) = 0 by decide)]
