/-! ===== find: the reference's walk ===== -/
theorem nmT_46 {T : List Nat} {D : List Dc} (hg : GSc T D) {i : Nat} {d : Dc} (hd : D[i]? = some d) : 46 ∉ nmT T d := by
  intro h
  have := (hg.N i d hd).2.2.2 46 h
  exact absurd this (by decide)
/-- what stands before a name of a scope -/
def pre (T : List Nat) (D : List Dc) (sc : Option Nat) : List Nat := match sc with
  | none => []
  | some m => fnT T D m ++ [46]
theorem fnT_pre {T : List Nat} {D : List Dc} (hW : WF D) {i : Nat} {d : Dc} (hd : D[i]? = some d) : fnT T D i = pre T D (dS d) ++ nmT T d := by
  rw [fnT_some hW hd]
  cases dS d with
  | none => rfl
  | some p => show fnT T D p ++ 46 :: nmT T d = (fnT T D p ++ [46]) ++ nmT T d; rw [List.append_assoc]; rfl
theorem dot_inj {A B N M : List Nat} (hN : 46 ∉ N) (hM : 46 ∉ M) (h : A ++ 46 :: N = B ++ 46 :: M) : A = B ∧ N = M := by
  rcases List.append_eq_append_iff.mp h with ⟨a, h1, h2⟩ | ⟨a, h1, h2⟩
  · cases a with
    | nil =>
      rw [List.append_nil] at h1
      exact ⟨h1.symm, (List.cons.inj h2).2⟩
    | cons x a =>
      have := (List.cons.inj h2).2
      exact absurd (by rw [this]; exact List.mem_append_right _ (List.mem_cons_self ..)) hN
  · cases a with
    | nil =>
      rw [List.append_nil] at h1
      exact ⟨h1, ((List.cons.inj h2).2).symm⟩
    | cons x a =>
      have := (List.cons.inj h2).2
      exact absurd (by rw [this]; exact List.mem_append_right _ (List.mem_cons_self ..)) hM
theorem fnT_inj {T : List Nat} {D : List Dc} (hg : GSc T D) : ∀ (i j : Nat) (d e : Dc), D[i]? = some d → D[j]? = some e → fnT T D i = fnT T D j → i = j := by
  intro i
  induction i using Nat.strongRecOn with
  | ind i ih =>
    intro j d e hd he h
    have h1 := nmT_46 hg hd
    have h2 := nmT_46 hg he
    rw [fnT_some hg.1 hd, fnT_some hg.1 he] at h
    cases hs : dS d with
    | none =>
      cases hs' : dS e with
      | none =>
        rw [hs, hs'] at h
        exact nam_inj hg hd he (hs.trans hs'.symm) h
      | some q =>
        rw [hs, hs'] at h
        simp only at h
        exact absurd (by rw [h]; exact List.mem_append_right _ (List.mem_cons_self ..)) h1
    | some p =>
      cases hs' : dS e with
      | none =>
        rw [hs, hs'] at h
        simp only at h
        exact absurd (by rw [← h]; exact List.mem_append_right _ (List.mem_cons_self ..)) h2
      | some q =>
        rw [hs, hs'] at h
        simp only at h
        obtain ⟨z1, z2⟩ := dot_inj h1 h2 h
        obtain ⟨x, hx, _⟩ := hg.1.scK hd p hs
        obtain ⟨y, hy, _⟩ := hg.1.scK he q hs'
        have := ih p ((hg.1.before hd).1 p hs) q x y hx hy z1
        exact nam_inj hg hd he (by rw [hs, hs', this]) z2
theorem fTy_here {T S : List Nat} {D : List Dc} (hg : GSc T D) {i : Nat} {d : Dc} (hd : D[i]? = some d) (hk : dK d ≤ 1) (h : S = fnT T D i) : fTy T D S = some i := by
  have hi := (List.getElem?_eq_some_iff.mp hd).1
  unfold fTy
  have := ff_here (p := pFull T D S) (List.range D.length) 0 i i (List.getElem?_range hi) (by unfold pFull; rw [knd_some hd]; exact decide_eq_true ⟨hk, h⟩) (fun j x hj hx => by
    have hx' : j = x := by rw [List.getElem?_range (by omega)] at hx; exact Option.some.inj hx
    subst hx'
    unfold pFull
    refine decide_eq_false (fun z => ?_)
    have := fnT_inj hg i j d _ hd (List.getElem?_eq_getElem (by omega)) (h.symm.trans z.2)
    omega)
  rw [this, Nat.zero_add]
theorem fTy_some {T S : List Nat} {D : List Dc} {i : Nat} (h : fTy T D S = some i) : ∃ d, D[i]? = some d ∧ dK d ≤ 1 ∧ S = fnT T D i := by
  unfold fTy at h
  obtain ⟨x, hx, h1, _, _⟩ := ff_some _ 0 i h
  rw [Nat.sub_zero] at hx
  have hi : i < D.length := by have := (List.getElem?_eq_some_iff.mp hx).1; rwa [List.length_range] at this
  rw [List.getElem?_range hi] at hx
  cases hx
  have hd := List.getElem?_eq_getElem hi
  have := of_decide_eq_true h1
  rw [knd_some hd] at this
  exact ⟨_, hd, this.1, this.2⟩
/-- a full name below a scope goes through a type of that scope -/
theorem fnT_via {T : List Nat} {D : List Dc} (hg : GSc T D) {sc : Option Nat} (hsc : ∀ m, sc = some m → isM D m) : ∀ (t : Nat) (e : Dc), D[t]? = some e → dK e ≤ 1 → pre T D sc <+: fnT T D t → ∃ i d R, D[i]? = some d ∧ dK d ≤ 1 ∧ dS d = sc ∧ fnT T D t = pre T D sc ++ nmT T d ++ R ∧ ((i = t ∧ R = []) ∨ (dK d = 0 ∧ ∃ R', R = 46 :: R')) := by
  intro t
  induction t using Nat.strongRecOn with
  | ind t ih =>
    intro e he hk hp
    by_cases q : dS e = sc
    · exact ⟨t, e, [], he, hk, q, by rw [fnT_pre hg.1 he, q, List.append_nil], Or.inl ⟨rfl, rfl⟩⟩
    · cases hs : dS e with
      | none =>
        cases sc with
        | none => exact absurd hs q
        | some m =>
          obtain ⟨R, hR⟩ := hp
          rw [fnT_pre hg.1 he, hs] at hR
          have : (fnT T D m ++ [46]) ++ R = nmT T e := hR
          exact absurd (by rw [← this]; exact List.mem_append_left _ (List.mem_append_right _ (List.mem_cons_self ..))) (nmT_46 hg he)
      | some p =>
        obtain ⟨x, hx, hx0⟩ := hg.1.scK he p hs
        have eF : fnT T D t = fnT T D p ++ 46 :: nmT T e := by rw [fnT_some hg.1 he, hs]
        have hpp : pre T D sc <+: fnT T D p := by
          cases sc with
          | none => exact List.nil_prefix
          | some m =>
            obtain ⟨y, hy, _⟩ := hsc m rfl
            obtain ⟨R, hR⟩ := hp
            rw [eF] at hR
            have hR' : (fnT T D m ++ [46]) ++ R = fnT T D p ++ 46 :: nmT T e := hR
            rw [List.append_assoc] at hR'
            rcases List.append_eq_append_iff.mp hR' with ⟨a, h1, h2⟩ | ⟨a, h1, h2⟩
            · cases a with
              | nil =>
                rw [List.append_nil] at h1
                exact absurd (by rw [hs, fnT_inj hg p m x y hx hy h1]) q
              | cons z a =>
                have hz : 46 = z := (List.cons.inj h2).1
                exact ⟨a, by rw [h1, ← hz]; show (fnT T D m ++ [46]) ++ a = _; rw [List.append_assoc]; rfl⟩
            · cases a with
              | nil =>
                rw [List.append_nil] at h1
                exact absurd (by rw [hs, fnT_inj hg p m x y hx hy h1.symm]) q
              | cons z a =>
                have := (List.cons.inj h2).2
                exact absurd (by rw [this]; exact List.mem_append_right _ (List.mem_cons_self ..)) (nmT_46 hg he)
        obtain ⟨i, d, R, h1, h2, h3, h4, h5⟩ := ih p ((hg.1.before he).1 p hs) x hx (by omega) hpp
        refine ⟨i, d, R ++ 46 :: nmT T e, h1, h2, h3, by rw [eF, h4]; simp only [List.append_assoc], Or.inr ⟨?_, ?_⟩⟩
        · rcases h5 with ⟨z, _⟩ | ⟨z, _⟩
          · subst z; rw [hx] at h1; cases h1; exact hx0
          · exact z
        · rcases h5 with ⟨_, z⟩ | ⟨_, R', z⟩
          · exact ⟨nmT T e, by rw [z]; rfl⟩
          · exact ⟨R' ++ 46 :: nmT T e, by rw [z]; rfl⟩
/-- the tape names at most one of a scope -/
theorem isTp_inj {S N M : List Nat} {p : Nat} (hN : 46 ∉ N) (hM : 46 ∉ M) (h1 : isTp S p N = true) (h2 : isTp S p M = true) : N = M := by
  have key : ∀ {N M : List Nat}, 46 ∉ M → isTp S p N = true → isTp S p M = true → ¬ N.length < M.length := by
    intro N M hM h1 h2 hlt
    obtain ⟨a1, a2, a3⟩ := isTp_iff.mp h1
    obtain ⟨b1, b2, b3⟩ := isTp_iff.mp h2
    have : S[p + N.length]? = some 46 := a3.resolve_left (by omega)
    have hm : M[N.length]? = some 46 := by
      rw [← b2]
      unfold slc
      rw [List.getElem?_take_of_lt (by omega), List.getElem?_drop]
      exact this
    exact hM (List.mem_of_getElem? hm)
  have hl : N.length = M.length := by
    have := key hM h1 h2
    have := key hN h2 h1
    omega
  rw [← (isTp_iff.mp h1).2.1, ← (isTp_iff.mp h2).2.1, hl]
theorem isTp_fn {S P N R : List Nat} {p : Nat} (hS : S = P ++ N ++ R) (hp : P.length = p) (hR : R = [] ∨ ∃ R', R = 46 :: R') : isTp S p N = true := by
  subst hS
  subst hp
  refine isTp_iff.mpr ⟨?_, ?_, ?_⟩
  · rw [List.length_append, List.length_append]; omega
  · unfold slc
    rw [List.append_assoc, List.drop_left, show P.length + N.length - P.length = N.length by omega, List.take_left]
  · rcases hR with z | ⟨R', z⟩
    · left; rw [z, List.append_nil, List.length_append]
    · right
      rw [z, show P.length + N.length = (P ++ N).length by rw [List.length_append], List.getElem?_append_right (Nat.le_refl _), Nat.sub_self]; rfl
/-- the type that the tape names next, if any -/
theorem nmC_cases {T S : List Nat} {D : List Dc} (hg : GSc T D) {sc : Option Nat} {p : Nat} : (nmC D (ff (pNt T S 0 sc p) D 0) (ff (pNt T S 1 sc p) D 0) = -1 ∧ ∀ (i : Nat) (d : Dc), D[i]? = some d → dK d ≤ 1 → dS d = sc → isTp S p (nmT T d) = false) ∨ ∃ i d, D[i]? = some d ∧ dK d ≤ 1 ∧ dS d = sc ∧ isTp S p (nmT T d) = true ∧ nmC D (ff (pNt T S 0 sc p) D 0) (ff (pNt T S 1 sc p) D 0) = nI (if dK d = 0 then cnt (D.take i) 0 else 1000 + cnt (D.take i) 1) := by
  unfold nmC
  cases h0 : ff (pNt T S 0 sc p) D 0 with
  | some i =>
    right
    obtain ⟨d, hd, h1, _, _⟩ := ff_some _ 0 i h0
    rw [Nat.sub_zero] at hd
    unfold pNt at h1
    rw [Bool.and_eq_true, decide_eq_true_iff] at h1
    exact ⟨i, d, hd, by omega, h1.1.2, h1.2, by simp only; rw [if_pos h1.1.1]⟩
  | none =>
    cases h1 : ff (pNt T S 1 sc p) D 0 with
    | some i =>
      right
      obtain ⟨d, hd, h1, _, _⟩ := ff_some _ 0 i h1
      rw [Nat.sub_zero] at hd
      unfold pNt at h1
      rw [Bool.and_eq_true, decide_eq_true_iff] at h1
      exact ⟨i, d, hd, by omega, h1.1.2, h1.2, by simp only; rw [if_neg (by omega)]⟩
    | none =>
      left
      refine ⟨rfl, fun i d hd hk hs => ?_⟩
      have a0 := ff_none _ 0 h0 d (List.mem_of_getElem? hd)
      have a1 := ff_none _ 0 h1 d (List.mem_of_getElem? hd)
      unfold pNt at a0 a1
      have : dK d = 0 ∨ dK d = 1 := by omega
      rcases this with z | z
      · rw [decide_eq_true ⟨z, hs⟩, Bool.true_and] at a0; exact a0
      · rw [decide_eq_true ⟨z, hs⟩, Bool.true_and] at a1; exact a1
theorem nI_m1 {n : Nat} (h : n < 2 ^ 31) : ¬ nI n = -1 := by
  intro z
  have hb := congrArg Int32.toBitVec z
  have hn := congrArg BitVec.toNat hb
  rw [show (nI n).toBitVec = BitVec.ofNat 32 n from rfl, BitVec.toNat_ofNat] at hn
  have : (BitVec.toNat (Int32.toBitVec (-1))) = 4294967295 := by decide
  omega
theorem N_find_L {U s : Nat} {σ : SG} {T S : List Nat} {D : List Dc} {K : Int32 → Option (Int32 × SG)} (hU4 : 4000 < U) (hs : s < 2) (hg : GSc T D) (h : RS σ s T D) (hL : LR σ S) (hK : ∀ i d, D[i]? = some d → dK d ≤ 1 → K (nI (if dK d = 0 then cnt (D.take i) 0 else 1000 + cnt (D.take i) 1)) = some (fiA D (some i), σ)) : ∀ (j v p U1 : Nat) (sc : Option Nat), v + j = 17 → j < U1 → p ≤ S.length → S.take p = pre T D sc → (∀ m, sc = some m → isM D m) → v ≤ (match sc with
    | none => 0
    | some m => cnt (D.take (m + 1)) 0) → x_X12_find_L45 U 1101 K (nI s) σ U1 (oq D 0 sc) (nI p) (nI v) = some (fiA D (fTy T D S), σ) := by
  have hl := hg.2.1
  have hSl := hL.2.2.1
  obtain ⟨l0, l1, l2, l3, l4, l5⟩ := lim_of h.1
  intro j
  induction j with
  | zero =>
    intro v p U1 sc hv hu hp ht hsc hb
    exfalso
    cases sc with
    | none => simp only at hb; omega
    | some m => simp only at hb; have := cnt_take_le D (m + 1) 0; omega
  | succ j ih =>
    intro v p U1 sc hv hu hp ht hsc hb
    obtain ⟨V, rfl⟩ : ∃ V, U1 = V + 1 := ⟨U1 - 1, by omega⟩
    have hv16 : ¬ (16 : Int32) < nI v := fun z => by have := (ltI (a := 16) (by decide) (by omega)).mp z; omega
    rw [x_X12_find_L45, if_neg hv16, N_named hU4 hs hg h hL hp hsc, b1_eq]
    have hpl : (pre T D sc).length = p := by rw [← ht, List.length_take]; omega
    have hvia : ∀ t, fTy T D S = some t → ∃ i d R, D[i]? = some d ∧ dK d ≤ 1 ∧ dS d = sc ∧ S = pre T D sc ++ nmT T d ++ R ∧ isTp S p (nmT T d) = true ∧ ((i = t ∧ R = []) ∨ (dK d = 0 ∧ ∃ R', R = 46 :: R')) := by
      intro t ht'
      obtain ⟨e, he, hk, hS⟩ := fTy_some ht'
      obtain ⟨i, d, R, h1, h2, h3, h4, h5⟩ := fnT_via hg hsc t e he hk (by rw [← ht, ← hS]; exact List.take_prefix ..)
      refine ⟨i, d, R, h1, h2, h3, hS.trans h4, isTp_fn (hS.trans h4) hpl ?_, h5⟩
      rcases h5 with z | z
      · exact Or.inl z.2
      · exact Or.inr z.2
    rcases nmC_cases hg (sc := sc) (p := p) (T := T) (S := S) (D := D) with ⟨c1, c2⟩ | ⟨i, d, hd, hk, hsd, htp, hc⟩
    · rw [c1, if_pos rfl]
      cases hf : fTy T D S with
      | none => rfl
      | some t =>
        obtain ⟨i, d, R, h1, h2, h3, _, h5, _⟩ := hvia t hf
        rw [c2 i d h1 h2 h3] at h5
        cases h5
    · have hil := (List.getElem?_eq_some_iff.mp hd).1
      have hci0 := cnt_le (D.take i) 0
      have hci1 := cnt_le (D.take i) 1
      rw [List.length_take] at hci0 hci1
      obtain ⟨t1, t2, t3⟩ := isTp_iff.mp htp
      have htk : S.take (p + (nmT T d).length) = fnT T D i := by
        rw [fnT_pre hg.1 hd, hsd, ← ht, List.take_add]
        congr 1
        unfold slc at t2
        rw [show p + (nmT T d).length - p = (nmT T d).length by omega] at t2
        exact t2
      have hnum : ∀ q, (if dK d = 0 then cnt (D.take i) 0 else 1000 + cnt (D.take i) 1) = q → q < 2000 := by
        intro q hq
        by_cases z : dK d = 0
        · rw [if_pos z] at hq; omega
        · rw [if_neg z] at hq; omega
      rw [hc, if_neg (nI_m1 (by have := hnum _ rfl; omega)), show (1000 : Int32) = nI 1000 from rfl, ifd (ltI (by have := hnum _ rfl; omega) (by decide))]
      -- the step, once the name's length is read
      have step : ∀ s0 : Int32, s0 = nI (nmT T d).length → x_X12_find_109 U 1101 (x_X12_find_L45 U 1101 K (nI s) σ V) K (nI s) (nI v) (nI (if dK d = 0 then cnt (D.take i) 0 else 1000 + cnt (D.take i) 1)) s0 (nI p) σ = some (fiA D (fTy T D S), σ) := by
        intro s0 hs0
        unfold x_X12_find_109
        rw [hs0, nI_add, hL.1, ifd (nI_eq (by omega) (by omega))]
        by_cases q : p + (nmT T d).length = S.length
        · rw [if_pos q, hK i d hd hk]
          have : S = fnT T D i := by rw [← htk, q, List.take_length]
          rw [fTy_here hg hd hk this]
        · rw [if_neg q, show (1000 : Int32) = nI 1000 from rfl, ifd (ltI (by have := hnum _ rfl; omega) (by decide))]
          have h46 := t3.resolve_left q
          have hlt := (List.getElem?_eq_some_iff.mp h46).1
          by_cases z : dK d = 0
          · rw [if_pos z, if_pos (by omega), nI_1, nI_1]
            refine ih (v + 1) (p + (nmT T d).length + 1) V (some i) (by omega) (by omega) (by omega) ?_ ?_ ?_
            · rw [List.take_add_one, h46, htk]; rfl
            · intro m hm
              cases hm
              exact ⟨d, hd, z⟩
            · simp only
              have e1 : cnt (D.take (i + 1)) 0 = cnt (D.take i) 0 + 1 := by
                rw [List.take_add_one, hd]
                show cnt (D.take i ++ [d]) 0 = _
                rw [cnt_sn, if_pos z]
              rw [e1]
              cases sc with
              | none => simp only at hb; omega
              | some m =>
                simp only at hb
                have := (hg.1.before hd).1 m hsd
                have := cnt_mono (D := D) (q := 0) (show m + 1 ≤ i by omega)
                omega
          · rw [if_neg z, if_neg (by omega)]
            cases hf : fTy T D S with
            | none => rfl
            | some t =>
              exfalso
              obtain ⟨i', d', R, h1, h2, h3, h4, h5, h6⟩ := hvia t hf
              have hnn := isTp_inj (nmT_46 hg hd) (nmT_46 hg h1) htp h5
              have hii := nam_inj hg hd h1 (hsd.trans h3.symm) hnn
              subst hii
              rw [hd] at h1
              cases h1
              rcases h6 with ⟨_, y⟩ | ⟨y, _⟩
              · have := congrArg List.length h4
                rw [y, List.append_nil, List.length_append, hpl] at this
                omega
              · exact z y
      by_cases z : dK d = 0
      · have row := (h.2.2 i d hd).1 z
        obtain ⟨r, r1, r2, _⟩ := row.2
        rw [if_pos z] at step ⊢
        rw [if_pos (by omega), show (16 : Int32) = nI 16 from rfl, pk_mul, nI_add, ix_in (by have := cnt_take_lt hd z; omega) (by decide)]
        exact step _ r2
      · have z1 : dK d = 1 := by omega
        have row := (h.2.2 i d hd).2.1 z1
        obtain ⟨r, r1, r2, _⟩ := row.2
        rw [if_neg z] at step ⊢
        rw [if_neg (by omega), show (8 : Int32) = nI 8 from rfl, pk_mul, nI_add, nI_sub (by omega), show 8 * s + (1000 + cnt (D.take i) 1) - 1000 = 8 * s + cnt (D.take i) 1 by omega, ix_in (by have := cnt_take_lt hd z1; omega) (by decide)]
        exact step _ r2
def Pfi (b i : Nat) : Prop := b = 1101 ∧ (i = 1 ∨ i = 5 ∨ i = 73)
theorem N_find {U s : Nat} {σ : SG} {T S : List Nat} {D : List Dc} (hU4 : 4000 < U) (hs : s < 2) (hg : GSc T D) (hS : RS σ s T D) (hT : RTr σ S) (h8 : ok8 S) (hl : S.length ≤ 700) : ∃ τ, x_X12_find U 1101 (nI s) σ = some (fiA D (fTy T D S), τ) ∧ fP Pfi σ τ ∧ sI τ 1101 1 = 0 ∧ sI τ 1101 5 = 0 := by
  obtain ⟨l0, l1, l2, l3, l4, l5⟩ := lim_of hS.1
  unfold x_X12_find x_X12_find_26
  have F : fP Pfi σ (uI (uI (uI σ 1101 73 (sI σ 1101 1)) 1101 1 0) 1101 5 0) := by
    refine fP_trans (fP_trans (fP_u ?_) (fP_u ?_)) (fP_u ?_)
    · exact ⟨rfl, by decide⟩
    · exact ⟨rfl, by decide⟩
    · exact ⟨rfl, by decide⟩
  have L : LR (uI (uI (uI σ 1101 73 (sI σ 1101 1)) 1101 1 0) 1101 5 0) S := by
    refine ⟨?_, ?_, hl, h8⟩
    · rw [sI_o (Or.inr (by decide)), sI_o (Or.inr (by decide)), sI_s, hT.1]
    · exact ((hT.2.sm (sm_uI (by decide))).sm (sm_uI (by decide))).sm (sm_uI (by decide))
  have R : RS (uI (uI (uI σ 1101 73 (sI σ 1101 1)) 1101 1 0) 1101 5 0) s T D := RS_keep hS (fun b k hb => (F b k (by unfold PKP at hb; unfold Pfi; omega)).1)
  rw [sb_eq, sb_eq, isSchema_s hs, b1_eq, if_neg (by decide), sb_eq, sI_s, if_pos rfl]
  have hw := N_find_L (U := U) (K := fun w23 => if w23 < 1000 then (some (w23, (uI (uI (uI σ 1101 73 (sI σ 1101 1)) 1101 1 0) 1101 5 0))) else (ix (nI s) 2 fun j25 => some (((sI (uI (uI (uI σ 1101 73 (sI σ 1101 1)) 1101 1 0) 1101 5 0) 1104 j25) + w23) - 1000, (uI (uI (uI σ 1101 73 (sI σ 1101 1)) 1101 1 0) 1101 5 0)))) hU4 hs hg R L (fun i d hd hk => by
    have hil := (List.getElem?_eq_some_iff.mp hd).1
    have hll := hg.2.1
    have hci0 := cnt_le (D.take i) 0
    have hci1 := cnt_le (D.take i) 1
    rw [List.length_take] at hci0 hci1
    unfold fiA
    simp only
    rw [knd_some hd]
    by_cases z : dK d = 0
    · rw [if_pos z, if_pos z, if_pos (show nI (cnt (D.take i) 0) < 1000 from (ltI (b := 1000) (by omega) (by decide)).mpr (by omega))]
    · have hc : sI (uI (uI (uI σ 1101 73 (sI σ 1101 1)) 1101 1 0) 1101 5 0) 1104 s = nI (cnt D 0) := R.2.1 0 (by decide)
      rw [if_neg z, if_neg z, if_neg (show ¬ nI (1000 + cnt (D.take i) 1) < 1000 from fun y => by have := (ltI (b := 1000) (by omega) (by decide)).mp y; omega), ix_in hs (by decide), hc, nI_add, show (1000 : Int32) = nI 1000 from rfl, nI_sub (by omega), show cnt D 0 + (1000 + cnt (D.take i) 1) - 1000 = cnt D 0 + cnt (D.take i) 1 by omega]) 17 0 0 U none (by omega) (by omega) (by omega) rfl (fun m hm => by cases hm) (Nat.le_refl _)
  refine ⟨_, hw, F, ?_, sI_s _ _ _ _⟩
  rw [sI_o (Or.inr (by decide)), sI_s]
