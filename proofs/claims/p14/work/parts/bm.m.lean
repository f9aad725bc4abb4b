/-! ===== find: the reference's walk ===== -/
theorem nmT_46 {T : List Nat} {D : List Dc} (hg : GSc T D) {i : Nat} {d : Dc} (hd : D[i]? = some d) : 46 ∉ nmT T d := by
  intro h
  have := (hg.N i d hd).2.2.2 46 h
  exact absurd this (by decide)
/-- what stands before a name of a scope -/
def pre (T : List Nat) (D : List Dc) (sc : Option Nat) : List Nat := match sc with
  | none => []
  | some m => fnT T D m ++ [46]
theorem fnT_pre {T : List Nat} {D : List Dc} (hW : WF D) {i : Nat} {d : Dc} (hd : D[i]? = some d) : fnT T D i = pre T D (dS d) ++ nmT T d := by
  rw [fnT_some hW hd]
  cases dS d with
  | none => rfl
  | some p => show fnT T D p ++ 46 :: nmT T d = (fnT T D p ++ [46]) ++ nmT T d; rw [List.append_assoc]; try rfl
theorem dot_inj {A B N M : List Nat} (hN : 46 ∉ N) (hM : 46 ∉ M) (h : A ++ 46 :: N = B ++ 46 :: M) : A = B ∧ N = M := by
  rcases List.append_eq_append_iff.mp h with ⟨a, h1, h2⟩ | ⟨a, h1, h2⟩
  · cases a with
    | nil =>
      rw [List.append_nil] at h1
      exact ⟨h1.symm, (List.cons.inj h2).2⟩
    | cons x a =>
      have := (List.cons.inj h2).2
      exact absurd (by rw [this]; exact List.mem_append_right _ (List.mem_cons_self ..)) hN
  · cases a with
    | nil =>
      rw [List.append_nil] at h1
      exact ⟨h1, ((List.cons.inj h2).2).symm⟩
    | cons x a =>
      have := (List.cons.inj h2).2
      exact absurd (by rw [this]; exact List.mem_append_right _ (List.mem_cons_self ..)) hM
theorem fnT_inj {T : List Nat} {D : List Dc} (hg : GSc T D) : ∀ (i j : Nat) (d e : Dc), D[i]? = some d → D[j]? = some e → fnT T D i = fnT T D j → i = j := by
  intro i
  induction i using Nat.strongRecOn with
  | ind i ih =>
    intro j d e hd he h
    have h1 := nmT_46 hg hd
    have h2 := nmT_46 hg he
    rw [fnT_some hg.1 hd, fnT_some hg.1 he] at h
    cases hs : dS d with
    | none =>
      cases hs' : dS e with
      | none =>
        rw [hs, hs'] at h
        exact nam_inj hg hd he (hs.trans hs'.symm) h
      | some q =>
        rw [hs, hs'] at h
        simp only at h
        exact absurd (by rw [h]; exact List.mem_append_right _ (List.mem_cons_self ..)) h1
    | some p =>
      cases hs' : dS e with
      | none =>
        rw [hs, hs'] at h
        simp only at h
        exact absurd (by rw [← h]; exact List.mem_append_right _ (List.mem_cons_self ..)) h2
      | some q =>
        rw [hs, hs'] at h
        simp only at h
        obtain ⟨z1, z2⟩ := dot_inj h1 h2 h
        obtain ⟨x, hx, _⟩ := hg.1.scK hd p hs
        obtain ⟨y, hy, _⟩ := hg.1.scK he q hs'
        have := ih p ((hg.1.before hd).1 p hs) q x y hx hy z1
        exact nam_inj hg hd he (by rw [hs, hs', this]) z2
theorem fTy_here {T S : List Nat} {D : List Dc} (hg : GSc T D) {i : Nat} {d : Dc} (hd : D[i]? = some d) (hk : dK d ≤ 1) (h : S = fnT T D i) : fTy T D S = some i := by
  have hi := (List.getElem?_eq_some_iff.mp hd).1
  unfold fTy
  have := ff_here (p := pFull T D S) (List.range D.length) 0 i i (List.getElem?_range hi) (by unfold pFull; rw [knd_some hd]; exact decide_eq_true ⟨hk, h⟩) (fun j x hj hx => by
    have hx' : j = x := by rw [List.getElem?_range (by omega)] at hx; exact Option.some.inj hx
    subst hx'
    unfold pFull
    refine decide_eq_false (fun z => ?_)
    have := fnT_inj hg i j d _ hd (List.getElem?_eq_getElem (by omega)) (h.symm.trans z.2)
    omega)
  rw [this, Nat.zero_add]
theorem fTy_some {T S : List Nat} {D : List Dc} {i : Nat} (h : fTy T D S = some i) : ∃ d, D[i]? = some d ∧ dK d ≤ 1 ∧ S = fnT T D i := by
  unfold fTy at h
  obtain ⟨x, hx, h1, _, _⟩ := ff_some _ 0 i h
  rw [Nat.sub_zero] at hx
  have hi : i < D.length := by have := (List.getElem?_eq_some_iff.mp hx).1; rwa [List.length_range] at this
  rw [List.getElem?_range hi] at hx
  cases hx
  have hd := List.getElem?_eq_getElem hi
  have := of_decide_eq_true h1
  rw [knd_some hd] at this
  exact ⟨_, hd, this.1, this.2⟩
/-- a full name below a scope goes through a type of that scope -/
theorem fnT_via {T : List Nat} {D : List Dc} (hg : GSc T D) {sc : Option Nat} (hsc : ∀ m, sc = some m → isM D m) : ∀ (t : Nat) (e : Dc), D[t]? = some e → dK e ≤ 1 → pre T D sc <+: fnT T D t → ∃ i d R, D[i]? = some d ∧ dK d ≤ 1 ∧ dS d = sc ∧ fnT T D t = pre T D sc ++ nmT T d ++ R ∧ ((i = t ∧ R = []) ∨ (dK d = 0 ∧ ∃ R', R = 46 :: R')) := by
  intro t
  induction t using Nat.strongRecOn with
  | ind t ih =>
    intro e he hk hp
    by_cases q : dS e = sc
    · exact ⟨t, e, [], he, hk, q, by rw [fnT_pre hg.1 he, q, List.append_nil], Or.inl ⟨rfl, rfl⟩⟩
    · cases hs : dS e with
      | none =>
        cases sc with
        | none => exact absurd hs q
        | some m =>
          obtain ⟨R, hR⟩ := hp
          rw [fnT_pre hg.1 he, hs] at hR
          have : (fnT T D m ++ [46]) ++ R = nmT T e := hR
          exact absurd (by rw [← this]; exact List.mem_append_left _ (List.mem_append_right _ (List.mem_cons_self ..))) (nmT_46 hg he)
      | some p =>
        obtain ⟨x, hx, hx0⟩ := hg.1.scK he p hs
        have eF : fnT T D t = fnT T D p ++ 46 :: nmT T e := by rw [fnT_some hg.1 he, hs]
        have hpp : pre T D sc <+: fnT T D p := by
          cases sc with
          | none => exact List.nil_prefix
          | some m =>
            obtain ⟨y, hy, _⟩ := hsc m rfl
            obtain ⟨R, hR⟩ := hp
            rw [eF] at hR
            have hR' : (fnT T D m ++ [46]) ++ R = fnT T D p ++ 46 :: nmT T e := hR
            rw [List.append_assoc] at hR'
            rcases List.append_eq_append_iff.mp hR' with ⟨a, h1, h2⟩ | ⟨a, h1, h2⟩
            · cases a with
              | nil =>
                rw [List.append_nil] at h1
                exact absurd (by rw [hs, fnT_inj hg p m x y hx hy h1]) q
              | cons z a =>
                have hz : 46 = z := (List.cons.inj h2).1
                exact ⟨a, by rw [h1, ← hz]; show (fnT T D m ++ [46]) ++ a = _; rw [List.append_assoc]; rfl⟩
            · cases a with
              | nil =>
                rw [List.append_nil] at h1
                exact absurd (by rw [hs, fnT_inj hg p m x y hx hy h1.symm]) q
              | cons z a =>
                have := (List.cons.inj h2).2
                exact absurd (by rw [this]; exact List.mem_append_right _ (List.mem_cons_self ..)) (nmT_46 hg he)
        obtain ⟨i, d, R, h1, h2, h3, h4, h5⟩ := ih p ((hg.1.before he).1 p hs) x hx (by omega) hpp
        refine ⟨i, d, R ++ 46 :: nmT T e, h1, h2, h3, by rw [eF, h4]; simp only [List.append_assoc], Or.inr ⟨?_, ?_⟩⟩
        · rcases h5 with ⟨z, _⟩ | ⟨z, _⟩
          · subst z; rw [hx] at h1; cases h1; exact hx0
          · exact z
        · rcases h5 with ⟨_, z⟩ | ⟨_, R', z⟩
          · exact ⟨nmT T e, by rw [z]; rfl⟩
          · exact ⟨R' ++ 46 :: nmT T e, by rw [z]; rfl⟩
/-- the tape names at most one of a scope -/
theorem isTp_inj {S N M : List Nat} {p : Nat} (hN : 46 ∉ N) (hM : 46 ∉ M) (h1 : isTp S p N = true) (h2 : isTp S p M = true) : N = M := by
  have key : ∀ {N M : List Nat}, 46 ∉ M → isTp S p N = true → isTp S p M = true → ¬ N.length < M.length := by
    intro N M hM h1 h2 hlt
    obtain ⟨a1, a2, a3⟩ := isTp_iff.mp h1
    obtain ⟨b1, b2, b3⟩ := isTp_iff.mp h2
    have : S[p + N.length]? = some 46 := a3.resolve_left (by omega)
    have hm : M[N.length]? = some 46 := by
      rw [← b2]
      unfold slc
      rw [List.getElem?_take_of_lt (by omega), List.getElem?_drop]
      exact this
    exact hM (List.mem_of_getElem? hm)
  have hl : N.length = M.length := by
    have := key hM h1 h2
    have := key hN h2 h1
    omega
  rw [← (isTp_iff.mp h1).2.1, ← (isTp_iff.mp h2).2.1, hl]
theorem isTp_fn {S P N R : List Nat} {p : Nat} (hS : S = P ++ N ++ R) (hp : P.length = p) (hR : R = [] ∨ ∃ R', R = 46 :: R') : isTp S p N = true := by
  subst hS
  subst hp
  refine isTp_iff.mpr ⟨?_, ?_, ?_⟩
  · rw [List.length_append, List.length_append]; omega
  · unfold slc
    rw [List.append_assoc, List.drop_left, show P.length + N.length - P.length = N.length by omega, List.take_left]
  · rcases hR with z | ⟨R', z⟩
    · left; rw [z, List.append_nil, List.length_append]
    · right
      rw [z, show P.length + N.length = (P ++ N).length by rw [List.length_append], List.getElem?_append_right (Nat.le_refl _), Nat.sub_self]; try rfl
/-- the type that the tape names next, if any -/
theorem nmC_cases {T S : List Nat} {D : List Dc} (hg : GSc T D) {sc : Option Nat} {p : Nat} : (nmC D (ff (pNt T S 0 sc p) D 0) (ff (pNt T S 1 sc p) D 0) = -1 ∧ ∀ (i : Nat) (d : Dc), D[i]? = some d → dK d ≤ 1 → dS d = sc → isTp S p (nmT T d) = false) ∨ ∃ i d, D[i]? = some d ∧ dK d ≤ 1 ∧ dS d = sc ∧ isTp S p (nmT T d) = true ∧ nmC D (ff (pNt T S 0 sc p) D 0) (ff (pNt T S 1 sc p) D 0) = nI (if dK d = 0 then cnt (D.take i) 0 else 1000 + cnt (D.take i) 1) := by
  unfold nmC
  cases h0 : ff (pNt T S 0 sc p) D 0 with
  | some i =>
    right
    obtain ⟨d, hd, h1, _, _⟩ := ff_some _ 0 i h0
    rw [Nat.sub_zero] at hd
    unfold pNt at h1
    rw [Bool.and_eq_true, decide_eq_true_iff] at h1
    exact ⟨i, d, hd, by omega, h1.1.2, h1.2, by simp only; rw [if_pos h1.1.1]⟩
  | none =>
    cases h1 : ff (pNt T S 1 sc p) D 0 with
    | some i =>
      right
      obtain ⟨d, hd, h1, _, _⟩ := ff_some _ 0 i h1
      rw [Nat.sub_zero] at hd
      unfold pNt at h1
      rw [Bool.and_eq_true, decide_eq_true_iff] at h1
      exact ⟨i, d, hd, by omega, h1.1.2, h1.2, by simp only; rw [if_neg (by omega)]⟩
    | none =>
      left
      refine ⟨rfl, fun i d hd hk hs => ?_⟩
      have a0 := ff_none _ 0 h0 d (List.mem_of_getElem? hd)
      have a1 := ff_none _ 0 h1 d (List.mem_of_getElem? hd)
      unfold pNt at a0 a1
      have : dK d = 0 ∨ dK d = 1 := by omega
      rcases this with z | z
      · rw [decide_eq_true ⟨z, hs⟩, Bool.true_and] at a0; exact a0
      · rw [decide_eq_true ⟨z, hs⟩, Bool.true_and] at a1; exact a1
theorem nI_m1 {n : Nat} (h : n < 2 ^ 31) : ¬ nI n = -1 := by
  intro z
  have hb := congrArg Int32.toBitVec z
  have hn := congrArg BitVec.toNat hb
  rw [show (nI n).toBitVec = BitVec.ofNat 32 n from rfl, BitVec.toNat_ofNat] at hn
  have : (BitVec.toNat (Int32.toBitVec (-1))) = 4294967295 := by decide
  omega
theorem N_find_L {U s : Nat} {σ : SG} {T S : List Nat} {D : List Dc} {K : Int32 → Option (Int32 × SG)} (hU4 : 4000 < U) (hs : s < 2) (hg : GSc T D) (h : RS σ s T D) (hL : LR σ S) (hK : ∀ i d, D[i]? = some d → dK d ≤ 1 → K (nI (if dK d = 0 then cnt (D.take i) 0 else 1000 + cnt (D.take i) 1)) = some (fiA D (some i), σ)) : ∀ (j v p U1 : Nat) (sc : Option Nat), v + j = 17 → j < U1 → p ≤ S.length → S.take p = pre T D sc → (∀ m, sc = some m → isM D m) → v ≤ (match sc with
    | none => 0
    | some m => cnt (D.take (m + 1)) 0) → x_X12_find_L45 U 1101 K (nI s) σ U1 (oq D 0 sc) (nI p) (nI v) = some (fiA D (fTy T D S), σ) := by
  have hl := hg.2.1
  have hSl := hL.2.2.1
  obtain ⟨l0, l1, l2, l3, l4, l5⟩ := lim_of h.1
  intro j
  induction j with
  | zero =>
    intro v p U1 sc hv hu hp ht hsc hb
    exfalso
    cases sc with
    | none => simp only at hb; omega
    | some m => simp only at hb; have := cnt_take_le D (m + 1) 0; omega
  | succ j ih =>
    intro v p U1 sc hv hu hp ht hsc hb
    obtain ⟨V, rfl⟩ : ∃ V, U1 = V + 1 := ⟨U1 - 1, by omega⟩
    have hv16 : ¬ (16 : Int32) < nI v := fun z => by have := (ltI (a := 16) (by decide) (by omega)).mp z; omega
    rw [x_X12_find_L45, if_neg hv16, N_named hU4 hs hg h hL hp hsc, b1_eq]
    have hpl : (pre T D sc).length = p := by rw [← ht, List.length_take]; omega
    have hvia : ∀ t, fTy T D S = some t → ∃ i d R, D[i]? = some d ∧ dK d ≤ 1 ∧ dS d = sc ∧ S = pre T D sc ++ nmT T d ++ R ∧ isTp S p (nmT T d) = true ∧ ((i = t ∧ R = []) ∨ (dK d = 0 ∧ ∃ R', R = 46 :: R')) := by
      intro t ht'
      obtain ⟨e, he, hk, hS⟩ := fTy_some ht'
      obtain ⟨i, d, R, h1, h2, h3, h4, h5⟩ := fnT_via hg hsc t e he hk (by rw [← ht, ← hS]; exact List.take_prefix ..)
      refine ⟨i, d, R, h1, h2, h3, hS.trans h4, isTp_fn (hS.trans h4) hpl ?_, h5⟩
      rcases h5 with z | z
      · exact Or.inl z.2
      · exact Or.inr z.2
    rcases nmC_cases hg (sc := sc) (p := p) (T := T) (S := S) (D := D) with ⟨c1, c2⟩ | ⟨i, d, hd, hk, hsd, htp, hc⟩
    · rw [c1, if_pos rfl]
      cases hf : fTy T D S with
      | none => rfl
      | some t =>
        obtain ⟨i, d, R, h1, h2, h3, _, h5, _⟩ := hvia t hf
        rw [c2 i d h1 h2 h3] at h5
        cases h5
    · have hil := (List.getElem?_eq_some_iff.mp hd).1
      have hci0 := cnt_le (D.take i) 0
      have hci1 := cnt_le (D.take i) 1
      rw [List.length_take] at hci0 hci1
      obtain ⟨t1, t2, t3⟩ := isTp_iff.mp htp
      have htk : S.take (p + (nmT T d).length) = fnT T D i := by
        rw [fnT_pre hg.1 hd, hsd, ← ht, List.take_add]
        congr 1
        unfold slc at t2
        rw [show p + (nmT T d).length - p = (nmT T d).length by omega] at t2
        exact t2
      have hnum : ∀ q, (if dK d = 0 then cnt (D.take i) 0 else 1000 + cnt (D.take i) 1) = q → q < 2000 := by
        intro q hq
        by_cases z : dK d = 0
        · rw [if_pos z] at hq; omega
        · rw [if_neg z] at hq; omega
      rw [hc, if_neg (nI_m1 (by have := hnum _ rfl; omega)), show (1000 : Int32) = nI 1000 from rfl, ifd (ltI (by have := hnum _ rfl; omega) (by decide))]
      -- the step, once the name's length is read
      have step : ∀ s0 : Int32, s0 = nI (nmT T d).length → x_X12_find_109 U 1101 (x_X12_find_L45 U 1101 K (nI s) σ V) K (nI s) (nI v) (nI (if dK d = 0 then cnt (D.take i) 0 else 1000 + cnt (D.take i) 1)) s0 (nI p) σ = some (fiA D (fTy T D S), σ) := by
        intro s0 hs0
        unfold x_X12_find_109
        rw [hs0, nI_add, hL.1, ifd (nI_eq (by omega) (by omega))]
        by_cases q : p + (nmT T d).length = S.length
        · rw [if_pos q, hK i d hd hk]
          have : S = fnT T D i := by rw [← htk, q, List.take_length]
          rw [fTy_here hg hd hk this]
        · rw [if_neg q, show (1000 : Int32) = nI 1000 from rfl, ifd (ltI (by have := hnum _ rfl; omega) (by decide))]
          have h46 := t3.resolve_left q
          have hlt := (List.getElem?_eq_some_iff.mp h46).1
          by_cases z : dK d = 0
          · rw [if_pos z, if_pos (by omega), nI_1, nI_1]
            refine ih (v + 1) (p + (nmT T d).length + 1) V (some i) (by omega) (by omega) (by omega) ?_ ?_ ?_
            · rw [List.take_add_one, h46, htk]; try rfl
            · intro m hm
              cases hm
              exact ⟨d, hd, z⟩
            · simp only
              have e1 : cnt (D.take (i + 1)) 0 = cnt (D.take i) 0 + 1 := by
                rw [List.take_add_one, hd]
                show cnt (D.take i ++ [d]) 0 = _
                rw [cnt_sn, if_pos z]
              rw [e1]
              cases sc with
              | none => simp only at hb; omega
              | some m =>
                simp only at hb
                have := (hg.1.before hd).1 m hsd
                have := cnt_mono (D := D) (q := 0) (show m + 1 ≤ i by omega)
                omega
          · rw [if_neg z, if_neg (by omega)]
            cases hf : fTy T D S with
            | none => rfl
            | some t =>
              exfalso
              obtain ⟨i', d', R, h1, h2, h3, h4, h5, h6⟩ := hvia t hf
              have hnn := isTp_inj (nmT_46 hg hd) (nmT_46 hg h1) htp h5
              have hii := nam_inj hg hd h1 (hsd.trans h3.symm) hnn
              subst hii
              rw [hd] at h1
              cases h1
              rcases h6 with ⟨_, y⟩ | ⟨y, _⟩
              · have := congrArg List.length h4
                rw [y, List.append_nil, List.length_append, hpl] at this
                omega
              · exact z y
      by_cases z : dK d = 0
      · have row := (h.2.2 i d hd).1 z
        obtain ⟨r, r1, r2, _⟩ := row.2
        rw [if_pos z] at step ⊢
        rw [if_pos (by omega), show (16 : Int32) = nI 16 from rfl, pk_mul, nI_add, ix_in (by have := cnt_take_lt hd z; omega) (by decide)]
        exact step _ r2
      · have z1 : dK d = 1 := by omega
        have row := (h.2.2 i d hd).2.1 z1
        obtain ⟨r, r1, r2, _⟩ := row.2
        rw [if_neg z] at step ⊢
        rw [if_neg (by omega), show (8 : Int32) = nI 8 from rfl, pk_mul, nI_add, nI_sub (by omega), show 8 * s + (1000 + cnt (D.take i) 1) - 1000 = 8 * s + cnt (D.take i) 1 by omega, ix_in (by have := cnt_take_lt hd z1; omega) (by decide)]
        exact step _ r2
def Pfi (b i : Nat) : Prop := b = 1101 ∧ (i = 1 ∨ i = 5 ∨ i = 73)
theorem N_find {U s : Nat} {σ : SG} {T S : List Nat} {D : List Dc} (hU4 : 4000 < U) (hs : s < 2) (hg : GSc T D) (hS : RS σ s T D) (hT : RTr σ S) (h8 : ok8 S) (hl : S.length ≤ 700) : ∃ τ, x_X12_find U 1101 (nI s) σ = some (fiA D (fTy T D S), τ) ∧ fP Pfi σ τ ∧ sI τ 1101 1 = 0 ∧ sI τ 1101 5 = 0 := by
  obtain ⟨l0, l1, l2, l3, l4, l5⟩ := lim_of hS.1
  unfold x_X12_find x_X12_find_26
  have F : fP Pfi σ (uI (uI (uI σ 1101 73 (sI σ 1101 1)) 1101 1 0) 1101 5 0) := by
    refine fP_trans (fP_trans (fP_u ?_) (fP_u ?_)) (fP_u ?_)
    · exact ⟨rfl, by decide⟩
    · exact ⟨rfl, by decide⟩
    · exact ⟨rfl, by decide⟩
  have L : LR (uI (uI (uI σ 1101 73 (sI σ 1101 1)) 1101 1 0) 1101 5 0) S := by
    refine ⟨?_, ?_, hl, h8⟩
    · rw [sI_o (Or.inr (by decide)), sI_o (Or.inr (by decide)), sI_s, hT.1]
    · exact ((hT.2.sm (sm_uI (by decide))).sm (sm_uI (by decide))).sm (sm_uI (by decide))
  have R : RS (uI (uI (uI σ 1101 73 (sI σ 1101 1)) 1101 1 0) 1101 5 0) s T D := RS_keep hS (fun b k hb => (F b k (by unfold PKP at hb; unfold Pfi; omega)).1)
  rw [sb_eq, sb_eq, isSchema_s hs, b1_eq, if_neg (by decide), sb_eq, sI_s, if_pos rfl]
  have hw := N_find_L (U := U) (K := fun w23 => if w23 < 1000 then (some (w23, (uI (uI (uI σ 1101 73 (sI σ 1101 1)) 1101 1 0) 1101 5 0))) else (ix (nI s) 2 fun j25 => some (((sI (uI (uI (uI σ 1101 73 (sI σ 1101 1)) 1101 1 0) 1101 5 0) 1104 j25) + w23) - 1000, (uI (uI (uI σ 1101 73 (sI σ 1101 1)) 1101 1 0) 1101 5 0)))) hU4 hs hg R L (fun i d hd hk => by
    have hil := (List.getElem?_eq_some_iff.mp hd).1
    have hll := hg.2.1
    have hci0 := cnt_le (D.take i) 0
    have hci1 := cnt_le (D.take i) 1
    rw [List.length_take] at hci0 hci1
    unfold fiA
    simp only
    rw [knd_some hd]
    by_cases z : dK d = 0
    · rw [if_pos z, if_pos z, if_pos (show nI (cnt (D.take i) 0) < 1000 from (ltI (b := 1000) (by omega) (by decide)).mpr (by omega))]
    · have hc : sI (uI (uI (uI σ 1101 73 (sI σ 1101 1)) 1101 1 0) 1101 5 0) 1104 s = nI (cnt D 0) := R.2.1 0 (by decide)
      rw [if_neg z, if_neg z, if_neg (show ¬ nI (1000 + cnt (D.take i) 1) < 1000 from fun y => by have := (ltI (b := 1000) (by omega) (by decide)).mp y; omega), ix_in hs (by decide), hc, nI_add, show (1000 : Int32) = nI 1000 from rfl, nI_sub (by omega), show cnt D 0 + (1000 + cnt (D.take i) 1) - 1000 = cnt D 0 + cnt (D.take i) 1 by omega]) 17 0 0 U none (by omega) (by omega) (by omega) rfl (fun m hm => by cases hm) (Nat.le_refl _)
  refine ⟨_, hw, F, ?_, sI_s _ _ _ _⟩
  rw [sI_o (Or.inr (by decide)), sI_s]
/-! ===== a schema that there is not ===== -/
def noS (p : Int32) : Prop := ¬ p = 0 ∧ ¬ p = 1
theorem isSchema_no {p : Int32} (h : noS p) : x_X12_isSchema p = some 0 := by
  unfold x_X12_isSchema
  rw [if_neg h.1, if_neg h.2]
theorem C_compile_no {U : Nat} {p : Int32} {σ : SG} (h : noS p) : x_X11_compile U 0 p σ = some (.inr IAE, σ) := by
  unfold x_X11_compile
  rw [cOf_no h.1 h.2, b1_eq, if_pos rfl]; try rfl
theorem N_compile_no {U : Nat} {p : Int32} {σ : SG} (h : noS p) : x_X12_compile U 1101 p σ = some (0, uI σ 1101 5 1) := by
  unfold x_X12_compile x_X12_compile_13
  rw [isSchema_no h, b1_eq, if_pos rfl, sb_eq, sI_s, if_neg (show ¬ (1 : Int32) = 0 by decide)]
theorem C_many_no {p w : Int32} {σ : SG} (h : noS p) : x_X11_many 0 p w σ = some (.inr IAE, σ) := by
  unfold x_X11_many x_X11_many_19
  rw [cOf_no h.1 h.2, b1_eq, if_pos rfl]; try rfl
theorem N_many_no {p w : Int32} {σ : SG} (h : noS p) : x_X12_many 1101 p w σ = some (0, uI σ 1101 5 1) := by
  unfold x_X12_many x_X12_many_21 x_X12_many_22
  rw [isSchema_no h, b1_eq, if_pos rfl, sb_eq, sI_s, if_neg (show ¬ (1 : Int32) = 0 by decide)]
theorem C_field_no {U : Nat} {p x y w : Int32} {σ : SG} (h : noS p) : x_X11_field U 0 p x y w σ = some (.inr IAE, σ) := by
  unfold x_X11_field x_X11_messageOf x_X11_field_23 x_X11_field_41
  rw [cOf_no h.1 h.2, b1_eq, if_pos rfl, b1_eq, if_pos rfl, if_pos rfl]; try rfl
theorem N_field_no {U : Nat} {p x y w : Int32} {σ : SG} (h : noS p) : x_X12_field U 1101 p x y w σ = some (0, uI σ 1101 5 1) := by
  unfold x_X12_field x_X12_isMessage x_X12_field_20 x_X12_field_40 x_X12_field_45
  rw [isSchema_no h, b1_eq, if_pos rfl, b1_eq, if_pos rfl, if_pos rfl, sb_eq, sI_s, if_neg (show ¬ (1 : Int32) = 0 by decide)]
theorem C_find_no {U : Nat} {p : Int32} {σ : SG} (h : noS p) : ∃ τ, x_X11_find U 0 p σ = some (.inr IAE, τ) ∧ RB τ 1 [] 0 ∧ ∀ b, b ≠ 1 → sm σ τ b := by
  obtain ⟨τ, t1, t2, t3⟩ := X0_clear (σ := σ) (a := 1)
  unfold x_X11_find x_X11_find_25
  rw [cOf_no h.1 h.2, b1_eq, if_pos rfl, t1, b1_eq, if_pos rfl]
  exact ⟨τ, rfl, t2, t3⟩
theorem N_find_no {U : Nat} {p : Int32} {σ : SG} (h : noS p) : ∃ τ, x_X12_find U 1101 p σ = some (0, τ) ∧ fP Pfi σ τ ∧ sI τ 1101 1 = 0 ∧ sI τ 1101 5 = 1 := by
  unfold x_X12_find x_X12_find_26
  rw [sb_eq, sb_eq, isSchema_no h, b1_eq, if_pos rfl, sb_eq, sI_s, if_neg (show ¬ (1 : Int32) = 0 by decide)]
  refine ⟨_, rfl, ?_, ?_, sI_s _ _ _ _⟩
  · refine fP_trans (fP_trans (fP_u ?_) (fP_u ?_)) (fP_u ?_)
    · exact ⟨rfl, by decide⟩
    · exact ⟨rfl, by decide⟩
    · exact ⟨rfl, by decide⟩
  · rw [sI_o (Or.inr (by decide)), sI_s]
theorem opens_no {U : Nat} {p x y : Int32} {σ : SG} (h : noS p) : x_X11_opens U 0 p x y σ = some (0, σ) := by
  unfold x_X11_opens x_X11_messageOf
  rw [cOf_no h.1 h.2, b1_eq, b1_eq, if_pos rfl, b1_eq, if_pos rfl]
theorem C_decode_no {U : Nat} {p x y : Int32} {σ : SG} (hU4 : 4000 < U) (h : noS p) (h92 : sI σ 1092 2 = 0) : ∃ τ, x_X11_decode U 0 p x y σ = some (.inr IAE, τ) ∧ fCd σ τ ∧ RB τ 1 [] 0 ∧ VCn τ := by
  obtain ⟨τ, t1, t2, t3, t4, _⟩ := C_settle (U := U) (c := 5) (m := 0) (σ := σ) (o := none) hU4 (Or.inl rfl) GSc_nil (fun _ => h92) (fun A hA => by cases hA)
  unfold x_X11_decode x_X11_decode_26 x_X11_decode_27
  rw [opens_no h, b2_eq, if_pos rfl]
  exact ⟨τ, t1, t2, t3, t4 rfl⟩
theorem C_parse_no {U : Nat} {p x y : Int32} {σ : SG} (hU4 : 4000 < U) (h : noS p) (h92 : sI σ 1092 2 = 0) : ∃ τ, x_X11_parse U 0 p x y σ = some (.inr IAE, τ) ∧ fCd σ τ ∧ RB τ 1 [] 0 ∧ VCn τ := by
  obtain ⟨τ, t1, t2, t3, t4, _⟩ := C_settle (U := U) (c := 5) (m := 0) (σ := σ) (o := none) hU4 (Or.inl rfl) GSc_nil (fun _ => h92) (fun A hA => by cases hA)
  unfold x_X11_parse x_X11_parse_26 x_X11_parse_27
  rw [opens_no h, b2_eq, if_pos rfl]
  exact ⟨τ, t1, t2, t3, t4 rfl⟩
theorem begins_no {p x y : Int32} {σ : SG} (h : noS p) : x_X12_begins 1101 p x y σ = some (0, uI (uI (uI (uI σ 1101 73 (sI σ 1101 1)) 1101 1 0) 1101 79 0) 1101 5 1) := by
  unfold x_X12_begins x_X12_begins_43 x_X12_begins_44 x_X12_isMessage
  rw [sb_eq, sb_eq, sb_eq, isSchema_no h, b1_eq, if_pos rfl, b1_eq, if_pos rfl, sb_eq, sI_s, if_neg (show ¬ (1 : Int32) = 0 by decide)]
def Pbn (b i : Nat) : Prop := b = 1101 ∧ (i = 1 ∨ i = 5 ∨ i = 73 ∨ i = 79)
theorem begins_f {σ : SG} {v : Int32} : fP Pbn σ (uI (uI (uI (uI σ 1101 73 v) 1101 1 0) 1101 79 0) 1101 5 1) ∧ sI (uI (uI (uI (uI σ 1101 73 v) 1101 1 0) 1101 79 0) 1101 5 1) 1101 1 = 0 ∧ sI (uI (uI (uI (uI σ 1101 73 v) 1101 1 0) 1101 79 0) 1101 5 1) 1101 79 = 0 ∧ sI (uI (uI (uI (uI σ 1101 73 v) 1101 1 0) 1101 79 0) 1101 5 1) 1101 5 = 1 := by
  refine ⟨?_, ?_, ?_, sI_s _ _ _ _⟩
  · refine fP_trans (fP_trans (fP_trans (fP_u ?_) (fP_u ?_)) (fP_u ?_)) (fP_u ?_)
    all_goals exact ⟨rfl, by decide⟩
  · rw [sI_o (Or.inr (by decide)), sI_o (Or.inr (by decide)), sI_s]
  · rw [sI_o (Or.inr (by decide)), sI_s]
theorem N_decode_no {U : Nat} {p x y : Int32} {σ : SG} (h : noS p) : ∃ τ, x_X12_decode U 1101 p x y σ = some (0, τ) ∧ fP Pbn σ τ ∧ sI τ 1101 1 = 0 ∧ sI τ 1101 79 = 0 ∧ sI τ 1101 5 = 1 := by
  unfold x_X12_decode
  rw [begins_no h, b2_eq, if_pos rfl]
  exact ⟨_, rfl, begins_f⟩
theorem N_parse_no {U : Nat} {p x y : Int32} {σ : SG} (h : noS p) : ∃ τ, x_X12_parse U 1101 p x y σ = some (0, τ) ∧ fP Pbn σ τ ∧ sI τ 1101 1 = 0 ∧ sI τ 1101 79 = 0 ∧ sI τ 1101 5 = 1 := by
  unfold x_X12_parse
  rw [begins_no h, b2_eq, if_pos rfl]
  exact ⟨_, rfl, begins_f⟩
/-! ===== the law's invariant: class and reference say the same ===== -/
/-- two schemas and a value -/
abbrev SV : Type := (Nat → List Nat × List Dc) × Option (Nat × AV)
def svT (B : SV) (s : Nat) : List Nat := (B.1 s).1
def svD (B : SV) (s : Nat) : List Dc := (B.1 s).2
def svV (B : SV) : Option (Nat × AV) := B.2
/-- the tape, OUT, and the rest -/
abbrev LST : Type := List Nat × List Nat × SV
def stS (A : LST) : List Nat := A.1
def stO (A : LST) : List Nat := A.2.1
def stB (A : LST) : SV := A.2.2
def IG (B : SV) : Prop := (∀ s, s < 2 → GSc (svT B s) (svD B s)) ∧ ∀ s V, svV B = some (s, V) → s < 2 ∧ (∃ z, AW (svT B s) (svD B s) V z) ∧ AK (svT B s) (svD B s) V ∧ nV (svT B s) (svD B s) V ≤ 200
def CV (B : SV) (σ : SG) : Prop := (∀ s, s < 2 → CS σ (cA s) (svT B s) (svD B s)) ∧ sI σ 1092 2 = 0 ∧ (svV B = none → VCn σ) ∧ ∀ s V, svV B = some (s, V) → ∃ m, VCs σ (cA s) (svT B s) (svD B s) m V
def RV (B : SV) (σ : SG) : Prop := (∀ s, s < 2 → RS σ s (svT B s) (svD B s)) ∧ (svV B = none → sI σ 1101 79 = 0) ∧ ∀ s V, svV B = some (s, V) → VRo σ s (svT B s) (svD B s) (some V)
def IC (A : LST) (σ : SG) : Prop := RB σ 1 (stS A) 0 ∧ (∃ z, RB σ 3 (stO A) z) ∧ CV (stB A) σ
def IR (A : LST) (σ : SG) : Prop := RTr σ (stS A) ∧ (∃ z, ROr σ (stO A, z)) ∧ RV (stB A) σ
def INV (A : LST) (σ : SG) : Prop := IG (stB A) ∧ IC A σ ∧ IR A σ
theorem cA_2 {s : Nat} (hs : s < 2) : (cA s = 5 ∨ cA s = 197) := cA_cb (s := s)
theorem CV_sm {B : SV} {σ τ : SG} (h : CV B σ) (hG : IG B) (hf : ∀ b, (5 ≤ b ∧ b ≤ 389) ∨ (391 ≤ b ∧ b ≤ 1093) → sm σ τ b) : CV B τ := by
  obtain ⟨h1, h2, h3, h4⟩ := h
  refine ⟨fun s hs => ?_, ?_, fun hn => ?_, fun s V hV => ?_⟩
  · have hc := cA_2 hs
    exact CS_sm (h1 s hs) (fun b g1 g2 => hf b (by omega))
  · exact ((hf 1092 (by omega)) 2).1.trans h2
  · obtain ⟨a1, a2, a3, a4⟩ := h3 hn
    have h9 := hf 389 (by omega)
    exact ⟨(h9 4).2.2.trans a1, (h9 5).2.2.trans a2, (h9 3).1.trans a3, a4.sm (hf 1092 (by omega)) (hf 1093 (by omega))⟩
  · obtain ⟨m, ⟨G, g1, g2⟩, p4, p5⟩ := h4 s V hV
    have h9 := hf 389 (by omega)
    exact ⟨m, ⟨G, VG_sm g1 (fun b hb => hf b (by omega)), g2⟩, (h9 4).2.2.trans p4, (h9 5).2.2.trans p5⟩
/-- the cells that the reference's schemas and value live in -/
def KpR (b k : Nat) : Prop := (b = 1101 ∧ 79 ≤ k ∧ k ≤ 84) ∨ (1104 ≤ b ∧ b ≤ 1127) ∨ (1160 ≤ b ∧ b ≤ 1162) ∨ (1165 ≤ b ∧ b ≤ 1175)
theorem RV_keep {B : SV} {σ τ : SG} (h : RV B σ) (hG : IG B) (hf : ∀ b k, KpR b k → sI τ b k = sI σ b k ∧ sL τ b k = sL σ b k) : RV B τ := by
  obtain ⟨h1, h2, h3⟩ := h
  refine ⟨fun s hs => RS_keep (h1 s hs) (fun b k hb => (hf b k (by unfold PKP at hb; unfold KpR; omega)).1), fun hn => (hf 1101 79 (by unfold KpR; omega)).1.trans (h2 hn), fun s V hV => ?_⟩
  obtain ⟨a1, H, a2⟩ := h3 s V hV
  exact ⟨(hf 1101 79 (by unfold KpR; omega)).1.trans a1, H, VS_keep a2 (fun b k hb => hf b k (by unfold KpR; omega))⟩
theorem IC_sm {A : LST} {σ τ : SG} (h : IC A σ) (hG : IG (stB A)) (hf : ∀ b, b < 1101 → sm σ τ b) : IC A τ := by
  obtain ⟨h1, ⟨z, h2⟩, h3⟩ := h
  exact ⟨h1.sm (hf 1 (by omega)) (hf 2 (by omega)), ⟨z, h2.sm (hf 3 (by omega)) (hf 4 (by omega))⟩, CV_sm h3 hG (fun b hb => hf b (by omega))⟩
theorem IR_sm {A : LST} {σ τ : SG} (h : IR A σ) (hG : IG (stB A)) (hf : ∀ b, 1101 ≤ b → b ≤ 1184 → sm σ τ b) : IR A τ := by
  obtain ⟨⟨h0, h1⟩, ⟨z, g1, g2, g3, g4⟩, h3⟩ := h
  have f1 := hf 1101 (by omega) (by omega)
  exact ⟨⟨(f1 1).1.trans h0, h1.sm (hf 1102 (by omega) (by omega))⟩, ⟨z, (f1 3).1.trans g1, (f1 4).1.trans g2, g3.sm (hf 1103 (by omega) (by omega)), g4⟩, RV_keep h3 hG (fun b k hb => ⟨(hf b (by unfold KpR at hb; omega) (by unfold KpR at hb; omega) k).1, (hf b (by unfold KpR at hb; omega) (by unfold KpR at hb; omega) k).2.1⟩)⟩
/-- a call of the class touches nothing of the reference -/
def fCl (σ τ : SG) : Prop := ∀ b, 1101 ≤ b → sm σ τ b
/-- a call of the reference touches nothing of the class, nor the law's out -/
def fRf (σ τ : SG) : Prop := ∀ b, (b < 1101 ∨ 1185 ≤ b) → sm σ τ b
theorem fRf_P {P : Nat → Nat → Prop} {σ τ : SG} (h : fP P σ τ) (hP : ∀ b k, P b k → 1101 ≤ b ∧ b ≤ 1184) : fRf σ τ := fun b hb k => h b k (fun z => by have := hP b k z; omega)
/-- an answer: a number, or one of these exceptions -/
def okR (L : List String) (r : mm_R) : Prop := (∃ w, r = .inl (some (.int w))) ∨ ∃ E, E ∈ L ∧ r = .inr E
theorem ok_i {L : List String} {w : Int32} : okR L (.inl (some (.int w))) := Or.inl ⟨w, rfl⟩
theorem ok_1 {L : List String} {E : String} : okR (E :: L) (.inr E) := Or.inr ⟨E, List.mem_cons_self .., rfl⟩
theorem ok_2 {L : List String} {E E' : String} : okR (E' :: E :: L) (.inr E) := Or.inr ⟨E, List.mem_cons_of_mem _ (List.mem_cons_self ..), rfl⟩
theorem ok_fdS {T : List Nat} {b : Int64} {n : Int32} : okR [IAE, ISE] (fdS T b n).1 := by
  unfold fdS
  split
  · exact ok_1
  · split
    · exact ok_2
    · exact ok_i
theorem ok_tnS {T O : List Nat} : okR [ISE] (tnS T O).1 := by
  unfold tnS
  split
  · exact ok_1
  · exact ok_i
theorem ok_mnS {D : List Dc} {w : Int32} : okR [IAE] (mnS D w) := by
  unfold mnS
  split
  · exact ok_1
  · exact ok_i
theorem ok_flS {T : List Nat} {D : List Dc} {x y w : Int32} : okR [IAE] (flS T D x y w) := by
  unfold flS
  split
  · exact ok_1
  · split
    · exact ok_1
    · split
      · exact ok_1
      · exact ok_i
theorem ok_seR {T : List Nat} {D : List Dc} {o : Option AV} : okR [IAE, ISE] (seR T D o).1 := by
  unfold seR
  split
  · exact ok_1
  · split
    · exact ok_2
    · exact ok_i
theorem ok_prA {B : List Nat} : okR [ISE, UOE] (prA B) := by
  unfold prA
  split
  · exact ok_i
  · exact ok_2
theorem ok_chS {T E' : List Nat} {D E : List Dc} {x y : Int32} : okR [IAE] (chS T E' D E x y).1 := by
  unfold chS
  split
  · exact ok_i
  · exact ok_1
/-- what the reference does once the class has answered r -/
def After (q : SG → Option (Int32 × SG)) (C : mm_R → Int32) (cmp : Prop) (r : mm_R) (τ : SG) : Prop := ∀ ω, (∀ b, b ≠ 1185 → sm τ ω b) → ∃ v υ, q ω = some (v, υ) ∧ fRf ω υ ∧ sI υ 1101 5 = C r ∧ (cmp → ∀ w, r = .inl (some (.int w)) → v = w) ∧ ∃ A', INV A' υ
/-- both sides' rows of a call, put together -/
theorem step_of {A A' : LST} {σ τ : SG} {q : SG → Option (Int32 × SG)} {C : mm_R → Int32} {cmp : Prop} {r : mm_R} (h : INV A σ) (hG : IG (stB A')) (hc : IC A' τ) (hf : fCl σ τ)
    (hr : ∀ ω, IR A ω → ∃ v υ, q ω = some (v, υ) ∧ fRf ω υ ∧ sI υ 1101 5 = C r ∧ (cmp → ∀ w, r = .inl (some (.int w)) → v = w) ∧ IR A' υ) : After q C cmp r τ := by
  intro ω hω
  have hRω : IR A ω := IR_sm h.2.2 h.1 (fun b h1 h2 => sm_trans (hf b h1) (hω b (by omega)))
  obtain ⟨v, υ, e1, e2, e3, e4, e5⟩ := hr ω hRω
  have hCω : IC A' ω := IC_sm hc hG (fun b hb => hω b (by omega))
  exact ⟨v, υ, e1, e2, e3, e4, A', hG, IC_sm hCω hG (fun b hb => e2 b (Or.inl hb)), e5⟩
/-- the tape alone changes: class -/
theorem IC_tape {A : LST} {σ τ : SG} {S' : List Nat} (h : IC A σ) (hG : IG (stB A)) (hB : RB τ 1 S' 0) (hf : ∀ b, b ≠ 1 → b ≠ 2 → sm σ τ b) : IC (S', A.2) τ := by
  obtain ⟨_, ⟨z, h2⟩, h3⟩ := h
  exact ⟨hB, ⟨z, h2.sm (hf 3 (by omega) (by omega)) (hf 4 (by omega) (by omega))⟩, CV_sm h3 hG (fun b hb => hf b (by omega) (by omega))⟩
/-- OUT alone changes: class -/
theorem IC_out {A : LST} {σ τ : SG} {O' : List Nat} {z : Int32} (h : IC A σ) (hG : IG (stB A)) (hB : RB τ 3 O' z) (hf : ∀ b, b ≠ 3 → b ≠ 4 → b < 1094 → sm σ τ b) : IC (A.1, O', A.2.2) τ := by
  obtain ⟨h1, _, h3⟩ := h
  exact ⟨h1.sm (hf 1 (by omega) (by omega) (by omega)) (hf 2 (by omega) (by omega) (by omega)), ⟨z, hB⟩, CV_sm h3 hG (fun b hb => hf b (by omega) (by omega) (by omega))⟩
/-- the tape alone changes: reference -/
theorem IR_tape {A : LST} {σ τ : SG} {S' : List Nat} (h : IR A σ) (hG : IG (stB A)) (hT : RTr τ S') (hf : ∀ b k, (b = 1101 ∧ (k = 3 ∨ k = 4)) ∨ b = 1103 ∨ KpR b k → sI τ b k = sI σ b k ∧ sL τ b k = sL σ b k) : IR (S', A.2) τ := by
  obtain ⟨_, ⟨z, g1, g2, g3, g4⟩, h3⟩ := h
  exact ⟨hT, ⟨z, (hf 1101 3 (by omega)).1.trans g1, (hf 1101 4 (by omega)).1.trans g2, fun i c hi => (hf 1103 i (by omega)).1.trans (g3 i c hi), g4⟩, RV_keep h3 hG (fun b k hb => hf b k (Or.inr (Or.inr hb)))⟩
/-- OUT alone changes: reference -/
theorem IR_out {A : LST} {σ τ : SG} {O' : List Nat} {z : Int32} (h : IR A σ) (hG : IG (stB A)) (hO : ROr τ (O', z)) (hf : ∀ b k, (b = 1101 ∧ k = 1) ∨ b = 1102 ∨ KpR b k → sI τ b k = sI σ b k ∧ sL τ b k = sL σ b k) : IR (A.1, O', A.2.2) τ := by
  obtain ⟨⟨h0, h1⟩, _, h3⟩ := h
  exact ⟨⟨(hf 1101 1 (by omega)).1.trans h0, fun i c hi => (hf 1102 i (by omega)).1.trans (h1 i c hi)⟩, ⟨z, hO⟩, RV_keep h3 hG (fun b k hb => hf b k (Or.inr (Or.inr hb)))⟩
theorem f5_k {σ τ : SG} (h : f5 σ τ) {b k : Nat} (hb : b ≠ 1101 ∨ k ≠ 5) : sI τ b k = sI σ b k ∧ sL τ b k = sL σ b k ∧ sP τ b k = sP σ b k := by
  by_cases q : b = 1101
  · subst q
    exact ⟨h.2.1 k (by simp; omega), h.2.2.1 k, h.2.2.2 k⟩
  · exact h.1 b q k
theorem f5_fRf {σ τ : SG} (h : f5 σ τ) : fRf σ τ := fun b hb => h.1 b (by omega)
/-- nothing changes: reference -/
theorem IR_f5 {A : LST} {σ τ : SG} (h : IR A σ) (hG : IG (stB A)) (hf : f5 σ τ) : IR A τ := by
  obtain ⟨h0, ⟨z, g⟩, h3⟩ := h
  exact ⟨h0.f5 hf, ⟨z, g.f5 hf⟩, RV_keep h3 hG (fun b k hb => ⟨(f5_k hf (by unfold KpR at hb; omega)).1, (f5_k hf (by unfold KpR at hb; omega)).2.1⟩)⟩
theorem ft_k {σ τ : SG} (h : ft σ τ) {b k : Nat} (h1 : b ≠ 1102) (h2 : b = 1101 → k ≠ 1 ∧ k ≠ 5) : sI τ b k = sI σ b k ∧ sL τ b k = sL σ b k ∧ sP τ b k = sP σ b k := by
  by_cases q : b = 1101
  · subst q
    exact ⟨h.2.1 k (by have := h2 rfl; simp; omega), h.2.2.1 k, h.2.2.2 k⟩
  · exact h.1 b q h1 k
theorem ft_fRf {σ τ : SG} (h : ft σ τ) : fRf σ τ := fun b hb => h.1 b (by omega) (by omega)
theorem IC.len {A : LST} {σ : SG} (h : IC A σ) : (stS A).length ≤ 700 := h.1.2.2.1
theorem IC.ok {A : LST} {σ : SG} (h : IC A σ) : ok8 (stS A) := h.1.2.2.2.2
theorem st_feed {U : Nat} {A : LST} {σ : SG} {b : Int64} {n : Int32} (hU : 4000 < U) (h : INV A σ) : ∃ r τ, okR [IAE, ISE] r ∧ x_X11_feed U 0 b n σ = some (r, τ) ∧ fCl σ τ ∧ After (x_X12_feed U 1101 b n) fdC True r τ := by
  obtain ⟨τ, c1, c2, c3⟩ := X11_feed (U := U) (b := b) (n := n) hU h.2.1.1
  refine ⟨_, τ, ok_fdS, c1, fun b' hb => c3 b' (by omega) (by omega), step_of (A' := ((fdS (stS A) b n).2, A.2)) h h.1 (IC_tape h.2.1 h.1 c2 c3) (fun b' hb => c3 b' (by omega) (by omega)) (fun ω hR => ?_)⟩
  obtain ⟨v, υ, d1, d2, d3, d4, d5⟩ := X12_feed (U := U) (b := b) (n := n) hU h.2.1.len hR.1
  refine ⟨v, υ, d1, ft_fRf d3, d4, fun _ w hw => ?_, IR_tape hR h.1 d2 (fun b' k hb => ?_)⟩
  · rcases d5 with z | ⟨E, z⟩
    · rw [z] at hw; cases hw; try rfl
    · rw [z] at hw; cases hw
  · unfold KpR at hb
    have := ft_k d3 (b := b') (k := k) (by omega) (by omega)
    exact ⟨this.1, this.2.1⟩
theorem st_turn {U : Nat} {A : LST} {σ : SG} (hU : 4000 < U) (h : INV A σ) : ∃ r τ, okR [ISE] r ∧ x_X11_turn U 0 σ = some (r, τ) ∧ fCl σ τ ∧ After (x_X12_turn U 1101) otC True r τ := by
  obtain ⟨zc, hO⟩ := h.2.1.2.1
  obtain ⟨τ, c1, c2, c3⟩ := X11_turn (U := U) hU h.2.1.1 hO
  refine ⟨_, τ, ok_tnS, c1, fun b' hb => c3 b' (by omega) (by omega), step_of (A' := ((tnS (stS A) (stO A)).2, A.2)) h h.1 (IC_tape h.2.1 h.1 c2 c3) (fun b' hb => c3 b' (by omega) (by omega)) (fun ω hR => ?_)⟩
  obtain ⟨zr, hOr⟩ := hR.2.1
  obtain ⟨v, υ, d1, d2, d3, d4, d5⟩ := X12_turn (U := U) hU hR.1 hOr
  refine ⟨v, υ, d1, ft_fRf d3, d4, fun _ w hw => ?_, IR_tape hR h.1 d2 (fun b' k hb => ?_)⟩
  · rcases d5 with z | ⟨E, z⟩
    · rw [z] at hw; cases hw; try rfl
    · rw [z] at hw; cases hw
  · unfold KpR at hb
    have := ft_k d3 (b := b') (k := k) (by omega) (by omega)
    exact ⟨this.1, this.2.1⟩
theorem sch2 (p : Int32) : noS p ∨ ∃ s, s < 2 ∧ p = nI s := by
  by_cases h0 : p = 0
  · exact Or.inr ⟨0, by decide, h0⟩
  · by_cases h1 : p = 1
    · exact Or.inr ⟨1, by decide, h1⟩
    · exact Or.inl ⟨h0, h1⟩
theorem fCl_refl (σ : SG) : fCl σ σ := fun b _ => sm_refl σ b
theorem st_many {A : LST} {σ : SG} {p w : Int32} (h : INV A σ) : ∃ r τ, okR [IAE] r ∧ x_X11_many 0 p w σ = some (r, τ) ∧ fCl σ τ ∧ After (x_X12_many 1101 p w) fdC True r τ := by
  rcases sch2 p with hp | ⟨s, hs, rfl⟩
  · refine ⟨_, σ, ok_1, C_many_no hp, fCl_refl σ, step_of (A' := A) h h.1 h.2.1 (fCl_refl σ) (fun ω hR => ⟨0, _, N_many_no hp, f5_fRf (f5_u ω 1), by rw [sI_s]; rfl, fun _ w hw => (by cases hw), IR_f5 hR h.1 (f5_u ω 1)⟩)⟩
  · refine ⟨_, σ, ok_mnS, X11_many hs (h.2.1.2.2.1 s hs), fCl_refl σ, step_of (A' := A) h h.1 h.2.1 (fCl_refl σ) (fun ω hR => ?_)⟩
    obtain ⟨v, e1, e2⟩ := N_many (w := w) hs (hR.2.2.1 s hs)
    refine ⟨v, _, e1, f5_fRf (f5_u ω _), ?_, fun _ w' hw => ?_, IR_f5 hR h.1 (f5_u ω _)⟩
    · rw [sI_s]
      unfold mnS
      split <;> rfl
    · rcases e2 with z | ⟨E, z⟩
      · rw [z] at hw; cases hw; try rfl
      · rw [z] at hw; cases hw
theorem st_field {U : Nat} {A : LST} {σ : SG} {p x y w : Int32} (hU : 4000 < U) (h : INV A σ) : ∃ r τ, okR [IAE] r ∧ x_X11_field U 0 p x y w σ = some (r, τ) ∧ fCl σ τ ∧ After (x_X12_field U 1101 p x y w) fdC True r τ := by
  rcases sch2 p with hp | ⟨s, hs, rfl⟩
  · refine ⟨_, σ, ok_1, C_field_no hp, fCl_refl σ, step_of (A' := A) h h.1 h.2.1 (fCl_refl σ) (fun ω hR => ⟨0, _, N_field_no hp, f5_fRf (f5_u ω 1), by rw [sI_s]; rfl, fun _ w hw => (by cases hw), IR_f5 hR h.1 (f5_u ω 1)⟩)⟩
  · refine ⟨_, σ, ok_flS, C_field hU hs (h.1.1 s hs) (h.2.1.2.2.1 s hs), fCl_refl σ, step_of (A' := A) h h.1 h.2.1 (fCl_refl σ) (fun ω hR => ?_)⟩
    obtain ⟨v, e1, e2⟩ := N_field (x := x) (y := y) (w := w) hU hs (h.1.1 s hs) (hR.2.2.1 s hs)
    exact ⟨v, _, e1, f5_fRf (f5_u ω _), sI_s _ _ _ _, fun _ w' hw => e2 w' hw, IR_f5 hR h.1 (f5_u ω _)⟩
theorem RTr_nil {τ : SG} (h : sI τ 1101 1 = 0) : RTr τ [] := ⟨h, RI_nil _ _⟩
theorem fiA_d {D : List Dc} {o : Option Nat} {w : Int32} (h : (.inl (some (.int (fiA D o))) : mm_R) = .inl (some (.int w))) : fiA D o = w := by
  injection h with h
  injection h with h
  injection h
theorem st_find {U : Nat} {A : LST} {σ : SG} {p : Int32} (hU : 4000 < U) (h : INV A σ) : ∃ r τ, okR [IAE] r ∧ x_X11_find U 0 p σ = some (r, τ) ∧ fCl σ τ ∧ After (x_X12_find U 1101 p) fdC True r τ := by
  have hP : ∀ b k, Pfi b k → 1101 ≤ b ∧ b ≤ 1184 := fun b k z => by unfold Pfi at z; omega
  rcases sch2 p with hp | ⟨s, hs, rfl⟩
  · obtain ⟨τ, c1, c2, c3⟩ := C_find_no (U := U) (σ := σ) hp
    refine ⟨_, τ, ok_1, c1, fun b hb => c3 b (by omega), step_of (A' := ([], A.2)) h h.1 (IC_tape h.2.1 h.1 c2 (fun b hb _ => c3 b hb)) (fun b hb => c3 b (by omega)) (fun ω hR => ?_)⟩
    obtain ⟨υ, d1, d2, d3, d4⟩ := N_find_no (U := U) (σ := ω) hp
    exact ⟨0, υ, d1, fRf_P d2 hP, d4, fun _ w hw => (by cases hw), IR_tape hR h.1 (RTr_nil d3) (fun b k hb => ⟨(d2 b k (by unfold KpR at hb; unfold Pfi; omega)).1, (d2 b k (by unfold KpR at hb; unfold Pfi; omega)).2.1⟩)⟩
  · obtain ⟨τ, c1, c2, c3⟩ := C_find (U := U) hU hs (h.1.1 s hs) (h.2.1.2.2.1 s hs) h.2.1.1
    refine ⟨_, τ, ok_i, c1, fun b hb => c3 b (by omega), step_of (A' := ([], A.2)) h h.1 (IC_tape h.2.1 h.1 c2 (fun b hb _ => c3 b hb)) (fun b hb => c3 b (by omega)) (fun ω hR => ?_)⟩
    obtain ⟨υ, d1, d2, d3, d4⟩ := N_find (U := U) hU hs (h.1.1 s hs) (hR.2.2.1 s hs) hR.1 h.2.1.ok h.2.1.len
    exact ⟨_, υ, d1, fRf_P d2 hP, d4, fun _ w hw => fiA_d hw, IR_tape hR h.1 (RTr_nil d3) (fun b k hb => ⟨(d2 b k (by unfold KpR at hb; unfold Pfi; omega)).1, (d2 b k (by unfold KpR at hb; unfold Pfi; omega)).2.1⟩)⟩
/-! ===== the law's steps: the other calls ===== -/
theorem st_place {A : LST} {σ : SG} {r : mm_R} (h : INV A σ) : After (x_X12_place 1101) (fun _ => 0) False r σ :=
  step_of (A' := A) h h.1 h.2.1 (fCl_refl σ) (fun ω hR => ⟨_, _, rfl, f5_fRf (f5_u ω 0), sI_s _ _ _ _, fun z => z.elim, IR_f5 hR h.1 (f5_u ω 0)⟩)
theorem st_out {U : Nat} {A : LST} {σ : SG} {k : Int32} (hU : 4000 < U) (h : INV A σ) : ∃ r, ((∃ w, r = .inl (some (.long w))) ∨ r = .inr IOB) ∧ x_X11_out U 0 k σ = some (r, σ) ∧ ∀ ω, (∀ b, b ≠ 1185 → sm σ ω b) → ∃ v υ, x_X12_out U 1101 k ω = some (v, υ) ∧ fRf ω υ ∧ sI υ 1101 5 = otC r ∧ (∀ w, r = .inl (some (.long w)) → v = w) ∧ ∃ A', INV A' υ := by
  obtain ⟨zc, hO⟩ := h.2.1.2.1
  refine ⟨_, ?_, X11_out (U := U) (k := k) hU hO, fun ω hω => ?_⟩
  · unfold otS
    split
    · exact Or.inr rfl
    · split
      · exact Or.inl ⟨_, rfl⟩
      · exact Or.inr rfl
  have hRω : IR A ω := IR_sm h.2.2 h.1 (fun b h1 h2 => hω b (by omega))
  have hCω : IC A ω := IC_sm h.2.1 h.1 (fun b hb => hω b (by omega))
  obtain ⟨zr, hOr⟩ := hRω.2.1
  obtain ⟨v, υ, d1, d2, d3, d4⟩ := X12_out (U := U) (k := k) hU hOr
  refine ⟨v, υ, d1, f5_fRf d2, d3, fun w hw => ?_, A, h.1, IC_sm hCω h.1 (fun b hb => d2.1 b (by omega)), IR_f5 hRω h.1 d2⟩
  rcases d4 with z | ⟨E, z⟩
  · rw [z] at hw; cases hw; try rfl
  · rw [z] at hw; cases hw
theorem nI_d {n : Nat} {w : Int32} (h : (.inl (some (.int (nI n))) : mm_R) = .inl (some (.int w))) : nI n = w := by
  injection h with h
  injection h with h
  injection h
theorem svV_c (B : SV) : svV B = none ∨ ∃ s V, svV B = some (s, V) := by
  cases h : svV B with
  | none => exact Or.inl rfl
  | some q => exact Or.inr ⟨q.1, q.2, rfl⟩
theorem st_encode {U : Nat} {A : LST} {σ : SG} (hU : 210000 < U) (h : INV A σ) : ∃ r τ, okR [ISE] r ∧ x_X11_encode U 0 σ = some (r, τ) ∧ fCl σ τ ∧ After (x_X12_encode U 1101) thS True r τ := by
  have hP : ∀ b k, Penc b k → 1101 ≤ b ∧ b ≤ 1184 := fun b k z => by unfold Penc PEs at z; omega
  have hK : ∀ b k, (b = 1101 ∧ k = 1) ∨ b = 1102 ∨ KpR b k → ¬ Penc b k := fun b k z y => by unfold KpR at z; unfold Penc PEs at y; omega
  rcases svV_c (stB A) with hV | ⟨s, V, hV⟩
  · obtain ⟨τ, c1, c2, c3⟩ := C_encode_no (U := U) (h.2.1.2.2.2.2.1 hV)
    refine ⟨_, τ, ok_1, c1, fun b hb => c3 b (by omega) (by omega), step_of (A' := (A.1, [], A.2.2)) h h.1 (IC_out h.2.1 h.1 c2 (fun b h1 h2 _ => c3 b h1 h2)) (fun b hb => c3 b (by omega) (by omega)) (fun ω hR => ?_)⟩
    obtain ⟨υ, d1, d2, d3, d4⟩ := N_encode_no (U := U) (hR.2.2.2.1 hV)
    exact ⟨0, υ, d1, fRf_P d4 hP, d3, fun _ w hw => (by cases hw), IR_out hR h.1 d2 (fun b k hb => ⟨(d4 b k (hK b k hb)).1, (d4 b k (hK b k hb)).2.1⟩)⟩
  · obtain ⟨hs, ⟨z, hz⟩, hAK, hn⟩ := h.1.2 s V hV
    have hg := h.1.1 s hs
    have hl := e_len hg hAK.2.2 hz hn hAK.2.1
    obtain ⟨m, hVC⟩ := h.2.1.2.2.2.2.2 s V hV
    obtain ⟨τ, c1, c2, c3⟩ := C_encode (U := U) (by omega) cA_cb hg (h.2.1.2.2.1 s hs) hVC hz (by omega)
    refine ⟨_, τ, ok_i, c1, fun b hb => c3 b (by omega) (by omega), step_of (A' := (A.1, eMf (svT (stB A) s) (svD (stB A) s) V z 0, A.2.2)) h h.1 (IC_out h.2.1 h.1 c2 (fun b h1 h2 _ => c3 b h1 h2)) (fun b hb => c3 b (by omega) (by omega)) (fun ω hR => ?_)⟩
    obtain ⟨h79, H, hVS⟩ := hR.2.2.2.2 s V hV
    have hc := e_cost hg hz hVS.2.2.2.2.1.2.2.1 hn
    obtain ⟨υ, d1, d2, d3, _, _, d4⟩ := N_encode (U := U) (by omega) hs hg h79 (hR.2.2.1 s hs) hVS hz hAK hl (by omega)
    exact ⟨_, υ, d1, fRf_P d4 hP, d3, fun _ w hw => nI_d hw, IR_out hR h.1 d2 (fun b k hb => ⟨(d4 b k (hK b k hb)).1, (d4 b k (hK b k hb)).2.1⟩)⟩
/-- the reference's code of what a print throws -/
def prC (r : mm_R) : Int32 := match r with
  | .inl _ => 0
  | .inr E => if E = ISE then 1 else 2
theorem st_print {U : Nat} {A : LST} {σ : SG} (hU : 210000 < U) (h : INV A σ) : ∃ r τ, okR [ISE, UOE] r ∧ x_X11_print U 0 σ = some (r, τ) ∧ fCl σ τ ∧ After (x_X12_print U 1101) prC True r τ := by
  have hP : ∀ b k, Pprn b k → 1101 ≤ b ∧ b ≤ 1184 := fun b k z => by unfold Pprn PPr at z; omega
  have hK : ∀ b k, (b = 1101 ∧ k = 1) ∨ b = 1102 ∨ KpR b k → ¬ Pprn b k := fun b k z y => by unfold KpR at z; unfold Pprn PPr at y; omega
  rcases svV_c (stB A) with hV | ⟨s, V, hV⟩
  · obtain ⟨τ, c1, c2, c3⟩ := C_print_no (U := U) (h.2.1.2.2.2.2.1 hV)
    refine ⟨_, τ, ok_1, c1, fun b hb => c3 b (by omega) (by omega) (by omega), step_of (A' := (A.1, [], A.2.2)) h h.1 (IC_out h.2.1 h.1 c2 (fun b h1 h2 h3 => c3 b h1 h2 (by omega))) (fun b hb => c3 b (by omega) (by omega) (by omega)) (fun ω hR => ?_)⟩
    obtain ⟨υ, d1, d2, d3, d4⟩ := N_print_no (U := U) (hR.2.2.2.1 hV)
    exact ⟨0, υ, d1, fRf_P d4 hP, d3, fun _ w hw => (by cases hw), IR_out hR h.1 d2 (fun b k hb => ⟨(d4 b k (hK b k hb)).1, (d4 b k (hK b k hb)).2.1⟩)⟩
  · obtain ⟨hs, ⟨z, hz⟩, hAK, hn⟩ := h.1.2 s V hV
    have hg := h.1.1 s hs
    obtain ⟨m, hVC⟩ := h.2.1.2.2.2.2.2 s V hV
    obtain ⟨τ, c1, c2, c3⟩ := C_print (U := U) (by omega) cA_cb hg (h.2.1.2.2.1 s hs) hVC hz
    refine ⟨_, τ, ok_prA, c1, fun b hb => c3 b (by omega) (by omega) (by omega), step_of (A' := (A.1, prO (pMf (svT (stB A) s) (svD (stB A) s) V z 0), A.2.2)) h h.1 (IC_out h.2.1 h.1 c2 (fun b h1 h2 h3 => c3 b h1 h2 (by omega))) (fun b hb => c3 b (by omega) (by omega) (by omega)) (fun ω hR => ?_)⟩
    obtain ⟨h79, H, hVS⟩ := hR.2.2.2.2 s V hV
    have hc := p_cost hg hz hVS.2.2.2.2.1.2.2.1 hn
    obtain ⟨υ, d1, d2, d3, _, _, d4⟩ := N_print (U := U) (by omega) hs hg h79 (hR.2.2.1 s hs) hVS hz hAK (by omega)
    refine ⟨_, υ, d1, fRf_P d4 hP, d3.trans ?_, fun _ w hw => ?_, IR_out hR h.1 d2 (fun b k hb => ⟨(d4 b k (hK b k hb)).1, (d4 b k (hK b k hb)).2.1⟩)⟩
    · unfold prA
      split <;> rfl
    · unfold prA at hw
      unfold prO
      split at hw
      · rename_i q
        rw [if_pos q]
        exact nI_d hw
      · cases hw
theorem st_check {U : Nat} {A : LST} {σ : SG} {x y : Int32} (hU : 210000 < U) (h : INV A σ) : ∃ r τ, okR [IAE] r ∧ x_X11_check U 0 x y σ = some (r, τ) ∧ fCl σ τ ∧ After (x_X12_check U 1101 x y) fdC True r τ := by
  have hP : ∀ b k, PchK b k → 1101 ≤ b ∧ b ≤ 1184 := fun b k z => by unfold PchK PCk at z; omega
  have hK : ∀ b k, (b = 1101 ∧ k = 1) ∨ b = 1102 ∨ KpR b k → ¬ PchK b k := fun b k z y => by unfold KpR at z; unfold PchK PCk at y; omega
  have g0 := h.1.1 0 (by decide)
  have g1 := h.1.1 1 (by decide)
  obtain ⟨τ, c1, c2, c3⟩ := C_check (U := U) (x := x) (y := y) hU g0 g1 (h.2.1.2.2.1 0 (by decide)) (h.2.1.2.2.1 1 (by decide))
  refine ⟨_, τ, ok_chS, c1, fun b hb => c3 b (by omega) (by omega) (by omega) (by omega) (by omega) (by omega), step_of (A' := (A.1, (chS (svT (stB A) 0) (svT (stB A) 1) (svD (stB A) 0) (svD (stB A) 1) x y).2, A.2.2)) h h.1 (IC_out h.2.1 h.1 c2 (fun b h1 h2 h3 => c3 b h1 h2 (by omega) (by omega) (by omega) (by omega))) (fun b hb => c3 b (by omega) (by omega) (by omega) (by omega) (by omega) (by omega)) (fun ω hR => ?_)⟩
  obtain ⟨v, υ, d1, d2, d3, d4, d5⟩ := N_check (U := U) (x := x) (y := y) hU g0 g1 (hR.2.2.1 0 (by decide)) (hR.2.2.1 1 (by decide))
  exact ⟨v, υ, d1, fRf_P d5 hP, d3, fun _ w hw => d4 w hw, IR_out hR h.1 d2 (fun b k hb => ⟨(d5 b k (hK b k hb)).1, (d5 b k (hK b k hb)).2.1⟩)⟩
/-- the schema that a compile leaves -/
def cmp1 (S : List Nat) : List Nat × List Dc := match scm S with
  | none => ([], [])
  | some D => (S, D)
def cmpB (B : SV) (s : Nat) (S : List Nat) : SV := (fun t => if t = s then cmp1 S else B.1 t, none)
theorem cmpB_s (B : SV) (s : Nat) (S : List Nat) : svT (cmpB B s S) s = (cmp1 S).1 ∧ svD (cmpB B s S) s = (cmp1 S).2 := by
  have e : (if s = s then cmp1 S else B.1 s) = cmp1 S := if_pos rfl
  exact ⟨congrArg Prod.fst e, congrArg Prod.snd e⟩
theorem cmpB_n (B : SV) {s t : Nat} (S : List Nat) (h : t ≠ s) : svT (cmpB B s S) t = svT B t ∧ svD (cmpB B s S) t = svD B t := by
  have e : (if t = s then cmp1 S else B.1 t) = B.1 t := if_neg h
  exact ⟨congrArg Prod.fst e, congrArg Prod.snd e⟩
theorem cmp1_g {S : List Nat} (h8 : ok8 S) (hl : S.length ≤ 700) : GSc (cmp1 S).1 (cmp1 S).2 := by
  unfold cmp1
  cases h : scm S with
  | none => exact GSc_nil
  | some D => exact GSc_scm h8 hl h
theorem st_compile {U : Nat} {A : LST} {σ : SG} {p : Int32} (hU : 4000 < U) (h : INV A σ) : ∃ r τ, okR [IAE] r ∧ x_X11_compile U 0 p σ = some (r, τ) ∧ fCl σ τ ∧ After (x_X12_compile U 1101 p) fdC False r τ := by
  rcases sch2 p with hp | ⟨s, hs, rfl⟩
  · exact ⟨_, σ, ok_1, C_compile_no hp, fCl_refl σ, step_of (A' := A) h h.1 h.2.1 (fCl_refl σ) (fun ω hR => ⟨0, _, N_compile_no hp, f5_fRf (f5_u ω 1), by rw [sI_s]; rfl, fun z => z.elim, IR_f5 hR h.1 (f5_u ω 1)⟩)⟩
  · have hs2 : s = 0 ∨ s = 1 := by omega
    have h8 := h.2.1.ok
    have hl := h.2.1.len
    have hcs := cA_2 hs
    obtain ⟨v, τ, c1, c2, c3, c4, c5, c6⟩ := X11_compile (U := U) hU hs h.2.1.1
    have hF : fCl σ τ := fun b hb => c2 b (by omega) (by omega) (by omega) (by omega) (by omega) (by omega)
    have hG : IG (cmpB (stB A) s (stS A)) := by
      refine ⟨fun t ht => ?_, fun t V z => by cases z⟩
      by_cases q : t = s
      · subst q
        rw [(cmpB_s _ _ _).1, (cmpB_s _ _ _).2]
        exact cmp1_g h8 hl
      · rw [(cmpB_n _ _ q).1, (cmpB_n _ _ q).2]
        exact h.1.1 t ht
    have hC' : IC ([], A.2.1, cmpB (stB A) s (stS A)) τ := by
      obtain ⟨z, hO⟩ := h.2.1.2.1
      refine ⟨c3, ⟨z, hO.sm (c2 3 (by omega) (by omega) (by omega) (by omega) (by omega) (by omega)) (c2 4 (by omega) (by omega) (by omega) (by omega) (by omega) (by omega))⟩, fun t ht => ?_, c4.2.2.2.2.1, fun _ => c4, fun t V z => by cases z⟩
      by_cases q : t = s
      · subst q
        show CS τ (cA t) (svT (cmpB (stB A) t (stS A)) t) (svD (cmpB (stB A) t (stS A)) t)
        rw [(cmpB_s _ _ _).1, (cmpB_s _ _ _).2]
        unfold cmp1
        cases hm : scm (stS A) with
        | none => exact c5 hm
        | some D => exact c6 D hm
      · show CS τ (cA t) (svT (cmpB (stB A) s (stS A)) t) (svD (cmpB (stB A) s (stS A)) t)
        rw [(cmpB_n _ _ q).1, (cmpB_n _ _ q).2]
        have e : ∀ b, cA t ≤ b → b ≤ cA t + 191 → b ≠ 0 ∧ b ≠ 1 ∧ (b < cA s ∨ cA s + 191 < b) ∧ b ≠ 389 ∧ b ≠ 1091 ∧ b ≠ 1092 := by
          have : t = 0 ∨ t = 1 := by omega
          intro b g1 g2
          rcases hs2 with z | z <;> rcases this with y | y
          · exact absurd (y.trans z.symm) q
          · subst z; subst y
            have e0 : cA 0 = 5 := rfl
            have e1 : cA 1 = 197 := rfl
            omega
          · subst z; subst y
            have e0 : cA 0 = 5 := rfl
            have e1 : cA 1 = 197 := rfl
            omega
          · exact absurd (y.trans z.symm) q
        exact CS_sm (h.2.1.2.2.1 t ht) (fun b g1 g2 => by obtain ⟨e1, e2, e3, e4, e5, e6⟩ := e b g1 g2; exact c2 b e1 e2 e3 e4 e5 e6)
    refine ⟨_, τ, ok_i, c1, hF, step_of (A' := ([], A.2.1, cmpB (stB A) s (stS A))) h hG hC' hF (fun ω hR => ?_)⟩
    obtain ⟨v', υ, d1, d2, d3, d4, d5, d6, d7⟩ := N_compile (U := U) hU hs hR.1 h8 hl
    refine ⟨v', υ, d1, fRf_P d2 (fun b k z => by unfold Pcm PKP at z; omega), d4, fun z => z.elim, d3, ?_, fun t ht => ?_, fun _ => d5, fun t V z => by cases z⟩
    · obtain ⟨z, g1, g2, g3, g4⟩ := hR.2.1
      have e3 : ¬ Pcm s 1101 3 := by unfold Pcm PKP; intro y; rcases y with y | y; exact absurd y.2 (by decide); omega
      have e4 : ¬ Pcm s 1101 4 := by unfold Pcm PKP; intro y; rcases y with y | y; exact absurd y.2 (by decide); omega
      exact ⟨z, (d2 1101 3 e3).1.trans g1, (d2 1101 4 e4).1.trans g2, fun i c hi => (d2 1103 i (by unfold Pcm PKP; omega)).1.trans (g3 i c hi), g4⟩
    · by_cases q : t = s
      · subst q
        show RS υ t (svT (cmpB (stB A) t (stS A)) t) (svD (cmpB (stB A) t (stS A)) t)
        rw [(cmpB_s _ _ _).1, (cmpB_s _ _ _).2]
        unfold cmp1
        cases hm : scm (stS A) with
        | none => exact d6 hm
        | some D => exact d7 D hm
      · show RS υ t (svT (cmpB (stB A) s (stS A)) t) (svD (cmpB (stB A) s (stS A)) t)
        rw [(cmpB_n _ _ q).1, (cmpB_n _ _ q).2]
        exact RS_keep (hR.2.2.1 t ht) (fun b k hb => (d2 b k (by unfold PKP at hb; unfold Pcm PKP; omega)).1)
theorem seR_some {T : List Nat} {D : List Dc} {o : Option AV} {V : AV} (h : (seR T D o).2 = some V) : o = some V ∧ nV T D V ≤ 200 := by
  unfold seR at h
  cases o with
  | none => cases h
  | some A =>
    simp only at h
    split at h
    · cases h
    · rename_i q
      cases h
      exact ⟨rfl, by omega⟩
theorem st_rd {s : Nat} {A : LST} {σ : SG} {x y : Int32} {rd : Nat → Nat → Option AV} {cx : SG → Option (mm_R × SG)} {nx : SG → Option (Int32 × SG)} (h : INV A σ) (hs : s < 2)
    (hW : ∀ V, rdV (svD (stB A) s) rd x y = some V → (∃ z, AW (svT (stB A) s) (svD (stB A) s) V z) ∧ AK (svT (stB A) s) (svD (stB A) s) V)
    (hc : ∃ τ, cx σ = some ((seR (svT (stB A) s) (svD (stB A) s) (rdV (svD (stB A) s) rd x y)).1, τ) ∧ fCd σ τ ∧ RB τ 1 [] 0 ∧ ((seR (svT (stB A) s) (svD (stB A) s) (rdV (svD (stB A) s) rd x y)).2 = none → VCn τ) ∧ ∀ V, (seR (svT (stB A) s) (svD (stB A) s) (rdV (svD (stB A) s) rd x y)).2 = some V → ∃ m, msg (svD (stB A) s) x = some m ∧ VCs τ (cA s) (svT (stB A) s) (svD (stB A) s) m V)
    (hn : ∀ ω, IR A ω → ∃ v υ, nx ω = some (v, υ) ∧ fP Pdf ω υ ∧ sI υ 1101 1 = 0 ∧ sI υ 1101 5 = fdC (seR (svT (stB A) s) (svD (stB A) s) (rdV (svD (stB A) s) rd x y)).1 ∧ (∀ w, (seR (svT (stB A) s) (svD (stB A) s) (rdV (svD (stB A) s) rd x y)).1 = .inl (some (.int w)) → v = w) ∧ VRo υ s (svT (stB A) s) (svD (stB A) s) (seR (svT (stB A) s) (svD (stB A) s) (rdV (svD (stB A) s) rd x y)).2) : ∃ r τ, okR [IAE, ISE] r ∧ cx σ = some (r, τ) ∧ fCl σ τ ∧ After nx fdC True r τ := by
  obtain ⟨τ, c1, c2, c3, c4, c5⟩ := hc
  have hF : fCl σ τ := fun b hb => c2 b (by omega) (by omega)
  generalize hR9 : seR (svT (stB A) s) (svD (stB A) s) (rdV (svD (stB A) s) rd x y) = q9 at *
  have hG : IG ((stB A).1, q9.2.map (fun V => (s, V))) := by
    refine ⟨h.1.1, fun t V z => ?_⟩
    have z' : q9.2.map (fun V => (s, V)) = some (t, V) := z
    cases h9 : q9.2 with
    | none => rw [h9] at z'; cases z'
    | some V9 =>
      rw [h9] at z'
      cases z'
      obtain ⟨e1, e2⟩ := seR_some (T := svT (stB A) s) (D := svD (stB A) s) (o := rdV (svD (stB A) s) rd x y) (V := V) (by rw [hR9, h9])
      exact ⟨hs, (hW V e1).1, (hW V e1).2, e2⟩
  have hC' : IC ([], A.2.1, ((stB A).1, q9.2.map (fun V => (s, V)))) τ := by
    obtain ⟨z, hO⟩ := h.2.1.2.1
    refine ⟨c3, ⟨z, hO.sm (c2 3 (by omega) (by omega)) (c2 4 (by omega) (by omega))⟩, fun t ht => ?_, ?_, fun z => ?_, fun t V z => ?_⟩
    · have hc := cA_2 ht
      exact CS_sm (h.2.1.2.2.1 t ht) (fun b g1 g2 => c2 b (by omega) (by omega))
    · cases h9 : q9.2 with
      | none => exact (c4 h9).2.2.2.2.1
      | some V =>
        obtain ⟨m, _, ⟨G, g1, _⟩, _⟩ := c5 V h9
        exact g1.2.2.1.2.1
    · have z' : q9.2.map (fun V => (s, V)) = none := z
      cases h9 : q9.2 with
      | none => exact c4 h9
      | some V => rw [h9] at z'; cases z'
    · have z' : q9.2.map (fun V => (s, V)) = some (t, V) := z
      cases h9 : q9.2 with
      | none => rw [h9] at z'; cases z'
      | some V9 =>
        rw [h9] at z'
        cases z'
        obtain ⟨m, _, hm⟩ := c5 V h9
        exact ⟨m, hm⟩
  refine ⟨_, τ, by rw [← hR9]; exact ok_seR, c1, hF, step_of (A' := ([], A.2.1, ((stB A).1, q9.2.map (fun V => (s, V))))) h hG hC' hF (fun ω hR => ?_)⟩
  obtain ⟨v, υ, d1, d2, d3, d4, d5, d6⟩ := hn ω hR
  refine ⟨v, υ, d1, fRf_P d2 (fun b k z => by unfold Pdf Pdec PDc PDn Pfin at z; omega), d4, fun _ w hw => d5 w hw, RTr_nil d3, ?_, fun t ht => ?_, fun z => ?_, fun t V z => ?_⟩
  · obtain ⟨z, g1, g2, g3, g4⟩ := hR.2.1
    have e : ∀ b k, (b = 1101 ∧ (k = 3 ∨ k = 4)) ∨ b = 1103 → ¬ Pdf b k := fun b k z y => by unfold Pdf Pdec PDc PDn Pfin at y; omega
    exact ⟨z, (d2 1101 3 (e _ _ (by omega))).1.trans g1, (d2 1101 4 (e _ _ (by omega))).1.trans g2, fun i c hi => (d2 1103 i (e _ _ (by omega))).1.trans (g3 i c hi), g4⟩
  · exact RS_keep (hR.2.2.1 t ht) (fun b k hb => (d2 b k (by unfold PKP at hb; unfold Pdf Pdec PDc PDn Pfin; omega)).1)
  · have z' : q9.2.map (fun V => (s, V)) = none := z
    cases h9 : q9.2 with
    | none => rw [h9] at d6; exact d6
    | some V => rw [h9] at z'; cases z'
  · have z' : q9.2.map (fun V => (s, V)) = some (t, V) := z
    cases h9 : q9.2 with
    | none => rw [h9] at z'; cases z'
    | some V9 =>
      rw [h9] at z' d6
      cases z'
      exact d6
theorem st_no {A : LST} {σ : SG} {cx : SG → Option (mm_R × SG)} {nx : SG → Option (Int32 × SG)} (h : INV A σ) (hc : ∃ τ, cx σ = some (.inr IAE, τ) ∧ fCd σ τ ∧ RB τ 1 [] 0 ∧ VCn τ) (hn : ∀ ω, ∃ τ, nx ω = some (0, τ) ∧ fP Pbn ω τ ∧ sI τ 1101 1 = 0 ∧ sI τ 1101 79 = 0 ∧ sI τ 1101 5 = 1) : ∃ r τ, okR [IAE, ISE] r ∧ cx σ = some (r, τ) ∧ fCl σ τ ∧ After nx fdC True r τ := by
  obtain ⟨τ, c1, c2, c3, c4⟩ := hc
  have hF : fCl σ τ := fun b hb => c2 b (by omega) (by omega)
  have hG : IG ((stB A).1, none) := ⟨h.1.1, fun t V z => by cases z⟩
  have hC' : IC ([], A.2.1, ((stB A).1, none)) τ := by
    obtain ⟨z, hO⟩ := h.2.1.2.1
    refine ⟨c3, ⟨z, hO.sm (c2 3 (by omega) (by omega)) (c2 4 (by omega) (by omega))⟩, fun t ht => ?_, c4.2.2.2.2.1, fun _ => c4, fun t V z => by cases z⟩
    have hc := cA_2 ht
    exact CS_sm (h.2.1.2.2.1 t ht) (fun b g1 g2 => c2 b (by omega) (by omega))
  refine ⟨_, τ, ok_1, c1, hF, step_of (A' := ([], A.2.1, ((stB A).1, none))) h hG hC' hF (fun ω hR => ?_)⟩
  obtain ⟨υ, d1, d2, d3, d4, d5⟩ := hn ω
  refine ⟨0, υ, d1, fRf_P d2 (fun b k z => by unfold Pbn at z; omega), d5, fun _ w hw => (by cases hw), RTr_nil d3, ?_, fun t ht => ?_, fun _ => d4, fun t V z => by cases z⟩
  · obtain ⟨z, g1, g2, g3, g4⟩ := hR.2.1
    exact ⟨z, (d2 1101 3 (by unfold Pbn; omega)).1.trans g1, (d2 1101 4 (by unfold Pbn; omega)).1.trans g2, fun i c hi => (d2 1103 i (by unfold Pbn; omega)).1.trans (g3 i c hi), g4⟩
  · exact RS_keep (hR.2.2.1 t ht) (fun b k hb => (d2 b k (by unfold PKP at hb; unfold Pbn; omega)).1)
theorem st_decode {U : Nat} {A : LST} {σ : SG} {p x y : Int32} (hU : 4000 < U) (h : INV A σ) : ∃ r τ, okR [IAE, ISE] r ∧ x_X11_decode U 0 p x y σ = some (r, τ) ∧ fCl σ τ ∧ After (x_X12_decode U 1101 p x y) fdC True r τ := by
  rcases sch2 p with hp | ⟨s, hs, rfl⟩
  · exact st_no h (C_decode_no hU hp h.2.1.2.2.2.1) (fun ω => N_decode_no hp)
  · have hg := h.1.1 s hs
    have hC := h.2.1.2.2.1 s hs
    have hS := h.2.2.2.2.1 s hs
    have hw := dc_AW (U := U) (x := x) (y := y) hU hs hg hC h.2.1.1 hS h.2.2.1
    have hk := dc_AK (U := U) (x := x) (y := y) hU hs hg hS h.2.2.1 h.2.1.ok h.2.1.len
    refine st_rd h hs (fun V hV => ⟨hw V hV, hk V hV⟩) (C_decode (U := U) hU hs hg hC h.2.1.1 h.2.1.2.2.2.1 hw) (fun ω hR => ?_)
    obtain ⟨v, υ, d1, d2, d3, d4, d5, d6, _⟩ := N_decode (U := U) (x := x) (y := y) hU hs hg (hR.2.2.1 s hs) hR.1 h.2.1.ok h.2.1.len
    exact ⟨v, υ, d1, d2, d3, d4, d5, d6⟩
theorem st_parse {U : Nat} {A : LST} {σ : SG} {p x y : Int32} (hU : 4000 < U) (h : INV A σ) : ∃ r τ, okR [IAE, ISE] r ∧ x_X11_parse U 0 p x y σ = some (r, τ) ∧ fCl σ τ ∧ After (x_X12_parse U 1101 p x y) fdC True r τ := by
  rcases sch2 p with hp | ⟨s, hs, rfl⟩
  · exact st_no h (C_parse_no hU hp h.2.1.2.2.2.1) (fun ω => N_parse_no hp)
  · have hg := h.1.1 s hs
    have hC := h.2.1.2.2.1 s hs
    have hS := h.2.2.2.2.1 s hs
    have hw := pc_AW (U := U) (x := x) (y := y) hU hs hg hC h.2.1.1 hS h.2.2.1
    refine st_rd h hs hw (C_parse (U := U) hU hs hg hC h.2.1.1 h.2.1.2.2.2.1 (fun V hV => (hw V hV).1)) (fun ω hR => ?_)
    obtain ⟨v, υ, d1, d2, d3, d4, d5, d6, _⟩ := N_parse (U := U) (x := x) (y := y) hU hs hg (hR.2.2.1 s hs) hR.1 h.2.1.ok h.2.1.len
    exact ⟨v, υ, d1, d2, d3, d4, d5, d6⟩
