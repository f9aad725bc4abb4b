/-! ===== how long an encoded value is ===== -/
theorem vb_le : ∀ (j u : Nat), (vb j u).length ≤ j + 1 := by
  intro j
  induction j with
  | zero => intro u; exact Nat.le_refl _
  | succ j ih =>
    intro u
    rw [vb]
    split
    · show 1 ≤ j + 1 + 1; omega
    · rw [List.length_cons]; have := ih (u / 128); omega
theorem vb_le5 : ∀ (j k u : Nat), k ≤ j → u < 128 ^ (k + 1) → (vb j u).length ≤ k + 1 := by
  intro j
  induction j with
  | zero => intro k u hk hu; exact Nat.le_trans (vb_le 0 u) (by omega)
  | succ j ih =>
    intro k u hk hu
    rw [vb]
    split
    · show 1 ≤ k + 1; omega
    · rename_i h
      cases k with
      | zero => have : u < 128 ^ 1 := hu; omega
      | succ k =>
        rw [List.length_cons]
        have := ih k (u / 128) (by omega) (by rw [Nat.pow_succ] at hu; exact Nat.div_lt_of_lt_mul (by rw [Nat.mul_comm]; exact hu))
        omega
theorem vB_le (x : Int64) : (vB x).length ≤ 10 := vb_le 9 _
theorem vB_1 {m : Nat} (h : m < 128) : (vB (lN m)).length = 1 := by unfold vB; rw [uN_lN (by omega), vb_small h]; rfl
theorem lshl3 (x : Int64) : (lshl9 x 3).toBitVec = x.toBitVec <<< 3 := rfl
theorem tgB_le {T : List Nat} {D : List Dc} {f k : Nat} {d : Dc} (hg : GSc T D) (hd : D[f]? = some d) (h2 : dK d = 2) (hk : k < 8) : (tgB d k).length ≤ 5 := by
  have hn := (hg.nu hd h2).2.1
  rw [nmn_some hd] at hn
  unfold tgB vB
  apply vb_le5 9 4 _ (by decide)
  unfold uN
  rw [Int64.toBitVec_or, lshl3, lN_bv, lN_bv, BitVec.toNat_or, BitVec.toNat_shiftLeft, BitVec.toNat_ofNat, BitVec.toNat_ofNat, Nat.mod_eq_of_lt (a := (dN d).2) (by omega), Nat.mod_eq_of_lt (a := k) (by omega), Nat.shiftLeft_eq, Nat.mod_eq_of_lt (by omega), show (128 : Nat) ^ (4 + 1) = 2 ^ 35 from rfl]
  exact Nat.or_lt_two_pow (by omega) (by omega)
theorem nuB_le (t : Nat) (x : Int64) : (nuB t x).length ≤ 10 := by
  unfold nuB
  split
  · rw [fxB_len]; decide
  · split
    · rw [fxB_len]; decide
    · split
      · exact vB_le _
      · exact vB_le _
/-- a sum over the tree -/
def twj (T : List Nat) (D : List Dc) (A : AV) (w : Nat → Nat) : Nat → Nat → Nat
  | 0, _ => 0
  | j + 1, n => w n + ((chN T D A n).map (twj T D A w j)).sum
def twf (T : List Nat) (D : List Dc) (A : AV) (w : Nat → Nat) (z : Nat → Nat) (n : Nat) : Nat := twj T D A w (21 - z n) n
theorem twf_eq {T : List Nat} {D : List Dc} {A : AV} {w z : Nat → Nat} (h : AW T D A z) {n : Nat} (hn : n < aC A) : twf T D A w z n = w n + ((chN T D A n).map (twf T D A w z)).sum := by
  obtain ⟨_, _, h2, _⟩ := h
  obtain ⟨a, b⟩ := h2 n hn
  unfold twf
  rw [show 21 - z n = (20 - z n) + 1 by omega, twj]
  congr 2
  apply List.map_congr_left
  intro c hc
  rw [(b c hc).2.2, show 21 - (z n + 1) = 20 - z n by omega]
theorem tw_step {T : List Nat} {D : List Dc} {A : AV} {w z : Nat → Nat} (h : AW T D A z) : ∀ k, 1 ≤ k → k ≤ aC A → ((alL T D A k).map w).sum + ((((alL T D A k).flatMap (chN T D A)).filter (fun c => decide (k ≤ c))).map (twf T D A w z)).sum = twf T D A w z 0 := by
  intro k
  induction k with
  | zero => intro h1; omega
  | succ k ih =>
    intro _ hk
    by_cases q0 : k = 0
    · subst q0
      have e : alL T D A (0 + 1) = [0] := by rw [alL, if_pos (Or.inl rfl)]; rfl
      rw [e, twf_eq h (by omega)]
      have e2 : ([0].flatMap (chN T D A)).filter (fun c => decide (0 + 1 ≤ c)) = chN T D A 0 := by
        rw [List.flatMap_cons, List.flatMap_nil, List.append_nil, List.filter_eq_self]
        intro c hc
        have := ((h.2.2.1 0 h.1).2 c hc).1
        exact decide_eq_true (by omega)
      rw [e2]
      rfl
    · have ih' := ih (by omega) (by omega)
      have nd : ((alL T D A k).flatMap (chN T D A)).Nodup := List.Nodup.sublist (flatMap_sub (List.Sublist.trans (alL_lt k) (List.range_sublist.mpr (by omega)))) h.2.2.2
      have e := sum_from (g := twf T D A w z) (k := k) _ nd
      rw [e] at ih'
      by_cases qm : k ∈ (alL T D A k).flatMap (chN T D A)
      · rw [if_pos qm] at ih'
        rw [alL, if_pos (Or.inr qm), List.map_append, List.sum_append, List.flatMap_append, List.filter_append, List.map_append, List.sum_append]
        have e2 : ([k].flatMap (chN T D A)).filter (fun c => decide (k + 1 ≤ c)) = chN T D A k := by
          rw [List.flatMap_cons, List.flatMap_nil, List.append_nil, List.filter_eq_self]
          intro c hc
          have := ((h.2.2.1 k (by omega)).2 c hc).1
          exact decide_eq_true (by omega)
        rw [e2]
        have e3 := twf_eq (w := w) h (show k < aC A by omega)
        show _ + (w k + 0) + _ = _
        omega
      · rw [if_neg qm] at ih'
        rw [alL, if_neg (fun y => y.elim q0 qm)]
        exact ih'
theorem tw_al {T : List Nat} {D : List Dc} {A : AV} {w z : Nat → Nat} (h : AW T D A z) : twf T D A w z 0 = ((alL T D A (aC A)).map w).sum := by
  have e := tw_step (w := w) h (aC A) h.1 (Nat.le_refl _)
  have e2 : ((alL T D A (aC A)).flatMap (chN T D A)).filter (fun c => decide (aC A ≤ c)) = [] := by
    rw [List.filter_eq_nil_iff]
    intro c hc
    obtain ⟨n, hn, hc'⟩ := List.mem_flatMap.mp hc
    have hn' := List.mem_range.mp ((alL_lt (aC A)).subset hn)
    have := ((h.2.2.1 n hn').2 c hc').2.1
    rw [decide_eq_true_iff]
    omega
  rw [e2] at e
  exact e.symm
/-- what one node's items weigh -/
theorem sum_itsW {T : List Nat} {D : List Dc} {A : AV} {n : Nat} {h : Nat → Nat} {g : It → Nat} : ((its D A n).map (fun y => g y.2)).sum + ((chN T D A n).map h).sum = ((chF D (aN A n)).map (fun f => ((aE A n f).map (fun it => g it + if isT T D f then h it.2.2 else 0)).sum)).sum := by
  unfold chN its
  have in1 : ∀ (f : Nat) (E : List It), ((E.map (fun it => (f, it))).map (fun y => g y.2)).sum + ((((E.map (fun it => (f, it))).filter (fun y => isT T D y.1)).map (fun y => y.2.2.2)).map h).sum = (E.map (fun it => g it + if isT T D f then h it.2.2 else 0)).sum := by
    intro f E
    induction E with
    | nil => rfl
    | cons it E ih =>
      rw [List.map_cons, List.map_cons, List.sum_cons, List.filter_cons, List.map_cons, List.sum_cons, ← ih]
      cases hT : isT T D f with
      | true =>
        rw [if_pos (show true = true from rfl), if_pos (show true = true from rfl), List.map_cons, List.map_cons, List.sum_cons]
        show g it + _ + (h it.2.2 + _) = _
        omega
      | false =>
        rw [if_neg (show ¬ false = true by decide), if_neg (show ¬ false = true by decide)]
        show g it + _ + _ = _
        omega
  generalize chF D (aN A n) = F
  induction F with
  | nil => rfl
  | cons f F ih =>
    rw [List.flatMap_cons, List.map_append, List.sum_append, List.filter_append, List.map_append, List.map_append, List.sum_append, List.map_cons, List.sum_cons, ← in1 f (aE A n f), ← ih]
    omega
def wE (D : List Dc) (A : AV) (n : Nat) : Nat := ((its D A n).map (fun y => 16 + y.2.2.1.length)).sum + (aU A n).length
theorem len_flatMap {α β : Type} {f : α → List β} : ∀ (L : List α), (L.flatMap f).length = (L.map (fun x => (f x).length)).sum := by
  intro L
  induction L with
  | nil => rfl
  | cons a L ih => rw [List.flatMap_cons, List.length_append, List.map_cons, List.sum_cons, ih]
theorem sum_le {α : Type} {f g : α → Nat} : ∀ (L : List α), (∀ x ∈ L, f x ≤ g x) → (L.map f).sum ≤ (L.map g).sum := by
  intro L
  induction L with
  | nil => intro _; exact Nat.le_refl _
  | cons a L ih =>
    intro h
    rw [List.map_cons, List.sum_cons, List.map_cons, List.sum_cons]
    have := h a (List.mem_cons_self ..)
    have := ih (fun x hx => h x (List.mem_cons_of_mem _ hx))
    omega
theorem eFd_le {T : List Nat} {D : List Dc} {A : AV} {rc : Nat → List Nat} {n f : Nat} {d : Dc} (hg : GSc T D) (hd : D[f]? = some d) (h2 : dK d = 2) : (eFd T D A rc n f).length ≤ ((aE A n f).map (fun it => (16 + it.2.1.length) + if isT T D f then (rc it.2.2).length else 0)).sum := by
  have hft : fty T D d ≤ 14 := dTy_lt (hg.fld hd h2).2.2.2.1
  have hk8 := (kdO_nmr hft).2
  have hT : isT T D f = decide (fty T D d = 13) := by unfold isT; rw [hd]
  unfold eFd
  rw [hd]
  simp only
  split
  · -- a packed row
    generalize aE A n f = E
    cases E with
    | nil => exact Nat.zero_le _
    | cons it E =>
      show (tgB d 2 ++ lnB ((it :: E).flatMap (fun it => nuB (fty T D d) it.1))).length ≤ _
      have htg := tgB_le hg hd h2 (show 2 < 8 by decide)
      have hc : ∀ (E : List It), (E.flatMap (fun it => nuB (fty T D d) it.1)).length ≤ 10 * E.length := by
        intro E
        induction E with
        | nil => exact Nat.le_refl _
        | cons a E ih =>
          rw [List.flatMap_cons, List.length_append, List.length_cons]
          have := nuB_le (fty T D d) a.1
          omega
      have hw : ∀ (E : List It), 16 * E.length ≤ (E.map (fun it => (16 + it.2.1.length) + if isT T D f then (rc it.2.2).length else 0)).sum := by
        intro E
        induction E with
        | nil => exact Nat.le_refl _
        | cons a E ih =>
          rw [List.map_cons, List.sum_cons, List.length_cons]
          omega
      have h1 := hc (it :: E)
      have h3 := hw (it :: E)
      unfold lnB
      rw [List.length_append, List.length_append]
      rw [List.length_cons] at h1 h3
      by_cases q : E.length ≤ 1
      · have := vB_1 (m := ((it :: E).flatMap (fun it => nuB (fty T D d) it.1)).length) (by omega)
        omega
      · have := vB_le (lN ((it :: E).flatMap (fun it => nuB (fty T D d) it.1)).length)
        omega
  · rw [len_flatMap]
    apply sum_le
    intro it _
    unfold eIt
    have htg := tgB_le (k := kdO (fty T D d)) hg hd h2 hk8
    rw [List.length_append]
    split
    · unfold lnB
      have := vB_le (lN (if fty T D d = 13 then rc it.2.2 else it.2.1).length)
      rw [List.length_append]
      by_cases q : fty T D d = 13
      · rw [hT, decide_eq_true q, if_pos (show true = true from rfl)]
        rw [if_pos q] at this ⊢
        omega
      · rw [if_neg q] at this ⊢
        omega
    · have := nuB_le (fty T D d) it.1
      omega
theorem eMf_le {T : List Nat} {D : List Dc} {A : AV} {z : Nat → Nat} (hg : GSc T D) (hM : ∀ n, n < aC A → isM D (aN A n)) (h : AW T D A z) : ∀ (j n : Nat), n < aC A → z n + j = 20 → (eMf T D A z n).length ≤ twf T D A (wE D A) z n := by
  intro j
  induction j with
  | zero =>
    intro n hn hz
    rw [eMf_eq h hn, twf_eq h hn, List.length_append, len_flatMap]
    have hno : ∀ c ∈ chN T D A n, False := fun c hc => by
      obtain ⟨_, b⟩ := h.2.2.1 n hn
      obtain ⟨b1, b2, b3⟩ := b c hc
      have := (h.2.2.1 c b2).1
      omega
    have h1 := sum_le (f := fun f => (eFd T D A (eMf T D A z) n f).length) (g := fun f => ((aE A n f).map (fun it => (16 + it.2.1.length) + if isT T D f then (eMf T D A z it.2.2).length else 0)).sum) (chF D (aN A n)) (fun f hf => by
      obtain ⟨d, hd⟩ := (chF_mem hg (hM n hn)).mp hf
      exact eFd_le hg hd.1 hd.2.1)
    have h2 := sum_itsW (T := T) (D := D) (A := A) (n := n) (h := fun k => (eMf T D A z k).length) (g := fun it => 16 + it.2.1.length)
    have h3 : ((chN T D A n).map (fun k => (eMf T D A z k).length)).sum ≤ ((chN T D A n).map (twf T D A (wE D A) z)).sum := sum_le _ (fun c hc => absurd (hno c hc) id)
    have e0 : wE D A n = ((its D A n).map (fun y => 16 + y.2.2.1.length)).sum + (aU A n).length := rfl
    omega
  | succ j ih =>
    intro n hn hz
    rw [eMf_eq h hn, twf_eq h hn, List.length_append, len_flatMap]
    have h1 := sum_le (f := fun f => (eFd T D A (eMf T D A z) n f).length) (g := fun f => ((aE A n f).map (fun it => (16 + it.2.1.length) + if isT T D f then (eMf T D A z it.2.2).length else 0)).sum) (chF D (aN A n)) (fun f hf => by
      obtain ⟨d, hd⟩ := (chF_mem hg (hM n hn)).mp hf
      exact eFd_le hg hd.1 hd.2.1)
    have h2 := sum_itsW (T := T) (D := D) (A := A) (n := n) (h := fun k => (eMf T D A z k).length) (g := fun it => 16 + it.2.1.length)
    have h3 : ((chN T D A n).map (fun k => (eMf T D A z k).length)).sum ≤ ((chN T D A n).map (twf T D A (wE D A) z)).sum := sum_le _ (fun c hc => by
      obtain ⟨_, b⟩ := h.2.2.1 n hn
      obtain ⟨b1, b2, b3⟩ := b c hc
      exact ih c b2 (by omega))
    have e0 : wE D A n = ((its D A n).map (fun y => 16 + y.2.2.1.length)).sum + (aU A n).length := rfl
    omega
/-- the bytes of texts and unknown fields, of what is reached -/
def tXn (D : List Dc) (A : AV) (n : Nat) : Nat := ((its D A n).map (fun y => y.2.2.1.length)).sum + (aU A n).length
def tX (T : List Nat) (D : List Dc) (A : AV) : Nat := ((alL T D A (aC A)).map (tXn D A)).sum
theorem e_len {T : List Nat} {D : List Dc} {A : AV} {z : Nat → Nat} (hg : GSc T D) (hM : ∀ n, n < aC A → isM D (aN A n)) (h : AW T D A z) (hv : nV T D A ≤ 200) (hx : tX T D A ≤ 700) : (eMf T D A z 0).length ≤ 3900 := by
  have h1 := eMf_le hg hM h 19 0 h.1 (by rw [h.2.1])
  rw [tw_al h] at h1
  have h2 : ((alL T D A (aC A)).map (wE D A)).sum = 16 * nV T D A + tX T D A := by
    unfold nV tX
    generalize alL T D A (aC A) = L
    induction L with
    | nil => rfl
    | cons n L ih =>
      rw [List.map_cons, List.sum_cons, ih, List.map_cons, List.sum_cons, List.map_cons, List.sum_cons]
      have : wE D A n = 16 * (its D A n).length + tXn D A n := by
        unfold wE tXn
        generalize its D A n = I
        have : ∀ (I : List (Nat × It)), (I.map (fun y => 16 + y.2.2.1.length)).sum = 16 * I.length + (I.map (fun y => y.2.2.1.length)).sum := by
          intro I
          induction I with
          | nil => rfl
          | cons a I ih => rw [List.map_cons, List.sum_cons, ih, List.map_cons, List.sum_cons, List.length_cons]; omega
        rw [this]
        omega
      rw [this]
      omega
  omega
