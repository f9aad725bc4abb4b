/-! ===== parse: the spec, and a field of the class ===== -/
def pVal (T : List Nat) (D : List Dc) (S : List Nat) (d : Dc) (p : Nat) : Option (Int64 × List Nat × Nat) := if nmr (fty T D d) then (nvS T D S d p).map (fun y => (y.1, [], y.2)) else (tvS S (fty T D d) p).map (fun y => (0, y.1, y.2))
abbrev Tl : Type := List (Nat × Nat)
/-- one field of a message -/
def qSt (T : List Nat) (D : List Dc) (S : List Nat) (rc : AV → Tl → Nat → Nat → Nat → Option (AV × Tl × Nat)) (n m p : Nat) (A : AV) (tl : Tl) : Option (AV × Tl × Nat) := match fNm T D m (slc S p (weS S p)) with
  | none => none
  | some f => match D[f]? with
    | none => none
    | some d => if tk D tl n f d then none else if fty T D d = 13 then (if S[tbS S (weS S p)]? = some 123 then (match ftg T D d with
        | none => none
        | some t => rc (aMsg D A n f d t).1 ((n, f) :: tl) (aMsg D A n f d t).2 t (tbS S (weS S p) + 1)) else none)
      else if S[tbS S (weS S p)]? = some 58 then (match pVal T D S d (tbS S (tbS S (weS S p) + 1)) with
        | none => none
        | some (v, x, q) => some (aPut T D A n f d v x, (n, f) :: tl, q)) else none
def qLp (T : List Nat) (D : List Dc) (S : List Nat) (rc : AV → Tl → Nat → Nat → Nat → Option (AV × Tl × Nat)) (n m dp : Nat) : Nat → AV → Tl → Nat → Option (AV × Tl × Nat)
  | 0, _, _, _ => none
  | j + 1, A, tl, p => match S[tbS S p]? with
    | none => if dp = 1 then some (A, tl, tbS S p) else none
    | some c => if c = 125 then (if 1 < dp then some (A, tl, tbS S p + 1) else none) else match qSt T D S rc n m (tbS S p) A tl with
      | none => none
      | some (A', tl', p') => qLp T D S rc n m dp j A' tl' p'
def qMs (T : List Nat) (D : List Dc) (S : List Nat) (lm : Nat) : Nat → Nat → AV → Tl → Nat → Nat → Nat → Option (AV × Tl × Nat)
  | 0, _, _, _, _, _, _ => none
  | j + 1, dp, A, tl, n, m, p => if lm < dp then none else qLp T D S (qMs T D S lm j (dp + 1)) n m dp 701 A tl p
theorem numS_lt {S : List Nat} {t p q : Nat} {v : Int64} (hp : p ≤ S.length) (h : numS S t p = some (v, q)) : p < q ∧ q ≤ S.length := by
  unfold numS at h
  generalize hp1 : (if S[p]? = some 45 then p + 1 else p) = p1 at h
  have hb : p ≤ p1 ∧ p1 ≤ S.length := by
    by_cases z : S[p]? = some 45
    · have := (List.getElem?_eq_some_iff.mp z).1
      rw [if_pos z] at hp1; omega
    · rw [if_neg z] at hp1; omega
  have hr := rn_le' (f := pD) hb.2
  by_cases z : rn pD S p1 = 0 ∨ bP pW S (p1 + rn pD S p1) = true
  · rw [if_pos z] at h; cases h
  · rw [if_neg z] at h
    cases hn : nmF (rl pD S p1) 0 with
    | none => rw [hn] at h; cases h
    | some x =>
      rw [hn] at h
      simp only at h
      split at h
      · cases h
        have : rn pD S p1 ≠ 0 := fun y => z (Or.inl y)
        omega
      · cases h
theorem txS_lt {S : List Nat} {qt : Nat} : ∀ (j p : Nat) (t : List Nat) (q : Nat), txS S qt j p = some (t, q) → p + t.length < q ∧ q ≤ S.length := by
  intro j
  induction j with
  | zero => intro p t q h; cases h
  | succ j ih =>
    intro p t q h
    rw [txS] at h
    cases hs : S[p]? with
    | none => rw [hs] at h; cases h
    | some c =>
      have hpl := (List.getElem?_eq_some_iff.mp hs).1
      rw [hs] at h
      simp only at h
      by_cases cq : c = qt
      · rw [if_pos cq] at h; cases h; simp; omega
      rw [if_neg cq] at h
      by_cases c92 : c = 92
      · rw [if_pos c92] at h
        cases hes : esS S (p + 1) with
        | none => rw [hes] at h; cases h
        | some y =>
          obtain ⟨b, p'⟩ := y
          rw [hes] at h
          simp only at h
          have l := esS_lt hes
          cases ht : txS S qt j p' with
          | none => rw [ht] at h; cases h
          | some y =>
            rw [ht] at h
            cases h
            have := ih p' y.1 y.2 ht
            simp
            omega
      rw [if_neg c92] at h
      split at h
      · cases h
      · cases ht : txS S qt j (p + 1) with
        | none => rw [ht] at h; cases h
        | some y =>
          rw [ht] at h
          cases h
          have := ih (p + 1) y.1 y.2 ht
          simp
          omega
theorem fi_some {L : List (List Nat)} {N : List Nat} : ∀ (k i : Nat), fi N L k = some i → N ∈ L := by
  induction L with
  | nil => intro k i h; cases h
  | cons a L ih =>
    intro k i h
    unfold fi at h
    split at h
    · rename_i e; rw [e]; exact List.mem_cons_self ..
    · exact List.mem_cons_of_mem _ (ih _ _ h)
theorem we_lt {S : List Nat} {p : Nat} {N : List Nat} (hp : p ≤ S.length) (h : slc S p (weS S p) = N) (hN : N ≠ []) : p < weS S p := by
  have h1 := slc_len (weS_le hp).1 (weS_le hp).2
  rw [h] at h1
  have : N.length ≠ 0 := fun z => hN (List.length_eq_zero_iff.mp z)
  omega
theorem nmT_ne {T : List Nat} {D : List Dc} {i : Nat} {d : Dc} (hg : GSc T D) (hd : D[i]? = some d) : nmT T d ≠ [] := fun z => by
  obtain ⟨_, _, ⟨c, h4, _⟩, _⟩ := hg.N i d hd
  have z' : slc T (dA d) (dE d) = [] := z
  rw [z'] at h4
  cases h4
theorem pVal_lt {T : List Nat} {D : List Dc} {S : List Nat} {f : Nat} {d : Dc} {p q : Nat} {v : Int64} {x : List Nat} (hg : GSc T D) (hp : p ≤ S.length) (h : pVal T D S d p = some (v, x, q)) : p + x.length < q ∧ q ≤ S.length := by
  unfold pVal at h
  cases hnm : nmr (fty T D d) with
  | true =>
    rw [hnm, if_pos rfl] at h
    cases hn : nvS T D S d p with
    | none => rw [hn] at h; cases h
    | some y =>
      obtain ⟨v', q'⟩ := y
      rw [hn] at h
      cases h
      have hw := weS_le hp
      show p + 0 < q' ∧ q' ≤ S.length
      unfold nvS at hn
      split at hn
      · unfold bvS at hn
        cases hf : fi (slc S p (weS S p)) [[102, 97, 108, 115, 101], [116, 114, 117, 101]] 0 with
        | none => rw [hf] at hn; cases hn
        | some i =>
          rw [hf] at hn
          cases hn
          have hm := fi_some _ _ hf
          have := we_lt hp rfl (show slc S p (weS S p) ≠ [] from fun z => by rw [z] at hm; revert hm; decide)
          omega
      · split at hn
        · cases ht : ftg T D d with
          | none => rw [ht] at hn; cases hn
          | some e =>
            rw [ht] at hn
            simp only [evS] at hn
            cases hv : vNm T D e (slc S p (weS S p)) with
            | none => rw [hv] at hn; cases hn
            | some i =>
              rw [hv] at hn
              cases hn
              obtain ⟨y, h1, _, _, h4⟩ := vNm_some hv
              have := we_lt hp h4.symm (nmT_ne hg h1)
              omega
        · have := numS_lt hp hn
          omega
  | false =>
    rw [hnm, if_neg (by decide)] at h
    cases hn : tvS S (fty T D d) p with
    | none => rw [hn] at h; cases h
    | some y =>
      obtain ⟨x', q'⟩ := y
      rw [hn] at h
      cases h
      unfold tvS at hn
      cases hs : S[p]? with
      | none => rw [hs] at hn; cases hn
      | some c =>
        rw [hs] at hn
        simp only at hn
        split at hn
        · cases ht : txS S c 701 (p + 1) with
          | none => rw [ht] at hn; cases hn
          | some y =>
            obtain ⟨x2, q2⟩ := y
            rw [ht] at hn
            simp only at hn
            split at hn
            · cases hn
            · have e := Prod.mk.inj (Option.some.inj hn)
              have := txS_lt _ _ _ _ ht
              rw [e.1, e.2] at this
              show p + x'.length < q' ∧ q' ≤ S.length
              omega
        · cases hn
/-- the class while it parses -/
def QC (σ : SG) (c : Nat) (T : List Nat) (D : List Dc) (S : List Nat) (G : Gh) (A : AV) (tl : Tl) (p b : Nat) : Prop := CS σ c T D ∧ VG σ c T D G ∧ VE T D G A ∧ RB σ 1 S 0 ∧ sI σ 1095 4 = nI p ∧ gU G ≤ b ∧ (gP G).length ≤ b ∧ b ≤ p ∧ p ≤ S.length ∧ TLc G tl ∧ sP σ 389 4 = some (c + 1)
theorem fT_fX {σ τ : SG} (h : fT σ τ) : fX σ τ := ⟨fun b hb => h.1 b (by omega), fun k _ => h.1 389 (by decide) k, (h.1 1094 (by decide) 5).1, h.2.1 5 (by decide), (h.1 1092 (by decide) 2).1⟩
theorem QC_T {σ τ : SG} {c : Nat} {T : List Nat} {D : List Dc} {S : List Nat} {G : Gh} {A : AV} {tl : Tl} {p p' b : Nat} (h : QC σ c T D S G A tl p b) (hcb : cb c) (hf : fT σ τ) (h4 : sI τ 1095 4 = nI p') (hp : b ≤ p') (hp' : p' ≤ S.length) : QC τ c T D S G A tl p' b := by
  obtain ⟨a1, a2, a3, a4, a5, a6, a7, a8, a9, a10, a11⟩ := h
  exact ⟨CS_fX a1 hcb (fT_fX hf), VG_sm a2 (fun b hb => hf.1 b (by omega)), a3, RB_fT a4 hf (by decide) (by decide), h4, a6, a7, hp, hp', a10, ((hf.1 389 (by decide) 4).2.2).trans a11⟩
def OP (c : Nat) (T : List Nat) (D : List Dc) (S : List Nat) (G : Gh) (σ : SG) (o : Option (AV × Tl × Nat)) (x : Option (Int32 × SG)) : Prop := ∃ τ, x = some (zI o.isSome, τ) ∧ fX σ τ ∧ ∀ A tl p, o = some (A, tl, p) → ∃ G', QC τ c T D S G' A tl p p ∧ gX G G'
theorem OP_no {c : Nat} {T : List Nat} {D : List Dc} {S : List Nat} {G : Gh} {σ τ : SG} (h : fX σ τ) : OP c T D S G σ none (some (0, τ)) := ⟨τ, rfl, h, fun A tl p z => by cases z⟩
theorem OP_from {c : Nat} {T : List Nat} {D : List Dc} {S : List Nat} {G G1 : Gh} {σ τ : SG} {o : Option (AV × Tl × Nat)} {x : Option (Int32 × SG)} (hf : fX σ τ) (hg : gX G G1) (h : OP c T D S G1 τ o x) : OP c T D S G σ o x := by
  obtain ⟨υ, a, b, d⟩ := h
  refine ⟨υ, a, fX_trans hf b, fun A tl p z => ?_⟩
  obtain ⟨G', w1, w2⟩ := d A tl p z
  exact ⟨G', w1, gX_trans hg w2⟩
/-- a told field with its rivals -/
theorem tk_no {T : List Nat} {D : List Dc} {tl : Tl} {n f g : Nat} {d : Dc} (hg : GSc T D) (hd : D[f]? = some d) (h2 : dK d = 2) (h : tk D tl n f d = false) (hr : rivB D f d g = true) : (n, g) ∉ tl := by
  intro hm
  have hR : dR d = false := by
    cases hq : dR d with
    | false => rfl
    | true =>
      have ho := (hg.fld hd h2).2.2.2.2.2 hq
      unfold rivB at hr
      cases hx : D[g]? with
      | none => rw [hx] at hr; cases hr
      | some x => rw [hx] at hr; exact absurd ho (of_decide_eq_true hr).1
  have : tk D tl n f d = true := tk_iff.mpr ⟨hR, g, hm, Or.inr hr⟩
  rw [h] at this
  cases this
theorem TLc_flo {G : Gh} {n f : Nat} : (∃ e ∈ gL G n, eF e = some f) ↔ flo (some f) (gL G n) ≠ [] := by
  constructor
  · rintro ⟨e, he, hf⟩ z
    have : e ∈ flo (some f) (gL G n) := flo_mem.mpr ⟨he, hf⟩
    rw [z] at this
    cases this
  · intro h
    obtain ⟨e, he⟩ := List.exists_mem_of_ne_nil _ h
    exact ⟨e, flo_mem.mp he⟩
/-- one more told field -/
theorem TLc_add {T : List Nat} {D : List Dc} {G G2 : Gh} {tl : Tl} {n f : Nat} {d : Dc} (hg : GSc T D) (hd : D[f]? = some d) (h2 : dK d = 2) (hn : n < gC G) (htl : TLc G tl) (htk : tk D tl n f d = false) (hC : gC G ≤ gC G2) (hnew : ∀ m, gC G ≤ m → m < gC G2 → gL G2 m = []) (hoth : ∀ m, m < gC G → m ≠ n → gL G2 m = gL G m) (hf : flo (some f) (gL G2 n) ≠ []) (hfg : ∀ g, g ≠ f → flo (some g) (gL G2 n) = if rivB D f d g then [] else flo (some g) (gL G n)) : TLc G2 ((n, f) :: tl) := by
  intro m g
  rw [List.mem_cons]
  by_cases hm : m = n
  · subst hm
    rw [TLc_flo]
    by_cases hgf : g = f
    · subst hgf
      exact ⟨fun _ => ⟨by omega, hf⟩, fun _ => Or.inl rfl⟩
    · rw [hfg g hgf]
      constructor
      · rintro (z | z)
        · exact absurd (Prod.mk.inj z).2 hgf
        · refine ⟨by omega, ?_⟩
          cases hr : rivB D f d g with
          | true => exact absurd z (tk_no hg hd h2 htk hr)
          | false =>
            rw [if_neg (by decide)]
            exact TLc_flo.mp ((htl m g).mp z).2
      · rintro ⟨_, z⟩
        cases hr : rivB D f d g with
        | true => rw [hr, if_pos rfl] at z; exact absurd rfl z
        | false =>
          rw [hr, if_neg (by decide)] at z
          exact Or.inr ((htl m g).mpr ⟨hn, TLc_flo.mpr z⟩)
  · constructor
    · rintro (z | z)
      · exact absurd (Prod.mk.inj z).1 hm
      · obtain ⟨z1, z2⟩ := (htl m g).mp z
        rw [← hoth m z1 hm] at z2
        exact ⟨by omega, z2⟩
    · rintro ⟨z1, e, he, hef⟩
      right
      by_cases hmc : m < gC G
      · rw [hoth m hmc hm] at he
        exact (htl m g).mpr ⟨hmc, e, he, hef⟩
      · rw [hnew m (by omega) z1] at he
        cases he
