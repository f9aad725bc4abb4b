/-! ===== parse: names, and what was told before ===== -/
/-- names in a scope are told once -/
theorem nam_inj {T : List Nat} {D : List Dc} (hg : GSc T D) {i j : Nat} {d e : Dc} (hd : D[i]? = some d) (he : D[j]? = some e) (hs : dS d = dS e) (hn : nmT T d = nmT T e) : i = j := by
  have key : ∀ {i j : Nat} {d e : Dc}, D[i]? = some d → D[j]? = some e → dS d = dS e → nmT T d = nmT T e → ¬ i < j := by
    intro i j d e hd he hs hn hij
    have h := hg.all.1 j e he
    unfold tkn at h
    have hi := (List.getElem?_eq_some_iff.mp hd).1
    have hm : d ∈ D.take j := by
      apply List.mem_of_getElem? (i := i)
      rw [List.getElem?_take_of_lt hij]
      exact hd
    have h0 : ff (pT9 T e) (D.take j) 0 = none := by
      cases hff : ff (pT9 T e) (D.take j) 0 with
      | none => rfl
      | some k => rw [hff] at h; cases h
    have := ff_none _ _ h0 d hm
    exact of_decide_eq_false this ⟨hs, hn⟩
  have h1 := key hd he hs hn
  have h2 := key he hd hs.symm hn.symm
  omega
def pFn (T : List Nat) (m : Nat) (N : List Nat) (d : Dc) : Bool := decide (dK d = 2 ∧ dS d = some m ∧ nmT T d = N)
def pVn (T : List Nat) (e : Nat) (N : List Nat) (d : Dc) : Bool := decide (dK d = 3 ∧ dO d = some e ∧ nmT T d = N)
/-- the field, the value with a name -/
def fNm (T : List Nat) (D : List Dc) (m : Nat) (N : List Nat) : Option Nat := ff (pFn T m N) D 0
def vNm (T : List Nat) (D : List Dc) (e : Nat) (N : List Nat) : Option Nat := ff (pVn T e N) D 0
theorem fNm_some {T : List Nat} {D : List Dc} {m f : Nat} {N : List Nat} (h : fNm T D m N = some f) : ∃ d, isF D m f d ∧ nmT T d = N := by
  obtain ⟨d, h1, h2, _⟩ := ff_some _ _ _ h
  rw [Nat.sub_zero] at h1
  have := of_decide_eq_true h2
  exact ⟨d, ⟨h1, this.1, this.2.1⟩, this.2.2⟩
theorem vNm_some {T : List Nat} {D : List Dc} {e i : Nat} {N : List Nat} (h : vNm T D e N = some i) : ∃ d, D[i]? = some d ∧ dK d = 3 ∧ dO d = some e ∧ nmT T d = N := by
  obtain ⟨d, h1, h2, _⟩ := ff_some _ _ _ h
  rw [Nat.sub_zero] at h1
  have := of_decide_eq_true h2
  exact ⟨d, h1, this⟩
theorem fNm_find {T : List Nat} {D : List Dc} {m : Nat} {N : List Nat} (hg : GSc T D) (hm : isM D m) : (chF D m).find? (fun i => decide (nmI T D i = N)) = fNm T D m N := by
  refine find_ff (fun i d hd hp => ?_) (fun i hi => ?_) (fun i j d e hd he hp hq => ?_)
  · have := of_decide_eq_true hp
    exact (chF_mem hg hm).mpr ⟨d, hd, this.1, this.2.1⟩
  · obtain ⟨d, hd, h2, h3⟩ := (chF_mem hg hm).mp hi
    refine ⟨d, hd, ?_⟩
    unfold pFn
    rw [nmI_some hd]
    by_cases q : nmT T d = N
    · rw [decide_eq_true q, decide_eq_true ⟨h2, h3, q⟩]
    · rw [decide_eq_false q, decide_eq_false (fun z => q z.2.2)]
  · have a := of_decide_eq_true hp
    have b := of_decide_eq_true hq
    exact nam_inj hg hd he (a.2.1.trans b.2.1.symm) (a.2.2.trans b.2.2.symm)
theorem vNm_find {T : List Nat} {D : List Dc} (hg : GSc T D) {e : Nat} {y : Dc} (he : D[e]? = some y) (h1 : dK y = 1) (N : List Nat) : (chF D e).find? (fun i => decide (nmI T D i = N)) = vNm T D e N := by
  have := chE_find hg he h1 (fun i => decide (nmI T D i = N)) (pVn T e N) (fun i d hd => by
    unfold pVn
    rw [nmI_some hd, decide_eq_true_iff, decide_eq_true_iff]) D.length (Nat.le_refl _)
  rw [List.take_length] at this
  exact this
/-! the class -/
theorem C_called_L {U c p q : Nat} {σ : SG} {T S : List Nat} {D : List Dc} (hU4 : 4000 < U) (hcb : cb c) (hg : GSc T D) (hC : CS σ c T D) (hS : RB σ 1 S 0) (hpq : p ≤ q) (hq : q ≤ S.length) : ∀ (L : List Nat) (v : Option Nat) (U1 : Nat), LK σ c L v → (∀ i ∈ L, i < D.length) → L.length < U1 → x_X6_memberCalled_L6 U (c + 1) (some 1) (nI p) (nI q) σ U1 v = some (ad c (L.find? (fun i => decide (nmI T D i = slc S p q)))) := by
  have hl := hg.2.1
  have hT7 := hg.2.2.2.2.2.2
  have hSl : S.length ≤ 4000 := Nat.le_trans hS.2.2.1 (ln_small _)
  intro L
  induction L with
  | nil =>
    intro v U1 h _ hu
    obtain ⟨V, rfl⟩ : ∃ V, U1 = V + 1 := ⟨U1 - 1, by simp at hu; omega⟩
    rw [x_X6_memberCalled_L6, show v = none from h, if_pos rfl]; rfl
  | cons i L ih =>
    intro v U1 h hb hu
    rw [List.length_cons] at hu
    obtain ⟨V, rfl⟩ : ∃ V, U1 = V + 1 := ⟨U1 - 1, by omega⟩
    have hi := hb i (List.mem_cons_self ..)
    have hd := List.getElem?_eq_getElem hi
    have hn := hg.N i _ hd
    have hn1 := hn.1
    have hn2 := hn.2.1
    have hI := (hC.it hd).1
    obtain ⟨h1, h2⟩ := h
    have ihh := ih _ V h2 (fun j hj => hb j (List.mem_cons_of_mem _ hj)) (by omega)
    have hnx : x_X6_memberCalled_48 U (c + 1) (x_X6_memberCalled_L6 U (c + 1) (some 1) (nI p) (nI q) σ V) (some 1) (nI p) (nI q) (some (c + 5 + i)) σ = some (ad c (L.find? (fun i => decide (nmI T D i = slc S p q)))) := by
      unfold x_X6_memberCalled_48
      rw [ck_eq (it_sh hcb (by omega))]
      exact ihh
    rw [x_X6_memberCalled_L6, h1, if_neg (by intro z; cases z), ck_eq (it_sh hcb (by omega)), hI.2.2.2.2.1, hI.2.2.2.2.2.1, nI_sub (Nat.le_of_lt hn.1), nI_sub hpq, ifd (nI_eq (by omega) (by omega)), List.find?_cons, nmI_some hd]
    by_cases hlen : dE D[i] - dA D[i] = q - p
    · rw [if_pos hlen]
      have hsm := X0_isSame (U := U) (a := c + 2) (b := 1) (f := p) (to := q) (p := dA D[i]) hU4 (by decide) hC.1 hS hpq hq (by omega)
      rw [show dA D[i] + (q - p) = dE D[i] by omega] at hsm
      have hsm' : x_X0_isSame U (c + 1 + 1) (nI (dA D[i])) (some 1) (nI p) (nI q) σ = some (zI (decide (nmT T D[i] = slc S p q))) := hsm
      rw [hsm', b1_eq, ifz]
      cases hdc : decide (nmT T D[i] = slc S p q) with
      | true => rw [if_pos (show true = true from rfl)]; rfl
      | false => rw [if_neg (show ¬ false = true by decide), hnx]
    · have hne : nmT T D[i] ≠ slc S p q := fun z => by
        have e1 : (nmT T D[i]).length = dE D[i] - dA D[i] := slc_len (Nat.le_of_lt hn.1) hn.2.1
        have e2 := slc_len hpq hq
        rw [z] at e1
        omega
      rw [if_neg hlen, decide_eq_false hne, hnx]
theorem C_called {U c a p q : Nat} {σ : SG} {T S : List Nat} {D : List Dc} (hU4 : 4000 < U) (hcb : cb c) (hg : GSc T D) (hC : CS σ c T D) (hS : RB σ 1 S 0) (hpq : p ≤ q) (hq : q ≤ S.length) (ha : a < D.length) : x_X6_memberCalled U (c + 1) (ad c (some a)) (some 1) (nI p) (nI q) σ = some (ad c ((chF D a).find? (fun i => decide (nmI T D i = slc S p q)))) := by
  have hl := hg.2.1
  have hch := chF_len (a := a) hl
  unfold x_X6_memberCalled
  rw [ad_some, ck_eq (it_sh hcb (by omega))]
  exact C_called_L hU4 hcb hg hC hS hpq hq _ _ U (hC.ch ha) (fun i hi => chF_lt hi) (by omega)
/-- told before: the nodes and fields told so far -/
def tk (D : List Dc) (tl : List (Nat × Nat)) (n f : Nat) (d : Dc) : Bool := !dR d && tl.any (fun y => decide (y.1 = n) && (decide (y.2 = f) || rivB D f d y.2))
/-- what the class's chains tell -/
def TLc (G : Gh) (tl : List (Nat × Nat)) : Prop := ∀ n f, (n, f) ∈ tl ↔ (n < gC G ∧ ∃ e ∈ gL G n, eF e = some f)
theorem tk_iff {D : List Dc} {tl : List (Nat × Nat)} {n f : Nat} {d : Dc} : tk D tl n f d = true ↔ dR d = false ∧ ∃ g, (n, g) ∈ tl ∧ (g = f ∨ rivB D f d g = true) := by
  unfold tk
  rw [Bool.and_eq_true, List.any_eq_true]
  constructor
  · rintro ⟨h1, y, hy, h2⟩
    rw [Bool.and_eq_true, Bool.or_eq_true] at h2
    have e1 := of_decide_eq_true h2.1
    have hR : dR d = false := by
      cases h : dR d with
      | false => rfl
      | true => rw [h] at h1; cases h1
    refine ⟨hR, y.2, ?_, ?_⟩
    · rw [← e1]; exact hy
    · exact h2.2.elim (fun z => Or.inl (of_decide_eq_true z)) Or.inr
  · rintro ⟨h1, g, hg, h2⟩
    refine ⟨by rw [h1]; rfl, (n, g), hg, ?_⟩
    rw [Bool.and_eq_true, Bool.or_eq_true]
    exact ⟨decide_eq_true rfl, h2.elim (fun z => Or.inl (decide_eq_true z)) Or.inr⟩
theorem C_taken_L {U c n f : Nat} {σ : SG} {T : List Nat} {D : List Dc} {G : Gh} {d : Dc} (hcb : cb c) (hg : GSc T D) (hC : CS σ c T D) (hV : VG σ c T D G) (hn : n < gC G) (hd : isF D (gN G n) f d) : ∀ (L : List Eg) (p : Option Nat) (U1 : Nat), LN σ L p → (∀ e ∈ L, e ∈ gL G n) → L.length < U1 → x_X8_isTaken_L14 U 389 (some (c + 5 + f)) σ U1 p = some (zI (L.any (fun e => match eF e with | none => false | some g => decide (g = f) || rivB D f d g))) := by
  have hl9 := hg.2.1
  have hul := hV.2.1
  have hfl := (List.getElem?_eq_some_iff.mp hd.1).1
  have hf3 : sP σ (c + 5 + f) 3 = ad c (dO d) := (hC.it hd.1).1.2.2.2.1
  intro L
  induction L with
  | nil =>
    intro p U1 hp _ hu
    obtain ⟨V, rfl⟩ : ∃ V, U1 = V + 1 := ⟨U1 - 1, by simp at hu; omega⟩
    rw [x_X8_isTaken_L14, if_pos (show p = none from hp)]; rfl
  | cons e L ih =>
    intro p U1 hp hL hu
    rw [List.length_cons] at hu
    obtain ⟨V, rfl⟩ : ∃ V, U1 = V + 1 := ⟨U1 - 1, by omega⟩
    have he := hL e (List.mem_cons_self ..)
    obtain ⟨e1, e2, e3, _, _, _, e11⟩ := hV.e hn he
    have hsh : sh (eA e) = 4 := nd_sh e1 (by omega)
    have hp1 : p = some (eA e) := hp.1
    have ihh := ih (sP σ (eA e) 1) V hp.2 (fun x hx => hL x (List.mem_cons_of_mem _ hx)) (by omega)
    rw [hp1, x_X8_isTaken_L14, if_neg (show ¬ some (eA e) = none by intro z; cases z), ck_eq hsh, e3, List.any_cons]
    unfold x_X8_isTaken_50 x_X8_isTaken_51
    rw [ck_eq hsh, ck_eq hsh, e3, if_pos (show (0 : Int32) = 0 from rfl), if_neg (show ¬ (1 : Int32) = 0 by decide), ite_self, ihh]
    cases hf : eF e with
    | none =>
      rw [if_pos (show ad c none = none from rfl), if_neg (show ¬ ad c none = some (c + 5 + f) by intro z; cases z)]
      rfl
    | some g =>
      obtain ⟨x, hx, _⟩ := e11 g hf
      have hgl := (List.getElem?_eq_some_iff.mp hx.1).1
      have hg3 : sP σ (c + 5 + g) 3 = ad c (dO x) := (hC.it hx.1).1.2.2.2.1
      have egf : ad c (some g) = some (c + 5 + f) ↔ g = f := by
        rw [ad_some]
        constructor
        · intro z; have := Option.some.inj z; omega
        · intro z; rw [z]
      have eow : ad c (dO x) = ad c (dO d) ↔ dO x = dO d := by
        constructor
        · intro z
          cases ha : dO x with
          | none =>
            rw [ha] at z
            cases hb : dO d with
            | none => rfl
            | some b => rw [hb] at z; cases z
          | some a =>
            rw [ha] at z
            cases hb : dO d with
            | none => rw [hb] at z; cases z
            | some b =>
              rw [hb, ad_some, ad_some] at z
              have := Option.some.inj z
              congr 1
              omega
        · intro z; rw [z]
      have hrv : rivB D f d g = decide (dO d ≠ none ∧ g ≠ f ∧ dO x = dO d) := by unfold rivB; rw [hx.1]
      rw [if_neg (show ¬ ad c (some g) = none by intro z; cases z), ck_eq (it_sh hcb (by omega)), hf3, ifd ad_none, ad_some, ck_eq (it_sh hcb (by omega)), hg3, ifd eow, ← ad_some, ifd egf]
      simp only
      rw [hrv]
      by_cases q : g = f
      · have hxd : x = d := by have := hx.1; rw [q, hd.1] at this; exact (Option.some.inj this).symm
        rw [if_pos q, decide_eq_true q, Bool.true_or, Bool.true_or]
        simp only [ite_self]
        rfl
      · rw [if_neg q, decide_eq_false q, Bool.false_or]
        by_cases q1 : dO d = none
        · rw [if_pos q1, decide_eq_false (fun z => z.1 q1), Bool.false_or]
        · rw [if_neg q1]
          by_cases q2 : dO x = dO d
          · rw [if_pos q2, decide_eq_true ⟨q1, q, q2⟩, Bool.true_or]; rfl
          · rw [if_neg q2, decide_eq_false (fun z => q2 z.2.2), Bool.false_or]
theorem C_taken {U c n f : Nat} {σ : SG} {T : List Nat} {D : List Dc} {G : Gh} {d : Dc} {tl : List (Nat × Nat)} (hU4 : 4000 < U) (hcb : cb c) (hg : GSc T D) (hC : CS σ c T D) (hV : VG σ c T D G) (hn : n < gC G) (hd : isF D (gN G n) f d) (htl : TLc G tl) : x_X8_isTaken U 389 (some (gH G n)) (ad c (some f)) σ = some (zI (tk D tl n f d)) := by
  have hl9 := hg.2.1
  have hfl := (List.getElem?_eq_some_iff.mp hd.1).1
  obtain ⟨h1, h2, h3⟩ := hV.h hn
  have hlen := hV.len hn
  have hR : sI σ (c + 5 + f) 11 = zI (dR d) := (hC.it hd.1).1.2.2.2.2.2.2.2.2.1
  have hVN := hV.2.2.2.2.2.2.2.2.2 n hn
  unfold x_X8_isTaken
  rw [ad_some, ck_eq (it_sh hcb (by omega)), hR, ifz]
  cases hr : dR d with
  | true =>
    rw [if_pos (show true = true from rfl)]
    unfold tk
    rw [hr]; rfl
  | false =>
    rw [if_neg (show ¬ false = true by decide), ck_eq (nd_sh h1 h2), C_taken_L hcb hg hC hV hn hd (gL G n) _ U hVN.1 (fun e he => he) (by omega)]
    congr 2
    rw [Bool.eq_iff_iff, tk_iff, List.any_eq_true]
    constructor
    · rintro ⟨e, he, h⟩
      cases hf : eF e with
      | none => rw [hf] at h; cases h
      | some g =>
        rw [hf] at h
        simp only at h
        rw [Bool.or_eq_true] at h
        exact ⟨hr, g, (htl n g).mpr ⟨hn, e, he, hf⟩, h.elim (fun z => Or.inl (of_decide_eq_true z)) Or.inr⟩
    · rintro ⟨_, g, hg', h⟩
      obtain ⟨_, e, he, hf⟩ := (htl n g).mp hg'
      refine ⟨e, he, ?_⟩
      rw [hf]
      simp only
      rw [Bool.or_eq_true]
      exact h.elim (fun z => Or.inl (decide_eq_true z)) Or.inr
/-! the reference -/
theorem N_isNamed_L {U p q : Nat} {σ : SG} {S N : List Nat} (h : LR σ S) (hN : NMs σ q N) (hp : p + N.length ≤ S.length) (hq : q + N.length ≤ 1200) (h8 : ∀ c ∈ N, c < 256) : ∀ (j k U1 : Nat), k + j = N.length → j < U1 → x_X12_isNamed_L13 U 1101 (nI p) (nI q) (nI N.length) σ U1 (nI k) = some (zI (decide (slc S (p + k) (p + N.length) = N.drop k))) := by
  have hl := h.2.2.1
  intro j
  induction j with
  | zero =>
    intro k U1 hk hu
    obtain ⟨V, rfl⟩ : ∃ V, U1 = V + 1 := ⟨U1 - 1, by omega⟩
    rw [x_X12_isNamed_L13, if_neg (fun z => by have := (ltI (by omega) (by omega)).mp z; omega), slc_nil (by omega), List.drop_eq_nil_of_le (by omega)]; rfl
  | succ j ih =>
    intro k U1 hk hu
    obtain ⟨V, rfl⟩ : ∃ V, U1 = V + 1 := ⟨U1 - 1, by omega⟩
    have hkN : k < N.length := by omega
    have hkS : p + k < S.length := by omega
    have a1 := h.2.1 (p + k) _ (List.getElem?_eq_getElem hkS)
    have a2 := hN k _ (List.getElem?_eq_getElem hkN)
    have b1' := h.2.2.2 _ (List.getElem_mem hkS)
    have b2' := h8 _ (List.getElem_mem hkN)
    rw [x_X12_isNamed_L13, if_pos ((ltI (by omega) (by omega)).mpr hkN), nI_add, ix_in (by omega) (by decide), nI_add, ix_in (by omega) (by decide), a1, a2, ifd (nI_eq (by omega) (by omega)), nI_1, slc_cons (by omega) hkS, List.drop_eq_getElem_cons hkN]
    by_cases e : S[p + k] = N[k]
    · rw [if_pos e, ih (k + 1) V (by omega) (by omega), e]
      congr 2
      rw [decide_eq_decide, List.cons.injEq]
      constructor
      · intro z; exact ⟨rfl, z⟩
      · intro z; exact z.2
    · rw [if_neg e, decide_eq_false (fun z => e (List.cons.inj z).1)]; rfl
theorem N_isNamed {U s b j p q : Nat} {σ : SG} {S N : List Nat} (hU4 : 4000 < U) (hs : s < 2) (h : LR σ S) (hN : NM σ s b j N) (hpq : p ≤ q) (hq : q ≤ S.length) (h8 : ∀ c ∈ N, c < 256) : x_X12_isNamed U 1101 (nI p) (nI q) (sI σ b j) (sI σ (b + 1) j) σ = some (zI (decide (slc S p q = N))) := by
  have hl := h.2.2.1
  obtain ⟨r, h1, h2, h3, h4, h5⟩ := hN
  unfold x_X12_isNamed
  rw [h1, h2, nI_sub hpq, ifd (nI_eq (by omega) (by omega))]
  by_cases e : q - p = N.length
  · rw [if_pos e]
    have := N_isNamed_L (U := U) (p := p) h h5 (by omega) (by omega) h8 N.length 0 U (by omega) (by omega)
    rw [Nat.add_zero, List.drop_zero, show p + N.length = q by omega] at this
    exact this
  · rw [if_neg e, decide_eq_false (fun z => e (by rw [← z, slc_len hpq hq]))]; rfl
theorem nmT8 {T : List Nat} {D : List Dc} (hg : GSc T D) {d : Dc} : ∀ c ∈ nmT T d, c < 256 := fun c hc => hg.2.2.2.2.2.1 c (List.mem_of_mem_drop (List.mem_of_mem_take hc))
theorem N_fNamed_L {U s m p q : Nat} {σ : SG} {T S : List Nat} {D : List Dc} (hU4 : 4000 < U) (hs : s < 2) (h80 : sI σ 1101 80 = nI s) (hg : GSc T D) (h : RS σ s T D) (hm : isM D m) (hL : LR σ S) (hpq : p ≤ q) (hq : q ≤ S.length) : ∀ (j g U1 : Nat), g + j = cnt D 2 → j < U1 → (∀ (i : Nat) (d : Dc), D[i]? = some d → dK d = 2 → cnt (D.take i) 2 < g → pFn T m (slc S p q) d = false) →
    x_X12_fieldNamed_L9 U 1101 (nI (cnt (D.take m) 0)) (nI p) (nI q) σ U1 (nI (60 * s + g)) = some (fIx D s (fNm T D m (slc S p q))) := by
  have hl := hg.2.1
  obtain ⟨l0, l1, l2, l3, l4, l5⟩ := lim_of h.1
  have hc : sI σ 1106 s = nI (cnt D 2) := h.2.1 2 (by decide)
  unfold fNm
  intro j
  induction j with
  | zero =>
    intro g U1 hgj hu hall
    obtain ⟨V, rfl⟩ : ∃ V, U1 = V + 1 := ⟨U1 - 1, by omega⟩
    rw [x_X12_fieldNamed_L9, h80, ix_in hs (by decide), show (60 : Int32) = nI 60 from rfl, pk_mul, hc, nI_add, if_neg (fun q => by have := (ltI (by omega) (by omega)).mp q; omega), ff_no]
    · rfl
    · intro x hx
      obtain ⟨i, hi⟩ := List.getElem?_of_mem hx
      by_cases z : dK x = 2
      · exact hall i x hi z (by have := cnt_take_lt hi z; omega)
      · exact decide_eq_false (fun y => z y.1)
  | succ j ih =>
    intro g U1 hgj hu hall
    obtain ⟨V, rfl⟩ : ∃ V, U1 = V + 1 := ⟨U1 - 1, by omega⟩
    obtain ⟨i, d, hd, hk, hi⟩ := plc (D := D) (q := 2) g (by omega)
    have row := (h.2.2 i d hd).2.2.1 hk
    rw [hi] at row
    have hnm := N_isNamed (U := U) hU4 hs hL row.2.1 hpq hq (nmT8 hg (d := d))
    have hnm' : x_X12_isNamed U 1101 (nI p) (nI q) (sI σ 1115 (60 * s + g)) (sI σ 1116 (60 * s + g)) σ = some (zI (decide (slc S p q = nmT T d))) := hnm
    rw [x_X12_fieldNamed_L9, h80, ix_in hs (by decide), show (60 : Int32) = nI 60 from rfl, pk_mul, hc, nI_add, if_pos ((ltI (by omega) (by omega)).mpr (by omega)), ix_in (by omega) (by decide), row.1, ifd (isM_oq hl hm (hg.1.scK hd)), ix_in (by omega) (by decide), ix_in (by omega) (by decide), hnm', b1_eq, ifz]
    unfold x_X12_fieldNamed_68
    rw [nI_1]
    have go : pFn T m (slc S p q) d = false → x_X12_fieldNamed_L9 U 1101 (nI (cnt (D.take m) 0)) (nI p) (nI q) σ V (nI (60 * s + g + 1)) = some (fIx D s (ff (pFn T m (slc S p q)) D 0)) := by
      intro hp
      refine ih (g + 1) V (by omega) (by omega) (fun i' d' h2 h3 h4 => ?_)
      by_cases z : cnt (D.take i') 2 = g
      · have := ord_inj h2 h3 hd hk (by omega)
        subst this
        rw [hd] at h2
        cases h2
        exact hp
      · exact hall i' d' h2 h3 (by omega)
    by_cases q1 : dS d = some m
    · rw [if_pos q1]
      by_cases q2 : slc S p q = nmT T d
      · rw [decide_eq_true q2, if_pos (show true = true from rfl)]
        have hff := ff_here (p := pFn T m (slc S p q)) D 0 i d hd (decide_eq_true ⟨hk, q1, q2.symm⟩) (fun j' x hj' hx => by
          by_cases z : dK x = 2
          · exact hall j' x hx z (by have := cnt_lt_of hx z hj'; omega)
          · exact decide_eq_false (fun y => z y.1))
        rw [hff, Nat.zero_add]
        unfold fIx
        simp only
        rw [hi]
      · rw [decide_eq_false q2, if_neg (show ¬ false = true by decide)]
        exact go (decide_eq_false (fun z => q2 z.2.2.symm))
    · rw [if_neg q1]
      exact go (decide_eq_false (fun z => q1 z.2.1))
/-- a name begins with a letter: the reference finds it where the class does -/
theorem fNm_ne {T : List Nat} {D : List Dc} {S : List Nat} {m p : Nat} (hg : GSc T D) (hp : p ≤ S.length) : fNm T D m (slc S p (neS S p)) = fNm T D m (slc S p (weS S p)) := by
  unfold neS
  cases hb : bP pL S p with
  | true => rw [if_pos (show true = true from rfl)]
  | false =>
    rw [if_neg (show ¬ false = true by decide)]
    have key : ∀ N : List Nat, (∀ c, N[0]? = some c → pL c = false) → fNm T D m N = none := by
      intro N hN
      unfold fNm
      apply ff_no
      intro d hd
      apply decide_eq_false
      rintro ⟨_, _, h3⟩
      obtain ⟨i, hi⟩ := List.getElem?_of_mem hd
      obtain ⟨_, _, ⟨c, h4, h5⟩, _⟩ := hg.N i d hi
      have h3' : slc T (dA d) (dE d) = N := h3
      rw [h3'] at h4
      rw [hN c h4] at h5
      cases h5
    rw [key _ (fun c hc => by rw [slc_nil (Nat.le_refl _)] at hc; cases hc), key]
    intro c hc
    unfold weS slc at hc
    have h0 : 0 < p + rn pW S p - p := by
      rcases Nat.eq_zero_or_pos (p + rn pW S p - p) with z | z
      · rw [z] at hc; cases hc
      · exact z
    rw [List.getElem?_take_of_lt h0, List.getElem?_drop, Nat.add_zero] at hc
    unfold bP at hb
    rw [hc] at hb
    exact hb
theorem vNm_ne {T : List Nat} {D : List Dc} {S : List Nat} {e p : Nat} (hb : bP pL S p = true) : vNm T D e (slc S p (neS S p)) = vNm T D e (slc S p (weS S p)) := by
  unfold neS
  rw [hb, if_pos rfl]
/-- what the reference's rows tell -/
def TLr (H : Rh) (tl : List (Nat × Nat)) : Prop := ∀ n f, (n, f) ∈ tl ↔ ∃ r ∈ zR H, rN r = n ∧ rF r = f
theorem N_told_L {U s n f : Nat} {σ : SG} {T : List Nat} {D : List Dc} {P : List Nat} {R : List Rg} {d : Dc} (hs : s < 2) (hg : GSc T D) (hS : RS σ s T D) (hR : RT σ s T D P R) (hd : D[f]? = some d) (h2 : dK d = 2) (hn : n < 400) (hRn : ∀ r ∈ R, rN r < 400) : ∀ (j i U1 : Nat), i + j = R.length → j < U1 → x_X12_toldBefore_L13 U 1101 (nI n) (nI (fx D s f)) σ U1 (nI i) = some (zI ((R.drop i).any (fun r => decide (rN r = n) && (decide (rF r = f) || rivB D f d (rF r))))) := by
  have hl := hg.2.1
  have hR7 := hR.2.1
  obtain ⟨f1, _, _, _, _, _, _, f8⟩ := hS.f hd h2
  intro j
  induction j with
  | zero =>
    intro i U1 hi hu
    obtain ⟨V, rfl⟩ : ∃ V, U1 = V + 1 := ⟨U1 - 1, by omega⟩
    rw [x_X12_toldBefore_L13, hR.1, if_neg (fun z => by have := (ltI (by omega) (by omega)).mp z; omega), List.drop_eq_nil_of_le (by omega)]; rfl
  | succ j ih =>
    intro i U1 hi hu
    obtain ⟨V, rfl⟩ : ∃ V, U1 = V + 1 := ⟨U1 - 1, by omega⟩
    have hil : i < R.length := by omega
    obtain ⟨⟨w1, w2, _, _, x, w8, w9, _⟩, _⟩ := hR.2.2 i _ (List.getElem?_eq_getElem hil)
    have hrn := hRn _ (List.getElem_mem hil)
    have ihh := ih (i + 1) V (by omega) (by omega)
    obtain ⟨g1, _, _, _, _, _, _, g8⟩ := hS.f w8 w9
    have e22 : oq D 4 (dO d) = -1 ↔ dO d = none := oq_inj (q := 4) (o := dO d) (o' := none) hl (hg.1.one hd h2) (fun m hm => by cases hm)
    have e23 : oq D 4 (dO x) = oq D 4 (dO d) ↔ dO x = dO d := oq_inj (q := 4) hl (hg.1.one w8 w9) (hg.1.one hd h2)
    have hrv : rivB D f d (rF R[i]) = decide (dO d ≠ none ∧ rF R[i] ≠ f ∧ dO x = dO d) := by unfold rivB; rw [w8]
    rw [x_X12_toldBefore_L13, hR.1, if_pos ((ltI (by omega) (by omega)).mpr hil), ix_in (by omega) (by decide), w1, ifd (nI_eq (by omega) (by omega)), ix_in (by omega) (by decide), w2, ifd (fx_inj hg hs w8 w9 hd h2), ix_in (show fx D s f < 120 by omega) (by decide), f8, ifd e22, ix_in (by omega) (by decide), w2, ix_in (show fx D s (rF R[i]) < 120 by omega) (by decide), ix_in (show fx D s f < 120 by omega) (by decide), g8, f8, ifd e23]
    unfold x_X12_toldBefore_73
    rw [nI_1, ihh, List.drop_eq_getElem_cons hil, List.any_cons, hrv]
    by_cases q1 : rN R[i] = n
    · rw [if_pos q1, decide_eq_true q1, Bool.true_and]
      by_cases q2 : rF R[i] = f
      · rw [if_pos q2, decide_eq_true q2, Bool.true_or, Bool.true_or]; rfl
      · rw [if_neg q2, decide_eq_false q2, Bool.false_or]
        by_cases q3 : dO d = none
        · rw [if_pos q3, decide_eq_false (fun z => z.1 q3), Bool.false_or]
        · rw [if_neg q3]
          by_cases q4 : dO x = dO d
          · rw [if_pos q4, decide_eq_true ⟨q3, q2, q4⟩, Bool.true_or]; rfl
          · rw [if_neg q4, decide_eq_false (fun z => q4 z.2.2), Bool.false_or]
    · rw [if_neg q1, decide_eq_false q1, Bool.false_and, Bool.false_or]
theorem N_told {U s n f : Nat} {σ : SG} {T : List Nat} {D : List Dc} {A : AV} {H : Rh} {d : Dc} {tl : List (Nat × Nat)} (hU4 : 4000 < U) (hs : s < 2) (hg : GSc T D) (hS : RS σ s T D) (hV : VR σ s T D A H) (hd : D[f]? = some d) (h2 : dK d = 2) (hn : n < aC A) (htl : TLr H tl) : x_X12_toldBefore U 1101 (nI n) (nI (fx D s f)) σ = some (zI (tk D tl n f d)) := by
  have hR7 := hV.2.1.2.1
  have hc := hV.2.2.2.2.1.2.2.1
  obtain ⟨f1, _, _, _, _, f6, _⟩ := hS.f hd h2
  unfold x_X12_toldBefore
  rw [ix_in (show fx D s f < 120 by omega) (by decide), f6, ifz]
  cases hr : dR d with
  | true =>
    rw [if_pos (show true = true from rfl)]
    unfold tk
    rw [hr]; rfl
  | false =>
    have key := N_told_L (U := U) (n := n) hs hg hS hV.2.1 hd h2 (by omega) hV.n400 (zR H).length 0 U (by omega) (by omega)
    have key' : x_X12_toldBefore_L13 U 1101 (nI n) (nI (fx D s f)) σ U 0 = _ := key
    rw [if_neg (show ¬ false = true by decide), key', List.drop_zero]
    congr 2
    rw [Bool.eq_iff_iff, tk_iff, List.any_eq_true]
    constructor
    · rintro ⟨r, hr', h⟩
      rw [Bool.and_eq_true, Bool.or_eq_true] at h
      exact ⟨hr, rF r, (htl n (rF r)).mpr ⟨r, hr', of_decide_eq_true h.1, rfl⟩, h.2.elim (fun z => Or.inl (of_decide_eq_true z)) Or.inr⟩
    · rintro ⟨_, g, hg', h⟩
      obtain ⟨r, hr', a1, a2⟩ := (htl n g).mp hg'
      refine ⟨r, hr', ?_⟩
      rw [Bool.and_eq_true, Bool.or_eq_true, a2]
      exact ⟨decide_eq_true a1, h.elim (fun z => Or.inl (decide_eq_true z)) Or.inr⟩
