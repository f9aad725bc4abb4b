/-! ===== the class judges: names and types ===== -/
/-- what of an item never changes once it is read -/
def IS (σ : SG) (c a i : Nat) (d : Dc) : Prop := sI σ a 0 = nI (dK d) ∧ sI σ a 1 = nI i ∧ sP σ a 2 = ad c (dS d) ∧ sP σ a 3 = ad c (dO d) ∧ sI σ a 4 = nI (dA d) ∧ sI σ a 5 = nI (dE d) ∧ sL σ a 6 = nL (dN d) ∧ (dT d = 13 → sI σ a 9 = nI (dW d)) ∧ sI σ a 11 = zI (dR d) ∧ sI σ a 13 = zI (decide (dP d = 2)) ∧ (sI σ a 14 < 0 ↔ dP d = 0)
def JS (σ : SG) (c : Nat) (D : List Dc) : Prop := sI σ (c + 1) 3 = nI D.length ∧ D.length < 180 ∧ ∀ i d, D[i]? = some d → IS σ c (c + 5 + i) (cnt (D.take i) (dK d)) d
theorem IS_of {σ : SG} {c a i : Nat} {d : Dc} (h : IT σ c a i d) : IS σ c a i d := by
  obtain ⟨h0, h1, h2, h3, h4, h5, h6, h8, h9, h10, h11, h12, h13, h14, h15, h16⟩ := h
  exact ⟨h0, h1, h2, h3, h4, h5, h6, h9, h11, h13, h14⟩
theorem ad_inj {c : Nat} {o p : Option Nat} : ad c o = ad c p ↔ o = p := by
  cases o <;> cases p <;> simp [ad]
theorem ad_some (c i : Nat) : ad c (some i) = some (c + 5 + i) := rfl
theorem X6_item {c k : Nat} {σ : SG} {D : List Dc} (h : sI σ (c + 1) 3 = nI D.length) (hl : D.length < 180) (hk : k < D.length) : x_X6_item (c + 1) (nI k) σ = some (some (c + 5 + k)) := by
  unfold x_X6_item
  rw [if_neg (nI_neg (by omega)), h, if_pos ((ltI (by omega) (by omega)).mpr hk), show (180 : Int32) = nI 180 from rfl, if_pos ((ltI (by omega) (by decide)).mpr (by omega)), ix_in (by omega) (by decide), show c + 1 + 4 + k = c + 5 + k by omega]
/-- the names of all declarations lie in the text -/
def GNs (T : List Nat) (D : List Dc) : Prop := ∀ (i : Nat) (d : Dc), D[i]? = some d → GN T d
theorem slc_same {T : List Nat} {a e s t : Nat} (h1 : a ≤ e) (h2 : e ≤ T.length) (h3 : s ≤ t) (h4 : t ≤ T.length) (h : slc T a e = slc T s t) : e - a = t - s := by
  have := congrArg List.length h
  rw [slc_len h1 h2, slc_len h3 h4] at this
  exact this
theorem X6_isCalled {U c b i s e : Nat} {σ : SG} {T S : List Nat} {z : Int32} {d : Dc} {n : Nat} (hU : 4000 < U) (hcb : cb c) (hi : i < 180) (hT : RB σ (c + 2) T 0) (hb0 : sh b = 0) (hb : RB σ b S z) (hI : IS σ c (c + 5 + i) n d) (hN : GN T d) (hse : s ≤ e) (he : e ≤ S.length) :
    x_X6_isCalled U (c + 1) (some (c + 5 + i)) (some b) (nI s) (nI e) σ = some (zI (decide (slc T (dA d) (dE d) = slc S s e))) := by
  have hTl : T.length ≤ 4000 := Nat.le_trans hT.2.2.1 (ln_small _)
  have hSl : S.length ≤ 4000 := Nat.le_trans hb.2.2.1 (ln_small _)
  obtain ⟨n1, n2, n3⟩ := hN
  unfold x_X6_isCalled
  rw [ck_eq (it_sh hcb hi), hI.2.2.2.2.1, hI.2.2.2.2.2.1, nI_sub (Nat.le_of_lt n1), nI_sub hse]
  by_cases q : dE d - dA d = e - s
  · rw [if_pos (by rw [q]), X0_isSame hU hb0 (show RB σ (c + 1 + 1) T 0 from hT) hb hse he (by omega), b1_eq, ifz, show dA d + (e - s) = dE d by omega]
    cases decide (slc T (dA d) (dE d) = slc S s e) <;> rfl
  · rw [if_neg (fun z => q ((nI_eq (by omega) (by omega)).mp z)), decide_eq_false]
    · rfl
    · intro z
      have := congrArg List.length z
      rw [slc_len (by omega) n2, slc_len hse he] at this
      exact q this
/-- the first message or enum of a scope that is called so, as the class looks -/
def pC (T : List Nat) (sc : Option Nat) (nm : List Nat) (d : Dc) : Bool := decide (dS d = sc ∧ dK d ≤ 1 ∧ slc T (dA d) (dE d) = nm)
def lkC (T : List Nat) (D : List Dc) (sc : Option Nat) (nm : List Nat) : Option Nat := ff (pC T sc nm) D 0
theorem X3_isType {c a i : Nat} {σ : SG} {d : Dc} (hI : IS σ c a i d) (hk : dK d < 5) : x_X3_isType a σ = some (zI (decide (dK d ≤ 1))) := by
  unfold x_X3_isType
  rw [hI.1]
  by_cases q0 : dK d = 0
  · rw [q0]; rfl
  rw [if_neg (show ¬ nI (dK d) = 0 from fun z => q0 ((nI_eq (b := 0) (by omega) (by decide)).mp z))]
  by_cases q1 : dK d = 1
  · rw [q1]; rfl
  rw [if_neg (show ¬ nI (dK d) = 1 from fun z => q1 ((nI_eq (b := 1) (by omega) (by decide)).mp z)), decide_eq_false (by omega)]
  rfl
theorem WF.k5 {D : List Dc} {i : Nat} {d : Dc} (h : WF D) (hd : D[i]? = some d) : dK d < 5 := by
  rcases (h i d hd).2 with z | z | z | z | z <;> omega
theorem X6_typeIn_L {U c s e : Nat} {sc : Option Nat} {σ : SG} {T : List Nat} {D : List Dc} (hU : 4000 < U) (hcb : cb c) (hT : RB σ (c + 2) T 0) (hJ : JS σ c D) (hW : WF D) (hN : GNs T D) (hse : s ≤ e) (he : e ≤ T.length) : ∀ (j k U1 : Nat), k + j = D.length → j < U1 →
    x_X6_typeIn_L3 U (c + 1) (ad c sc) (nI s) (nI e) σ U1 (nI k) = some (ad c (ff (pC T sc (slc T s e)) (D.drop k) k)) := by
  have hl := hJ.2.1
  intro j
  induction j with
  | zero =>
    intro k U1 hk hu
    obtain ⟨V, rfl⟩ : ∃ V, U1 = V + 1 := ⟨U1 - 1, by omega⟩
    rw [x_X6_typeIn_L3, hJ.1, if_neg (fun q => by have := (ltI (by omega) (by omega)).mp q; omega), List.drop_eq_nil_of_le (by omega)]
    rfl
  | succ j ih =>
    intro k U1 hk hu
    obtain ⟨V, rfl⟩ : ∃ V, U1 = V + 1 := ⟨U1 - 1, by omega⟩
    have hkl : k < D.length := by omega
    have hd := List.getElem?_eq_getElem hkl
    have hI := hJ.2.2 k _ hd
    have hk5 := hW.k5 hd
    have hr := ih (k + 1) V (by omega) (by omega)
    rw [x_X6_typeIn_L3, hJ.1, if_pos ((ltI (by omega) (by omega)).mpr hkl), X6_item hJ.1 hl hkl, b1_eq, if_neg (by intro z; cases z), ck_eq (it_sh hcb (by omega)), hI.2.2.1, ff_drop hd]
    unfold x_X6_typeIn_60
    rw [nI_1]
    by_cases q1 : dS D[k] = sc
    · rw [if_pos (by rw [q1]), X3_isType hI hk5, b1_eq, ifz]
      by_cases q2 : dK D[k] ≤ 1
      · rw [decide_eq_true q2, if_pos rfl, show c + 1 + 1 = c + 2 by omega, X6_isCalled hU hcb (by omega) hT (cb_sh hcb).2.2.2.1 hT hI (hN k _ hd) hse he, b1_eq, ifz]
        by_cases q3 : slc T (dA D[k]) (dE D[k]) = slc T s e
        · rw [decide_eq_true q3, if_pos rfl, if_pos (show pC T sc (slc T s e) D[k] = true from decide_eq_true ⟨q1, q2, q3⟩)]
          rfl
        · rw [decide_eq_false q3, if_neg (by decide), if_neg (show ¬ pC T sc (slc T s e) D[k] = true from fun z => q3 (of_decide_eq_true z).2.2)]
          exact hr
      · rw [decide_eq_false q2, if_neg (by decide), if_neg (show ¬ pC T sc (slc T s e) D[k] = true from fun z => q2 (of_decide_eq_true z).2.1)]
        exact hr
    · rw [if_neg (fun z => q1 (ad_inj.mp z)), if_neg (show ¬ pC T sc (slc T s e) D[k] = true from fun z => q1 (of_decide_eq_true z).1)]
      exact hr
theorem X6_typeIn {U c s e : Nat} {sc : Option Nat} {σ : SG} {T : List Nat} {D : List Dc} (hU : 4000 < U) (hcb : cb c) (hT : RB σ (c + 2) T 0) (hJ : JS σ c D) (hW : WF D) (hN : GNs T D) (hse : s ≤ e) (he : e ≤ T.length) : x_X6_typeIn U (c + 1) (ad c sc) (nI s) (nI e) σ = some (ad c (lkC T D sc (slc T s e))) := by
  have hl := hJ.2.1
  have := X6_typeIn_L (U := U) (sc := sc) hU hcb hT hJ hW hN hse he D.length 0 U (by omega) (by omega)
  exact this
/-- is a name in its scope already -/
def pT9 (T : List Nat) (d x : Dc) : Bool := decide (dS x = dS d ∧ slc T (dA x) (dE x) = slc T (dA d) (dE d))
def tkn (T : List Nat) (D : List Dc) (k : Nat) (d : Dc) : Bool := (ff (pT9 T d) (D.take k) 0).isSome
theorem X2_isTaken_L {U c k : Nat} {σ : SG} {T : List Nat} {D : List Dc} {d : Dc} (hU : 4000 < U) (hcb : cb c) (hT : RB σ (c + 2) T 0) (hJ : JS σ c D) (hN : GNs T D) (hd : D[k]? = some d) : ∀ (j i U1 : Nat), i + j = k → j < U1 →
    x_X2_isTaken_L2 U c (some (c + 5 + k)) (nI k) σ U1 (nI i) = some (zI (ff (pT9 T d) ((D.take k).drop i) i).isSome) := by
  have hl := hJ.2.1
  have hkl := (List.getElem?_eq_some_iff.mp hd).1
  have hId := hJ.2.2 k _ hd
  have hGd := hN k _ hd
  intro j
  induction j with
  | zero =>
    intro i U1 hi hu
    obtain ⟨V, rfl⟩ : ∃ V, U1 = V + 1 := ⟨U1 - 1, by omega⟩
    rw [x_X2_isTaken_L2, if_neg (fun q => by have := (ltI (by omega) (by omega)).mp q; omega), List.drop_eq_nil_of_le (by rw [List.length_take]; omega)]
    rfl
  | succ j ih =>
    intro i U1 hi hu
    obtain ⟨V, rfl⟩ : ∃ V, U1 = V + 1 := ⟨U1 - 1, by omega⟩
    have hil : i < D.length := by omega
    have hx := List.getElem?_eq_getElem hil
    have hI := hJ.2.2 i _ hx
    have hr := ih (i + 1) V (by omega) (by omega)
    have hx' : (D.take k)[i]? = some D[i] := by rw [List.getElem?_take_of_lt (by omega)]; exact hx
    rw [x_X2_isTaken_L2, if_pos ((ltI (by omega) (by omega)).mpr (by omega)), X6_item hJ.1 hl hil, b1_eq, if_neg (by intro z; cases z), ck_eq (it_sh hcb (by omega)), ck_eq (it_sh hcb (by omega)), hI.2.2.1, hId.2.2.1, ff_drop hx']
    unfold x_X2_isTaken_63
    rw [nI_1]
    by_cases q1 : dS D[i] = dS d
    · rw [if_pos (by rw [q1]), show x_X6_text (c + 1) σ = some (some (c + 2)) from rfl, b1_eq, hId.2.2.2.2.1, hId.2.2.2.2.2.1, X6_isCalled hU hcb (by omega) hT (cb_sh hcb).2.2.2.1 hT hI (hN i _ hx) (Nat.le_of_lt hGd.1) hGd.2.1, b1_eq, ifz]
      by_cases q3 : slc T (dA D[i]) (dE D[i]) = slc T (dA d) (dE d)
      · rw [decide_eq_true q3, if_pos rfl, if_pos (show pT9 T d D[i] = true from decide_eq_true ⟨q1, q3⟩)]
        rfl
      · rw [decide_eq_false q3, if_neg (by decide), if_neg (show ¬ pT9 T d D[i] = true from fun z => q3 (of_decide_eq_true z).2)]
        exact hr
    · rw [if_neg (fun z => q1 (ad_inj.mp z)), if_neg (show ¬ pT9 T d D[i] = true from fun z => q1 (of_decide_eq_true z).1)]
      exact hr
theorem X2_isTaken {U c k : Nat} {σ : SG} {T : List Nat} {D : List Dc} {d : Dc} (hU : 4000 < U) (hcb : cb c) (hT : RB σ (c + 2) T 0) (hJ : JS σ c D) (hN : GNs T D) (hd : D[k]? = some d) :
    x_X2_isTaken U c (some (c + 5 + k)) (nI k) σ = some (zI (tkn T D k d)) := by
  have hl := hJ.2.1
  have hkl := (List.getElem?_eq_some_iff.mp hd).1
  have := X2_isTaken_L (U := U) hU hcb hT hJ hN hd k 0 U (by omega) (by omega)
  exact this
/-! a type's name -/
/-- the text of a word -/
def wnm (T : List Nat) (Ws : List Wd) (k : Nat) : List Nat := match Ws[k]? with
  | some x => slc T x.2.1 x.2.2.1
  | none => []
/-- behind the first part -/
def rsN (lk : Option Nat → List Nat → Option Nat) (T : List Nat) (Ws : List Wd) : Nat → Nat → Option Nat → Option Nat
  | 0, _, f => f
  | n + 1, k, f => match f with
    | none => none
    | some t => if sS T Ws 46 (k + 1) then rsN lk T Ws n (k + 2) (lk (some t) (wnm T Ws (k + 2))) else some t
/-- the first part, from a scope outwards -/
def rsU (lk : Option Nat → List Nat → Option Nat) (D : List Dc) (nm : List Nat) : Nat → Option Nat → Option Nat
  | 0, _ => none
  | n + 1, sc => match sc with
    | none => lk none nm
    | some m => match lk (some m) nm with
      | some t => some t
      | none => rsU lk D nm n (scp D (some m))
/-- what a field's type's name tells -/
def rsl (lk : Option Nat → List Nat → Option Nat) (T : List Nat) (Ws : List Wd) (D : List Dc) (d : Dc) : Option Nat := rsN lk T Ws Ws.length (w0 T Ws (dW d)) (if sS T Ws 46 (dW d) then lk none (wnm T Ws (dW d + 1)) else rsU lk D (wnm T Ws (dW d)) (D.length + 1) (dS d))
theorem sTN_1 {T : List Nat} {Ws : List Wd} {n k k' : Nat} (h : sTN T Ws n k = some k') : ∃ m x, n = m + 1 ∧ Ws[k]? = some x ∧ x.1 = 1 ∧ (sS T Ws 46 (k + 1) = true → sTN T Ws m (k + 2) = some k') := by
  cases n with
  | zero => cases h
  | succ m =>
    rw [sTN] at h
    by_cases q : sK Ws k = 1
    · rw [if_pos q] at h
      cases e : Ws[k]? with
      | none => unfold sK at q; rw [e] at q; cases q
      | some x =>
        refine ⟨m, x, rfl, rfl, by rw [sK_some e] at q; exact q, fun z => ?_⟩
        rw [if_pos z] at h; exact h
    · rw [if_neg q] at h; cases h
theorem X2_findsType_L {U c : Nat} {σ : SG} {T : List Nat} {Ws : List Wd} {D : List Dc} {K : Option Nat → Option (Int32 × SG)} {v1 : Option Nat} (hU : 4000 < U) (hcb : cb c) (hS : WS T Ws) (hWA : WA σ (c + 186) Ws) (hT : RB σ (c + 2) T 0) (hJ : JS σ c D) (hW : WF D) (hN : GNs T D) : ∀ (n k k' U1 : Nat) (f : Option Nat), sTN T Ws n k = some k' → n < U1 → k < 2500 →
    x_X2_findsType_L65 U c K v1 σ U1 (nI k) (ad c f) = K (ad c (rsN (lkC T D) T Ws n k f)) := by
  intro n
  induction n with
  | zero => intro k k' U1 f h; cases h
  | succ n ih =>
    intro k k' U1 f h hu hk
    obtain ⟨V, rfl⟩ : ∃ V, U1 = V + 1 := ⟨U1 - 1, by omega⟩
    obtain ⟨m, x, hm, hx, hx1, hnx⟩ := sTN_1 h
    cases hm
    rw [x_X2_findsType_L65]
    cases f with
    | none => rw [if_pos (show ad c none = none from rfl), rsN]
    | some t =>
      rw [rsN, if_neg (by intro z; cases z), nI_1, show (46 : Int32) = nI 46 from rfl, U10_isSign hWA hS.G (by omega) (by decide), b1_eq, ifz]
      by_cases q : sS T Ws 46 (k + 1) = true
      · rw [if_pos q, if_pos q]
        have hkl := (List.getElem?_eq_some_iff.mp hx).1
        have hwl := hWA.2.1
        obtain ⟨m2, y, hm2, hy, hy1, _⟩ := sTN_1 (hnx q)
        have gy := (hS.G.2 _ _ hy).2.2.1 (by rw [hy1]; decide) (by rw [hy1]; decide)
        have hc : x_X10_count (c + 186) σ = some (nI Ws.length) := by
          unfold x_X10_count
          rw [hWA.1]
        rw [hc, b1_eq, if_pos ((ltI (by omega) (by omega)).mpr hkl), show (2 : Int32) = nI 2 from rfl, nI_add, X10_startOf hWA hy, b1_eq, X10_endOf hWA hy, b1_eq, X6_typeIn hU hcb hT hJ hW hN (Nat.le_of_lt gy.1) gy.2, b1_eq, ih (k + 2) k' V _ (hnx q) (by omega) (by omega)]
        unfold wnm
        rw [hy]
      · rw [if_neg q, if_neg q]
theorem WF.sco {D : List Dc} {m : Nat} {d : Dc} (h : WF D) (hd : D[m]? = some d) : ∀ j, dS d = some j → j < m ∧ KM D j := fun j hj => ⟨(h.before hd).1 j hj, (KM_take ((h m d hd).1 j hj)).1⟩
theorem X2_typeAround_L {U c s e : Nat} {σ : SG} {T : List Nat} {D : List Dc} (hU : 4000 < U) (hcb : cb c) (hT : RB σ (c + 2) T 0) (hJ : JS σ c D) (hW : WF D) (hN : GNs T D) (hse : s ≤ e) (he : e ≤ T.length) : ∀ (n U1 : Nat) (sc : Option Nat), (∀ m, sc = some m → m + 1 < n ∧ m < D.length) → 0 < n → n < U1 →
    x_X2_typeAround_L22 U c (some (ad c (lkC T D none (slc T s e)))) (nI s) (nI e) σ U1 (ad c sc) = some (ad c (rsU (lkC T D) D (slc T s e) n sc)) := by
  intro n
  induction n with
  | zero => intro U1 sc _ h; omega
  | succ n ih =>
    intro U1 sc hsc _ hu
    obtain ⟨V, rfl⟩ : ∃ V, U1 = V + 1 := ⟨U1 - 1, by omega⟩
    rw [x_X2_typeAround_L22]
    cases sc with
    | none => rw [if_pos (show ad c none = none from rfl), rsU]
    | some m =>
      rw [rsU]
      obtain ⟨h1, h2⟩ := hsc m rfl
      have hl := hJ.2.1
      rw [if_neg (by intro z; cases z), X6_typeIn hU hcb hT hJ hW hN hse he, b1_eq]
      cases e1 : lkC T D (some m) (slc T s e) with
      | some t => rw [if_neg (by intro z; cases z)]
      | none =>
        have hd := List.getElem?_eq_getElem h2
        rw [if_pos (show ad c none = none from rfl), ad_some, ck_eq (it_sh hcb (by omega)), (hJ.2.2 m _ hd).2.2.1]
        have e2 : scp D (some m) = dS D[m] := by unfold scp; simp only; rw [hd]
        rw [e2]
        exact ih V (dS D[m]) (fun j hj => by have := hW.sco hd j hj; have := KM_lt this.2; omega) (by omega) (by omega)
theorem X2_typeAround {U c w : Nat} {sc : Option Nat} {σ : SG} {T : List Nat} {Ws : List Wd} {D : List Dc} {x : Wd} (hU : 4000 < U) (hcb : cb c) (hS : WS T Ws) (hWA : WA σ (c + 186) Ws) (hT : RB σ (c + 2) T 0) (hJ : JS σ c D) (hW : WF D) (hN : GNs T D) (hx : Ws[w]? = some x) (hx1 : x.1 = 1) (hsc : ∀ m, sc = some m → m < D.length) :
    x_X2_typeAround U c (ad c sc) (nI w) σ = some (ad c (rsU (lkC T D) D (wnm T Ws w) (D.length + 1) sc)) := by
  have hl := hJ.2.1
  have gx := (hS.G.2 _ _ hx).2.2.1 (by rw [hx1]; decide) (by rw [hx1]; decide)
  unfold x_X2_typeAround
  rw [X10_startOf hWA hx, b1_eq, X10_endOf hWA hx, b1_eq]
  have h0 := X6_typeIn (sc := none) hU hcb hT hJ hW hN (Nat.le_of_lt gx.1) gx.2
  have h0' : x_X6_typeIn U (c + 1) none (nI x.2.1) (nI x.2.2.1) σ = some (ad c (lkC T D none (slc T x.2.1 x.2.2.1))) := h0
  rw [h0', b1_eq, X2_typeAround_L hU hcb hT hJ hW hN (Nat.le_of_lt gx.1) gx.2 (D.length + 1) U sc (fun m hm => by have := hsc m hm; omega) (by omega) (by omega)]
  unfold wnm
  rw [hx]
/-- the class finds a field's type, or not -/
theorem X2_findsType {U c k k' : Nat} {σ : SG} {T : List Nat} {Ws : List Wd} {D : List Dc} {d : Dc} (hU : 4000 < U) (hcb : cb c) (hS : WS T Ws) (hWA : WA σ (c + 186) Ws) (hT : RB σ (c + 2) T 0) (hJ : JS σ c D) (hW : WF D) (hN : GNs T D) (hd : D[k]? = some d) (h13 : dT d = 13) (hty : sTy T Ws (dW d) = some k') :
    x_X2_findsType U c (some (c + 5 + k)) σ = x_X2_findsType_129 U c (some (c + 5 + k)) (ad c (rsl (lkC T D) T Ws D d)) σ := by
  have hl := hJ.2.1
  have hkl := (List.getElem?_eq_some_iff.mp hd).1
  have hI := hJ.2.2 k _ hd
  have hwl := hWA.2.1
  have hsc : ∀ m, dS d = some m → m < D.length := fun m hm => by have := (hW.before hd).1 m hm; omega
  unfold x_X2_findsType rsl
  rw [ck_eq (it_sh hcb (by omega)), hI.2.2.2.2.2.2.2.1 h13, show (46 : Int32) = nI 46 from rfl]
  unfold sTy at hty
  have hwk : dW d < 2000 := by
    by_cases q : sS T Ws 46 (dW d) = true
    · unfold sS at q
      cases e : Ws[dW d]? with
      | none => rw [e] at q; cases q
      | some x => have := (List.getElem?_eq_some_iff.mp e).1; omega
    · rw [if_neg q] at hty
      split at hty
      · cases hty
      · obtain ⟨m, x, _, hx, _⟩ := sTN_1 hty
        have := (List.getElem?_eq_some_iff.mp hx).1; omega
  rw [U10_isSign hWA hS.G (by omega) (by decide), b1_eq, ifz]
  unfold x_X2_findsType_23 x_X2_findsType_63 w0
  by_cases q : sS T Ws 46 (dW d) = true
  · rw [if_pos q] at hty
    obtain ⟨m, x, _, hx, hx1, _⟩ := sTN_1 hty
    have gx := (hS.G.2 _ _ hx).2.2.1 (by rw [hx1]; decide) (by rw [hx1]; decide)
    have h0 := X6_typeIn (sc := none) hU hcb hT hJ hW hN (Nat.le_of_lt gx.1) gx.2
    have h0' : x_X6_typeIn U (c + 1) none (nI x.2.1) (nI x.2.2.1) σ = some (ad c (lkC T D none (slc T x.2.1 x.2.2.1))) := h0
    rw [if_pos q, if_pos q, if_pos q, q, if_neg (show ¬ zI true = 0 by decide), nI_1, X10_startOf hWA hx, b1_eq, X10_endOf hWA hx, b1_eq, h0', b1_eq, X2_findsType_L hU hcb hS hWA hT hJ hW hN Ws.length (dW d + 1) k' U _ hty (by omega) (by omega)]
    have e : wnm T Ws (dW d + 1) = slc T x.2.1 x.2.2.1 := by unfold wnm; rw [hx]
    rw [e]
  · have q' : sS T Ws 46 (dW d) = false := by cases h : sS T Ws 46 (dW d) with | true => exact absurd h q | false => rfl
    rw [if_neg q] at hty
    split at hty
    · cases hty
    · obtain ⟨m, x, _, hx, hx1, _⟩ := sTN_1 hty
      rw [q', if_neg (show ¬ (false = true) by decide), if_neg (show ¬ (false = true) by decide), if_neg (show ¬ (false = true) by decide), if_pos (show zI false = 0 from rfl), ck_eq (it_sh hcb (by omega)), hI.2.2.1, X2_typeAround hU hcb hS hWA hT hJ hW hN hx hx1 hsc, b1_eq, X2_findsType_L hU hcb hS hWA hT hJ hW hN Ws.length (dW d) k' U _ hty (by omega) (by omega)]
