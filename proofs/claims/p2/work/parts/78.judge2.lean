/-! ===== the class judges one declaration ===== -/
/-- numbers can stand in a packed row -/
def nmr (t : Nat) : Bool := decide (t ≤ 10 ∨ t = 14)
def knd (D : List Dc) (t : Nat) : Nat := match D[t]? with
  | some e => dK e
  | none => 0
/-- a named type -/
def nmd (d : Dc) : Bool := decide (dK d = 2 ∧ dT d = 13)
/-- where a field's type is declared; its type -/
def dTg (lk : Option Nat → List Nat → Option Nat) (T : List Nat) (Ws : List Wd) (D : List Dc) (d : Dc) : Option Nat := if nmd d then rsl lk T Ws D d else none
def dTy (lk : Option Nat → List Nat → Option Nat) (T : List Nat) (Ws : List Wd) (D : List Dc) (d : Dc) : Nat := if nmd d then (match rsl lk T Ws D d with | some t => if knd D t = 0 then 13 else 14 | none => 13) else dT d
def dPa (lk : Option Nat → List Nat → Option Nat) (T : List Nat) (Ws : List Wd) (D : List Dc) (d : Dc) : Bool := dR d && nmr (dTy lk T Ws D d) && decide (dP d ≠ 2) && decide (dK d = 2)
/-- a field's number may be one, its packed may stand there; a value's number may be one -/
def okN (n : Nat) : Bool := decide (1 ≤ n ∧ n ≤ 536870911 ∧ ¬ (19000 ≤ n ∧ n ≤ 19999))
def okP (lk : Option Nat → List Nat → Option Nat) (T : List Nat) (Ws : List Wd) (D : List Dc) (d : Dc) : Bool := decide (dP d = 0) || (dR d && nmr (dTy lk T Ws D d))
def okV (v : Bool × Nat) : Bool := decide (v.2 ≤ 2147483647 ∨ (v.1 = true ∧ v.2 = 2147483648))
def okT (lk : Option Nat → List Nat → Option Nat) (T : List Nat) (Ws : List Wd) (D : List Dc) (d : Dc) : Bool := !nmd d || (rsl lk T Ws D d).isSome
def okK (lk : Option Nat → List Nat → Option Nat) (T : List Nat) (Ws : List Wd) (D : List Dc) (k : Nat) (d : Dc) : Bool :=
  if dK d = 2 then okN (dN d).2 && (match dS d with | some m => ((chD D k m).find? (fun i => decide (nLi D i = nL (dN d)))).isNone | none => false) && okP lk T Ws D d
  else if dK d = 3 then okV (dN d) && (match dO d with | some e => decide (chD D k e = [] → (dN d).2 = 0) | none => false)
  else true
def okD (lk : Option Nat → List Nat → Option Nat) (T : List Nat) (Ws : List Wd) (D : List Dc) (k : Nat) (d : Dc) : Bool := okT lk T Ws D d && !tkn T D k d && okK lk T Ws D k d
/-- the cells that judging may change -/
def PJ (c b j : Nat) : Prop := (b = c ∧ (j = 3 ∨ j = 4)) ∨ (c + 5 ≤ b ∧ b < c + 185 ∧ (j = 8 ∨ j = 10 ∨ j = 12 ∨ j = 15 ∨ j = 16))
theorem IS_PJ {c a i : Nat} {σ τ : SG} {d : Dc} (h : IS σ c a i d) (hf : ∀ j, ¬ (j = 8 ∨ j = 10 ∨ j = 12 ∨ j = 15 ∨ j = 16) → sI τ a j = sI σ a j ∧ sL τ a j = sL σ a j ∧ sP τ a j = sP σ a j) : IS τ c a i d := by
  obtain ⟨h0, h1, h2, h3, h4, h5, h6, h9, h11, h13, h14⟩ := h
  refine ⟨?_, ?_, ?_, ?_, ?_, ?_, ?_, fun z => ?_, ?_, ?_, ?_⟩
  · rw [(hf 0 (by decide)).1]; exact h0
  · rw [(hf 1 (by decide)).1]; exact h1
  · rw [(hf 2 (by decide)).2.2]; exact h2
  · rw [(hf 3 (by decide)).2.2]; exact h3
  · rw [(hf 4 (by decide)).1]; exact h4
  · rw [(hf 5 (by decide)).1]; exact h5
  · rw [(hf 6 (by decide)).2.1]; exact h6
  · rw [(hf 9 (by decide)).1]; exact h9 z
  · rw [(hf 11 (by decide)).1]; exact h11
  · rw [(hf 13 (by decide)).1]; exact h13
  · rw [(hf 14 (by decide)).1]; exact h14
theorem JS_PJ {c : Nat} {σ τ : SG} {D : List Dc} (h : JS σ c D) (hf : fP (PJ c) σ τ) : JS τ c D := by
  refine ⟨((hf (c + 1) 3 (by unfold PJ; omega)).1).trans h.1, h.2.1, fun i d hd => IS_PJ (h.2.2 i d hd) (fun j hj => hf _ _ (by unfold PJ; omega))⟩
theorem RB_PJ {c a : Nat} {σ τ : SG} {T : List Nat} {z : Int32} (h : RB σ a T z) (hf : fP (PJ c) σ τ) (ha : a ≠ c) (ha' : a + 1 ≠ c) (hb : a < c ∨ (c < a ∧ a < c + 4) ∨ c + 185 ≤ a) (hb' : a + 1 < c + 5 ∨ c + 185 ≤ a) : RB τ a T z :=
  h.sm (fun k => hf a k (by unfold PJ; omega)) (fun k => hf (a + 1) k (by unfold PJ; omega))
theorem WA_PJ {c : Nat} {σ τ : SG} {Ws : List Wd} (h : WA σ (c + 186) Ws) (hf : fP (PJ c) σ τ) : WA τ (c + 186) Ws := by
  refine ⟨((hf (c + 186) 5 (by unfold PJ; omega)).1).trans h.1, h.2.1, fun i x hi => ?_⟩
  obtain ⟨a1, a2, a3, a4⟩ := h.2.2 i x hi
  exact ⟨((hf (c + 186 + 1) i (by unfold PJ; omega)).1).trans a1, ((hf (c + 186 + 2) i (by unfold PJ; omega)).1).trans a2, ((hf (c + 186 + 3) i (by unfold PJ; omega)).1).trans a3, ((hf (c + 186 + 4) i (by unfold PJ; omega)).2.1).trans a4⟩
/-- how the items stand when the first k are judged -/
def JI (σ : SG) (c : Nat) (T : List Nat) (Ws : List Wd) (D : List Dc) (k i : Nat) (d : Dc) : Prop := (k ≤ i → sI σ (c + 5 + i) 8 = nI (dT d) ∧ sP σ (c + 5 + i) 10 = none ∧ sI σ (c + 5 + i) 12 = 0 ∧ sP σ (c + 5 + i) 16 = none) ∧ (i < k → sI σ (c + 5 + i) 8 = nI (dTy (lkC T D) T Ws D d) ∧ sP σ (c + 5 + i) 10 = ad c (dTg (lkC T D) T Ws D d) ∧ sI σ (c + 5 + i) 12 = zI (dPa (lkC T D) T Ws D d)) ∧ LK σ c (chD D k i) (sP σ (c + 5 + i) 15)
def JD (σ : SG) (c : Nat) (T : List Nat) (Ws : List Wd) (D : List Dc) (k : Nat) : Prop := ∀ i d, D[i]? = some d → JI σ c T Ws D k i d
theorem JD_0 {σ : SG} {c : Nat} {T : List Nat} {Ws : List Wd} {D : List Dc} (h : ITs σ c D) : JD σ c T Ws D 0 := by
  intro i d hd
  obtain ⟨h0, h1, h2, h3, h4, h5, h6, h8, h9, h10, h11, h12, h13, h14, h15, h16⟩ := h.2.2.2 i d hd
  exact ⟨fun _ => ⟨h8, h10, h12, h16⟩, fun z => by omega, h15⟩
/-- judging one item -/
def JR (c : Nat) (T : List Nat) (Ws : List Wd) (D : List Dc) (k : Nat) (σ : SG) (ok : Bool) (x : Option SG) : Prop := ∃ τ, x = some τ ∧ fP (PJ c) σ τ ∧ (ok = true → sI τ c 3 = sI σ c 3 ∧ JD τ c T Ws D (k + 1)) ∧ (ok = false → ¬ sI τ c 3 = 0)
theorem JR_fail {c k : Nat} {T : List Nat} {Ws : List Wd} {D : List Dc} {σ υ : SG} {v p : Int32} {ok : Bool} (hv : ¬ v = 0) (hf : fP (PJ c) σ υ) (hok : ok = false) : JR c T Ws D k σ ok (b1 (x_X2_fail c v p υ) fun τ => some τ) := by
  unfold x_X2_fail
  rw [sb_eq, sb_eq, b1_eq]
  refine ⟨_, rfl, fP_trans hf (fP_trans (fP_u (Or.inl ⟨rfl, Or.inl rfl⟩)) (fP_u (Or.inl ⟨rfl, Or.inr rfl⟩))), fun z => (by rw [hok] at z; cases z), fun _ => ?_⟩
  rw [sI_o (Or.inr (by decide)), sI_s]
  exact hv
/-- all but the item k and the chains stay -/
theorem JD_step {c k : Nat} {T : List Nat} {Ws : List Wd} {D : List Dc} {σ τ : SG} (h : JD σ c T Ws D k) (h8 : ∀ i, i ≠ k → i < D.length → sI τ (c + 5 + i) 8 = sI σ (c + 5 + i) 8 ∧ sP τ (c + 5 + i) 10 = sP σ (c + 5 + i) 10 ∧ sI τ (c + 5 + i) 12 = sI σ (c + 5 + i) 12) (h16 : ∀ i, k < i → i < D.length → sP τ (c + 5 + i) 16 = sP σ (c + 5 + i) 16) (hk : ∀ d, D[k]? = some d → sI τ (c + 5 + k) 8 = nI (dTy (lkC T D) T Ws D d) ∧ sP τ (c + 5 + k) 10 = ad c (dTg (lkC T D) T Ws D d) ∧ sI τ (c + 5 + k) 12 = zI (dPa (lkC T D) T Ws D d)) (hc : ∀ a, a < D.length → LK τ c (chD D (k + 1) a) (sP τ (c + 5 + a) 15)) : JD τ c T Ws D (k + 1) := by
  intro i d hd
  have hi := (List.getElem?_eq_some_iff.mp hd).1
  obtain ⟨a1, a2, a3⟩ := h i d hd
  refine ⟨fun z => ?_, fun z => ?_, hc i hi⟩
  · obtain ⟨b1', b2', b3⟩ := h8 i (by omega) hi
    obtain ⟨c1, c2, c3, c4⟩ := a1 (by omega)
    exact ⟨b1'.trans c1, b2'.trans c2, b3.trans c3, (h16 i (by omega) hi).trans c4⟩
  · by_cases q : i = k
    · subst q; exact hk d hd
    · obtain ⟨b1', b2', b3⟩ := h8 i q hi
      obtain ⟨c1, c2, c3⟩ := a2 (by omega)
      exact ⟨b1'.trans c1, b2'.trans c2, b3.trans c3⟩
/-- chains that k does not belong to -/
theorem chD_other {D : List Dc} {k a : Nat} {d : Dc} (hd : D[k]? = some d) (h1 : ¬ (dK d = 2 ∧ dS d = some a)) (h2 : ¬ (dK d = 3 ∧ dO d = some a)) : chD D (k + 1) a = chD D k a := by
  rw [chD, hd]
  simp only
  rw [if_neg h1, if_neg h2]
/-- two holders have no member in common -/
theorem chD_apart {D : List Dc} {k a a' i : Nat} (hne : a ≠ a') (h : i ∈ chD D k a) (h' : i ∈ chD D k a') : False := by
  obtain ⟨_, d, e, w⟩ := (chD_mem k i).mp h
  obtain ⟨_, d', e', w'⟩ := (chD_mem k i).mp h'
  rw [e] at e'
  cases e'
  rcases w with w | w <;> rcases w' with w' | w'
  · rw [w.2] at w'; exact hne (Option.some.inj w'.2)
  · omega
  · omega
  · rw [w.2] at w'; exact hne (Option.some.inj w'.2)
theorem nI_13 : (13 : Int32) = nI 13 := rfl
theorem X11_isNumeric {t : Nat} (ht : t < 100) : x_X11_isNumeric (nI t) = some (zI (nmr t)) := (by decide +kernel : ∀ t, t < 100 → x_X11_isNumeric (nI t) = some (zI (nmr t))) t ht
theorem dTy_lt {lk : Option Nat → List Nat → Option Nat} {T : List Nat} {Ws : List Wd} {D : List Dc} {d : Dc} (h : dT d ≤ 13) : dTy lk T Ws D d ≤ 14 := by
  unfold dTy
  split
  · split
    · split <;> decide
    · decide
  · omega
/-- the judging of a field, once its type is found and its name is free -/
theorem X2_judgeField {U c k : Nat} {T : List Nat} {Ws : List Wd} {D : List Dc} {d : Dc} {σ0 σ : SG} (hU : 4000 < U) (hcb : cb c) (hJ : JS σ c D) (hW : WF D) (hd : D[k]? = some d) (h2 : dK d = 2) (hN1 : (dN d).1 = false) (hN2 : (dN d).2 ≤ 2 ^ 40) (hP2 : dP d ≤ 2) (hT13 : dT d ≤ 13) (hf : fP (PJ c) σ0 σ) (hD0 : JD σ0 c T Ws D k) (h3 : sI σ c 3 = sI σ0 c 3)
    (h8 : ∀ i, i ≠ k → i < D.length → sI σ (c + 5 + i) 8 = sI σ0 (c + 5 + i) 8 ∧ sP σ (c + 5 + i) 10 = sP σ0 (c + 5 + i) 10 ∧ sI σ (c + 5 + i) 12 = sI σ0 (c + 5 + i) 12) (h16 : ∀ i, i < D.length → sP σ (c + 5 + i) 16 = sP σ0 (c + 5 + i) 16 ∧ sP σ (c + 5 + i) 15 = sP σ0 (c + 5 + i) 15) (hk8 : sI σ (c + 5 + k) 8 = nI (dTy (lkC T D) T Ws D d)) (hk10 : sP σ (c + 5 + k) 10 = ad c (dTg (lkC T D) T Ws D d)) :
    JR c T Ws D k σ0 (okK (lkC T D) T Ws D k d) (b1 (x_X2_judgeField U c (some (c + 5 + k)) σ) fun τ => some τ) := by
  have hl := hJ.2.1
  have hkl := (List.getElem?_eq_some_iff.mp hd).1
  have hI := hJ.2.2 k _ hd
  have hv : sL σ (c + 5 + k) 6 = lN (dN d).2 := by rw [hI.2.2.2.2.2.2.1]; unfold nL; rw [hN1]; rfl
  have hnl : nL (dN d) = lN (dN d).2 := by unfold nL; rw [hN1]; rfl
  obtain ⟨m, hm⟩ : ∃ m, dS d = some m := by
    rcases (hW k d hd).2 with z | z | z | z | z
    · omega
    · omega
    · omega
    · cases e : dS d with
      | none => exact absurd e z.2.1
      | some m => exact ⟨m, rfl⟩
    · omega
  have hml : m < k := (hW.before hd).1 m hm
  have hmd := List.getElem?_eq_getElem (show m < D.length by omega)
  -- outside: an error
  have bad : okK (lkC T D) T Ws D k d = false → JR c T Ws D k σ0 (okK (lkC T D) T Ws D k d) (b1 (x_X2_judgeField_67 U c (some (c + 5 + k)) σ) fun τ => some τ) := by
    intro z
    unfold x_X2_judgeField_67
    rw [ck_eq (it_sh hcb (by omega))]
    have := JR_fail (c := c) (k := k) (T := T) (Ws := Ws) (D := D) (p := sI σ (c + 5 + k) 7) (v := 4) (by decide) hf z
    obtain ⟨τ, e, r⟩ := this
    refine ⟨τ, ?_, r⟩
    cases e2 : x_X2_fail c 4 (sI σ (c + 5 + k) 7) σ with
    | none => rw [e2] at e; cases e
    | some y => rw [e2, b1_eq] at e; cases e; rfl
  have out35 : okN (dN d).2 = false → JR c T Ws D k σ0 (okK (lkC T D) T Ws D k d) (b1 (x_X2_judgeField_35 U c (some (c + 5 + k)) (lN (dN d).2) σ) fun τ => some τ) := by
    intro z
    have zk : okK (lkC T D) T Ws D k d = false := by unfold okK; rw [if_pos h2, z]; rfl
    unfold x_X2_judgeField_35 x_X2_judgeField_40
    rw [ck_eq (it_sh hcb (by omega)), if_neg (by decide)]
    exact bad zk
  have in39 : okN (dN d).2 = true → JR c T Ws D k σ0 (okK (lkC T D) T Ws D k d) (b1 (x_X2_judgeField_39 U c (some (c + 5 + k)) (lN (dN d).2) σ) fun τ => some τ) := by
    intro zN
    have hLK : LK σ c (chD D k m) (sP σ (c + 5 + m) 15) := by
      rw [(h16 m (by omega)).2]
      exact LK_keep _ _ (hD0 m _ hmd).2.2 (fun i hi => (h16 i (chD_lt hi).2).1)
    have hch := chD_len (D := D) (a := m) k
    have hkn : k ∉ chD D k m := fun z => by have := (chD_lt z).1; omega
    unfold x_X2_judgeField_39 x_X2_judgeField_40
    rw [ck_eq (it_sh hcb (by omega)), if_pos rfl, hI.2.2.1, hm, if_neg (show ¬ ad c (some m) = none by intro z; cases z), ad_some, ck_eq (it_sh hcb (by omega)), X3_memberNumbered hU hcb hJ hLK (fun i hi => (chD_lt hi).2) (by omega), b1_eq]
    cases hfi : (chD D k m).find? (fun i => decide (nLi D i = lN (dN d).2)) with
    | some i =>
      rw [if_neg (by intro z; cases z)]
      refine bad ?_
      unfold okK
      rw [if_pos h2, hm, hnl]; simp only; rw [hfi, zN]
      rfl
    | none =>
      rw [if_pos (show ad c none = none from rfl)]
      obtain ⟨τ, e1, e2, e3⟩ := X3_insert (U := U) hU hcb hJ hkl (by omega) hLK (fun i hi => (chD_lt hi).2) (by omega) hkn (chD_nodup k)
      rw [e1, b1_eq]
      have okk : okK (lkC T D) T Ws D k d = okP (lkC T D) T Ws D d := by
        unfold okK
        rw [if_pos h2, hm, hnl]; simp only; rw [hfi, zN]
        rfl
      rw [okk]
      have fτ : fP (PJ c) σ τ := fP_mono e3 (fun b j z => by
        rcases z with ⟨z1, z2⟩ | ⟨z1, z2⟩ | ⟨z1, i, z2, z3⟩
        · exact Or.inr (by omega)
        · exact Or.inr (by omega)
        · have := (chD_lt z2).2; exact Or.inr (by omega))
      have cell : ∀ i j, j ≠ 15 → j ≠ 16 → sI τ (c + 5 + i) j = sI σ (c + 5 + i) j ∧ sL τ (c + 5 + i) j = sL σ (c + 5 + i) j ∧ sP τ (c + 5 + i) j = sP σ (c + 5 + i) j := fun i j h15 h16 => e3 _ _ (by
        rintro (z | z | z)
        · exact h16 z.2
        · exact h15 z.2
        · exact h16 z.1)
      -- the end: what is told of packed
      have fin : ∀ (s1 row : Int32) (pa : Bool), s1 = zI pa → pa = dPa (lkC T D) T Ws D d → (okP (lkC T D) T Ws D d = false → row = 0 ∧ dP d ≠ 0) → (okP (lkC T D) T Ws D d = true → row = 0 → dP d = 0) → JR c T Ws D k σ0 (okP (lkC T D) T Ws D d) (b1 (x_X2_judgeField_125 U c (some (c + 5 + k)) row s1 (some (c + 5 + k)) τ) fun τ => some τ) := by
        intro s1 row pa hs hpa hbad hgood
        unfold x_X2_judgeField_125
        rw [ck_eq (it_sh hcb (by omega)), hs]
        have hzb : ∀ (y : Option SG), zb (zI pa) y = y := fun y => by cases pa <;> rfl
        rw [hzb, sb_eq, ck_eq (it_sh hcb (by omega)), sI_o (Or.inr (by decide)), (cell k 14 (by decide) (by decide)).1]
        have fυ : fP (PJ c) σ0 (uI τ (c + 5 + k) 12 (zI pa)) := fP_trans hf (fP_trans fτ (fP_u (Or.inr (by omega))))
        have good : okP (lkC T D) T Ws D d = true → JR c T Ws D k σ0 (okP (lkC T D) T Ws D d) (some (uI τ (c + 5 + k) 12 (zI pa))) := by
          intro zo
          refine ⟨_, rfl, fυ, fun _ => ⟨?_, ?_⟩, fun z => (by rw [zo] at z; cases z)⟩
          · have hc5 : c ≠ c + 5 + k := by omega
            rw [sI_o (Or.inl hc5), (e3 c 3 (by rintro (z | z | ⟨_, i, z2, z3⟩) <;> omega)).1]
            exact h3
          · refine JD_step hD0 (fun i hi hil => ?_) (fun i hi hil => ?_) (fun d' hd' => ?_) (fun a ha => ?_)
            · have hne : c + 5 + i ≠ c + 5 + k := by omega
              obtain ⟨w1, w2, w3⟩ := h8 i hi hil
              rw [sI_o (Or.inl hne), sP_uI, sI_o (Or.inl hne), (cell i 8 (by decide) (by decide)).1, (cell i 10 (by decide) (by decide)).2.2, (cell i 12 (by decide) (by decide)).1]
              exact ⟨w1, w2, w3⟩
            · rw [sP_uI, (e3 (c + 5 + i) 16 (by
                rintro (z | z | ⟨_, j, z2, z3⟩)
                · omega
                · omega
                · have := (chD_lt z2).1; omega)).2.2]
              exact (h16 i hil).1
            · rw [hd] at hd'
              cases hd'
              rw [sI_o (Or.inr (by decide)), sP_uI, sI_s, (cell k 8 (by decide) (by decide)).1, (cell k 10 (by decide) (by decide)).2.2]
              exact ⟨hk8, hk10, by rw [hpa]⟩
            · rw [sP_uI]
              by_cases q : a = m
              · subst q
                have ec : chD D (k + 1) a = insN D k (chD D k a) := by rw [chD, hd]; simp only; rw [if_pos ⟨h2, hm⟩]
                rw [ec]
                exact LK_keep _ _ e2 (fun i _ => sP_uI _ _ _ _ _ _)
              · have had := List.getElem?_eq_getElem ha
                rw [chD_other hd (fun z => q (by rw [hm] at z; exact (Option.some.inj z.2).symm)) (fun z => by omega), (e3 (c + 5 + a) 15 (by rintro (z | z | z) <;> omega)).2.2, (h16 a ha).2]
                refine LK_keep _ _ (hD0 a _ had).2.2 (fun i hi => ?_)
                rw [sP_uI, (e3 (c + 5 + i) 16 (by
                  rintro (z | z | ⟨_, j, z2, z3⟩)
                  · have := (chD_lt hi).1; omega
                  · omega
                  · have : i = j := by omega
                    subst this
                    exact chD_apart q hi z2)).2.2]
                exact (h16 i (chD_lt hi).2).1
        by_cases q0 : dP d = 0
        · rw [if_pos (hI.2.2.2.2.2.2.2.2.2.2.mpr q0), b1_eq]
          exact good (by unfold okP; rw [decide_eq_true q0]; rfl)
        · rw [if_neg (fun z => q0 (hI.2.2.2.2.2.2.2.2.2.2.mp z))]
          cases ho : okP (lkC T D) T Ws D d with
          | false =>
            rw [if_pos (hbad ho).1]
            have := JR_fail (c := c) (k := k) (T := T) (Ws := Ws) (D := D) (ok := false) (v := 6) (p := sI σ (c + 5 + k) 14) (by decide) fυ rfl
            obtain ⟨υ, y1, y2⟩ := this
            refine ⟨υ, ?_, y2⟩
            cases e9 : x_X2_fail c 6 (sI σ (c + 5 + k) 14) (uI τ (c + 5 + k) 12 (zI pa)) with
            | none => rw [e9] at y1; cases y1
            | some y => rw [e9, b1_eq] at y1; cases y1; rfl
          | true =>
            rw [if_neg (fun z => q0 (hgood ho z)), b1_eq]
            rw [ho] at good
            exact good rfl
      rw [(cell k 11 (by decide) (by decide)).1, hI.2.2.2.2.2.2.2.2.1]
      unfold x_X2_judgeField_104 x_X2_judgeField_105 x_X2_judgeField_124
      rw [ifz]
      have hpa0 : ∀ r, dPa (lkC T D) T Ws D d = r ↔ (dR d && nmr (dTy (lkC T D) T Ws D d) && decide (dP d ≠ 2)) = r := fun r => by unfold dPa; rw [h2]; simp
      cases hR : dR d with
      | false =>
        rw [if_neg (by decide), if_pos rfl]
        refine fin 0 0 false rfl ?_ (fun z => ⟨rfl, ?_⟩) (fun z _ => ?_)
        · unfold dPa; rw [hR]; rfl
        · intro y; unfold okP at z; rw [y] at z; cases z
        · unfold okP at z; rw [hR] at z; simpa using z
      | true =>
        rw [if_pos rfl, (cell k 8 (by decide) (by decide)).1, hk8, X11_isNumeric (by have := dTy_lt (lk := lkC T D) (T := T) (Ws := Ws) (D := D) hT13; omega), b1_eq, ifz]
        cases hn : nmr (dTy (lkC T D) T Ws D d) with
        | false =>
          rw [if_neg (by decide), if_pos rfl]
          refine fin 0 0 false rfl ?_ (fun z => ⟨rfl, ?_⟩) (fun z _ => ?_)
          · unfold dPa; rw [hR, hn]; rfl
          · intro y; unfold okP at z; rw [y] at z; cases z
          · unfold okP at z; rw [hR, hn] at z; simpa using z
        | true =>
          have ho : okP (lkC T D) T Ws D d = true := by unfold okP; rw [hR, hn]; simp
          rw [if_pos rfl, if_neg (by decide), ck_eq (it_sh hcb (by omega)), (cell k 13 (by decide) (by decide)).1, hI.2.2.2.2.2.2.2.2.2.1, ifz]
          by_cases q2 : dP d = 2
          · rw [decide_eq_true q2, if_pos rfl]
            refine fin 0 1 false rfl ?_ (fun z => by rw [ho] at z; cases z) (fun _ z => by cases z)
            unfold dPa; rw [hR, hn, decide_eq_false (fun z => z q2)]; rfl
          · rw [decide_eq_false q2, if_neg (by decide)]
            refine fin 1 1 true rfl ?_ (fun z => by rw [ho] at z; cases z) (fun _ z => by cases z)
            unfold dPa; rw [hR, hn, decide_eq_true q2, decide_eq_true h2]; rfl
  unfold x_X2_judgeField
  rw [ck_eq (it_sh hcb (by omega)), hv]
  have c1 : lN (dN d).2 < 1 ↔ (dN d).2 < 1 := pk_lLT (b := 1) (by omega) (by decide)
  have c2 : (536870911 : Int64) < lN (dN d).2 ↔ 536870911 < (dN d).2 := pk_lLT (a := 536870911) (by decide) (by omega)
  have c3 : lN (dN d).2 < 19000 ↔ (dN d).2 < 19000 := pk_lLT (b := 19000) (by omega) (by decide)
  have c4 : (19999 : Int64) < lN (dN d).2 ↔ 19999 < (dN d).2 := pk_lLT (a := 19999) (by decide) (by omega)
  rw [ifd c1, ifd c2, ifd c3, ifd c4]
  by_cases q1 : (dN d).2 < 1
  · rw [if_pos q1]; exact out35 (decide_eq_false (by omega))
  rw [if_neg q1]
  by_cases q2 : 536870911 < (dN d).2
  · rw [if_pos q2]; exact out35 (decide_eq_false (by omega))
  rw [if_neg q2]
  by_cases q3 : (dN d).2 < 19000
  · rw [if_pos q3]; exact in39 (decide_eq_true (by omega))
  rw [if_neg q3]
  by_cases q4 : 19999 < (dN d).2
  · rw [if_pos q4]; exact in39 (decide_eq_true (by omega))
  rw [if_neg q4]; exact out35 (decide_eq_false (by omega))
