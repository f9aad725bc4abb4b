/-! ===== the reference's value: which row a value goes to ===== -/
/-- a row that counts, of a field of an opened message -/
def pRw (n f : Nat) (r : Rg) : Bool := decide (rN r = n) && decide (rF r = f) && rA r
def rwI (o : Option Nat) : Int32 := match o with
  | none => -1
  | some i => nI i
theorem N_rowOf_L {U s n f : Nat} {T : List Nat} {D : List Dc} {P : List Nat} {d : Dc} {R : List Rg} {σ : SG} (hs : s < 2) (hg : GSc T D) (hd : D[f]? = some d) (h2 : dK d = 2) (hn : n < 400) (hRn : ∀ r ∈ R, rN r < 400) (hR : RT σ s T D P R) : ∀ (j i U1 : Nat), i + j = R.length → j < U1 →
    x_X12_rowOf_L2 U 1101 (nI n) (nI (fx D s f)) σ U1 (nI i) = some (rwI (ff (pRw n f) (R.drop i) i)) := by
  have h700 := hR.2.1
  intro j
  induction j with
  | zero =>
    intro i U1 hi hu
    obtain ⟨V, rfl⟩ : ∃ V, U1 = V + 1 := ⟨U1 - 1, by omega⟩
    rw [x_X12_rowOf_L2, hR.1, if_neg (fun q => by have := (ltI (by omega) (by omega)).mp q; omega), List.drop_eq_nil_of_le (by omega)]
    rfl
  | succ j ih =>
    intro i U1 hi hu
    obtain ⟨V, rfl⟩ : ∃ V, U1 = V + 1 := ⟨U1 - 1, by omega⟩
    have hil : i < R.length := by omega
    have hr := List.getElem?_eq_getElem hil
    obtain ⟨⟨w1, w2, w3, w4, x, hx, hx2, w5⟩, w6⟩ := hR.2.2 i _ hr
    have hnr := hRn _ (List.getElem_mem hil)
    have nx := ih (i + 1) V (by omega) (by omega)
    rw [x_X12_rowOf_L2, hR.1, if_pos ((ltI (by omega) (by omega)).mpr hil), ix_in (by omega) (by decide), w6, ifz, ix_in (by omega) (by decide), w1, ifd (nI_eq (by omega) (by omega)), ix_in (by omega) (by decide), w2, ifd (fx_inj hg hs hx hx2 hd h2), ff_drop hr]
    unfold x_X12_rowOf_41
    rw [nI_1]
    cases ha : rA R[i] with
    | false =>
      rw [if_neg (show ¬ false = true by decide), if_neg (show ¬ pRw n f R[i] = true from fun z => by unfold pRw at z; rw [ha, Bool.and_false] at z; cases z)]
      exact nx
    | true =>
      rw [if_pos (show true = true from rfl)]
      by_cases q1 : rN R[i] = n
      · rw [if_pos q1]
        by_cases q2 : rF R[i] = f
        · rw [if_pos q2, if_pos (show pRw n f R[i] = true by unfold pRw; rw [decide_eq_true q1, decide_eq_true q2, ha]; rfl)]
          rfl
        · rw [if_neg q2, if_neg (show ¬ pRw n f R[i] = true from fun z => by unfold pRw at z; rw [decide_eq_false q2, Bool.and_false] at z; cases z)]
          exact nx
      · rw [if_neg q1, if_neg (show ¬ pRw n f R[i] = true from fun z => by unfold pRw at z; rw [decide_eq_false q1] at z; cases z)]
        exact nx
theorem N_rowOf {U s n f : Nat} {T : List Nat} {D : List Dc} {P : List Nat} {d : Dc} {R : List Rg} {σ : SG} (hU : 4000 < U) (hs : s < 2) (hg : GSc T D) (hd : D[f]? = some d) (h2 : dK d = 2) (hn : n < 400) (hRn : ∀ r ∈ R, rN r < 400) (hR : RT σ s T D P R) : x_X12_rowOf U 1101 (nI n) (nI (fx D s f)) σ = some (rwI (ff (pRw n f) R 0)) := by
  have h700 := hR.2.1
  exact N_rowOf_L (U := U) hs hg hd h2 hn hRn hR R.length 0 U (by omega) (by omega)
/-- a new row's cells -/
def NwR (σ : SG) (i n x : Nat) : Prop := sI σ 1165 i = nI n ∧ sI σ 1166 i = nI x ∧ sL σ 1167 i = 0 ∧ sI σ 1168 i = 0 ∧ sI σ 1169 i = 0 ∧ sI σ 1170 i = -1 ∧ sI σ 1171 i = 1
/-- the old rows stand, and there may be one more -/
def RTo (σ : SG) (s : Nat) (T : List Nat) (D : List Dc) (P : List Nat) (R : List Rg) : Prop := R.length ≤ 700 ∧ ∀ i r, R[i]? = some r → RWs σ s T D P i r ∧ sI σ 1171 i = zI (rA r)
theorem N_addRow {s n x : Nat} {T : List Nat} {D : List Dc} {P : List Nat} {R : List Rg} {σ : SG} (hR : RT σ s T D P R) (hl : R.length < 700) : ∃ τ, x_X12_addRow 1101 (nI n) (nI x) σ = some (nI R.length, τ) ∧ RTo τ s T D P R ∧ sI τ 1101 82 = nI (R.length + 1) ∧ NwR τ R.length n x ∧ fP (fun b k => (b = 1101 ∧ k = 82) ∨ (1165 ≤ b ∧ b ≤ 1171 ∧ k = R.length)) σ τ := by
  unfold x_X12_addRow
  rw [hR.1, nI_1, sb_eq, ix_in (by omega) (by decide), sb_eq, ix_in (by omega) (by decide), sb_eq, ix_in (by omega) (by decide), sb_eq, ix_in (by omega) (by decide), sb_eq, ix_in (by omega) (by decide), sb_eq, ix_in (by omega) (by decide), sb_eq, ix_in (by omega) (by decide), sb_eq]
  have fr : fP (fun b k => (b = 1101 ∧ k = 82) ∨ (1165 ≤ b ∧ b ≤ 1171 ∧ k = R.length)) σ (uI (uI (uI (uI (uL (uI (uI (uI σ 1101 82 (nI (R.length + 1))) 1165 R.length (nI n)) 1166 R.length (nI x)) 1167 R.length 0) 1168 R.length 0) 1169 R.length 0) 1170 R.length (-1)) 1171 R.length (vp_nar .boolean 1)) := by
    refine fP_trans (fP_trans (fP_trans (fP_trans (fP_trans (fP_trans (fP_trans (fP_u ?_) (fP_u ?_)) (fP_u ?_)) (fP_L ?_)) (fP_u ?_)) (fP_u ?_)) (fP_u ?_)) (fP_u ?_)
    · exact Or.inl ⟨rfl, rfl⟩
    all_goals exact Or.inr ⟨by decide, by decide, rfl⟩
  refine ⟨_, rfl, ⟨hR.2.1, fun i r hi => ?_⟩, ?_, ⟨?_, ?_, ?_, ?_, ?_, ?_, ?_⟩, fr⟩
  · have hil := (List.getElem?_eq_some_iff.mp hi).1
    obtain ⟨y1, y2⟩ := hR.2.2 i r hi
    exact ⟨RWs_sm y1 (fun b h1 h2 => ⟨(fr b i (by omega)).1, (fr b i (by omega)).2.1⟩), ((fr 1171 i (by omega)).1).trans y2⟩
  · rw [sI_o (Or.inl (by decide)), sI_o (Or.inl (by decide)), sI_o (Or.inl (by decide)), sI_o (Or.inl (by decide)), sI_uL, sI_o (Or.inl (by decide)), sI_o (Or.inl (by decide)), sI_s]
  · rw [sI_o (Or.inl (by decide)), sI_o (Or.inl (by decide)), sI_o (Or.inl (by decide)), sI_o (Or.inl (by decide)), sI_uL, sI_o (Or.inl (by decide)), sI_s]
  · rw [sI_o (Or.inl (by decide)), sI_o (Or.inl (by decide)), sI_o (Or.inl (by decide)), sI_o (Or.inl (by decide)), sI_uL, sI_s]
  · show sL (uL _ 1167 R.length 0) 1167 R.length = 0
    exact sL_s _ _ _ _
  · rw [sI_o (Or.inl (by decide)), sI_o (Or.inl (by decide)), sI_o (Or.inl (by decide)), sI_s]
  · rw [sI_o (Or.inl (by decide)), sI_o (Or.inl (by decide)), sI_s]
  · rw [sI_o (Or.inl (by decide)), sI_s]
  · rw [sI_s]; decide
theorem killR_len {T : List Nat} {D : List Dc} {n f : Nat} {d : Dc} {R : List Rg} : (killR T D n f d R).length = R.length := List.length_map ..
theorem killR_N {T : List Nat} {D : List Dc} {n f : Nat} {d : Dc} {R : List Rg} (h : ∀ r ∈ R, rN r < 400) : ∀ r ∈ killR T D n f d R, rN r < 400 := by
  intro r hr
  obtain ⟨x, hx, rfl⟩ := List.mem_map.mp hr
  have := h x hx
  split <;> exact this
/-- the rows before a new value is told -/
def kR (T : List Nat) (D : List Dc) (n f : Nat) (d : Dc) (R : List Rg) : List Rg := if dR d then R else killR T D n f d R
/-- which row there is already -/
def oldR (T : List Nat) (D : List Dc) (n f : Nat) (d : Dc) (R : List Rg) : Option Nat := if dR d then none else ff (pRw n f) (killR T D n f d R) 0
theorem N_rowFor {U s n f : Nat} {T : List Nat} {D : List Dc} {P : List Nat} {d : Dc} {R : List Rg} {σ : SG} (hU : 4000 < U) (hs : s < 2) (hg : GSc T D) (hd : D[f]? = some d) (h2 : dK d = 2) (hn : n < 400) (hRn : ∀ r ∈ R, rN r < 400) (hS : RS σ s T D) (hR : RT σ s T D P R) (hl : R.length < 700) :
    (oldR T D n f d R = none → ∃ τ, x_X12_rowFor U 1101 (nI n) (nI (fx D s f)) σ = some (nI R.length, τ) ∧ RTo τ s T D P (kR T D n f d R) ∧ sI τ 1101 82 = nI (R.length + 1) ∧ NwR τ R.length n (fx D s f) ∧ fP (fun b k => (b = 1101 ∧ k = 82) ∨ (1165 ≤ b ∧ b ≤ 1171)) σ τ) ∧
    (∀ i, oldR T D n f d R = some i → ∃ τ, x_X12_rowFor U 1101 (nI n) (nI (fx D s f)) σ = some (nI i, τ) ∧ RT τ s T D P (kR T D n f d R) ∧ fP (fun b k => (b = 1101 ∧ k = 82) ∨ (1165 ≤ b ∧ b ≤ 1171)) σ τ) := by
  obtain ⟨f1, _, _, _, _, f6, _, _⟩ := hS.f hd h2
  have h700 := hR.2.1
  unfold x_X12_rowFor oldR kR
  rw [ix_in (by omega) (by decide), f6, ifz]
  cases hRp : dR d with
  | true =>
    rw [if_pos (show true = true from rfl), if_pos (show true = true from rfl), if_pos (show true = true from rfl)]
    refine ⟨fun _ => ?_, fun i h => by cases h⟩
    obtain ⟨τ, t1, t2, t3, t4, t5⟩ := N_addRow (n := n) (x := fx D s f) hR hl
    rw [t1, b2_eq]
    exact ⟨τ, rfl, t2, t3, t4, fP_mono t5 (fun b k z => by omega)⟩
  | false =>
    rw [if_neg (show ¬ false = true by decide), if_neg (show ¬ false = true by decide), if_neg (show ¬ false = true by decide)]
    obtain ⟨υ, u1, u2, u3⟩ := N_kill_L (U := U) (K := fun σ51 => b1 (x_X12_rowOf U 1101 (nI n) (nI (fx D s f)) σ51) fun v53 => if v53 = (-1) then (b2 (x_X12_addRow 1101 (nI n) (nI (fx D s f)) σ51) fun v56 σ57 => some (v56, σ57)) else (some (v53, σ51))) hU hs hg hd h2 hn hRn R.length 0 U σ (by omega) (by omega) hS (by rw [List.take_zero, List.drop_zero]; exact hR)
    have u1' := u1
    rw [show nI 0 = 0 from rfl] at u1'
    rw [u1', N_rowOf hU hs hg hd h2 hn (killR_N hRn) u2, b1_eq]
    have fA' : fP (fun b k => (b = 1101 ∧ k = 82) ∨ (1165 ≤ b ∧ b ≤ 1171)) σ υ := fP_mono u3 (fun b k z => by omega)
    refine ⟨fun h => ?_, fun i h => ?_⟩
    · rw [h, if_pos (show rwI none = -1 from rfl)]
      obtain ⟨τ, t1, t2, t3, t4, t5⟩ := N_addRow (n := n) (x := fx D s f) u2 (by rw [killR_len]; exact hl)
      rw [killR_len] at t1 t3 t4
      rw [t1, b2_eq]
      exact ⟨τ, rfl, t2, t3, t4, fP_trans fA' (fP_mono t5 (fun b k z => by omega))⟩
    · rw [h]
      obtain ⟨r, a1, _⟩ := ff_some _ _ _ h
      have hil := (List.getElem?_eq_some_iff.mp a1).1
      rw [killR_len] at hil
      rw [if_neg (show ¬ rwI (some i) = -1 from fun z => nI_neg (a := i) (by omega) (by rw [show nI i = -1 from z]; decide))]
      exact ⟨υ, rfl, u2, fA'⟩
/-- the reference's value, beyond the schema: rows, unknown bytes, texts, of which row each message is, how deep -/
abbrev Rh : Type := List Rg × List (Nat × List Nat) × List Nat × (Nat → Nat) × (Nat → Nat)
def zR (H : Rh) : List Rg := H.1
def zU (H : Rh) : List (Nat × List Nat) := H.2.1
def zP (H : Rh) : List Nat := H.2.2.1
def zW (H : Rh) : Nat → Nat := H.2.2.2.1
def zD (H : Rh) : Nat → Nat := H.2.2.2.2
def UKs (σ : SG) (P : List Nat) (i : Nat) (u : Nat × List Nat) : Prop := sI σ 1172 i = nI u.1 ∧ ∃ a, sI σ 1173 i = nI a ∧ sI σ 1174 i = nI u.2.length ∧ a + u.2.length ≤ P.length ∧ slc P a (a + u.2.length) = u.2
/-- the rows, as they must be -/
def RwOk (T : List Nat) (D : List Dc) (A : AV) (r : Rg) : Prop := rN r < aC A ∧ ∃ d, isF D (aN A (rN r)) (rF r) d ∧ (fty T D d = 13 → rN r < rK r ∧ rK r < aC A ∧ ftg T D d = some (aN A (rK r)))
def NdOk (σ : SG) (T : List Nat) (D : List Dc) (A : AV) (H : Rh) (n : Nat) : Prop := isM D (aN A n) ∧ sI σ 1160 n = nI (cnt (D.take (aN A n)) 0) ∧ sI σ 1161 n = (if n = 0 then -1 else nI (zW H n)) ∧ sI σ 1162 n = nI (zD H n) ∧ (n ≠ 0 → ∃ r d, (zR H)[zW H n]? = some r ∧ D[rF r]? = some d ∧ fty T D d = 13 ∧ rK r = n ∧ rN r < n)
/-- a row's item -/
def itR (T : List Nat) (D : List Dc) (d : Dc) (r : Rg) : It := if fty T D d = 13 then (0, [], rK r) else if nmr (fty T D d) then (rV r, [], 0) else (0, rT r, 0)
def VRe (T : List Nat) (D : List Dc) (A : AV) (H : Rh) : Prop := ∀ n, n < aC A → (∀ f d, isF D (aN A n) f d → ((zR H).filter (pRw n f)).map (itR T D d) = aE A n f) ∧ (((zU H).filter (fun u => decide (u.1 = n))).map (fun u => u.2)).flatten = aU A n
def VR (σ : SG) (s : Nat) (T : List Nat) (D : List Dc) (A : AV) (H : Rh) : Prop := sI σ 1101 80 = nI s ∧ RT σ s T D (zP H) (zR H) ∧ (sI σ 1101 84 = nI (zP H).length ∧ RI σ 1175 (zP H) ∧ ok8 (zP H) ∧ (zP H).length ≤ 700) ∧ (sI σ 1101 83 = nI (zU H).length ∧ (zU H).length ≤ 350 ∧ ∀ i u, (zU H)[i]? = some u → u.1 < aC A ∧ UKs σ (zP H) i u) ∧ (sI σ 1101 81 = nI (aC A) ∧ 0 < aC A ∧ aC A ≤ 351 ∧ ∀ n, n < aC A → NdOk σ T D A H n) ∧ (∀ r ∈ zR H, RwOk T D A r) ∧ VRe T D A H
/-- what the reference's value may touch -/
def PV (b k : Nat) : Prop := (b = 1101 ∧ (k = 81 ∨ k = 82 ∨ k = 83 ∨ k = 84 ∨ k = 107)) ∨ (1160 ≤ b ∧ b ≤ 1175)
theorem RS_PV {σ τ : SG} {s : Nat} {T : List Nat} {D : List Dc} (h : RS σ s T D) (hf : fP PV σ τ) : RS τ s T D := RS_keep h (fun b k hb => (hf b k (by unfold PV; unfold PKP at hb; omega)).1)
