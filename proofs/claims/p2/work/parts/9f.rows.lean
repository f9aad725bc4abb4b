/-! ===== the reference's value: its rows ===== -/
/-- a row: of which opened message, field, number, text, the message it opens, does it count -/
abbrev Rg : Type := Nat × Nat × Int64 × List Nat × Nat × Bool
def rN (r : Rg) : Nat := r.1
def rF (r : Rg) : Nat := r.2.1
def rV (r : Rg) : Int64 := r.2.2.1
def rT (r : Rg) : List Nat := r.2.2.2.1
def rK (r : Rg) : Nat := r.2.2.2.2.1
def rA (r : Rg) : Bool := r.2.2.2.2.2
/-- a field's index -/
def fx (D : List Dc) (s f : Nat) : Nat := 60 * s + cnt (D.take f) 2
/-- one row, without whether it counts -/
def RWs (σ : SG) (s : Nat) (T : List Nat) (D : List Dc) (P : List Nat) (i : Nat) (r : Rg) : Prop := sI σ 1165 i = nI (rN r) ∧ sI σ 1166 i = nI (fx D s (rF r)) ∧ sL σ 1167 i = rV r ∧ (∃ a, sI σ 1168 i = nI a ∧ sI σ 1169 i = nI (rT r).length ∧ a + (rT r).length ≤ P.length ∧ slc P a (a + (rT r).length) = rT r) ∧ ∃ d, D[rF r]? = some d ∧ dK d = 2 ∧ sI σ 1170 i = (if fty T D d = 13 then nI (rK r) else -1)
def RT (σ : SG) (s : Nat) (T : List Nat) (D : List Dc) (P : List Nat) (R : List Rg) : Prop := sI σ 1101 82 = nI R.length ∧ R.length ≤ 700 ∧ ∀ i r, R[i]? = some r → RWs σ s T D P i r ∧ sI σ 1171 i = zI (rA r)
/-- does a value of a field put a row out -/
def kil (T : List Nat) (D : List Dc) (n f : Nat) (d : Dc) (r : Rg) : Bool := decide (rN r = n) && (rivB D f d (rF r) || (decide (rF r = f) && decide (fty T D d ≠ 13)))
def off (r : Rg) : Rg := (rN r, rF r, rV r, rT r, rK r, false)
def killR (T : List Nat) (D : List Dc) (n f : Nat) (d : Dc) (R : List Rg) : List Rg := R.map (fun r => if kil T D n f d r then off r else r)
theorem RWs_sm {σ τ : SG} {s : Nat} {T : List Nat} {D : List Dc} {P : List Nat} {i : Nat} {r : Rg} (h : RWs σ s T D P i r) (h1 : ∀ b, 1165 ≤ b → b ≤ 1170 → sI τ b i = sI σ b i ∧ sL τ b i = sL σ b i) : RWs τ s T D P i r := by
  obtain ⟨a1, a2, a3, ⟨a, a4, a5, a6⟩, d, a7, a8, a9⟩ := h
  exact ⟨((h1 1165 (by decide) (by decide)).1).trans a1, ((h1 1166 (by decide) (by decide)).1).trans a2, ((h1 1167 (by decide) (by decide)).2).trans a3, ⟨a, ((h1 1168 (by decide) (by decide)).1).trans a4, ((h1 1169 (by decide) (by decide)).1).trans a5, a6⟩, d, a7, a8, ((h1 1170 (by decide) (by decide)).1).trans a9⟩
theorem RWs_off {σ : SG} {s : Nat} {T : List Nat} {D : List Dc} {P : List Nat} {i : Nat} {r : Rg} (h : RWs σ s T D P i r) : RWs σ s T D P i (off r) := h
theorem fx_inj {T : List Nat} {D : List Dc} (hg : GSc T D) {s f g : Nat} {d e : Dc} (hs : s < 2) (hd : D[f]? = some d) (h2 : dK d = 2) (he : D[g]? = some e) (h2' : dK e = 2) : nI (fx D s f) = nI (fx D s g) ↔ f = g := by
  obtain ⟨_, _, l2, _⟩ := lim_of hg.2.2.2.1
  have c1 := cnt_take_lt hd h2
  have c2 := cnt_take_lt he h2'
  refine ⟨fun z => ?_, fun z => by rw [z]⟩
  have := (nI_eq (a := fx D s f) (b := fx D s g) (by unfold fx; omega) (by unfold fx; omega)).mp z
  unfold fx at this
  exact ord_inj hd h2 he h2' (by omega)
/-- a field's row of the reference's schema -/
theorem RS.f {σ : SG} {s : Nat} {T : List Nat} {D : List Dc} (h : RS σ s T D) {f : Nat} {d : Dc} (hd : D[f]? = some d) (h2 : dK d = 2) : fx D s f < 60 * s + 60 ∧ sI σ 1114 (fx D s f) = oq D 0 (dS d) ∧ sI σ 1117 (fx D s f) = nI (dN d).2 ∧ sI σ 1118 (fx D s f) = nI (fty T D d) ∧ sI σ 1119 (fx D s f) = refI D (ftg T D d) ∧ sI σ 1120 (fx D s f) = zI (dR d) ∧ sI σ 1121 (fx D s f) = zI (dPa (lkC T D) T (wl T 701 0) D d) ∧ sI σ 1122 (fx D s f) = oq D 4 (dO d) := by
  obtain ⟨_, _, l2, _⟩ := lim_of h.1
  have c1 := cnt_take_lt hd h2
  obtain ⟨a1, a2, a3, a4, a5, a6, a7, a8⟩ := (h.2.2 f d hd).2.2.1 h2
  exact ⟨by unfold fx; omega, a1, a3, a4, a5, a6, a7, a8⟩
theorem WF.one {D : List Dc} {i : Nat} {d : Dc} (h : WF D) (hd : D[i]? = some d) (h2 : dK d = 2) : ∀ m, dO d = some m → ∃ x, D[m]? = some x ∧ dK x = 4 := fun m hm => by
  rcases (h i d hd).2 with z | z | z | z | z
  · omega
  · omega
  · omega
  · obtain ⟨x, a1, a2, _⟩ := z.2.2 m hm
    have hl := (List.getElem?_eq_some_iff.mp a1).1
    rw [List.length_take] at hl
    rw [List.getElem?_take_of_lt (by omega)] at a1
    exact ⟨x, a1, a2⟩
  · omega
/-- the cells of the flags alone -/
def fA (σ τ : SG) : Prop := fP (fun b _ => b = 1171) σ τ
theorem N_kill_L {U s n f : Nat} {T : List Nat} {D : List Dc} {P : List Nat} {d : Dc} {R : List Rg} {K : SG → Option (Int32 × SG)} (hU : 4000 < U) (hs : s < 2) (hg : GSc T D) (hd : D[f]? = some d) (h2 : dK d = 2) (hn : n < 400) (hRn : ∀ r ∈ R, rN r < 400) : ∀ (j i U1 : Nat) (σ : SG), i + j = R.length → j < U1 → RS σ s T D → RT σ s T D P ((killR T D n f d (R.take i)) ++ R.drop i) →
    ∃ τ, x_X12_rowFor_L18 U 1101 K (nI n) (nI (fx D s f)) U1 (nI i) σ = K τ ∧ RT τ s T D P (killR T D n f d R) ∧ fA σ τ := by
  have hl := hg.2.1
  intro j
  induction j with
  | zero =>
    intro i U1 σ hi hu hS hR
    obtain ⟨V, rfl⟩ : ∃ V, U1 = V + 1 := ⟨U1 - 1, by omega⟩
    have e : killR T D n f d (R.take i) ++ R.drop i = killR T D n f d R := by rw [List.take_of_length_le (by omega), List.drop_eq_nil_of_le (by omega), List.append_nil]
    rw [e] at hR
    have hlen : (killR T D n f d R).length = R.length := List.length_map ..
    have hc := hR.1
    rw [hlen] at hc
    have h700 := hR.2.1
    rw [hlen] at h700
    rw [x_X12_rowFor_L18, hc, if_neg (fun q => by have := (ltI (by omega) (by omega)).mp q; omega)]
    exact ⟨σ, rfl, hR, fP_refl _ _⟩
  | succ j ih =>
    intro i U1 σ hi hu hS hR
    obtain ⟨V, rfl⟩ : ∃ V, U1 = V + 1 := ⟨U1 - 1, by omega⟩
    have hil : i < R.length := by omega
    have hlen : ((killR T D n f d (R.take i)) ++ R.drop i).length = R.length := by
      rw [List.length_append, List.length_drop]
      unfold killR
      rw [List.length_map, List.length_take]; omega
    have hc := hR.1
    rw [hlen] at hc
    have h700 := hR.2.1
    rw [hlen] at h700
    have hr := List.getElem?_eq_getElem hil
    have hri : ((killR T D n f d (R.take i)) ++ R.drop i)[i]? = some R[i] := by
      have hkl : (killR T D n f d (R.take i)).length = i := by unfold killR; rw [List.length_map, List.length_take]; omega
      rw [List.getElem?_append_right (by omega), hkl, Nat.sub_self, List.getElem?_drop]
      exact hr
    obtain ⟨⟨w1, w2, w3, w4, x, hx, hx2, w5⟩, w6⟩ := hR.2.2 i _ hri
    obtain ⟨f1, _, _, f4, _, _, _, f8⟩ := hS.f hd h2
    obtain ⟨g1, _, _, _, _, _, _, g8⟩ := hS.f hx hx2
    have hnr := hRn _ (List.getElem_mem hil)
    -- the next place
    have step : ∀ (r' : Rg), r' = (if kil T D n f d R[i] then off R[i] else R[i]) → killR T D n f d (R.take (i + 1)) ++ R.drop (i + 1) = (killR T D n f d (R.take i)) ++ r' :: R.drop (i + 1) := by
      intro r' hr'
      have e1 : R.take (i + 1) = R.take i ++ [R[i]] := by rw [List.take_add_one, hr]; rfl
      rw [e1]
      unfold killR
      rw [List.map_append, List.append_assoc, hr']
      rfl
    have dr : R.drop i = R[i] :: R.drop (i + 1) := List.drop_eq_getElem_cons hil
    have skip : kil T D n f d R[i] = false → ∃ τ, x_X12_rowFor_L18 U 1101 K (nI n) (nI (fx D s f)) V (nI (i + 1)) σ = K τ ∧ RT τ s T D P (killR T D n f d R) ∧ fA σ τ := by
      intro hk
      refine ih (i + 1) V σ (by omega) (by omega) hS ?_
      rw [step R[i] (by rw [hk]; rfl), ← dr]
      exact hR
    have kill : kil T D n f d R[i] = true → ∃ τ, x_X12_rowFor_L18 U 1101 K (nI n) (nI (fx D s f)) V (nI (i + 1)) (uI σ 1171 i (vp_nar .boolean 0)) = K τ ∧ RT τ s T D P (killR T D n f d R) ∧ fA σ τ := by
      intro hk
      have e0 : vp_nar .boolean 0 = zI false := by decide
      have f1 : fA σ (uI σ 1171 i (vp_nar .boolean 0)) := fP_u rfl
      obtain ⟨τ, t1, t2, t3⟩ := ih (i + 1) V (uI σ 1171 i (vp_nar .boolean 0)) (by omega) (by omega) (RS_keep hS (fun b k hb => (f1 b k (fun z => by unfold PKP at hb; omega)).1)) (by
        rw [step (off R[i]) (by rw [hk]; rfl)]
        have hl2 : ((killR T D n f d (R.take i)) ++ off R[i] :: R.drop (i + 1)).length = R.length := by rw [← hlen, dr, List.length_append, List.length_append, List.length_cons, List.length_cons]
        refine ⟨?_, by rw [hl2]; omega, fun k r hkr => ?_⟩
        · rw [hl2, (f1 1101 82 (by decide)).1]; exact hc
        · have hkl : (killR T D n f d (R.take i)).length = i := by unfold killR; rw [List.length_map, List.length_take]; omega
          by_cases z : k = i
          · subst z
            rw [List.getElem?_append_right (by omega), hkl, Nat.sub_self] at hkr
            simp at hkr
            subst hkr
            refine ⟨RWs_off (RWs_sm (hR.2.2 k _ hri).1 (fun b h1 h2 => ⟨sI_o (Or.inl (by omega)), rfl⟩)), ?_⟩
            rw [sI_s, e0]; rfl
          · have hkr' : ((killR T D n f d (R.take i)) ++ R.drop i)[k]? = some r := by
              rw [dr]
              rcases Nat.lt_or_ge k i with y | y
              · rw [List.getElem?_append_left (by omega)] at hkr ⊢; exact hkr
              · obtain ⟨k', rfl⟩ : ∃ k', k = i + (k' + 1) := ⟨k - i - 1, by omega⟩
                rw [List.getElem?_append_right (by omega), hkl, show i + (k' + 1) - i = k' + 1 by omega, List.getElem?_cons_succ] at hkr ⊢
                exact hkr
            obtain ⟨y1, y2⟩ := hR.2.2 k r hkr'
            exact ⟨RWs_sm y1 (fun b h1 h2 => ⟨sI_o (Or.inl (by omega)), rfl⟩), by rw [sI_o (Or.inr z)]; exact y2⟩)
      exact ⟨τ, t1, t2, fP_trans f1 t3⟩
    rw [x_X12_rowFor_L18, hc, if_pos ((ltI (by omega) (by omega)).mpr hil), ix_in (by omega) (by decide), w2, ifd (fx_inj hg hs hx hx2 hd h2)]
    unfold x_X12_rowFor_70 x_X12_rowFor_71 x_X12_rowFor_109 x_X12_rowFor_116
    have hrv : rF R[i] ≠ f → (rivB D f d (rF R[i]) = true ↔ dO d ≠ none ∧ dO x = dO d) := fun hne => by
      unfold rivB; rw [hx]; simp only; rw [decide_eq_true_iff]
      exact ⟨fun z => ⟨z.1, z.2.2⟩, fun z => ⟨z.1, hne, z.2⟩⟩
    -- no rival
    have plain : rivB D f d (rF R[i]) = false → ∃ τ, (ix (nI i) 800 fun j12 => if sI σ 1165 j12 = nI n then (if (0 : Int32) = 0 then (ix (nI i) 800 fun j18 => if sI σ 1166 j18 = nI (fx D s f) then (ix (nI (fx D s f)) 120 fun j23 => if sI σ 1118 j23 = 13 then (x_X12_rowFor_L18 U 1101 K (nI n) (nI (fx D s f)) V (nI i + 1) σ) else (ix (nI i) 800 fun j28 => sb (uI σ 1171 j28 (vp_nar .boolean 0)) fun σ32 => x_X12_rowFor_L18 U 1101 K (nI n) (nI (fx D s f)) V (nI i + 1) σ32)) else (x_X12_rowFor_L18 U 1101 K (nI n) (nI (fx D s f)) V (nI i + 1) σ)) else (ix (nI i) 800 fun j28 => sb (uI σ 1171 j28 (vp_nar .boolean 0)) fun σ32 => x_X12_rowFor_L18 U 1101 K (nI n) (nI (fx D s f)) V (nI i + 1) σ32)) else (x_X12_rowFor_L18 U 1101 K (nI n) (nI (fx D s f)) V (nI i + 1) σ)) = K τ ∧ RT τ s T D P (killR T D n f d R) ∧ fA σ τ := by
      intro hnr'
      rw [ix_in (by omega) (by decide), w1, ifd (nI_eq (by omega) (by omega)), if_pos (show (0 : Int32) = 0 from rfl), ix_in (by omega) (by decide), w2, ifd (fx_inj hg hs hx hx2 hd h2), ix_in (by omega) (by decide), f4, nI_1]
      have ft := dTy_lt (lk := lkC T D) (T := T) (Ws := wl T 701 0) (D := D) (hg.fld hd h2).2.2.2.1
      have e13 : nI (fty T D d) = 13 ↔ fty T D d = 13 := nI_eq (b := 13) (by unfold fty; omega) (by decide)
      by_cases q1 : rN R[i] = n
      · rw [if_pos q1]
        by_cases q2 : rF R[i] = f
        · rw [if_pos q2, ifd e13]
          by_cases q3 : fty T D d = 13
          · rw [if_pos q3]
            exact skip (by unfold kil; rw [hnr', decide_eq_false (show ¬ fty T D d ≠ 13 from fun z => z q3)]; simp)
          · rw [if_neg q3, ix_in (by omega) (by decide), sb_eq]
            exact kill (by unfold kil; rw [decide_eq_true q1, decide_eq_true q2, decide_eq_true q3]; simp)
        · rw [if_neg q2]
          exact skip (by unfold kil; rw [hnr', decide_eq_false q2]; simp)
      · rw [if_neg q1]
        exact skip (by unfold kil; rw [decide_eq_false q1]; rfl)
    by_cases q : rF R[i] = f
    · rw [if_pos q]
      exact plain (by rw [q]; exact rivB_self)
    · rw [if_neg q, ix_in (by omega) (by decide), f8, ifd (oq_neg hl)]
      by_cases q0 : dO d = none
      · rw [if_pos q0]
        exact plain (by
          cases hb : rivB D f d (rF R[i]) with
          | false => rfl
          | true => exact absurd q0 ((hrv q).mp hb).1)
      · rw [if_neg q0, ix_in (by omega) (by decide), w2, ix_in (by omega) (by decide), ix_in (by omega) (by decide), g8, f8, ifd (oq_inj hl (hg.1.one hx hx2) (hg.1.one hd h2))]
        by_cases q1 : dO x = dO d
        · rw [if_pos q1, ix_in (by omega) (by decide), w1, ifd (nI_eq (by omega) (by omega)), if_neg (show ¬ (1 : Int32) = 0 by decide), ix_in (by omega) (by decide), sb_eq, nI_1]
          have hb := (hrv q).mpr ⟨q0, q1⟩
          by_cases q2 : rN R[i] = n
          · rw [if_pos q2]
            exact kill (by unfold kil; rw [decide_eq_true q2, hb]; rfl)
          · rw [if_neg q2]
            exact skip (by unfold kil; rw [decide_eq_false q2]; rfl)
        · rw [if_neg q1]
          exact plain (by
            cases hb : rivB D f d (rF R[i]) with
            | false => rfl
            | true => exact absurd ((hrv q).mp hb).2 q1)
