/-! ===== the reference's end of a value: what is alive ===== -/
theorem alL_mem {T : List Nat} {D : List Dc} {A : AV} : ∀ (k i : Nat), i < k → (i ∈ alL T D A k ↔ i = 0 ∨ i ∈ (alL T D A i).flatMap (chN T D A)) := by
  intro k
  induction k with
  | zero => intro i h; omega
  | succ k ih =>
    intro i hi
    rw [alL]
    have hnk : k ∉ alL T D A k := fun z => by have := List.mem_range.mp ((alL_lt k).subset z); omega
    by_cases q : i = k
    · subst q
      split
      · rename_i h; exact ⟨fun _ => h, fun _ => List.mem_append.mpr (Or.inr (List.mem_singleton.mpr rfl))⟩
      · rename_i h; exact ⟨fun z => absurd z hnk, fun z => absurd z h⟩
    · rw [← ih i (by omega)]
      split
      · rw [List.mem_append, List.mem_singleton]
        exact ⟨fun z => z.elim id (fun y => absurd y q), Or.inl⟩
      · exact Iff.rfl
def al (T : List Nat) (D : List Dc) (A : AV) (n : Nat) : Bool := decide (n ∈ alL T D A (aC A))
theorem chN_r {σ : SG} {s n k : Nat} {T : List Nat} {D : List Dc} {A : AV} {H : Rh} (hg : GSc T D) (h : VR σ s T D A H) (hn : n < aC A) : k ∈ chN T D A n ↔ ∃ r ∈ zR H, rN r = n ∧ rA r = true ∧ ∃ d, D[rF r]? = some d ∧ fty T D d = 13 ∧ rK r = k := by
  have hM := (h.2.2.2.2.1.2.2.2 n hn).1
  rw [chN_mem]
  constructor
  · rintro ⟨f, hf, hT, it, hit, rfl⟩
    obtain ⟨d, hd⟩ := (chF_mem hg hM).mp hf
    have q13 : fty T D d = 13 := by unfold isT at hT; rw [hd.1] at hT; exact of_decide_eq_true hT
    rw [← (h.2.2.2.2.2.2 n hn).1 f d hd] at hit
    obtain ⟨r, hr, rfl⟩ := List.mem_map.mp hit
    obtain ⟨h1, h2⟩ := List.mem_filter.mp hr
    obtain ⟨h3, h4⟩ := pRw_of h2
    refine ⟨r, h1, h3, ?_, d, by rw [h4]; exact hd.1, q13, by unfold itR; rw [if_pos q13]⟩
    unfold pRw at h2
    rw [Bool.and_eq_true] at h2
    exact h2.2
  · rintro ⟨r, hr, h1, h2, d, hd, q13, rfl⟩
    obtain ⟨o1, d', o2, o3⟩ := h.2.2.2.2.2.1 r hr
    have : d' = d := by have := o2.1; rw [hd] at this; exact (Option.some.inj this).symm
    subst this
    rw [h1] at o2
    refine ⟨rF r, (chF_mem hg hM).mpr ⟨d', o2⟩, by unfold isT; rw [hd]; exact decide_eq_true q13, itR T D d' r, ?_, by unfold itR; rw [if_pos q13]⟩
    rw [← (h.2.2.2.2.2.2 n hn).1 (rF r) d' o2]
    refine List.mem_map.mpr ⟨r, List.mem_filter.mpr ⟨hr, ?_⟩, rfl⟩
    unfold pRw
    rw [h1, h2, decide_eq_true rfl, decide_eq_true rfl]
    rfl
/-- a message is reached where its row and its holder are -/
theorem al_row {σ : SG} {s n lm : Nat} {T : List Nat} {D : List Dc} {A : AV} {H : Rh} {r : Rg} (hg : GSc T D) (h : VR σ s T D A H) (hdp : DPk T D lm A H) (hn : n < aC A) (h0 : n ≠ 0) (hr : (zR H)[zW H n]? = some r) (hk : rK r = n) (hrn : rN r < n) (h13 : ∃ d, D[rF r]? = some d ∧ fty T D d = 13) : al T D A n = (rA r && al T D A (rN r)) := by
  have e1 : al T D A n = true ↔ n ∈ (alL T D A n).flatMap (chN T D A) := by
    unfold al
    rw [decide_eq_true_iff, alL_mem _ _ hn]
    exact ⟨fun z => z.elim (fun y => absurd y h0) id, Or.inr⟩
  have e2 : ∀ p, p < n → (p ∈ alL T D A n ↔ al T D A p = true) := fun p hp => by
    unfold al
    rw [decide_eq_true_iff, alL_mem n p hp, alL_mem (aC A) p (by omega)]
  obtain ⟨d, hd, q13⟩ := h13
  have main : al T D A n = true ↔ (rA r && al T D A (rN r)) = true := by
    rw [e1, List.mem_flatMap, Bool.and_eq_true]
    constructor
    · rintro ⟨p, hp, hc⟩
      have hpn := List.mem_range.mp ((alL_lt n).subset hp)
      obtain ⟨x, hx, x1, x2, y, x3, x4, x5⟩ := (chN_r hg h (show p < aC A by omega)).mp hc
      obtain ⟨i, hi⟩ := List.getElem?_of_mem hx
      have := hdp.2.2 i x y hi x3 x4
      rw [x5] at this
      rw [this, hi] at hr
      cases hr
      exact ⟨x2, by rw [x1]; exact (e2 p hpn).mp hp⟩
    · rintro ⟨h1, h2⟩
      exact ⟨rN r, (e2 _ hrn).mpr h2, (chN_r hg h (show rN r < aC A by omega)).mpr ⟨r, List.mem_of_getElem? hr, rfl, h1, d, hd, q13, hk⟩⟩
  cases ha : al T D A n with
  | true => rw [main.mp ha]
  | false =>
    cases hb : (rA r && al T D A (rN r)) with
    | false => rfl
    | true => rw [main.mpr hb] at ha; cases ha
theorem nar1 : vp_nar .boolean 1 = zI true := by decide
def Pal (b _ : Nat) : Prop := b = 1164
theorem N_alive_L {U s lm : Nat} {T : List Nat} {D : List Dc} {A : AV} {H : Rh} {K : SG → Option (Int32 × SG)} {v1 : Int32} (hg : GSc T D) (hdp : DPk T D lm A H) : ∀ (j k U1 : Nat) (σ : SG), k + j = aC A → j < U1 → VR σ s T D A H → (∀ i, i < k → sI σ 1164 i = zI (al T D A i)) →
    ∃ τ, x_X12_liveValues_L4 U 1101 K v1 U1 (nI k) σ = K τ ∧ fP Pal σ τ ∧ VR τ s T D A H ∧ ∀ i, i < aC A → sI τ 1164 i = zI (al T D A i) := by
  intro j
  induction j with
  | zero =>
    intro k U1 σ hk hu h hal
    obtain ⟨V, rfl⟩ : ∃ V, U1 = V + 1 := ⟨U1 - 1, by omega⟩
    have hc := h.2.2.2.2.1
    rw [x_X12_liveValues_L4, hc.1, if_neg (fun q => by have := (ltI (by omega) (by omega)).mp q; omega)]
    exact ⟨σ, rfl, fP_refl _ _, h, fun i hi => hal i (by omega)⟩
  | succ j ih =>
    intro k U1 σ hk hu h hal
    obtain ⟨V, rfl⟩ : ∃ V, U1 = V + 1 := ⟨U1 - 1, by omega⟩
    have hc := h.2.2.2.2.1
    have hkc : k < aC A := by omega
    obtain ⟨n1, n2, n3, n4, n5⟩ := hc.2.2.2 k hkc
    rw [x_X12_liveValues_L4, hc.1, if_pos ((ltI (by omega) (by omega)).mpr hkc), ix_in (by omega) (by decide), n3]
    have step : ∀ (b : Bool), al T D A k = b → ∃ τ, x_X12_liveValues_65 U 1101 (x_X12_liveValues_L4 U 1101 K v1 V) K v1 (nI k) (zI b) (nI k) σ = K τ ∧ fP Pal σ τ ∧ VR τ s T D A H ∧ ∀ i, i < aC A → sI τ 1164 i = zI (al T D A i) := by
      intro b hb
      unfold x_X12_liveValues_65
      have nb : vp_nar .boolean (zI b) = zI b := by cases b <;> decide
      rw [ix_in (by omega) (by decide), nb, sb_eq, nI_1]
      have F : fP Pal σ (uI σ 1164 k (zI b)) := fP_u rfl
      obtain ⟨τ, t1, t2, t3, t4⟩ := ih (k + 1) V (uI σ 1164 k (zI b)) (by omega) (by omega) (VR_keep h (fun b' k' hb' => ⟨(F b' k' (by unfold Pal; omega)).1, (F b' k' (by unfold Pal; omega)).2.1⟩)) (fun i hi => by
        by_cases q : i = k
        · subst q; rw [sI_s, hb]
        · rw [sI_o (Or.inr q)]; exact hal i (by omega))
      exact ⟨τ, t1, fP_trans F t2, t3, t4⟩
    by_cases q0 : k = 0
    · subst q0
      rw [if_pos (show (if 0 = 0 then (-1 : Int32) else nI (zW H 0)) = -1 from rfl)]
      unfold x_X12_liveValues_60
      exact step true (by unfold al; exact decide_eq_true ((alL_mem _ _ hkc).mpr (Or.inl rfl)))
    · obtain ⟨r, d, r1, r2, r3, r4, r5⟩ := n5 q0
      have hil := (List.getElem?_eq_some_iff.mp r1).1
      have h7 := h.2.1.2.1
      obtain ⟨w1, w2⟩ := h.2.1.2.2 _ r r1
      rw [if_neg q0, if_neg (show ¬ nI (zW H k) = -1 from fun z => nI_neg (by omega : zW H k < 2 ^ 31) (by rw [z]; decide)), ix_in (by omega) (by decide), n3, if_neg q0, ix_in (by omega) (by decide), w2, ifz]
      have hal2 := al_row hg h hdp hkc q0 r1 r4 r5 ⟨d, r2, r3⟩
      unfold x_X12_liveValues_64 x_X12_liveValues_60
      cases hA : rA r with
      | false =>
        rw [if_neg (show ¬ false = true by decide)]
        exact step false (by rw [hal2, hA]; rfl)
      | true =>
        rw [if_pos (show true = true from rfl), ix_in (by omega) (by decide), n3, if_neg q0, ix_in (by omega) (by decide), w1.1, ix_in (by omega) (by decide), hal _ r5, ifz]
        cases hb : al T D A (rN r) with
        | false => rw [if_neg (show ¬ false = true by decide)]; exact step false (by rw [hal2, hA, hb]; rfl)
        | true => rw [if_pos (show true = true from rfl)]; exact step true (by rw [hal2, hA, hb]; rfl)
/-- the rows of what isn't reached go -/
def fnR (T : List Nat) (D : List Dc) (A : AV) (R : List Rg) : List Rg := R.map (fun r => if al T D A (rN r) then r else off r)
def Pr71 (b _ : Nat) : Prop := b = 1171
theorem N_rows_L {U s : Nat} {T : List Nat} {D : List Dc} {A : AV} {P : List Nat} {R : List Rg} (hc : aC A ≤ 351) (hR7 : R.length ≤ 700) (hRn : ∀ r ∈ R, rN r < aC A) : ∀ (j i v U1 : Nat) (σ : SG), i + j = R.length → v ≤ i → j < U1 → RT σ s T D P (fnR T D A (R.take i) ++ R.drop i) → (∀ i, i < aC A → sI σ 1164 i = zI (al T D A i)) →
    ∃ τ, x_X12_liveValues_L74 U 1101 U1 (nI v) (nI i) σ = some (nI (v + ((R.drop i).filter (fun r => rA r && al T D A (rN r))).length), τ) ∧ RT τ s T D P (fnR T D A R) ∧ fP Pr71 σ τ := by
  intro j
  induction j with
  | zero =>
    intro i v U1 σ hi hv hu hR hal
    obtain ⟨V, rfl⟩ : ∃ V, U1 = V + 1 := ⟨U1 - 1, by omega⟩
    have hl : (fnR T D A (R.take i) ++ R.drop i).length = R.length := by unfold fnR; rw [List.length_append, List.length_map, List.length_take, List.length_drop]; omega
    rw [x_X12_liveValues_L74, hR.1, hl, if_neg (fun q => by have := (ltI (by omega) (by omega)).mp q; omega), List.drop_eq_nil_of_le (by omega)]
    rw [List.drop_eq_nil_of_le (by omega), List.append_nil, List.take_of_length_le (by omega)] at hR
    exact ⟨σ, rfl, hR, fP_refl _ _⟩
  | succ j ih =>
    intro i v U1 σ hi hv hu hR hal
    obtain ⟨V, rfl⟩ : ∃ V, U1 = V + 1 := ⟨U1 - 1, by omega⟩
    have hl : (fnR T D A (R.take i) ++ R.drop i).length = R.length := by unfold fnR; rw [List.length_append, List.length_map, List.length_take, List.length_drop]; omega
    have hil : i < R.length := by omega
    have hti : (fnR T D A (R.take i)).length = i := by unfold fnR; rw [List.length_map, List.length_take]; omega
    have hdr : R.drop i = R[i] :: R.drop (i + 1) := List.drop_eq_getElem_cons hil
    have hri : (fnR T D A (R.take i) ++ R.drop i)[i]? = some R[i] := by
      rw [List.getElem?_append_right (by omega), hti, Nat.sub_self, hdr]; rfl
    obtain ⟨w1, w2⟩ := hR.2.2 i R[i] hri
    have hrn := hRn R[i] (List.getElem_mem hil)
    have htk : fnR T D A (R.take (i + 1)) ++ R.drop (i + 1) = (fnR T D A (R.take i)) ++ (if al T D A (rN R[i]) then R[i] else off R[i]) :: R.drop (i + 1) := by
      unfold fnR
      rw [List.take_succ_eq_append_getElem hil, List.map_append, List.append_assoc]
      rfl
    rw [x_X12_liveValues_L74, hR.1, hl, if_pos ((ltI (by omega) (by omega)).mpr hil), ix_in (by omega) (by decide), w1.1, ix_in (by omega) (by decide), hal _ hrn, ifz, hdr, List.filter_cons]
    unfold x_X12_liveValues_103 x_X12_liveValues_115
    cases ha : al T D A (rN R[i]) with
    | true =>
      rw [if_pos (show true = true from rfl), ix_in (by omega) (by decide), w2, ifz, nI_1, nI_1, Bool.and_true]
      rw [ha, if_pos (show true = true from rfl)] at htk
      have hR' : RT σ s T D P (fnR T D A (R.take (i + 1)) ++ R.drop (i + 1)) := by rw [htk, ← hdr]; exact hR
      cases hA : rA R[i] with
      | true =>
        rw [if_pos (show true = true from rfl), if_pos (show true = true from rfl)]
        obtain ⟨τ, t1, t2, t3⟩ := ih (i + 1) (v + 1) V σ (by omega) (by omega) (by omega) hR' hal
        refine ⟨τ, ?_, t2, t3⟩
        rw [t1, List.length_cons]
        congr 3
        omega
      | false =>
        rw [if_neg (show ¬ false = true by decide), if_neg (show ¬ false = true by decide)]
        exact ih (i + 1) v V σ (by omega) (by omega) (by omega) hR' hal
    | false =>
      rw [if_neg (show ¬ false = true by decide), ix_in (by omega) (by decide), nar0, sb_eq, ix_in (by omega) (by decide), sI_s, if_pos (show zI false = 0 from rfl), nI_1, Bool.and_false, if_neg (show ¬ false = true by decide)]
      rw [ha, if_neg (show ¬ false = true by decide)] at htk
      have F : fP Pr71 σ (uI σ 1171 i (zI false)) := fP_u rfl
      have hR' : RT (uI σ 1171 i (zI false)) s T D P (fnR T D A (R.take (i + 1)) ++ R.drop (i + 1)) := by
        rw [htk]
        refine ⟨?_, ?_, fun k r hk => ?_⟩
        · rw [sI_o (Or.inl (by decide)), hR.1, hl]
          congr 1
          rw [List.length_append, List.length_cons, hti, List.length_drop]
          omega
        · rw [List.length_append, List.length_cons, hti, List.length_drop]
          omega
        · by_cases q : k = i
          · subst q
            rw [List.getElem?_append_right (by omega), hti, Nat.sub_self] at hk
            have : off R[k] = r := Option.some.inj hk
            subst this
            exact ⟨RWs_sm (RWs_off w1) (fun b h1 h2 => ⟨(F b k (by unfold Pr71; omega)).1, (F b k (by unfold Pr71; omega)).2.1⟩), by rw [sI_s]; rfl⟩
          · have hk' : (fnR T D A (R.take i) ++ R.drop i)[k]? = some r := by
              rcases Nat.lt_or_gt_of_ne q with z | z
              · rw [List.getElem?_append_left (by omega)] at hk ⊢; exact hk
              · rw [List.getElem?_append_right (by omega), hti, show k - i = (k - i - 1) + 1 by omega, List.getElem?_cons_succ] at hk
                rw [List.getElem?_append_right (by omega), hti, hdr, show k - i = (k - i - 1) + 1 by omega, List.getElem?_cons_succ]
                exact hk
            obtain ⟨y1, y2⟩ := hR.2.2 k r hk'
            exact ⟨RWs_sm y1 (fun b h1 h2 => ⟨(F b k (by unfold Pr71; omega)).1, (F b k (by unfold Pr71; omega)).2.1⟩), by rw [sI_o (Or.inr q)]; exact y2⟩
      obtain ⟨τ, t1, t2, t3⟩ := ih (i + 1) v V _ (by omega) (by omega) (by omega) hR' (fun k hk => by rw [sI_o (Or.inl (by decide))]; exact hal k hk)
      exact ⟨τ, t1, t2, fP_trans F t3⟩
