/-! ===== check: the reference's questions ===== -/
theorem N_fresh {U u x : Nat} {σ : SG} {E' : List Nat} {E : List Dc} (hU : 4000 < U) (hh : GSc E' E) (h : RS σ 1 E' E) (hN : isM E u) (hx : x ≤ 536870911) : x_X12_freshNumbered U 1101 (nI (ordM E u)) (nI x) σ = some (fIx E 1 (fOf E u x)) := by
  have := N_freshNumbered (v := nI x) hU hh h hN
  rw [show nI (ordM E u) = nI (cnt (E.take u) 0) from rfl, this]
  congr 2
  unfold fOf
  apply find_congr
  intro i hi
  obtain ⟨e, he⟩ := (chF_mem hh hN).mp hi
  have hnu := hh.nu he.1 he.2.1
  exact decide_eq_decide.mpr (nI_eq (by omega) (by omega))
/-- a lower field that tears -/
def JP (D E : List Dc) (m u f g i : Nat) (d : Dc) : Prop := dS d = some m ∧ nmn D i < nmn D f ∧ dOo E g ≠ none ∧ trnP D E u f g i = true
theorem N_joined_L {U m u f g : Nat} {σ : SG} {T E' : List Nat} {D E : List Dc} {d e : Dc} (hU : 4000 < U) (hg : GSc T D) (hh : GSc E' E) (hS : RS σ 0 T D) (hS' : RS σ 1 E' E) (hM : isM D m) (hN : isM E u) (hd : isF D m f d) (he : isF E u g e) : ∀ (j q U1 : Nat), q + j = cnt D 2 → j < U1 → ((∃ i x, D[i]? = some x ∧ dK x = 2 ∧ q ≤ cnt (D.take i) 2 ∧ JP D E m u f g i x) → x_X12_joined_L3 U 1101 (nI (ordM D m)) (nI (ordM E u)) (nI (fx D 0 f)) (nI (fx E 1 g)) σ U1 (nI q) = some 1) ∧ ((¬ ∃ i x, D[i]? = some x ∧ dK x = 2 ∧ q ≤ cnt (D.take i) 2 ∧ JP D E m u f g i x) → x_X12_joined_L3 U 1101 (nI (ordM D m)) (nI (ordM E u)) (nI (fx D 0 f)) (nI (fx E 1 g)) σ U1 (nI q) = some 0) := by
  have hl := hg.2.1
  have hl' := hh.2.1
  obtain ⟨l0, l1, l2, l3, l4, l5⟩ := lim_of hS.1
  have hc : sI σ 1106 0 = nI (cnt D 2) := hS.2.1 2 (by decide)
  obtain ⟨f1, _, f3, _, _, _, _, f8⟩ := hS.f hd.1 hd.2.1
  obtain ⟨g1, _, g3, _, _, _, _, g8⟩ := hS'.f he.1 he.2.1
  have hfl : fx D 0 f < 60 := by omega
  have enone : oq D 4 (dO d) = -1 ↔ dO d = none := oq_inj (q := 4) (o := dO d) (o' := none) hl (hg.1.one hd.1 hd.2.1) (fun m hm => by cases hm)
  have enone' : oq E 4 (dO e) = -1 ↔ dO e = none := oq_inj (q := 4) (o := dO e) (o' := none) hl' (hh.1.one he.1 he.2.1) (fun m hm => by cases hm)
  have z0 : (0 : Int32) = nI 0 := rfl
  intro j
  induction j with
  | zero =>
    intro q U1 hq hu
    obtain ⟨V, rfl⟩ : ∃ V, U1 = V + 1 := ⟨U1 - 1, by omega⟩
    refine ⟨fun ⟨i, x, hx, h2, hqi, _⟩ => ?_, fun _ => ?_⟩
    · have := cnt_take_lt hx h2
      omega
    · rw [x_X12_joined_L3, z0, ix_in (by decide) (by decide), hc, if_neg (fun z => by have := (ltI (by omega) (by omega)).mp z; omega)]
  | succ j ih =>
    intro q U1 hq hu
    obtain ⟨V, rfl⟩ : ∃ V, U1 = V + 1 := ⟨U1 - 1, by omega⟩
    obtain ⟨i, x, hx, hk, hi⟩ := plc (D := D) (q := 2) q (by omega)
    have row := (hS.2.2 i x hx).2.2.1 hk
    rw [hi, Nat.mul_zero, Nat.zero_add] at row
    have hix : nmn D i = (dN x).2 := nmn_some hx
    have hfx : nmn D f = (dN d).2 := nmn_some hd.1
    have hbx := (hg.fld hx hk).2.2.1
    have hbd := (hg.fld hd.1 hd.2.1).2.2.1
    obtain ⟨ihy, ihn⟩ := ih (q + 1) V (by omega) (by omega)
    -- whether this field tears
    have stp : (JP D E m u f g i x → x_X12_joined_L3 U 1101 (nI (ordM D m)) (nI (ordM E u)) (nI (fx D 0 f)) (nI (fx E 1 g)) σ (V + 1) (nI q) = some 1) ∧ (¬ JP D E m u f g i x → x_X12_joined_L3 U 1101 (nI (ordM D m)) (nI (ordM E u)) (nI (fx D 0 f)) (nI (fx E 1 g)) σ (V + 1) (nI q) = x_X12_joined_L3 U 1101 (nI (ordM D m)) (nI (ordM E u)) (nI (fx D 0 f)) (nI (fx E 1 g)) σ V (nI (q + 1))) := by
      have hlt : nI (dN x).2 < nI (dN d).2 ↔ (dN x).2 < (dN d).2 := ltI (by omega) (by omega)
      have eo : oq D 4 (dO x) = oq D 4 (dO d) ↔ dO x = dO d := oq_inj (q := 4) hl (hg.1.one hx hk) (hg.1.one hd.1 hd.2.1)
      have ho : oq D 0 (dS x) = nI (ordM D m) ↔ dS x = some m := isM_oq hl hM (hg.1.scK hx)
      have hfr := N_fresh (U := U) (x := (dN x).2) hU hh hS' hN hbx
      have sk56 : x_X12_joined_56 U 1101 (x_X12_joined_L3 U 1101 (nI (ordM D m)) (nI (ordM E u)) (nI (fx D 0 f)) (nI (fx E 1 g)) σ V) (nI (ordM D m)) (nI (ordM E u)) (nI (fx D 0 f)) (nI (fx E 1 g)) (nI q) σ = x_X12_joined_L3 U 1101 (nI (ordM D m)) (nI (ordM E u)) (nI (fx D 0 f)) (nI (fx E 1 g)) σ V (nI (q + 1)) := by
        unfold x_X12_joined_56 x_X12_joined_57 x_X12_joined_89 x_X12_joined_90 x_X12_joined_133
        rw [ix_in (by omega) (by decide), if_pos (show (-1 : Int32) = -1 from rfl), if_pos (show (-1 : Int32) = -1 from rfl), nI_1, ix_in (by omega) (by decide), ix_in (by omega) (by decide), ite_self, ite_self]
      rw [x_X12_joined_L3, z0, ix_in (by decide) (by decide), hc, if_pos ((ltI (by omega) (by omega)).mpr (by omega)), ix_in (by omega) (by decide), row.1, ifd ho, ix_in (by omega) (by decide), ix_in (by omega) (by decide), row.2.2.1, f3, ifd hlt, ix_in (by omega) (by decide), row.2.2.1, hfr, b1_eq, sk56]
      unfold JP
      rw [hix, hfx]
      by_cases q1 : dS x = some m
      · rw [if_pos q1]
        by_cases q2 : (dN x).2 < (dN d).2
        · rw [if_pos q2]
          unfold x_X12_joined_57 x_X12_joined_89 x_X12_joined_90 x_X12_joined_133
          rw [ix_in (i := fx D 0 f) (by omega) (by decide), f8, ifd enone, ix_in (i := q) (by omega) (by decide), ix_in (i := fx D 0 f) (by omega) (by decide), row.2.2.2.2.2.2.2, f8, ifd eo, nI_1, ix_in (i := fx E 1 g) (by omega) (by decide), g8, ifd enone', if_pos (show (0 : Int32) = 0 from rfl), if_neg (show ¬ (1 : Int32) = 0 by decide)]
          unfold trnP
          rw [hix]
          cases hfo : fOf E u (dN x).2 with
          | none =>
            rw [if_pos (show fIx E 1 none = -1 from rfl), if_pos (show fIx E 1 none = -1 from rfl), ite_self, ite_self]
            exact ⟨fun z => (by have z4 := z.2.2.2; cases z4), fun _ => rfl⟩
          | some i' =>
            obtain ⟨y, hy⟩ := fOf_isF hh hN hfo
            obtain ⟨y1, _, _, _, _, _, _, y8⟩ := hS'.f hy.1 hy.2.1
            have hne : ¬ fIx E 1 (some i') = -1 := fun z => nI_neg (by omega : fx E 1 i' < 2 ^ 31) (by show nI (fx E 1 i') < 0; rw [show nI (fx E 1 i') = -1 from z]; decide)
            have eo' : oq E 4 (dO y) = oq E 4 (dO e) ↔ dO y = dO e := oq_inj (q := 4) hl' (hh.1.one hy.1 hy.2.1) (hh.1.one he.1 he.2.1)
            rw [if_neg hne, if_neg hne, show fIx E 1 (some i') = nI (fx E 1 i') from rfl, ix_in (show fx E 1 i' < 120 by omega) (by decide), ix_in (show fx E 1 g < 120 by omega) (by decide), y8, g8, ifd eo']
            simp only
            rw [dOo_some hy.1, dOo_some he.1, dOo_some hx, dOo_some hd.1]
            by_cases p1 : dO e = none
            · rw [if_pos p1, ite_self, ite_self]
              exact ⟨fun z => absurd p1 z.2.2.1, fun _ => rfl⟩
            rw [if_neg p1]
            by_cases p2 : dO y = dO e
            · rw [if_pos p2, decide_eq_true p2, Bool.true_and]
              by_cases p3 : dO d = none
              · rw [if_pos p3]
                refine ⟨fun _ => rfl, fun z => absurd ⟨q1, q2, p1, ?_⟩ z⟩
                by_cases p4 : dO x = none
                · rw [decide_eq_false (fun y => y p4)]; rfl
                · rw [decide_eq_false (show ¬ dO x = dO d from fun y => p4 (y.trans p3)), Bool.and_false]; rfl
              · rw [if_neg p3]
                by_cases p4 : dO x = dO d
                · rw [if_pos p4]
                  refine ⟨fun z => ?_, fun _ => rfl⟩
                  have := z.2.2.2
                  rw [decide_eq_true p4, decide_eq_true (show dO x ≠ none from fun y => p3 (p4.symm.trans y))] at this
                  cases this
                · rw [if_neg p4]
                  exact ⟨fun _ => rfl, fun z => absurd ⟨q1, q2, p1, by rw [decide_eq_false p4, Bool.and_false]; rfl⟩ z⟩
            · rw [if_neg p2, decide_eq_false p2, Bool.false_and, ite_self, ite_self]
              exact ⟨fun z => absurd z.2.2.2 (by decide), fun _ => rfl⟩
        · rw [if_neg q2]
          exact ⟨fun z => absurd z.2.1 q2, fun _ => rfl⟩
      · rw [if_neg q1]
        exact ⟨fun z => absurd z.1 q1, fun _ => rfl⟩
    by_cases hJ : JP D E m u f g i x
    · refine ⟨fun _ => stp.1 hJ, fun hno => absurd ⟨i, x, hx, hk, by omega, hJ⟩ hno⟩
    · rw [stp.2 hJ]
      refine ⟨fun ⟨i', x', hx', hk', hqi, hJ'⟩ => ihy ⟨i', x', hx', hk', ?_, hJ'⟩, fun hno => ihn (fun ⟨i', x', hx', hk', hqi, hJ'⟩ => hno ⟨i', x', hx', hk', by omega, hJ'⟩)⟩
      by_cases z : cnt (D.take i') 2 = q
      · have := ord_inj hx' hk' hx hk (by omega)
        subst this
        rw [hx] at hx'
        cases hx'
        exact absurd hJ' hJ
      · omega
theorem N_joined {U m u f g : Nat} {σ : SG} {T E' : List Nat} {D E : List Dc} {d e : Dc} (hU : 4000 < U) (hg : GSc T D) (hh : GSc E' E) (hS : RS σ 0 T D) (hS' : RS σ 1 E' E) (hM : isM D m) (hN : isM E u) (hd : isF D m f d) (he : isF E u g e) : x_X12_joined U 1101 (nI (ordM D m)) (nI (ordM E u)) (nI (fx D 0 f)) (nI (fx E 1 g)) σ = some (zI (trn D E m u f g)) := by
  obtain ⟨l0, l1, l2, l3, l4, l5⟩ := lim_of hS.1
  obtain ⟨k1, k2⟩ := N_joined_L (U := U) hU hg hh hS hS' hM hN hd he (cnt D 2) 0 U (by omega) (by omega)
  have hz : x_X12_joined U 1101 (nI (ordM D m)) (nI (ordM E u)) (nI (fx D 0 f)) (nI (fx E 1 g)) σ = x_X12_joined_L3 U 1101 (nI (ordM D m)) (nI (ordM E u)) (nI (fx D 0 f)) (nI (fx E 1 g)) σ U (nI 0) := rfl
  rw [hz]
  have iff : trn D E m u f g = true ↔ ∃ i x, D[i]? = some x ∧ dK x = 2 ∧ 0 ≤ cnt (D.take i) 2 ∧ JP D E m u f g i x := by
    unfold trn
    rw [Bool.and_eq_true, List.any_eq_true, decide_eq_true_iff]
    constructor
    · rintro ⟨h1, h, hm, h2⟩
      rw [Bool.and_eq_true, decide_eq_true_iff] at h2
      obtain ⟨x, hx⟩ := (chF_mem hg hM).mp hm
      exact ⟨h, x, hx.1, hx.2.1, Nat.zero_le _, hx.2.2, h2.1, h1, h2.2⟩
    · rintro ⟨i, x, hx, hk, _, j1, j2, j3, j4⟩
      refine ⟨j3, i, (chF_mem hg hM).mpr ⟨x, hx, hk, j1⟩, ?_⟩
      rw [Bool.and_eq_true, decide_eq_true_iff]
      exact ⟨j2, j4⟩
  cases ht : trn D E m u f g with
  | true => exact k1 (iff.mp ht)
  | false => exact k2 (fun z => by rw [iff.mpr z] at ht; cases ht)
