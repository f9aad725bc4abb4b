/-! ===== the reference parses: what was told, numbers ===== -/
/-- one more row -/
theorem TLr_add {σ υ τ : SG} {s n f : Nat} {T : List Nat} {D : List Dc} {P P' : List Nat} {H H' : Rh} {d : Dc} {tl : Tl} (hs : s < 2) (hg : GSc T D) (hd : D[f]? = some d) (h2 : dK d = 2) (hn : n < 400) (hN : ∀ r ∈ zR H, rN r < 400) (hN' : ∀ r ∈ zR H', rN r < 400) (hR' : RT τ s T D P' (zR H')) (hl : (zR H).length < 700) (h82 : sI τ 1101 82 = nI ((zR H).length + 1)) (hRo : RTo υ s T D P (kR T D n f d (zR H))) (hNw : NwR υ (zR H).length n (fx D s f)) (hc : ∀ k, sI τ 1165 k = sI υ 1165 k ∧ sI τ 1166 k = sI υ 1166 k) (htl : TLr H tl) : TLr H' ((n, f) :: tl) := by
  have hlen : (zR H').length = (zR H).length + 1 := by
    have h1 := hR'.1
    have h2 := hR'.2.1
    rw [h82] at h1
    exact ((nI_eq (by omega) (by omega)).mp h1).symm
  -- a row's node and field are what its cells tell
  have key : ∀ i r', (zR H')[i]? = some r' → (i < (zR H).length → ∃ r, (zR H)[i]? = some r ∧ rN r' = rN r ∧ rF r' = rF r) ∧ (i = (zR H).length → rN r' = n ∧ rF r' = f) := by
    intro i r' hi
    obtain ⟨⟨w1, w2, _, _, x, w8, w9, _⟩, _⟩ := hR'.2.2 i r' hi
    have hr' := hN' r' (List.mem_of_getElem? hi)
    rw [(hc i).1] at w1
    rw [(hc i).2] at w2
    refine ⟨fun hil => ?_, fun hil => ?_⟩
    · have hik : i < (kR T D n f d (zR H)).length := by rw [kR_len]; exact hil
      obtain ⟨r, h3, h4, h5, _⟩ := kR_inv (List.getElem?_eq_getElem hik)
      obtain ⟨⟨y1, y2, _, _, z, y8, y9, _⟩, _⟩ := hRo.2 i _ (List.getElem?_eq_getElem hik)
      have hr := hN r (List.mem_of_getElem? h3)
      rw [y1] at w1
      rw [y2] at w2
      refine ⟨r, h3, ?_, ?_⟩
      · rw [← h4]
        rw [h4] at w1
        have := (nI_eq (by omega) (by omega)).mp w1
        omega
      · rw [← h5]
        exact ((fx_inj hg hs y8 y9 w8 w9).mp w2).symm
    · subst hil
      rw [hNw.1] at w1
      rw [hNw.2.1] at w2
      exact ⟨((nI_eq (by omega) (by omega)).mp w1).symm, ((fx_inj hg hs hd h2 w8 w9).mp w2).symm⟩
  intro m g
  rw [List.mem_cons]
  constructor
  · rintro (z | z)
    · obtain ⟨z1, z2⟩ := Prod.mk.inj z
      have hi : (zR H).length < (zR H').length := by omega
      have := (key _ _ (List.getElem?_eq_getElem hi)).2 rfl
      exact ⟨_, List.getElem_mem hi, this.1.trans z1.symm, this.2.trans z2.symm⟩
    · obtain ⟨r, hr, e1, e2⟩ := (htl m g).mp z
      obtain ⟨i, hi⟩ := List.getElem?_of_mem hr
      have hil := (List.getElem?_eq_some_iff.mp hi).1
      have hi' : i < (zR H').length := by omega
      obtain ⟨r2, y1, y2, y3⟩ := (key i _ (List.getElem?_eq_getElem hi')).1 hil
      rw [hi] at y1
      cases y1
      exact ⟨_, List.getElem_mem hi', y2.trans e1, y3.trans e2⟩
  · rintro ⟨r', hr', e1, e2⟩
    obtain ⟨i, hi⟩ := List.getElem?_of_mem hr'
    have hil := (List.getElem?_eq_some_iff.mp hi).1
    by_cases q : i < (zR H).length
    · obtain ⟨r, y1, y2, y3⟩ := (key i r' hi).1 q
      exact Or.inr ((htl m g).mpr ⟨r, List.mem_of_getElem? y1, y2.symm.trans e1, y3.symm.trans e2⟩)
    · obtain ⟨y1, y2⟩ := (key i r' hi).2 (by omega)
      left
      rw [← e1, ← e2, y1, y2]
theorem ix_inv {β : Type} {i : Int32} {n : Nat} {f : Nat → Option β} {y : β} (h : ix i n f = some y) : ∃ j, f j = some y := by
  unfold ix at h
  by_cases q : i < 0 ∨ n ≤ i.toNatClampNeg
  · rw [if_pos q] at h; cases h
  · rw [if_neg q] at h; exact ⟨_, h⟩
theorem b2_inv {α γ β : Type} {x : Option (α × γ)} {f : α → γ → Option β} {y : β} (h : b2 x f = some y) : ∃ a c, x = some (a, c) ∧ f a c = some y := by
  cases x with
  | none => cases h
  | some z => obtain ⟨a, c⟩ := z; exact ⟨a, c, rfl, h⟩
theorem if_inv {β : Type} {p : Prop} [Decidable p] {A B : Option β} {y : β} (h : (if p then A else B) = some y) : A = some y ∨ B = some y := by
  by_cases q : p
  · rw [if_pos q] at h; exact Or.inl h
  · rw [if_neg q] at h; exact Or.inr h
/-- the rows' nodes and fields stay -/
def kp3 (υ τ : SG) : Prop := sI τ 1101 82 = sI υ 1101 82 ∧ ∀ k, sI τ 1165 k = sI υ 1165 k ∧ sI τ 1166 k = sI υ 1166 k
theorem kp3_refl (υ : SG) : kp3 υ υ := ⟨rfl, fun _ => ⟨rfl, rfl⟩⟩
theorem kp3_L {υ ω : SG} {b j : Nat} {v : Int64} (h : kp3 υ ω) : kp3 υ (uL ω b j v) := h
theorem kp3_I {υ ω : SG} {b j : Nat} {v : Int32} (h : kp3 υ ω) (hb : b ≠ 1165 ∧ b ≠ 1166 ∧ (b = 1101 → j ≠ 82)) : kp3 υ (uI ω b j v) := ⟨(sI_o (by omega)).trans h.1, fun k => ⟨(sI_o (Or.inl (by omega))).trans (h.2 k).1, (sI_o (Or.inl (by omega))).trans (h.2 k).2⟩⟩
/-- the cells of nodes and fields after a number, a text, a message -/
theorem inv_num {U : Nat} {a b : Int32} {x : Int64} {σ τ : SG} (h : x_X12_putNumber U 1101 a b x σ = some τ) : ∃ v υ, x_X12_rowFor U 1101 a b σ = some (v, υ) ∧ kp3 υ τ := by
  unfold x_X12_putNumber at h
  obtain ⟨v, υ, hr, h⟩ := b2_inv h
  refine ⟨v, υ, hr, ?_⟩
  obtain ⟨j, h⟩ := ix_inv h
  rw [sb_eq] at h
  have k0 : kp3 υ (uL υ 1167 j x) := kp3_L (kp3_refl υ)
  rcases if_inv h with h | h
  · obtain ⟨j2, h⟩ := ix_inv h
    rcases if_inv h with h | h
    · obtain ⟨j3, h⟩ := ix_inv h
      rcases if_inv h with h | h
      · obtain ⟨j4, h⟩ := ix_inv h
        rw [sb_eq] at h
        cases h
        exact kp3_I k0 (by omega)
      · cases h; exact k0
    · cases h; exact k0
  · cases h; exact k0
theorem inv_txt {U : Nat} {a b x y : Int32} {σ τ : SG} (h : x_X12_putText_34 U 1101 a b x y σ = some τ) : ∃ v υ, x_X12_rowFor U 1101 a b σ = some (v, υ) ∧ kp3 υ τ := by
  unfold x_X12_putText_34 at h
  obtain ⟨v, υ, hr, h⟩ := b2_inv h
  refine ⟨v, υ, hr, ?_⟩
  obtain ⟨j, h⟩ := ix_inv h
  rw [sb_eq] at h
  obtain ⟨j', h⟩ := ix_inv h
  rw [sb_eq] at h
  have k0 : kp3 υ (uI (uI υ 1168 j x) 1169 j' y) := kp3_I (kp3_I (kp3_refl υ) (by omega)) (by omega)
  rcases if_inv h with h | h
  · obtain ⟨j2, h⟩ := ix_inv h
    rcases if_inv h with h | h
    · obtain ⟨j3, h⟩ := ix_inv h
      rcases if_inv h with h | h
      · obtain ⟨j4, h⟩ := ix_inv h
        rw [sb_eq] at h
        cases h
        exact kp3_I k0 (by omega)
      · cases h; exact k0
    · cases h; exact k0
  · cases h; exact k0
theorem inv_msg {U : Nat} {a b w : Int32} {σ τ : SG} (h : x_X12_putMessage U 1101 a b σ = some (w, τ)) : ∃ v υ, x_X12_rowFor U 1101 a b σ = some (v, υ) ∧ kp3 υ τ := by
  unfold x_X12_putMessage x_X12_putMessage_42 at h
  obtain ⟨v, υ, hr, h⟩ := b2_inv h
  refine ⟨v, υ, hr, ?_⟩
  obtain ⟨j, h⟩ := ix_inv h
  rcases if_inv h with h | h
  · obtain ⟨j2, h⟩ := ix_inv h
    obtain ⟨j3, h⟩ := ix_inv h
    obtain ⟨v2, ω, hn, h⟩ := b2_inv h
    have kω : kp3 υ ω := by
      unfold x_X12_addNode at hn
      rw [sb_eq] at hn
      obtain ⟨i1, hn⟩ := ix_inv hn
      rw [sb_eq] at hn
      obtain ⟨i2, hn⟩ := ix_inv hn
      rw [sb_eq] at hn
      obtain ⟨i3, hn⟩ := ix_inv hn
      rw [sb_eq] at hn
      rcases if_inv hn with hn | hn
      · rw [sb_eq] at hn
        cases hn
        exact kp3_I (kp3_I (kp3_I (kp3_I (kp3_I (kp3_refl υ) (by omega)) (by omega)) (by omega)) (by omega)) (by omega)
      · cases hn
        exact kp3_I (kp3_I (kp3_I (kp3_I (kp3_refl υ) (by omega)) (by omega)) (by omega)) (by omega)
    obtain ⟨j4, h⟩ := ix_inv h
    rw [sb_eq] at h
    obtain ⟨j5, h⟩ := ix_inv h
    cases h
    exact kp3_I kω (by omega)
  · obtain ⟨j2, h⟩ := ix_inv h
    cases h
    exact kp3_refl _
/-- no row of a field that was not told -/
theorem oldR_tk {T : List Nat} {D : List Dc} {H : Rh} {n f : Nat} {d : Dc} {tl : Tl} (htl : TLr H tl) (htk : tk D tl n f d = false) : oldR T D n f d (zR H) = none := by
  unfold oldR
  cases hR : dR d with
  | true => rfl
  | false =>
    rw [if_neg (show ¬ false = true by decide)]
    apply ff_no
    intro r hr
    cases hp : pRw n f r with
    | false => rfl
    | true =>
      exfalso
      obtain ⟨p1, p2⟩ := pRw_of hp
      have hk : r ∈ kR T D n f d (zR H) := by unfold kR; rw [hR]; exact hr
      obtain ⟨x, hx, e1, e2, _⟩ := kR_mem hk
      have : tk D tl n f d = true := tk_iff.mpr ⟨hR, f, (htl n f).mpr ⟨x, hx, e1.symm.trans p1, e2.symm.trans p2⟩, Or.inl rfl⟩
      rw [htk] at this
      cases this
/-- from the cells: the new told fields -/
theorem TLr_put {U s n f : Nat} {σ τ : SG} {T : List Nat} {D : List Dc} {A A' : AV} {H H' : Rh} {d : Dc} {tl : Tl} (hU4 : 4000 < U) (hs : s < 2) (hg : GSc T D) (hS : RS σ s T D) (hV : VR σ s T D A H) (hn : n < aC A) (hd : D[f]? = some d) (h2 : dK d = 2) (hl : (zR H).length < 700) (hV' : VR τ s T D A' H') (htl : TLr H tl) (htk : tk D tl n f d = false) (hi : ∃ v υ, x_X12_rowFor U 1101 (nI n) (nI (fx D s f)) σ = some (v, υ) ∧ kp3 υ τ) : TLr H' ((n, f) :: tl) := by
  have hn4 : n < 400 := by have := hV.2.2.2.2.1.2.2.1; omega
  obtain ⟨υ, u1, u2, u3, u4, u5⟩ := (N_rowFor hU4 hs hg hd h2 hn4 hV.n400 hS hV.2.1 hl).1 (oldR_tk htl htk)
  obtain ⟨v, υ', e1, e2, e3⟩ := hi
  rw [u1] at e1
  cases e1
  exact TLr_add (σ := σ) hs hg hd h2 hn4 hV.n400 hV'.n400 hV'.2.1 hl (e2.trans u3) u2 u4 e3 htl
/-! numbers -/
theorem lN_sInt {x : Nat} (h : x < 2 ^ 64) : (lN x).toInt = if x < 2 ^ 63 then (x : Int) else (x : Int) - 2 ^ 64 := by
  show (lN x).toBitVec.toInt = _
  rw [lN_bv, BitVec.toInt_ofNat']
  by_cases q : x < 2 ^ 63
  · rw [if_pos q, Int.bmod_eq_of_le (by omega) (by omega)]
  · rw [if_neg q]
    unfold Int.bmod
    simp only
    rw [Int.emod_eq_of_lt (by omega) (by omega)]
    split <;> omega
theorem N_above {a b : Nat} {σ : SG} (ha : a < 2 ^ 64) (hb : b < 2 ^ 64) : x_X12_above (lN a) (lN b) σ = some (zI (decide (b < a))) := by
  unfold x_X12_above x_X12_above_11 x_X12_above_22
  have hlt : lN b < lN a ↔ (lN b).toInt < (lN a).toInt := Int64.lt_iff_toInt_lt
  rw [ifd (lN_neg ha), ifd (lN_neg hb), ifd (lN_neg hb), ifd (lN_neg ha), if_pos (show (1 : Int32) = 1 from rfl), if_neg (show ¬ (1 : Int32) = 0 by decide), if_neg (show ¬ (0 : Int32) = 1 by decide), if_pos (show (0 : Int32) = 0 from rfl), ifd hlt, lN_sInt ha, lN_sInt hb]
  by_cases qa : 2 ^ 63 ≤ a
  · rw [if_pos qa, if_pos qa]
    by_cases qb : 2 ^ 63 ≤ b
    · rw [if_pos qb, if_neg (show ¬ b < 2 ^ 63 by omega), if_neg (show ¬ a < 2 ^ 63 by omega)]
      by_cases q : b < a
      · rw [if_pos (by omega), decide_eq_true q]; rfl
      · rw [if_neg (by omega), decide_eq_false q]; rfl
    · rw [if_neg qb, decide_eq_true (by omega)]; rfl
  · rw [if_neg qa, if_neg qa]
    by_cases qb : 2 ^ 63 ≤ b
    · rw [if_pos qb, decide_eq_false (by omega)]; rfl
    · rw [if_neg qb, if_pos (show b < 2 ^ 63 by omega), if_pos (show a < 2 ^ 63 by omega)]
      by_cases q : b < a
      · rw [if_pos (by omega), decide_eq_true q]; rfl
      · rw [if_neg (by omega), decide_eq_false q]; rfl
