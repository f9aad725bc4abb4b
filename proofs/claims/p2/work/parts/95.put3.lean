/-! ===== the class's value: putting, the whole of it ===== -/
theorem VG_new {σ τ : SG} {c n k : Nat} {T : List Nat} {D : List Dc} {G G' : Gh} {o : Option Nat} (hg : GSc T D) (h : VG σ c T D G) (hn : n < gC G) (hu : gU G < 700) (ho : ∀ f, o = some f → ∃ d, isF D (gN G n) f d) (hr : ruE D o (gL G n) = none)
    (u1 : gU G' = gU G + 1) (u2 : gP G' = gP G) (u3 : gC G' = gC G ∨ gC G' = gC G + 1) (u4 : ∀ m, m < gC G → gN G' m = gN G m ∧ gH G' m = gH G m) (u5 : ∀ m, m < gC G → m ≠ n → gL G' m = gL G m) (u6 : gL G' n = insE D (391 + gU G, o, k, 0, []) (gL G n)) (u7 : gC G < gC G' → gH G' (gC G) = 391 + gU G ∧ gL G' (gC G) = [] ∧ isM D (gN G' (gC G)))
    (u8 : o = none → gC G' = gC G) (u9 : ∀ f d, o = some f → D[f]? = some d → (fty T D d ≠ 13 → gC G' = gC G) ∧ (fty T D d = 13 → gC G < gC G' ∧ k = gC G ∧ ftg T D d = some (gN G' k)))
    (t1 : LN τ (insE D (391 + gU G, o, k, 0, []) (gL G n)) (sP τ (gH G n) 2)) (t2 : sP τ (gH G n) 3 = some (391 + gU G)) (t3 : sP τ (391 + gU G) 0 = ad c o) (t4 : sP τ (391 + gU G) 2 = none) (t5 : sP τ (391 + gU G) 3 = none) (t6 : sL τ (391 + gU G) 4 = 0) (t7 : sI τ (391 + gU G) 5 = 0) (t8 : sI τ (391 + gU G) 6 = 0) (t9 : sI τ 389 3 = nI (gU G + 1)) (hf : fP (fun b k => (b = 389 ∧ k = 3) ∨ b = 391 + gU G ∨ (b = gH G n ∧ (k = 2 ∨ k = 3)) ∨ (k = 1 ∧ ∃ e ∈ gL G n, b = eA e)) σ τ) : VG τ c T D G' := by
  have hh := h.h hn
  have H := h
  obtain ⟨g1, g2, g3, g4, g5, g6, g7, g8, g9, g10⟩ := h
  have ea : ∀ m, m < gC G → ∀ e ∈ gL G m, 391 ≤ eA e ∧ eA e < 391 + gU G := fun m hm e he => ⟨(H.e hm he).1, (H.e hm he).2.1⟩
  have hfr : ∀ m, m < gC G → gH G m ≠ 391 + gU G := fun m hm => by rcases (H.h hm).2.2 with z | z <;> omega
  have C1 : ∀ m, m < gC G' → m < gC G ∨ (m = gC G ∧ gC G < gC G') := fun m hm => by omega
  have out : ∀ b k, (b < 389 ∨ b = 390 ∨ 1092 ≤ b) → ¬ ((b = 389 ∧ k = 3) ∨ b = 391 + gU G ∨ (b = gH G n ∧ (k = 2 ∨ k = 3)) ∨ (k = 1 ∧ ∃ e ∈ gL G n, b = eA e)) := fun b k hb z => by
    rcases z with z | z | z | ⟨_, e, he, z⟩
    · omega
    · omega
    · omega
    · have := ea n hn e he; omega
  -- the new entry has a node of its own
  have newH : (fty T D = fty T D) → True := fun _ => trivial
  refine ⟨by rw [u1]; exact t9, by omega, ?_, by omega, ?_, fun m hm h0 => ?_, fun m m' hm hm' he => ?_, fun m hm => ?_, fun m m' hm hm' hne e he e' he' => ?_, fun m hm => ?_⟩
  · rw [u2]; exact g3.sm (fun k => hf 1092 k (out _ _ (by omega))) (fun k => hf 1093 k (out _ _ (by omega)))
  · rw [(u4 0 g4).2]; exact g5
  · rw [u1]
    rcases C1 m hm with z | ⟨z, z2⟩
    · rw [(u4 m z).2]; have := g6 m z h0; omega
    · rw [z, (u7 z2).1]; omega
  · rcases C1 m hm with z | ⟨z, z2⟩ <;> rcases C1 m' hm' with y | ⟨y, y2⟩
    · rw [(u4 m z).2, (u4 m' y).2] at he; exact g7 m m' z y he
    · rw [(u4 m z).2, y, (u7 y2).1] at he; exact absurd he (hfr m z)
    · rw [(u4 m' y).2, z, (u7 z2).1] at he; exact absurd he.symm (hfr m' y)
    · omega
  · rcases C1 m hm with z | ⟨z, z2⟩
    · rw [(u4 m z).1]; exact g8 m z
    · rw [z]; exact (u7 z2).2.2
  · have ent : ∀ j x, j < gC G' → x ∈ gL G' j → (j < gC G ∧ x ∈ gL G j) ∨ (j = n ∧ eA x = 391 + gU G) := fun j x hj hx => by
      rcases C1 j hj with z | ⟨z, z2⟩
      · by_cases q : j = n
        · subst q
          rw [u6] at hx
          rcases mem_insE.mp hx with y | y
          · exact Or.inr ⟨rfl, by rw [y]; rfl⟩
          · exact Or.inl ⟨z, y⟩
        · rw [u5 j z q] at hx; exact Or.inl ⟨z, hx⟩
      · rw [z, (u7 z2).2.1] at hx; cases hx
    rcases ent m e hm he with ⟨z, z1⟩ | ⟨z, z1⟩ <;> rcases ent m' e' hm' he' with ⟨y, y1⟩ | ⟨y, y1⟩
    · exact g9 m m' z y hne e z1 e' y1
    · rw [y1]; have := ea m z e z1; omega
    · rw [z1]; have := ea m' y e' y1; omega
    · omega
  · -- what was true of an old entry
    have keepE : ∀ j, j < gC G → ∀ e ∈ gL G j, EO σ c T D G j e → EO τ c T D G' j e := by
      intro j hj e he hE
      have hae := ea j hj e he
      have cell : ∀ k, k ≠ 1 → k ≠ 2 → k ≠ 3 → sI τ (eA e) k = sI σ (eA e) k ∧ sL τ (eA e) k = sL σ (eA e) k ∧ sP τ (eA e) k = sP σ (eA e) k := fun k h1 h2 h3 => hf _ _ (by rintro (z | z | z | z) <;> omega)
      have c2 : (∀ n', n' < gC G → gH G n' ≠ eA e) → sP τ (eA e) 2 = sP σ (eA e) 2 := fun z => (hf _ _ (by
        rintro (y | y | y | y)
        · omega
        · omega
        · exact z n hn y.1.symm
        · omega)).2.2
      have hH : (∀ n', n' < gC G → gH G n' ≠ eA e) → ∀ n', n' < gC G' → gH G' n' ≠ eA e := fun z n' hn' => by
        rcases C1 n' hn' with y | ⟨y, y2⟩
        · rw [(u4 n' y).2]; exact z n' y
        · rw [y, (u7 y2).1]; omega
      obtain ⟨b1', b2', b3, b4, b5, b6, b7⟩ := hE
      refine ⟨b1', by omega, ((cell 0 (by decide) (by decide) (by decide)).2.2).trans b3, ((cell 4 (by decide) (by decide) (by decide)).2.1).trans b4, ?_, fun z => ⟨(c2 (b6 z).2).trans (b6 z).1, hH (b6 z).2⟩, fun f hf' => ?_⟩
      · obtain ⟨a, b, x1, x2, x3⟩ := b5
        rw [u2]
        exact ⟨a, b, ((cell 5 (by decide) (by decide) (by decide)).1).trans x1, ((cell 6 (by decide) (by decide) (by decide)).1).trans x2, x3⟩
      · obtain ⟨d, x1, x2, x3⟩ := b7 f hf'
        refine ⟨d, by rw [(u4 j hj).1]; exact x1, fun z => ⟨(c2 (x2 z).2).trans (x2 z).1, hH (x2 z).2⟩, fun z => ?_⟩
        obtain ⟨y1, y2, y3, y4⟩ := x3 z
        exact ⟨y1, by omega, by rw [(u4 _ y2).2]; exact y3, by rw [(u4 _ y2).1]; exact y4⟩
    rcases C1 m hm with z | ⟨z, z2⟩
    · have hv := g10 m z
      by_cases q : m = n
      · subst q
        obtain ⟨a1, a2, a3, a4, a5, a6⟩ := hv
        unfold VN
        rw [u6, (u4 m z).2]
        have oL : ∀ x ∈ gL G m, ∀ g, eF x = some g → ∃ y, isF D (gN G m) g y := fun x hx g hgx => by
          obtain ⟨y, y1, _⟩ := (a6 x hx).2.2.2.2.2.2 g hgx
          exact ⟨y, y1⟩
        have hH : gC G' = gC G → ∀ n', n' < gC G' → gH G' n' ≠ 391 + gU G := fun y n' hn' => by
          rw [(u4 n' (by omega)).2]; exact hfr n' (by omega)
        have l1 : 391 + gU G < 391 + gU G' := by omega
        have kf : ∀ f, o = some f → ∃ d, isF D (gN G' m) f d ∧ (fty T D d ≠ 13 → sP τ (391 + gU G) 2 = none ∧ ∀ n', n' < gC G' → gH G' n' ≠ 391 + gU G) ∧ (fty T D d = 13 → m < k ∧ k < gC G' ∧ gH G' k = 391 + gU G ∧ ftg T D d = some (gN G' k)) := by
          intro f hf'
          obtain ⟨d, hd⟩ := ho f hf'
          obtain ⟨w1, w2⟩ := u9 f d hf' hd.1
          refine ⟨d, by rw [(u4 m z).1]; exact hd, fun y => ⟨t4, hH (w1 y)⟩, fun y => ?_⟩
          obtain ⟨v1, v2, v3⟩ := w2 y
          exact ⟨by omega, by omega, by rw [v2]; exact (u7 v1).1, v3⟩
        have keyE : EO τ c T D G' m (391 + gU G, o, k, 0, []) := ⟨Nat.le_add_right _ _, l1, t3, t6, ⟨0, 0, t7, t8, Nat.le_refl _, Nat.zero_le _, rfl⟩, fun y => ⟨t4, hH (u8 y)⟩, kf⟩
        refine ⟨t1, Or.inr ⟨(391 + gU G, o, k, 0, []), mem_insE.mpr (Or.inl rfl), t2⟩, insE_srE a3, insE_nd a4 (fun x hx => by have := ea m z x hx; show eA x ≠ 391 + gU G; omega), insE_unE hg a3 a5 oL ho hr, fun e he => ?_⟩
        rcases mem_insE.mp he with y | y
        · rw [y]; exact keyE
        · exact keepE m z e y (a6 e y)
      · have hhm : gH G m ≠ gH G n := fun y => q (g7 m n z hn y)
        have nin : ∀ k, k = 2 ∨ k = 3 → ¬ ((gH G m = 389 ∧ k = 3) ∨ gH G m = 391 + gU G ∨ (gH G m = gH G n ∧ (k = 2 ∨ k = 3)) ∨ (k = 1 ∧ ∃ e ∈ gL G n, gH G m = eA e)) := fun k hk y => by
          have h1 := (H.h z).1
          have h2 := hfr m z
          rcases y with y | y | y | ⟨y, _⟩ <;> omega
        obtain ⟨a1, a2, a3, a4, a5, a6⟩ := hv
        unfold VN
        rw [u5 m z q, (u4 m z).2]
        refine ⟨?_, ?_, a3, a4, a5, fun e he => keepE m z e he (a6 e he)⟩
        · rw [(hf _ 2 (nin 2 (Or.inl rfl))).2.2]
          refine LN_keep _ _ a1 (fun e he => (hf _ 1 ?_).2.2)
          have := ea m z e he
          rintro (y | y | y | ⟨_, x, hx, y⟩)
          · omega
          · omega
          · omega
          · exact g9 m n z hn q e he x hx y
        · rw [(hf _ 3 (nin 3 (Or.inr rfl))).2.2]; exact a2
    · subst z
      obtain ⟨v1, v2, v3⟩ := u7 z2
      unfold VN
      rw [v1, v2]
      exact ⟨t4, Or.inl t5, List.Pairwise.nil, List.nodup_nil, List.Pairwise.nil, fun e he => by cases he⟩
/-- a named type is found, and is what its kind says -/
theorem ftg_msg {T : List Nat} {D : List Dc} (hg : GSc T D) {i : Nat} {d : Dc} (hd : D[i]? = some d) (h2 : dK d = 2) : (fty T D d = 13 → ∃ t, ftg T D d = some t ∧ isM D t) ∧ (fty T D d = 14 → ∃ t x, ftg T D d = some t ∧ D[t]? = some x ∧ dK x = 1) ∧ (fty T D d < 13 → ftg T D d = none) := by
  have hok := (hg.all.2.2 i d hd h2).1
  have hT := (hg.fld hd h2).2.2.2.1
  unfold okT at hok
  unfold fty ftg dTy dTg
  by_cases hn : nmd d = true
  · rw [hn] at hok
    cases er : rsl (lkC T D) T (wl T 701 0) D d with
    | none => rw [er] at hok; cases hok
    | some t =>
      have hk : ∃ x, D[t]? = some x ∧ dK x ≤ 1 := by
        rw [← lkR_eq hg.all.1] at er
        unfold rsl at er
        refine rsN_k _ _ _ (fun j hj => ?_) t er
        split at hj
        · obtain ⟨x, a1, a2, _⟩ := lkR_k hj; exact ⟨x, a1, a2⟩
        · exact rsU_k _ _ _ hj
      obtain ⟨x, hx, hx1⟩ := hk
      rw [hn]
      simp only [if_true]
      rw [knd_some hx]
      by_cases q : dK x = 0
      · rw [if_pos q]
        exact ⟨fun _ => ⟨t, rfl, x, hx, q⟩, fun z => (by omega), fun z => (by omega)⟩
      · rw [if_neg q]
        exact ⟨fun z => (by omega), fun _ => ⟨t, x, rfl, hx, by omega⟩, fun z => (by omega)⟩
  · have hn' := Bool.eq_false_iff.mpr hn
    rw [hn']
    simp only [Bool.false_eq_true, if_false]
    refine ⟨fun z => ?_, fun z => ?_, fun _ => trivial⟩
    · exact absurd (decide_eq_true ⟨h2, z⟩) hn
    · omega
/-- which message a field opens -/
def mtO (T : List Nat) (D : List Dc) (o : Option Nat) : Option Nat := match o with
  | none => none
  | some f => match D[f]? with
    | none => none
    | some d => if fty T D d = 13 then ftg T D d else none
/-- a chain without the rivals of a field -/
def drG (D : List Dc) (o : Option Nat) (L : List Eg) : List Eg := match o with
  | none => L
  | some f => match D[f]? with
    | none => L
    | some d => if dO d = none then L else L.filter (fun e => !riv D f d e)
theorem gSet_self (G : Gh) (n : Nat) : gSet G n (gL G n) = G := by
  obtain ⟨a, b, l, c, u, p⟩ := G
  unfold gSet gL gN gH gC gU gP
  simp only
  have : up l n (l n) = l := by
    funext t
    unfold up
    by_cases q : t = n
    · rw [if_pos q, q]
    · rw [if_neg q]
  rw [this]
/-- the class puts one more value of a field, or unknown bytes -/
theorem X8_put {U c n : Nat} {σ : SG} {T : List Nat} {D : List Dc} {G : Gh} {o : Option Nat} (hU : 4000 < U) (hcb : cb c) (hg : GSc T D) (hC : CS σ c T D) (h : VG σ c T D G) (hn : n < gC G) (hu : gU G < 700) (ho : ∀ f, o = some f → ∃ d, isF D (gN G n) f d) :
    ∃ a τ, x_X8_put U 389 (some (gH G n)) (ad c o) σ = some (some a, τ) ∧ fV σ τ ∧ CS τ c T D ∧ (∀ b, ruE D o (drG D o (gL G n)) = some b → a = eA b ∧ VG τ c T D (gSet G n (drG D o (gL G n)))) ∧ (ruE D o (drG D o (gL G n)) = none → a = 391 + gU G ∧ VG τ c T D (gNew D (gSet G n (drG D o (gL G n))) n o (mtO T D o))) := by
  have hl := hg.2.1
  -- from a chain without rivals
  have core : ∀ (υ : SG) (L : List Eg), fV σ υ → CS υ c T D → VG υ c T D (gSet G n L) → drG D o (gL G n) = L → ∃ a τ, x_X8_put_17 U 389 (some (gH G n)) (ad c o) υ = some (some a, τ) ∧ fV σ τ ∧ CS τ c T D ∧ (∀ b, ruE D o L = some b → a = eA b ∧ VG τ c T D (gSet G n L)) ∧ (ruE D o L = none → a = 391 + gU G ∧ VG τ c T D (gNew D (gSet G n L) n o (mtO T D o))) := by
    intro υ L fυ cυ vυ _
    have gLn : gL (gSet G n L) n = L := up_s _ _ _
    have hv := vυ.2.2.2.2.2.2.2.2.2 n hn
    unfold VN at hv
    rw [gLn] at hv
    have hh := vυ.h hn
    have hlen := vυ.len hn
    rw [gLn] at hlen
    have ef : ∀ e ∈ L, EF υ c D e := fun e he => vυ.ef hn (by rw [gLn]; exact he)
    have hok : ∀ f, o = some f → ∃ d, D[f]? = some d ∧ dK d = 2 := fun f hf => by obtain ⟨d, hd⟩ := ho f hf; exact ⟨d, hd.1, hd.2.1⟩
    have hlast : x_X8_lastUpTo U 389 (some (gH G n)) (lN (key D o)) υ = some (prN none (twE D o L)) := X8_lastUpTo (h := gH G n) (v := key D o) (L := L) hU hcb hg cυ (key_lt hg hok) hh.1 hh.2.1 hv.1 ef (by omega) hv.2.2.1 hv.2.1
    unfold x_X8_put_17
    have hk := C_key (o := o) (K := fun s => x_X8_put_33 U 389 (some (gH G n)) (ad c o) s (some (gH G n)) υ) hcb hg cυ hok
    rw [hk]
    unfold x_X8_put_33
    rw [hlast, b1_eq]
    -- a new node
    have new : ruE D o L = none → ∃ a τ, x_X8_put_62 U 389 (some (gH G n)) (ad c o) (prN none (twE D o L)) υ = some (some a, τ) ∧ fV σ τ ∧ CS τ c T D ∧ (∀ b, ruE D o L = some b → a = eA b ∧ VG τ c T D (gSet G n L)) ∧ (ruE D o L = none → a = 391 + gU G ∧ VG τ c T D (gNew D (gSet G n L) n o (mtO T D o))) := by
      intro hr
      obtain ⟨τ, t0, t1, t2, t3, t4, t5, t6, t7, t8, t9, tf⟩ := X8_put_62 (U := U) (o := o) vυ hn hu (match mtO T D o with | none => 0 | some _ => gC G)
      rw [gLn] at t0 t1
      have fτ : fV υ τ := fV_P tf (fun b k z => by
        have hgu : gU (gSet G n L) = gU G := rfl
        rcases z with z | z | z | ⟨_, e, he, z⟩
        · exact Or.inr z
        · exact Or.inl (by omega)
        · have h1 := hh.1; have h2 := hh.2.1; exact Or.inl (by omega)
        · rw [gLn] at he; have hx := ef e he; have h1 := hx.1; have h2 := hx.2.1; exact Or.inl (by omega))
      · refine ⟨391 + gU G, τ, t0, fV_trans fυ fτ, CS_fV cυ hcb fτ, fun b hb => (by rw [hr] at hb; cases hb), fun _ => ⟨rfl, ?_⟩⟩
        have ho' : ∀ f, o = some f → ∃ d, isF D (gN (gSet G n L) n) f d := ho
        cases hm : mtO T D o with
        | none =>
          rw [hm] at t1
          refine VG_new (n := n) (k := 0) (o := o) hg vυ hn hu ho' (by rw [gLn]; exact hr) rfl rfl (Or.inl rfl) (fun m _ => ⟨rfl, rfl⟩) (fun m _ hmn => up_o hmn) ?_ (fun z => absurd z (Nat.lt_irrefl _)) (fun _ => rfl) (fun f d hf hd => ⟨fun _ => rfl, fun z => ?_⟩) (by rw [gLn]; exact t1) t2 t3 t4 t5 t6 t7 t8 t9 tf
          · show up (gL (gSet G n L)) n _ n = _
            rw [up_s]
          · exfalso
            obtain ⟨x, hx⟩ := ho f hf
            have := hx.1
            rw [hd] at this
            cases this
            obtain ⟨t, ht, _⟩ := (ftg_msg hg hd hx.2.1).1 z
            unfold mtO at hm
            rw [hf] at hm
            simp only at hm
            rw [hd] at hm
            simp only at hm
            rw [if_pos z, ht] at hm
            cases hm
        | some t =>
          rw [hm] at t1
          -- the field opens a message
          obtain ⟨f, hf⟩ : ∃ f, o = some f := by
            cases o with
            | none => cases hm
            | some f => exact ⟨f, rfl⟩
          obtain ⟨x, hx⟩ := ho f hf
          have hm' := hm
          unfold mtO at hm'
          rw [hf] at hm'
          simp only at hm'
          rw [hx.1] at hm'
          simp only at hm'
          by_cases q : fty T D x = 13
          · rw [if_pos q] at hm'
            obtain ⟨t', ht', hMt⟩ := (ftg_msg hg hx.1 hx.2.1).1 q
            rw [hm'] at ht'
            cases ht'
            refine VG_new (n := n) (k := gC G) (o := o) hg vυ hn hu ho' (by rw [gLn]; exact hr) rfl rfl (Or.inr rfl) (fun m hmC => ⟨up_o (Nat.ne_of_lt hmC), up_o (Nat.ne_of_lt hmC)⟩) (fun m hmC hmn => (up_o (Nat.ne_of_lt hmC)).trans (up_o hmn)) ?_ (fun _ => ⟨up_s _ _ _, up_s _ _ _, ?_⟩) (fun z => (by rw [hf] at z; cases z)) (fun f' d hf' hd => ⟨fun z => ?_, fun z => ⟨Nat.lt_succ_self _, rfl, ?_⟩⟩) (by rw [gLn]; exact t1) t2 t3 t4 t5 t6 t7 t8 t9 tf
            · show up (up (gL (gSet G n L)) n _) (gC G) [] n = _
              rw [up_o (Nat.ne_of_lt hn), up_s]
              rfl
            · show isM D (up (gN G) (gC G) t (gC G))
              rw [up_s]; exact hMt
            · rw [hf] at hf'
              cases hf'
              rw [hx.1] at hd
              cases hd
              exact absurd q z
            · rw [hf] at hf'
              cases hf'
              rw [hx.1] at hd
              cases hd
              show ftg T D x = some (up (gN G) (gC G) t (gC G))
              rw [up_s]; exact hm'
          · rw [if_neg q] at hm'; cases hm'
    have same : ruE D o L = none → (if prN none (twE D o L) = none then x_X8_put_62 U 389 (some (gH G n)) (ad c o) (prN none (twE D o L)) υ else if ad c o = none then x_X8_put_62 U 389 (some (gH G n)) (ad c o) (prN none (twE D o L)) υ else ck 4 (prN none (twE D o L)) fun q35 => if sP υ q35 0 = ad c o then (ck 3 (ad c o) fun q39 => if sI υ q39 11 = 0 then some (prN none (twE D o L), υ) else x_X8_put_62 U 389 (some (gH G n)) (ad c o) (prN none (twE D o L)) υ) else x_X8_put_62 U 389 (some (gH G n)) (ad c o) (prN none (twE D o L)) υ) = x_X8_put_62 U 389 (some (gH G n)) (ad c o) (prN none (twE D o L)) υ := by
      intro hr
      rcases listE_last (L := twE D o L) with hA | ⟨A, b, hA⟩
      · rw [hA, if_pos (show prN none [] = none from rfl)]
      · have hbL : b ∈ L := by rw [← tdE D o L, hA]; simp
        obtain ⟨x1, x2, x3, x4⟩ := ef b hbL
        rw [hA, prN_last, if_neg (by intro z; cases z)]
        cases ho' : o with
        | none => rw [if_pos (show ad c none = none from rfl)]
        | some f =>
          obtain ⟨d, hd⟩ := ho f ho'
          have hfl := (List.getElem?_eq_some_iff.mp hd.1).1
          rw [if_neg (by intro z; cases z), ck_eq (nd_sh x1 (by omega)), x3, ifd ad_inj]
          by_cases q : eF b = some f
          · rw [if_pos q, ad_some, ck_eq (it_sh hcb (by omega)), (cυ.it hd.1).1.2.2.2.2.2.2.2.2.1]
            cases hR : dR d with
            | true => rw [if_neg (by decide)]
            | false =>
              exfalso
              unfold ruE at hr
              rw [ho'] at hr hA
              rw [show (twE D (some f) L).getLast? = some b by rw [hA]; simp] at hr
              simp only at hr
              rw [if_pos ⟨q, fun d' hd' => by rw [hd.1] at hd'; cases hd'; exact hR⟩] at hr
              cases hr
          · rw [if_neg q]
    cases hr : ruE D o L with
    | none =>
      obtain ⟨a, τ, r1, r2, r3, r4, r5⟩ := new hr
      refine ⟨a, τ, ?_, r2, r3, fun b hb => (by cases hb), fun _ => r5 hr⟩
      rw [← r1]
      exact same hr
    | some b =>
      have hr' := hr
      unfold ruE at hr'
      cases ho' : o with
      | none => rw [ho'] at hr'; cases hr'
      | some f =>
        rw [ho'] at hr'
        cases hbl : (twE D (some f) L).getLast? with
        | none => rw [hbl] at hr'; cases hr'
        | some b' =>
          rw [hbl] at hr'
          simp only at hr'
          by_cases q : eF b' = some f ∧ (∀ d, D[f]? = some d → dR d = false)
          · rw [if_pos q] at hr'
            cases hr'
            obtain ⟨d, hd⟩ := ho f ho'
            have hfl := (List.getElem?_eq_some_iff.mp hd.1).1
            obtain ⟨A, hA⟩ := List.getLast?_eq_some_iff.mp hbl
            have hbL : b ∈ L := by rw [← tdE D (some f) L, hA]; simp
            obtain ⟨x1, x2, x3, x4⟩ := ef b hbL
            refine ⟨eA b, υ, ?_, fυ, cυ, fun b'' hb'' => (by cases hb''; exact ⟨rfl, vυ⟩), fun z => (by cases z)⟩
            show (if prN none (twE D (some f) L) = none then _ else _) = _
            rw [hA, prN_last, if_neg (by intro z; cases z), if_neg (by intro z; cases z), ck_eq (nd_sh x1 (by omega)), x3, q.1, if_pos rfl, ad_some, ck_eq (it_sh hcb (by omega)), (cυ.it hd.1).1.2.2.2.2.2.2.2.2.1, q.2 d hd.1, if_pos (show zI false = 0 from rfl)]
          · rw [if_neg q] at hr'; cases hr'
  unfold x_X8_put
  cases ho' : o with
  | none =>
    rw [if_pos (show ad c none = none from rfl)]
    rw [ho'] at core
    refine core σ (gL G n) (fV_refl σ) hC ?_ rfl
    rw [gSet_self]; exact h
  | some f =>
    obtain ⟨d, hd⟩ := ho f ho'
    have hfl := (List.getElem?_eq_some_iff.mp hd.1).1
    rw [ho'] at core
    have hdr : drG D (some f) (gL G n) = if dO d = none then gL G n else (gL G n).filter (fun e => !riv D f d e) := by unfold drG; simp only; rw [hd.1]
    rw [if_neg (by intro z; cases z), ad_some, ck_eq (it_sh hcb (by omega)), (hC.it hd.1).1.2.2.2.1, ifd ad_none]
    by_cases q : dO d = none
    · rw [if_pos q]
      rw [if_pos q] at hdr
      rw [hdr]
      refine core σ (gL G n) (fV_refl σ) hC ?_ hdr
      rw [gSet_self]; exact h
    · rw [if_neg q]
      rw [if_neg q] at hdr
      obtain ⟨υ, d1, d2, d3⟩ := X8_dropRivals hU hcb hg hC h hn hd.1
      have d1' : x_X8_dropRivals U 389 (some (gH G n)) (some (c + 5 + f)) σ = some υ := d1
      rw [d1', b1_eq, hdr]
      exact core υ _ d3 (CS_fV hC hcb d3) d2 hdr
