/-! ===== the class's value: putting one more ===== -/
theorem CS_sm {σ τ : SG} {c : Nat} {T : List Nat} {D : List Dc} (h : CS σ c T D) (g : ∀ b, c ≤ b → b ≤ c + 191 → sm σ τ b) : CS τ c T D := by
  obtain ⟨k1, k2, k3, k4⟩ := h
  have hl := k2.2.1
  refine ⟨k1.sm (g _ (by omega) (by omega)) (g _ (by omega) (by omega)), ⟨((g (c + 1) (by omega) (by omega)) 3).1.trans k2.1, hl, fun i d hd => ?_⟩, fun i d hd => ?_, fun k hk => ((g (c + 185) (by omega) (by omega)) k).1.trans (k4 k hk)⟩
  · have hi := (List.getElem?_eq_some_iff.mp hd).1
    exact IS_PJ (k2.2.2 i d hd) (fun j _ => g _ (by omega) (by omega) j)
  · have hi := (List.getElem?_eq_some_iff.mp hd).1
    obtain ⟨j1, j2, j3⟩ := k3 i d hd
    have gi := g (c + 5 + i) (by omega) (by omega)
    refine ⟨fun z => ?_, fun z => ?_, ?_⟩
    · rw [(gi 8).1, (gi 10).2.2, (gi 12).1, (gi 16).2.2]; exact j1 z
    · rw [(gi 8).1, (gi 10).2.2, (gi 12).1]; exact j2 z
    · rw [(gi 15).2.2]; exact LK_keep _ _ j3 (fun i' hi' => (g (c + 5 + i') (by omega) (by have := (chD_lt hi').2; omega) 16).2.2)
def fty (T : List Nat) (D : List Dc) (d : Dc) : Nat := dTy (lkC T D) T (wl T 701 0) D d
def ftg (T : List Nat) (D : List Dc) (d : Dc) : Option Nat := dTg (lkC T D) T (wl T 701 0) D d
def up {α : Type} (f : Nat → α) (d : Nat) (x : α) : Nat → α := fun t => if t = d then x else f t
theorem up_s {α : Type} (f : Nat → α) (d : Nat) (x : α) : up f d x d = x := if_pos rfl
theorem up_o {α : Type} {f : Nat → α} {d : Nat} {x : α} {t : Nat} (h : t ≠ d) : up f d x t = f t := if_neg h
/-- a value's shape: which message each opened one is, its node, its chain; how many; nodes used; texts -/
abbrev Gh : Type := (Nat → Nat) × (Nat → Nat) × (Nat → List Eg) × Nat × Nat × List Nat
def gN (G : Gh) : Nat → Nat := G.1
def gH (G : Gh) : Nat → Nat := G.2.1
def gL (G : Gh) : Nat → List Eg := G.2.2.1
def gC (G : Gh) : Nat := G.2.2.2.1
def gU (G : Gh) : Nat := G.2.2.2.2.1
def gP (G : Gh) : List Nat := G.2.2.2.2.2
def EO (σ : SG) (c : Nat) (T : List Nat) (D : List Dc) (G : Gh) (n : Nat) (e : Eg) : Prop := 391 ≤ eA e ∧ eA e < 391 + gU G ∧ sP σ (eA e) 0 = ad c (eF e) ∧ sL σ (eA e) 4 = eV e ∧ (∃ a b, sI σ (eA e) 5 = nI a ∧ sI σ (eA e) 6 = nI b ∧ a ≤ b ∧ b ≤ (gP G).length ∧ slc (gP G) a b = eT e) ∧ (eF e = none → sP σ (eA e) 2 = none ∧ ∀ n', n' < gC G → gH G n' ≠ eA e) ∧ ∀ f, eF e = some f → ∃ d, isF D (gN G n) f d ∧ (fty T D d ≠ 13 → sP σ (eA e) 2 = none ∧ ∀ n', n' < gC G → gH G n' ≠ eA e) ∧ (fty T D d = 13 → n < eK e ∧ eK e < gC G ∧ gH G (eK e) = eA e ∧ ftg T D d = some (gN G (eK e)))
/-- a field that stands once stands once in a chain -/
def unE (D : List Dc) (L : List Eg) : Prop := L.Pairwise (fun e e' => ∀ f d, eF e = some f → eF e' = some f → D[f]? = some d → dR d = true)
def VN (σ : SG) (c : Nat) (T : List Nat) (D : List Dc) (G : Gh) (n : Nat) : Prop := LN σ (gL G n) (sP σ (gH G n) 2) ∧ (sP σ (gH G n) 3 = none ∨ ∃ e ∈ gL G n, sP σ (gH G n) 3 = some (eA e)) ∧ srE D (gL G n) ∧ ((gL G n).map eA).Nodup ∧ unE D (gL G n) ∧ ∀ e ∈ gL G n, EO σ c T D G n e
/-- the value as the class holds it -/
def VG (σ : SG) (c : Nat) (T : List Nat) (D : List Dc) (G : Gh) : Prop := sI σ 389 3 = nI (gU G) ∧ gU G ≤ 700 ∧ RB σ 1092 (gP G) 0 ∧ 0 < gC G ∧ gH G 0 = 1091 ∧ (∀ n, n < gC G → 0 < n → 391 ≤ gH G n ∧ gH G n < 391 + gU G) ∧ (∀ n n', n < gC G → n' < gC G → gH G n = gH G n' → n = n') ∧ (∀ n, n < gC G → isM D (gN G n)) ∧ (∀ n n', n < gC G → n' < gC G → n ≠ n' → ∀ e ∈ gL G n, ∀ e' ∈ gL G n', eA e ≠ eA e') ∧ ∀ n, n < gC G → VN σ c T D G n
theorem VG.h {σ : SG} {c : Nat} {T : List Nat} {D : List Dc} {G : Gh} (h : VG σ c T D G) {n : Nat} (hn : n < gC G) : 391 ≤ gH G n ∧ gH G n < 1092 ∧ (gH G n = 1091 ∨ gH G n < 391 + gU G) := by
  have hu := h.2.1
  by_cases q : n = 0
  · subst q; rw [h.2.2.2.2.1]; exact ⟨by decide, by decide, Or.inl rfl⟩
  · have := h.2.2.2.2.2.1 n hn (by omega)
    exact ⟨this.1, by omega, Or.inr this.2⟩
theorem VG.e {σ : SG} {c : Nat} {T : List Nat} {D : List Dc} {G : Gh} (h : VG σ c T D G) {n : Nat} (hn : n < gC G) {e : Eg} (he : e ∈ gL G n) : EO σ c T D G n e := (h.2.2.2.2.2.2.2.2.2 n hn).2.2.2.2.2 e he
theorem VG.ef {σ : SG} {c : Nat} {T : List Nat} {D : List Dc} {G : Gh} (h : VG σ c T D G) {n : Nat} (hn : n < gC G) {e : Eg} (he : e ∈ gL G n) : EF σ c D e := by
  obtain ⟨a1, a2, a3, a4, a5, a6, a7⟩ := h.e hn he
  have hu := h.2.1
  exact ⟨a1, by omega, a3, fun f hf => by obtain ⟨d, hd, _⟩ := a7 f hf; exact ⟨d, hd.1, hd.2.1⟩⟩
theorem nd_fil {m : Nat} : ∀ (L : List Nat), L.Nodup → L.length ≤ (L.filter (fun a => decide (a ≠ m))).length + 1 := by
  intro L
  induction L with
  | nil => intro _; exact Nat.zero_le _
  | cons a L ih =>
    intro h
    obtain ⟨h1, h2⟩ := List.nodup_cons.mp h
    rw [List.filter_cons]
    by_cases q : a = m
    · subst q
      rw [if_neg (by rw [decide_eq_true_iff]; exact fun z => z rfl), List.length_cons, List.filter_eq_self.mpr]
      · omega
      · intro x hx
        exact decide_eq_true (fun z => h1 (z ▸ hx))
    · rw [if_pos (decide_eq_true q), List.length_cons, List.length_cons]
      have := ih h2
      omega
theorem nd_len : ∀ (m : Nat) (L : List Nat), L.Nodup → ∀ k, (∀ a ∈ L, k ≤ a ∧ a < m) → L.length ≤ m - k := by
  intro m
  induction m with
  | zero =>
    intro L _ k h
    cases L with
    | nil => exact Nat.zero_le _
    | cons a L => have := h a (List.mem_cons_self ..); omega
  | succ m ih =>
    intro L hn k h
    by_cases q : m < k
    · cases L with
      | nil => exact Nat.zero_le _
      | cons a L => have := h a (List.mem_cons_self ..); omega
    · have h1 := nd_fil (m := m) L hn
      have h2 := ih (L.filter (fun a => decide (a ≠ m))) (hn.sublist List.filter_sublist) k (fun a ha => by
        obtain ⟨z1, z2⟩ := List.mem_filter.mp ha
        have := h a z1
        have := of_decide_eq_true z2
        omega)
      omega
/-- how many entries there can be -/
theorem VG.len {σ : SG} {c : Nat} {T : List Nat} {D : List Dc} {G : Gh} (h : VG σ c T D G) {n : Nat} (hn : n < gC G) : (gL G n).length ≤ 700 := by
  have hv := h.2.2.2.2.2.2.2.2.2 n hn
  have hb := nd_len 1091 ((gL G n).map eA) hv.2.2.2.1 391 (fun a ha => by
    obtain ⟨e, he, rfl⟩ := List.mem_map.mp ha
    have hx := hv.2.2.2.2.2 e he
    have hu := h.2.1
    have h1 := hx.1
    have h2 := hx.2.1
    omega)
  rw [List.length_map] at hb
  exact hb
/-- what stays outside the value's nodes -/
def fV (σ τ : SG) : Prop := (∀ b, (b < 389 ∨ b = 390 ∨ 1092 ≤ b) → sm σ τ b) ∧ ∀ k, k ≠ 3 → sI τ 389 k = sI σ 389 k ∧ sL τ 389 k = sL σ 389 k ∧ sP τ 389 k = sP σ 389 k
theorem fV_refl (σ : SG) : fV σ σ := ⟨fun b _ => sm_refl σ b, fun k _ => ⟨rfl, rfl, rfl⟩⟩
theorem fV_trans {σ τ υ : SG} (h : fV σ τ) (h' : fV τ υ) : fV σ υ := ⟨fun b hb => sm_trans (h.1 b hb) (h'.1 b hb), fun k hk => ⟨(h'.2 k hk).1.trans (h.2 k hk).1, (h'.2 k hk).2.1.trans (h.2 k hk).2.1, (h'.2 k hk).2.2.trans (h.2 k hk).2.2⟩⟩
theorem fV_P {σ τ : SG} {P : Nat → Nat → Prop} (h : fP P σ τ) (hP : ∀ b k, P b k → (391 ≤ b ∧ b < 1092) ∨ (b = 389 ∧ k = 3)) : fV σ τ := ⟨fun b hb k => h b k (fun z => by have := hP b k z; omega), fun k hk => h 389 k (fun z => by have := hP _ _ z; omega)⟩
theorem CS_fV {σ τ : SG} {c : Nat} {T : List Nat} {D : List Dc} (h : CS σ c T D) (hcb : cb c) (hf : fV σ τ) : CS τ c T D := CS_sm h (fun b h1 h2 => hf.1 b (by have : c = 5 ∨ c = 197 := hcb; omega))
/-- another chain at one place -/
def gSet (G : Gh) (n : Nat) (L : List Eg) : Gh := (gN G, gH G, up (gL G) n L, gC G, gU G, gP G)
/-- a chain's nodes are not told otherwise elsewhere -/
theorem VN_keep {σ τ : SG} {c : Nat} {T : List Nat} {D : List Dc} {G : Gh} {n : Nat} (h : VN σ c T D G n) (h2 : sP τ (gH G n) 2 = sP σ (gH G n) 2) (h3 : sP τ (gH G n) 3 = sP σ (gH G n) 3) (he : ∀ e ∈ gL G n, sP τ (eA e) 0 = sP σ (eA e) 0 ∧ sP τ (eA e) 1 = sP σ (eA e) 1 ∧ sL τ (eA e) 4 = sL σ (eA e) 4 ∧ sI τ (eA e) 5 = sI σ (eA e) 5 ∧ sI τ (eA e) 6 = sI σ (eA e) 6 ∧ ((∀ n', n' < gC G → gH G n' ≠ eA e) → sP τ (eA e) 2 = sP σ (eA e) 2)) : VN τ c T D G n := by
  obtain ⟨a1, a2, a3, a4, a5, a6⟩ := h
  refine ⟨by rw [h2]; exact LN_keep _ _ a1 (fun e hm => (he e hm).2.1), by rw [h3]; exact a2, a3, a4, a5, fun e hm => ?_⟩
  obtain ⟨b1', b2', b3, b4, b5, b6, b7⟩ := a6 e hm
  obtain ⟨c0, c1, c4, c5, c6, c2⟩ := he e hm
  refine ⟨b1', b2', c0.trans b3, c4.trans b4, ?_, fun z => ⟨(c2 (b6 z).2).trans (b6 z).1, (b6 z).2⟩, fun f hf => ?_⟩
  · obtain ⟨a, b, x1, x2, x3⟩ := b5
    exact ⟨a, b, c5.trans x1, c6.trans x2, x3⟩
  · obtain ⟨d, x1, x2, x3⟩ := b7 f hf
    exact ⟨d, x1, fun z => ⟨(c2 (x2 z).2).trans (x2 z).1, (x2 z).2⟩, x3⟩
/-- a chain is thinned out -/
theorem VG_sub {σ τ : SG} {c : Nat} {T : List Nat} {D : List Dc} {G : Gh} {n : Nat} {L : List Eg} (h : VG σ c T D G) (hn : n < gC G) (hsub : List.Sublist L (gL G n)) (hL : LN τ L (sP τ (gH G n) 2)) (hr : sP τ (gH G n) 3 = none ∨ ∃ e ∈ L, sP τ (gH G n) 3 = some (eA e)) (hf : fP (fun b k => (b = gH G n ∧ (k = 2 ∨ k = 3)) ∨ (k = 1 ∧ ∃ e ∈ gL G n, b = eA e)) σ τ) : VG τ c T D (gSet G n L) := by
  obtain ⟨g1, g2, g3, g4, g5, g6, g7, g8, g9, g10⟩ := h
  have hh := VG.h ⟨g1, g2, g3, g4, g5, g6, g7, g8, g9, g10⟩ hn
  have ea : ∀ e ∈ gL G n, 391 ≤ eA e ∧ eA e < 1091 := fun e he => by have := (VG.e ⟨g1, g2, g3, g4, g5, g6, g7, g8, g9, g10⟩ hn he); exact ⟨this.1, by have := this.2.1; omega⟩
  have out : ∀ b k, (b < 391 ∨ 1092 ≤ b) → ¬ ((b = gH G n ∧ (k = 2 ∨ k = 3)) ∨ (k = 1 ∧ ∃ e ∈ gL G n, b = eA e)) := fun b k hb z => by
    rcases z with z | ⟨_, e, he, z⟩
    · omega
    · have := ea e he; omega
  refine ⟨((hf 389 3 (out _ _ (by omega))).1).trans g1, g2, g3.sm (fun k => hf 1092 k (out _ _ (by omega))) (fun k => hf 1093 k (out _ _ (by omega))), g4, g5, g6, g7, g8, fun m m' hm hm' hne e he e' he' => ?_, fun m hm => ?_⟩
  · have mem : ∀ j x, x ∈ up (gL G) n L j → x ∈ gL G j := fun j x hx => by
      by_cases q : j = n
      · subst q; rw [up_s] at hx; exact hsub.subset hx
      · rw [up_o q] at hx; exact hx
    exact g9 m m' hm hm' hne e (mem m e he) e' (mem m' e' he')
  · have hv := g10 m hm
    by_cases q : m = n
    · subst q
      obtain ⟨a1, a2, a3, a4, a5, a6⟩ := hv
      refine ⟨?_, ?_, ?_, ?_, ?_, ?_⟩
      · show LN τ (up (gL G) m L m) _; rw [up_s]; exact hL
      · show _ ∨ ∃ e ∈ up (gL G) m L m, _; rw [up_s]; exact hr
      · show srE D (up (gL G) m L m); rw [up_s]; exact a3.sublist hsub
      · show ((up (gL G) m L m).map eA).Nodup; rw [up_s]; exact a4.sublist (hsub.map eA)
      · show unE D (up (gL G) m L m); rw [up_s]; exact a5.sublist hsub
      · show ∀ e ∈ up (gL G) m L m, _
        rw [up_s]
        intro e he
        have heL := hsub.subset he
        have cell : ∀ k, k ≠ 1 → k ≠ 2 → k ≠ 3 → sI τ (eA e) k = sI σ (eA e) k ∧ sL τ (eA e) k = sL σ (eA e) k ∧ sP τ (eA e) k = sP σ (eA e) k := fun k h1 h2 h3 => hf _ _ (by rintro (z | z) <;> omega)
        have c2 : (∀ n', n' < gC G → gH G n' ≠ eA e) → sP τ (eA e) 2 = sP σ (eA e) 2 := fun z => (hf _ _ (by
          rintro (y | y)
          · exact z m hm y.1.symm
          · omega)).2.2
        obtain ⟨b1', b2', b3, b4, b5, b6, b7⟩ := a6 e heL
        refine ⟨b1', b2', ((cell 0 (by decide) (by decide) (by decide)).2.2).trans b3, ((cell 4 (by decide) (by decide) (by decide)).2.1).trans b4, ?_, fun z => ⟨(c2 (b6 z).2).trans (b6 z).1, (b6 z).2⟩, fun f hf' => ?_⟩
        · obtain ⟨a, b, x1, x2, x3⟩ := b5
          exact ⟨a, b, ((cell 5 (by decide) (by decide) (by decide)).1).trans x1, ((cell 6 (by decide) (by decide) (by decide)).1).trans x2, x3⟩
        · obtain ⟨d, x1, x2, x3⟩ := b7 f hf'
          exact ⟨d, x1, fun z => ⟨(c2 (x2 z).2).trans (x2 z).1, (x2 z).2⟩, x3⟩
    · have hhm : gH G m ≠ gH G n := fun z => q (g7 m n hm hn z)
      have nin : ∀ k, k = 2 ∨ k = 3 → ¬ ((gH G m = gH G n ∧ (k = 2 ∨ k = 3)) ∨ (k = 1 ∧ ∃ e ∈ gL G n, gH G m = eA e)) := fun k hk z => by
        rcases z with z | z
        · exact hhm z.1
        · omega
      have key := VN_keep (τ := τ) hv ((hf _ 2 (nin 2 (Or.inl rfl))).2.2) ((hf _ 3 (nin 3 (Or.inr rfl))).2.2) (fun e he => by
        have cell : ∀ k, k ≠ 2 → k ≠ 3 → sI τ (eA e) k = sI σ (eA e) k ∧ sL τ (eA e) k = sL σ (eA e) k ∧ sP τ (eA e) k = sP σ (eA e) k := fun k h2 h3 => hf _ _ (by
          rintro (z | ⟨_, x, hx, z⟩)
          · omega
          · exact g9 m n hm hn q e he x hx z)
        refine ⟨(cell 0 (by decide) (by decide)).2.2, (cell 1 (by decide) (by decide)).2.2, (cell 4 (by decide) (by decide)).2.1, (cell 5 (by decide) (by decide)).1, (cell 6 (by decide) (by decide)).1, fun z => (hf _ _ (by
          rintro (y | y)
          · exact z n hn y.1.symm
          · omega)).2.2⟩)
      unfold VN at key ⊢
      have e1 : gL (gSet G n L) m = gL G m := up_o q
      rw [e1]
      exact key
theorem X8_dropRivals {U c n f : Nat} {σ : SG} {T : List Nat} {D : List Dc} {G : Gh} {d : Dc} (hU : 4000 < U) (hcb : cb c) (hg : GSc T D) (hC : CS σ c T D) (h : VG σ c T D G) (hn : n < gC G) (hd : D[f]? = some d) :
    ∃ τ, x_X8_dropRivals U 389 (some (gH G n)) (ad c (some f)) σ = some τ ∧ VG τ c T D (gSet G n ((gL G n).filter (fun e => !riv D f d e))) ∧ fV σ τ := by
  have hh := h.h hn
  have hv := h.2.2.2.2.2.2.2.2.2 n hn
  have hlen := h.len hn
  unfold x_X8_dropRivals
  rw [ck_eq (nd_sh hh.1 hh.2.1)]
  have hE : ∀ e ∈ ([] : List Eg) ++ gL G n, EF σ c D e ∧ eA e ≠ gH G n := fun e he => by
    have heL : e ∈ gL G n := by simpa using he
    refine ⟨h.ef hn heL, fun z => ?_⟩
    obtain ⟨_, _, _, _, _, b6, b7⟩ := h.e hn heL
    cases hF : eF e with
    | none => exact (b6 hF).2 n hn z.symm
    | some g =>
      obtain ⟨x, x1, x2, x3⟩ := b7 g hF
      by_cases q : fty T D x = 13
      · obtain ⟨y1, y2, y3, _⟩ := x3 q
        have := h.2.2.2.2.2.2.1 _ _ y2 hn (y3.trans z)
        omega
      · exact (x2 q).2 n hn z.symm
  obtain ⟨τ, t1, t2, t3⟩ := X8_drop_L (U := U) (K := fun σ36 => sb (uP σ36 (gH G n) 3 none) fun σ37 => some σ37) hcb hg hh.1 hh.2.1 hd (gL G n) [] U σ hC hv.1 hE (by simpa using hv.2.2.2.1) (by omega)
  have hhd : (gL G n).head?.map eA = sP σ (gH G n) 2 := by
    have := hv.1
    cases hL : gL G n with
    | nil => rw [hL] at this; exact this.symm
    | cons a L => rw [hL] at this; exact this.1.symm
  rw [hhd] at t1
  have t1' : x_X8_dropRivals_L8 U 389 (fun σ36 => sb (uP σ36 (gH G n) 3 none) fun σ37 => some σ37) (some (gH G n)) (ad c (some f)) U none (sP σ (gH G n) 2) σ = sb (uP τ (gH G n) 3 none) fun σ37 => some σ37 := t1
  rw [t1', sb_eq]
  have ff : fP (fun b k => (b = gH G n ∧ (k = 2 ∨ k = 3)) ∨ (k = 1 ∧ ∃ e ∈ gL G n, b = eA e)) σ (uP τ (gH G n) 3 none) := by
    refine fP_trans (fP_mono t3 (fun b k z => ?_)) (fun b k hk => ⟨rfl, rfl, sP_o (ne2 (fun zy => hk (Or.inl ⟨zy.1, Or.inr zy.2⟩)))⟩)
    rcases z with z | ⟨z, e, he, y⟩
    · exact Or.inl ⟨z.1, Or.inl z.2⟩
    · exact Or.inr ⟨z, e, by simpa using he, y⟩
  refine ⟨_, rfl, VG_sub h hn List.filter_sublist ?_ (Or.inl (sP_s _ _ _ _)) ff, fV_P ff (fun b k z => ?_)⟩
  · rw [sP_o (Or.inr (by decide))]
    exact LN_keep _ _ t2 (fun e he => by rw [sP_o (Or.inr (by decide))])
  · rcases z with z | ⟨_, e, he, z⟩
    · omega
    · have hx := h.ef hn he; have h1 := hx.1; have h2 := hx.2.1; omega
