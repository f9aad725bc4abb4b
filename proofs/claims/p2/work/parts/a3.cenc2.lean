/-! ===== the class encodes a message ===== -/
theorem LN_fb {σ τ : SG} {c n : Nat} {T : List Nat} {D : List Dc} {G : Gh} {L : List Eg} {p : Option Nat} (hV : VG σ c T D G) (hn : n < gC G) (hL : ∀ e ∈ L, e ∈ gL G n) (hf : fb 3 σ τ) (h : LN σ L p) : LN τ L p := LN_keep L p h (fun e he => (hf (eA e) (by have := (hV.e hn (hL e he)).1; omega) (by have := (hV.e hn (hL e he)).1; omega) 1).2.2)
/-- what the loop over a chain does with its first piece -/
def GW (U c : Nat) (T : List Nat) (D : List Dc) (rcC : Option Nat → Int32 → SG → Option SG) (dp : Nat) (W B : List Nat) (R : List Eg) (k U1 : Nat) (p : Option Nat) (σ : SG) : Prop := ∃ τ p' U2, x_X9_writeMessage_L5 U rcC 1094 (nI dp) U1 p σ = x_X9_writeMessage_L5 U rcC 1094 (nI dp) U2 p' τ ∧ U1 ≤ U2 + k ∧ RB τ 3 (W ++ B) 0 ∧ fb 3 σ τ ∧ LN τ R p'
theorem C_wunk {U c n dp : Nat} {T : List Nat} {D : List Dc} {G : Gh} {rcC : Option Nat → Int32 → SG → Option SG} (hU4 : 4000 < U) (hn : n < gC G) (hdp : dp ≤ 20) : ∀ (g : List Eg) (p : Option Nat) (W : List Nat) (U1 : Nat) (σ : SG), VG σ c T D G → LN σ g p → (∀ e ∈ g, e ∈ gL G n ∧ eF e = none) → RB σ 3 W 0 → W.length + ((g.map eT).flatten).length ≤ 4000 → g.length < U1 → GW U c T D rcC dp W (g.map eT).flatten [] g.length U1 p σ := by
  intro g
  induction g with
  | nil =>
    intro p W U1 σ hV hp _ hW _ hu
    exact ⟨σ, p, U1, rfl, by omega, by rw [show (([] : List Eg).map eT).flatten = [] from rfl, List.append_nil]; exact hW, fb_refl _ _, hp⟩
  | cons e g ih =>
    intro p W U1 σ hV hp hg hW hl hu
    obtain ⟨V, rfl⟩ : ∃ V, U1 = V + 1 := ⟨U1 - 1, by omega⟩
    obtain ⟨he, hf⟩ := hg e (List.mem_cons_self ..)
    have hul := hV.2.1
    obtain ⟨e1, e2, e3, e4, ⟨a, b, e5, e6, e7, e8, e9⟩, e10, e11⟩ := hV.e hn he
    have hsh : sh (eA e) = 4 := nd_sh e1 (by omega)
    rw [List.map_cons, List.flatten_cons, List.length_append] at hl
    have hdn : ¬ (20 : Int32) < nI dp := fun z => by have := (ltI (a := 20) (by decide) (by omega)).mp z; omega
    obtain ⟨τ, t1, t2, t3⟩ := C_wall (a := a) (b := b) hU4 hW hV.2.2.1 e7 e8 (by rw [e9]; omega)
    have V1 := VG_fb hV t3
    rw [e9] at t2
    have hnx : sP τ (eA e) 1 = sP σ (eA e) 1 := (t3 (eA e) (by omega) (by omega) 1).2.2
    obtain ⟨υ, p', U2, u1, u2, u3, u4, u5⟩ := ih (sP σ (eA e) 1) (W ++ eT e) V τ V1 (LN_fb hV hn (fun x hx => (hg x (List.mem_cons_of_mem _ hx)).1) t3 hp.2) (fun x hx => hg x (List.mem_cons_of_mem _ hx)) t2 (by rw [List.length_append]; omega) (by rw [List.length_cons] at hu; omega)
    refine ⟨υ, p', U2, ?_, by rw [List.length_cons]; omega, by rw [List.map_cons, List.flatten_cons, ← List.append_assoc]; exact u3, fb_trans t3 u4, u5⟩
    rw [← u1, hp.1, x_X9_writeMessage_L5, if_neg (show ¬ some (eA e) = none by intro z; cases z), if_neg hdn, ck_eq hsh, e3, hf, if_pos (show ad c none = none from rfl), e5, e6, t1, b1_eq]
    unfold x_X9_writeMessage_91
    rw [ck_eq hsh, hnx]
theorem C_wgrp {U c n f dp : Nat} {σ0 : SG} {T : List Nat} {D : List Dc} {G : Gh} {d : Dc} {R : List Eg} {rcC : Option Nat → Int32 → SG → Option SG} {rc : Nat → List Nat} (hU4 : 4000 < U) (hcb : cb c) (hg9 : GSc T D) (hn : n < gC G) (hd : isF D (gN G n) f d) (hdp : dp ≤ 20) (hpk : dPa (lkC T D) T (wl T 701 0) D d = false) (hR : ∀ e ∈ R, e ∈ gL G n)
    (hrc : fty T D d = 13 → ∀ e ∈ gL G n, eF e = some f → ∀ (τ : SG) (W' : List Nat), fb 3 σ0 τ → RB τ 3 W' 0 → W'.length + (rc (eK e)).length ≤ 4000 → PWr W' (rc (eK e)) τ (rcC (some (eA e)) (nI (dp + 1)) τ)) : ∀ (g : List Eg) (p : Option Nat) (W : List Nat) (U1 : Nat) (σ : SG), CS σ c T D → VG σ c T D G → fb 3 σ0 σ → LN σ (g ++ R) p → (∀ e ∈ g, e ∈ gL G n ∧ eF e = some f) → RB σ 3 W 0 → W.length + (((g.filter (live T D d)).map (itm T D d)).flatMap (eIt T D rc d)).length ≤ 4000 → g.length < U1 → GW U c T D rcC dp W (((g.filter (live T D d)).map (itm T D d)).flatMap (eIt T D rc d)) R g.length U1 p σ := by
  intro g
  induction g with
  | nil =>
    intro p W U1 σ hC hV h0 hp _ hW _ hu
    exact ⟨σ, p, U1, rfl, by omega, by show RB σ 3 (W ++ []) 0; rw [List.append_nil]; exact hW, fb_refl _ _, hp⟩
  | cons e g ih =>
    intro p W U1 σ hC hV h0 hp hg hW hl hu
    obtain ⟨V, rfl⟩ : ∃ V, U1 = V + 1 := ⟨U1 - 1, by omega⟩
    obtain ⟨he, hf⟩ := hg e (List.mem_cons_self ..)
    have hul := hV.2.1
    have hl9 := hg9.2.1
    have hfl := (List.getElem?_eq_some_iff.mp hd.1).1
    obtain ⟨e1, e2, e3, e4, _, e10, e11⟩ := hV.e hn he
    have hsh : sh (eA e) = 4 := nd_sh e1 (by omega)
    have hdn : ¬ (20 : Int32) < nI dp := fun z => by have := (ltI (a := 20) (by decide) (by omega)).mp z; omega
    have e12 : sI σ (c + 5 + f) 12 = zI (dPa (lkC T D) T (wl T 701 0) D d) := (hC.it hd.1).2.2.2
    have hgm : ∀ x ∈ g ++ R, x ∈ gL G n := fun x hx => (List.mem_append.mp hx).elim (fun z => (hg x (List.mem_cons_of_mem _ z)).1) (hR x)
    have step : x_X9_writeMessage_L5 U rcC 1094 (nI dp) (V + 1) p σ = if noth T D d (eV e) (eT e) then x_X9_writeMessage_L5 U rcC 1094 (nI dp) V (sP σ (eA e) 1) σ else (b1 (x_X9_writeField U rcC 1094 (some (eA e)) (some (c + 5 + f)) (nI dp) σ) fun σ23 => x_X9_writeMessage_L5 U rcC 1094 (nI dp) V (sP σ23 (eA e) 1) σ23) := by
      have hp1 : p = some (eA e) := hp.1
      rw [hp1, x_X9_writeMessage_L5, if_neg (show ¬ some (eA e) = none by intro z; cases z), if_neg hdn, ck_eq hsh, e3, hf, if_neg (show ¬ ad c (some f) = none by intro z; cases z), ad_some, ck_eq (it_sh hcb (by omega)), e12, hpk, if_pos (show zI false = 0 from rfl), X4_isNothing hcb hg9 hC hV hn he hf hd, b1_eq, ifz]
      unfold x_X9_writeMessage_91
      simp only [ck_eq hsh]
    have hlv : live T D d e = !noth T D d (eV e) (eT e) := rfl
    rw [List.filter_cons] at hl ⊢
    cases hno : noth T D d (eV e) (eT e) with
    | true =>
      rw [hlv, hno, if_neg (show ¬ (!true) = true by decide)] at hl ⊢
      obtain ⟨υ, p', U2, u1, u2, u3, u4, u5⟩ := ih (sP σ (eA e) 1) W V σ hC hV h0 hp.2 (fun x hx => hg x (List.mem_cons_of_mem _ hx)) hW hl (by rw [List.length_cons] at hu; omega)
      refine ⟨υ, p', U2, ?_, by rw [List.length_cons]; omega, u3, u4, u5⟩
      rw [step, hno, if_pos (show true = true from rfl), u1]
    | false =>
      rw [hlv, hno, if_pos (show (!false) = true from rfl), List.map_cons, List.flatMap_cons] at hl ⊢
      rw [List.length_append] at hl
      obtain ⟨τ, t1, t2, t3⟩ := C_wfld (U := U) (dp := dp) (rcC := rcC) (rc := rc) hU4 hcb hg9 hC hV hn he hf hd hW (fun q13 τ W' hτ hW' hl' => hrc q13 e he hf τ W' (fb_trans h0 hτ) hW' hl') (by omega)
      have V1 := VG_fb hV t3
      have hnx : sP τ (eA e) 1 = sP σ (eA e) 1 := (t3 (eA e) (by omega) (by omega) 1).2.2
      obtain ⟨υ, p', U2, u1, u2, u3, u4, u5⟩ := ih (sP σ (eA e) 1) _ V τ (CS_fb hC hcb t3) V1 (fb_trans h0 t3) (LN_fb hV hn hgm t3 hp.2) (fun x hx => hg x (List.mem_cons_of_mem _ hx)) t2 (by rw [List.length_append]; omega) (by rw [List.length_cons] at hu; omega)
      refine ⟨υ, p', U2, ?_, by rw [List.length_cons]; omega, by rw [← List.append_assoc]; exact u3, fb_trans t3 u4, u5⟩
      rw [step, hno, if_neg (show ¬ false = true by decide), t1, b1_eq, hnx, u1]
/-- a packed row's numbers -/
theorem C_wrow_L {U c n f : Nat} {T : List Nat} {D : List Dc} {G : Gh} {d : Dc} {R : List Eg} {K : Option Nat → SG → Option (Option Nat × SG)} {v3 : Int32} (hU4 : 4000 < U) (hcb : cb c) (hg9 : GSc T D) (hn : n < gC G) (hd : isF D (gN G n) f d) (hR : ∀ e ∈ R, e ∈ gL G n ∧ eF e ≠ some f) : ∀ (g : List Eg) (e0 : Eg) (W : List Nat) (U1 : Nat) (σ : SG), CS σ c T D → VG σ c T D G → e0 ∈ gL G n → LN σ (g ++ R) (sP σ (eA e0) 1) → (∀ e ∈ g, e ∈ gL G n ∧ eF e = some f) → RB σ 3 W 0 → W.length + (g.flatMap (fun e => nuB (fty T D d) (eV e))).length ≤ 4000 → g.length < U1 → ∃ τ e1, x_X9_writeRow_L31 U 1094 K (some (c + 5 + f)) v3 U1 (some (eA e0)) (sP σ (eA e0) 1) σ = K (some (eA e1)) τ ∧ e1 ∈ gL G n ∧ RB τ 3 (W ++ g.flatMap (fun e => nuB (fty T D d) (eV e))) 0 ∧ fb 3 σ τ ∧ LN τ R (sP τ (eA e1) 1) := by
  intro g
  induction g with
  | nil =>
    intro e0 W U1 σ hC hV he0 hp _ hW _ hu
    obtain ⟨V, rfl⟩ : ∃ V, U1 = V + 1 := ⟨U1 - 1, by omega⟩
    have hp' : LN σ R (sP σ (eA e0) 1) := hp
    refine ⟨σ, e0, ?_, he0, by show RB σ 3 (W ++ []) 0; rw [List.append_nil]; exact hW, fb_refl _ _, hp'⟩
    rw [x_X9_writeRow_L31]
    cases R with
    | nil =>
      have : sP σ (eA e0) 1 = none := hp'
      rw [this, if_pos rfl]
    | cons r R =>
      have hr := hR r (List.mem_cons_self ..)
      have hul := hV.2.1
      obtain ⟨r1, r2, r3, _⟩ := hV.e hn hr.1
      rw [hp'.1, if_neg (show ¬ some (eA r) = none by intro z; cases z), ck_eq (nd_sh r1 (by omega)), r3, if_neg]
      intro z
      cases hf : eF r with
      | none => rw [hf] at z; cases z
      | some x =>
        rw [hf, ad_some] at z
        have : c + 5 + x = c + 5 + f := Option.some.inj z
        exact hr.2 (by rw [hf]; congr 1; omega)
  | cons e g ih =>
    intro e0 W U1 σ hC hV he0 hp hg hW hl hu
    obtain ⟨V, rfl⟩ : ∃ V, U1 = V + 1 := ⟨U1 - 1, by omega⟩
    obtain ⟨he, hf⟩ := hg e (List.mem_cons_self ..)
    have hul := hV.2.1
    have hl9 := hg9.2.1
    have hfl := (List.getElem?_eq_some_iff.mp hd.1).1
    have hft : fty T D d ≤ 14 := dTy_lt (hg9.fld hd.1 hd.2.1).2.2.2.1
    obtain ⟨e1, e2, e3, e4, _, e10, e11⟩ := hV.e hn he
    rw [List.flatMap_cons, List.length_append] at hl
    have ety : sI σ (c + 5 + f) 8 = nI (fty T D d) := (hC.it hd.1).2.1
    obtain ⟨τ, t1, t2, t3⟩ := C_wnum (t := fty T D d) (x := eV e) hU4 hft hW (by omega)
    have V1 := VG_fb hV t3
    have hnx : sP τ (eA e) 1 = sP σ (eA e) 1 := (t3 (eA e) (by omega) (by omega) 1).2.2
    have hgm : ∀ x ∈ g ++ R, x ∈ gL G n := fun x hx => (List.mem_append.mp hx).elim (fun z => (hg x (List.mem_cons_of_mem _ z)).1) (fun z => (hR x z).1)
    have hp2 : LN τ (g ++ R) (sP τ (eA e) 1) := by rw [hnx]; exact LN_fb hV hn hgm t3 hp.2
    obtain ⟨υ, e9, u1, u2, u3, u4, u5⟩ := ih e (W ++ nuB (fty T D d) (eV e)) V τ (CS_fb hC hcb t3) V1 he hp2 (fun x hx => hg x (List.mem_cons_of_mem _ hx)) t2 (by rw [List.length_append]; omega) (by rw [List.length_cons] at hu; omega)
    refine ⟨υ, e9, ?_, u2, by rw [List.flatMap_cons, ← List.append_assoc]; exact u3, fb_trans t3 u4, u5⟩
    have hp1 : sP σ (eA e0) 1 = some (eA e) := hp.1
    rw [x_X9_writeRow_L31, hp1, if_neg (show ¬ some (eA e) = none by intro z; cases z), ck_eq (nd_sh e1 (by omega)), e3, hf, ad_some, if_pos rfl, ck_eq (it_sh hcb (by omega)), ety, e4, t1, b1_eq, u1]
