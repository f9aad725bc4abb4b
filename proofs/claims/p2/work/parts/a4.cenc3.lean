/-! ===== the class encodes a message: packed rows, the whole ===== -/
theorem C_wrow {U c n f dp : Nat} {T : List Nat} {D : List Dc} {G : Gh} {d : Dc} {R g : List Eg} {e : Eg} {rcC : Option Nat → Int32 → SG → Option SG} {p : Option Nat} {W : List Nat} {U1 : Nat} {σ : SG} (hU4 : 4000 < U) (hcb : cb c) (hg9 : GSc T D) (hn : n < gC G) (hd : isF D (gN G n) f d) (hdp : dp ≤ 20) (hpk : dPa (lkC T D) T (wl T 701 0) D d = true) (hR : ∀ e ∈ R, e ∈ gL G n ∧ eF e ≠ some f) (hC : CS σ c T D) (hV : VG σ c T D G) (hp : LN σ ((e :: g) ++ R) p) (hg : ∀ x ∈ e :: g, x ∈ gL G n ∧ eF x = some f) (hW : RB σ 3 W 0) (hl : W.length + (tgB d 2 ++ lnB ((e :: g).flatMap (fun e => nuB (fty T D d) (eV e)))).length ≤ 4000) (hu : (e :: g).length < U1) : GW U c T D rcC dp W (tgB d 2 ++ lnB ((e :: g).flatMap (fun e => nuB (fty T D d) (eV e)))) R (e :: g).length U1 p σ := by
  obtain ⟨V, rfl⟩ : ∃ V, U1 = V + 1 := ⟨U1 - 1, by omega⟩
  obtain ⟨he, hf⟩ := hg e (List.mem_cons_self ..)
  have hul := hV.2.1
  have hl9 := hg9.2.1
  have hfl := (List.getElem?_eq_some_iff.mp hd.1).1
  have hft : fty T D d ≤ 14 := dTy_lt (hg9.fld hd.1 hd.2.1).2.2.2.1
  obtain ⟨e1, e2, e3, e4, _, e10, e11⟩ := hV.e hn he
  have hsh : sh (eA e) = 4 := nd_sh e1 (by omega)
  have hdn : ¬ (20 : Int32) < nI dp := fun z => by have := (ltI (a := 20) (by decide) (by omega)).mp z; omega
  have e12 : sI σ (c + 5 + f) 12 = zI (dPa (lkC T D) T (wl T 701 0) D d) := (hC.it hd.1).2.2.2
  rw [List.length_append] at hl
  have hl2 := hl
  unfold lnB at hl2
  rw [List.length_append, List.flatMap_cons, List.length_append] at hl2
  -- the tag
  obtain ⟨τ, t1, t2, t3⟩ := C_wvar (x := (lshl9 (lN (dN d).2) 3) ||| lN 2) hU4 hW (by unfold tgB at hl; omega)
  have t2' : RB τ 3 (W ++ tgB d 2) 0 := t2
  have C1 := CS_fb hC hcb t3
  have V1 := VG_fb hV t3
  obtain ⟨_, _, g3, g4, _⟩ := V1.e hn he
  have ety1 : sI τ (c + 5 + f) 8 = nI (fty T D d) := (C1.it hd.1).2.1
  -- the first number
  obtain ⟨υ, u1, u2, u3⟩ := C_wnum (t := fty T D d) (x := eV e) hU4 hft t2' (by rw [List.length_append]; omega)
  have C2 := CS_fb C1 hcb u3
  have V2 := VG_fb V1 u3
  have hgm : ∀ x ∈ g ++ R, x ∈ gL G n := fun x hx => (List.mem_append.mp hx).elim (fun z => (hg x (List.mem_cons_of_mem _ z)).1) (fun z => (hR x z).1)
  have f2 : fb 3 σ υ := fb_trans t3 u3
  have hnx : sP υ (eA e) 1 = sP σ (eA e) 1 := (f2 (eA e) (by omega) (by omega) 1).2.2
  have hp2 : LN υ (g ++ R) (sP υ (eA e) 1) := by rw [hnx]; exact LN_fb hV hn hgm f2 hp.2
  obtain ⟨V9, rfl⟩ : ∃ V9, U = V9 + 1 := ⟨U - 1, by omega⟩
  obtain ⟨ω, e9, o1, o2, o3, o4, o5⟩ := C_wrow_L (U := V9 + 1) (K := fun w18 σ19 => x_X9_writeRow_72 (V9 + 1) 1094 (nI (W ++ tgB d 2).length) w18 σ19) (v3 := nI (W ++ tgB d 2).length) hU4 hcb hg9 hn hd hR g e _ V9 υ C2 V2 he hp2 (fun x hx => hg x (List.mem_cons_of_mem _ hx)) u2 (by rw [List.length_append, List.length_append]; omega) (by
    have := hV.len hn
    have h1 : g.length ≤ 700 := by
      have hsub : ∀ (A B : List Eg), (∀ x ∈ A, x ∈ B) → (A.map eA).Nodup → (B.map eA).Nodup → A.length ≤ 700 → A.length ≤ 700 := fun _ _ _ _ _ h => h
      have hlt : g.length < V + 1 := by rw [List.length_cons] at hu; omega
      by_cases q : g.length ≤ 700
      · exact q
      · exfalso
        -- a chain has no more than 700 entries
        have : ∀ (L : List Eg) (q : Option Nat) (k : Nat), LN υ L q → (∀ x ∈ L, x ∈ gL G n) → L.length ≤ 700 := by
          intro L q0 k hL hm
          have hp9 : LN υ (gL G n) (sP υ (gH G n) 2) := (V2.2.2.2.2.2.2.2.2.2 n hn).1
          -- a piece of the chain from an entry on is the rest of the chain
          cases L with
          | nil => exact Nat.zero_le _
          | cons x L =>
            obtain ⟨A, B, hAB⟩ := List.append_of_mem (hm x (List.mem_cons_self ..))
            rw [hAB] at hp9
            have h2 := LN_mid A _ hp9
            have h3 : LN υ L (sP υ (eA x) 1) := hL.2
            have key : ∀ (X Y : List Eg) (q : Option Nat), LN υ X q → LN υ Y q → X.length = Y.length := by
              intro X
              induction X with
              | nil =>
                intro Y q hX hY
                cases Y with
                | nil => rfl
                | cons y Y => have h : q = none := hX; rw [h] at hY; cases hY.1
              | cons a X ih =>
                intro Y q hX hY
                cases Y with
                | nil => have h : q = none := hY; rw [h] at hX; cases hX.1
                | cons y Y =>
                  have ha : eA a = eA y := by have h1 := hX.1; rw [hY.1] at h1; exact (Option.some.inj h1).symm
                  have hY2 := hY.2
                  rw [← ha] at hY2
                  rw [List.length_cons, List.length_cons, ih Y _ hX.2 hY2]
            have h4 := key L B _ h3 h2
            have h5 : (gL G n).length = A.length + (B.length + 1) := by rw [hAB, List.length_append, List.length_cons]
            rw [List.length_cons]
            omega
        have h9 := this (g ++ R) _ 0 hp2 hgm
        rw [List.length_append] at h9
        omega
    omega)
  -- the length in front
  have o3' : RB ω 3 ((W ++ tgB d 2) ++ ((e :: g).flatMap (fun e => nuB (fty T D d) (eV e)))) 0 := by rw [List.flatMap_cons, ← List.append_assoc]; exact o3
  obtain ⟨ψ, y1, y2, y3⟩ := C_wlen hU4 o3' (by rw [List.length_append]; omega)
  have fA : fb 3 σ ψ := fb_trans f2 (fb_trans o4 y3)
  have V4 := VG_fb (VG_fb V2 o4) y3
  obtain ⟨k1, k2, _⟩ := V4.e hn o2
  refine ⟨ψ, sP ψ (eA e9) 1, V, ?_, by rw [List.length_cons]; omega, by rw [← List.append_assoc]; exact y2, fA, ?_⟩
  · have hp1 : p = some (eA e) := hp.1
    rw [hp1, x_X9_writeMessage_L5, if_neg (show ¬ some (eA e) = none by intro z; cases z), if_neg hdn, ck_eq hsh, e3, hf, if_neg (show ¬ ad c (some f) = none by intro z; cases z), ad_some, ck_eq (it_sh hcb (by omega)), e12, hpk, if_neg (show ¬ zI true = 0 by decide)]
    unfold x_X9_writeRow
    have t1' : x_X0_addVarint (V9 + 1) 3 ((lshl9 (lN (dN d).2) 3) ||| 2) σ = some τ := t1
    rw [ck_eq (it_sh hcb (by omega)), C_tag (U := V9 + 1) hcb hg9 hC hd.1 hd.2.1, t1', b1_eq, X0_size t2', b1_eq, x_X9_writeRow_L31, if_neg (show ¬ some (eA e) = none by intro z; cases z), ck_eq hsh, g3, hf, ad_some, if_pos rfl, ck_eq (it_sh hcb (by omega)), ety1, g4, u1, b1_eq, o1]
    unfold x_X9_writeRow_72 x_X9_writeMessage_91
    rw [y1, b1_eq, b2_eq, ck_eq (nd_sh k1 (by omega))]
  · have : sP ψ (eA e9) 1 = sP ω (eA e9) 1 := (y3 (eA e9) (by omega) (by omega) 1).2.2
    rw [this]
    exact LN_fb (VG_fb V2 o4) hn (fun x hx => (hR x hx).1) y3 o5
