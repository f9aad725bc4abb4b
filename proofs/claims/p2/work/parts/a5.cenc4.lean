/-! ===== the class encodes ===== -/
theorem eFd_congr {T : List Nat} {D : List Dc} {A : AV} {rc rc' : Nat → List Nat} {n f : Nat} (hf : f ∈ chF D (aN A n)) (h : ∀ k ∈ chN T D A n, rc k = rc' k) : eFd T D A rc n f = eFd T D A rc' n f := by
  unfold eFd
  cases hd : D[f]? with
  | none => rfl
  | some d =>
    simp only
    split
    · rfl
    · have : ∀ (E : List It), (∀ it ∈ E, it ∈ aE A n f) → E.flatMap (eIt T D rc d) = E.flatMap (eIt T D rc' d) := by
        intro E
        induction E with
        | nil => intro _; rfl
        | cons it E ih =>
          intro hE
          rw [List.flatMap_cons, List.flatMap_cons, ih (fun x hx => hE x (List.mem_cons_of_mem _ hx))]
          congr 1
          unfold eIt
          by_cases q : fty T D d = 13
          · rw [if_pos q, if_pos q, h _ (chN_mem.mpr ⟨f, hf, by unfold isT; rw [hd]; exact decide_eq_true q, it, hE it (List.mem_cons_self ..), rfl⟩)]
          · rw [if_neg q, if_neg q]
      exact this _ (fun it hit => hit)
def eMf (T : List Nat) (D : List Dc) (A : AV) (z : Nat → Nat) (n : Nat) : List Nat := eMs T D A (21 - z n) n
theorem flatMap_congr' {α β : Type} {f g : α → List β} : ∀ (L : List α), (∀ x ∈ L, f x = g x) → L.flatMap f = L.flatMap g := by
  intro L
  induction L with
  | nil => intro _; rfl
  | cons a L ih => intro h; rw [List.flatMap_cons, List.flatMap_cons, h a (List.mem_cons_self ..), ih (fun x hx => h x (List.mem_cons_of_mem _ hx))]
theorem eMf_eq {T : List Nat} {D : List Dc} {A : AV} {z : Nat → Nat} (h : AW T D A z) {n : Nat} (hn : n < aC A) : eMf T D A z n = (chF D (aN A n)).flatMap (eFd T D A (eMf T D A z) n) ++ aU A n := by
  obtain ⟨a, b⟩ := h.2.2.1 n hn
  unfold eMf
  rw [show 21 - z n = (20 - z n) + 1 by omega, eMs]
  congr 1
  apply flatMap_congr'
  intro f hf
  apply eFd_congr hf
  intro k hk
  rw [(b k hk).2.2, show 21 - (z n + 1) = 20 - z n by omega]
theorem C_wflds {U c n dp : Nat} {σ0 : SG} {T : List Nat} {D : List Dc} {G : Gh} {A : AV} {rcC : Option Nat → Int32 → SG → Option SG} {rc : Nat → List Nat} (hU4 : 4000 < U) (hcb : cb c) (hg9 : GSc T D) (hE : VE T D G A) (hn : n < gC G) (hdp : dp ≤ 20)
    (hrc : ∀ e ∈ gL G n, ∀ f d, eF e = some f → isF D (gN G n) f d → fty T D d = 13 → ∀ (τ : SG) (W' : List Nat), fb 3 σ0 τ → RB τ 3 W' 0 → W'.length + (rc (eK e)).length ≤ 4000 → PWr W' (rc (eK e)) τ (rcC (some (eA e)) (nI (dp + 1)) τ)) : ∀ (F : List Nat) (p : Option Nat) (W : List Nat) (U1 : Nat) (σ : SG), F.Nodup → (∀ f ∈ F, ∃ d, isF D (gN G n) f d) → CS σ c T D → VG σ c T D G → fb 3 σ0 σ → LN σ (F.flatMap (fun f => flo (some f) (gL G n)) ++ flo none (gL G n)) p → RB σ 3 W 0 → W.length + (F.flatMap (eFd T D A rc n) ++ aU A n).length ≤ 4000 → (F.flatMap (fun f => flo (some f) (gL G n)) ++ flo none (gL G n)).length < U1 → PWr W (F.flatMap (eFd T D A rc n) ++ aU A n) σ (x_X9_writeMessage_L5 U rcC 1094 (nI dp) U1 p σ) := by
  have hun := (hE.2.2 n hn).2
  intro F
  induction F with
  | nil =>
    intro p W U1 σ _ _ hC hV h0 hp hW hl hu
    rw [List.flatMap_nil, List.nil_append] at hl hu ⊢
    have hp' : LN σ (flo none (gL G n)) p := hp
    rw [← hun] at hl ⊢
    obtain ⟨τ, p', U2, t1, t2, t3, t4, t5⟩ := C_wunk (U := U) (c := c) (T := T) (D := D) (rcC := rcC) hU4 hn hdp (flo none (gL G n)) p W U1 σ hV hp' (fun e he => flo_mem.mp he) hW hl hu
    have t5' : p' = none := t5
    obtain ⟨V, rfl⟩ : ∃ V, U2 = V + 1 := ⟨U2 - 1, by omega⟩
    refine ⟨τ, ?_, t3, t4⟩
    rw [t1, x_X9_writeMessage_L5, if_pos t5']
  | cons f F ih =>
    intro p W U1 σ hF hFd hC hV h0 hp hW hl hu
    obtain ⟨n1, n2⟩ := List.nodup_cons.mp hF
    obtain ⟨d, hd⟩ := hFd f (List.mem_cons_self ..)
    rw [List.flatMap_cons, List.append_assoc] at hp hl hu ⊢
    rw [List.length_append] at hl hu
    have hRm : ∀ e ∈ F.flatMap (fun f => flo (some f) (gL G n)) ++ flo none (gL G n), e ∈ gL G n ∧ eF e ≠ some f := by
      intro e he
      rcases List.mem_append.mp he with q | q
      · obtain ⟨x, hx, hx'⟩ := List.mem_flatMap.mp q
        obtain ⟨y1, y2⟩ := flo_mem.mp hx'
        exact ⟨y1, fun z => n1 (by rw [y2] at z; cases z; exact hx)⟩
      · obtain ⟨y1, y2⟩ := flo_mem.mp q
        exact ⟨y1, fun z => by rw [y2] at z; cases z⟩
    have hgm : ∀ e ∈ flo (some f) (gL G n), e ∈ gL G n ∧ eF e = some f := fun e he => flo_mem.mp he
    have hEf := (hE.2.2 n hn).1 f d hd
    -- this field's entries
    have one : GW U c T D rcC dp W (eFd T D A rc n f) (F.flatMap (fun f => flo (some f) (gL G n)) ++ flo none (gL G n)) (flo (some f) (gL G n)).length U1 p σ := by
      have e0 : eFd T D A rc n f = if dPa (lkC T D) T (wl T 701 0) D d then eRw T D d (aE A n f) else (aE A n f).flatMap (eIt T D rc d) := by unfold eFd; rw [hd.1]
      rw [e0] at hl ⊢
      cases hpk : dPa (lkC T D) T (wl T 701 0) D d with
      | false =>
        rw [hpk, if_neg (show ¬ false = true by decide)] at hl
        rw [if_neg (show ¬ false = true by decide)]
        rw [← hEf] at hl ⊢
        exact C_wgrp (rc := rc) (σ0 := σ0) hU4 hcb hg9 hn hd hdp hpk (fun e he => (hRm e he).1) (fun q13 e he hf => hrc e he f d hf hd q13) _ p W U1 σ hC hV h0 hp hgm hW (by omega) (by omega)
      | true =>
        rw [hpk, if_pos (show true = true from rfl)] at hl
        rw [if_pos (show true = true from rfl)]
        have hpk' := hpk
        unfold dPa at hpk'
        rw [Bool.and_eq_true, Bool.and_eq_true, Bool.and_eq_true] at hpk'
        have hR : dR d = true := hpk'.1.1.1
        have hnm : nmr (fty T D d) = true := hpk'.1.1.2
        have q13 : fty T D d ≠ 13 := fun z => by rw [z] at hnm; cases hnm
        have hlive : ∀ e, live T D d e = true := fun e => by unfold live noth; rw [hR]; rfl
        have hfl : (flo (some f) (gL G n)).filter (live T D d) = flo (some f) (gL G n) := List.filter_eq_self.mpr (fun e _ => hlive e)
        rw [hfl] at hEf
        cases hgr : flo (some f) (gL G n) with
        | nil =>
          rw [hgr] at hEf hp
          have hE0 : aE A n f = [] := hEf.symm
          rw [hE0]
          exact ⟨σ, p, U1, rfl, by omega, by show RB σ 3 (W ++ []) 0; rw [List.append_nil]; exact hW, fb_refl _ _, hp⟩
        | cons e g =>
          rw [hgr] at hEf hp hu hgm
          have hE1 : aE A n f = (e :: g).map (itm T D d) := hEf.symm
          have e1 : eRw T D d (aE A n f) = tgB d 2 ++ lnB ((e :: g).flatMap (fun e => nuB (fty T D d) (eV e))) := by
            rw [hE1, List.map_cons]
            show tgB d 2 ++ lnB ((itm T D d e :: g.map (itm T D d)).flatMap (fun it => nuB (fty T D d) it.1)) = _
            rw [← List.map_cons, List.flatMap_map]
            congr 2
            apply flatMap_congr'
            intro x _
            unfold itm
            rw [if_neg q13, hnm, if_pos rfl]
          rw [e1] at hl ⊢
          exact C_wrow hU4 hcb hg9 hn hd hdp hpk hRm hC hV hp hgm hW (by omega) (by omega)
    obtain ⟨τ, p', U2, t1, t2, t3, t4, t5⟩ := one
    have key := ih p' (W ++ eFd T D A rc n f) U2 τ n2 (fun g hg => hFd g (List.mem_cons_of_mem _ hg)) (CS_fb hC hcb t4) (VG_fb hV t4) (fb_trans h0 t4) t5 t3 (by rw [List.length_append]; omega) (by omega)
    obtain ⟨υ, u1, u2, u3⟩ := key
    exact ⟨υ, by rw [t1, u1], by rw [← List.append_assoc]; exact u2, fb_trans t4 u3⟩
theorem C_wmsg {U c : Nat} {T : List Nat} {D : List Dc} {G : Gh} {A : AV} {z : Nat → Nat} (hU4 : 4000 < U) (hcb : cb c) (hg9 : GSc T D) (hE : VE T D G A) (hZ : AW T D A z) : ∀ (j dp n : Nat) (W : List Nat) (σ : SG), j + dp = 25 → n < gC G → z n = dp → CS σ c T D → VG σ c T D G → RB σ 3 W 0 → W.length + (eMf T D A z n).length ≤ 4000 → PWr W (eMf T D A z n) σ (x_X9_writeMessage U 1094 j (some (gH G n)) (nI dp) σ) := by
  intro j
  induction j with
  | zero =>
    intro dp n W σ hj hn hz
    have := (hZ.2.2.1 n (by rw [← hE.1]; exact hn)).1
    omega
  | succ j ih =>
    intro dp n W σ hj hn hz hC hV hW hl
    have hnA : n < aC A := by rw [← hE.1]; exact hn
    obtain ⟨z1, z2⟩ := hZ.2.2.1 n hnA
    obtain ⟨h1, h2, h3⟩ := hV.h hn
    have hM : isM D (gN G n) := hV.2.2.2.2.2.2.2.1 n hn
    have hVN := hV.2.2.2.2.2.2.2.2.2 n hn
    have hgr := grp (D := D) (chF D (gN G n)) (gL G n) (chD_srt hg9 hM _) hVN.2.2.1 (fun f hf => by
      obtain ⟨d, hd⟩ := (chF_mem hg9 hM).mp hf
      have := (hg9.nu hd.1 hd.2.1).2.1
      omega) (fun e he f hf => by
      obtain ⟨d, hd, _⟩ := (hV.e hn he).2.2.2.2.2.2 f hf
      exact (chF_mem hg9 hM).mpr ⟨d, hd⟩)
    rw [x_X9_writeMessage]
    unfold x_X9_writeMessage_b
    rw [ck_eq (nd_sh h1 h2)]
    rw [eMf_eq hZ hnA, ← hE.2.1 n hn] at hl ⊢
    refine C_wflds (σ0 := σ) (rcC := x_X9_writeMessage U 1094 j) (rc := eMf T D A z) hU4 hcb hg9 hE hn (by omega) (fun e he f d hf hd q13 τ W' hτ hW' hl' => ?_) (chF D (gN G n)) _ W U σ (chD_nodup _) (fun f hf => (chF_mem hg9 hM).mp hf) hC hV (fb_refl _ _) (by rw [← hgr]; exact hVN.1) hW hl (by rw [← hgr]; have := hV.len hn; omega)
    have hk : eK e ∈ chN T D A n := (chN_e hg9 hV hE hn).mpr ⟨e, he, f, d, hf, hd, q13, rfl⟩
    obtain ⟨d', hd', _, g2⟩ := (hV.e hn he).2.2.2.2.2.2 f hf
    have : d' = d := by have := hd'.1; rw [hd.1] at this; exact (Option.some.inj this).symm
    subst this
    obtain ⟨k1, k2, k3, k4⟩ := g2 q13
    have := ih (dp + 1) (eK e) W' τ (by omega) k2 (by rw [(z2 _ hk).2.2, hz]) (CS_fb hC hcb hτ) (VG_fb hV hτ) hW' hl'
    rw [k3] at this
    exact this
/-- the class's encode -/
theorem C_encode {U c m : Nat} {σ : SG} {T : List Nat} {D : List Dc} {A : AV} {z : Nat → Nat} (hU4 : 4000 < U) (hcb : cb c) (hg9 : GSc T D) (hC : CS σ c T D) (hV : VCs σ c T D m A) (hZ : AW T D A z) (hl : (eMf T D A z 0).length ≤ 4000) : ∃ τ, x_X11_encode U 0 σ = some (.inl (some (.int (nI (eMf T D A z 0).length))), τ) ∧ RB τ 3 (eMf T D A z 0) 0 ∧ fb 3 σ τ := by
  obtain ⟨⟨G, hG, hE⟩, p4, p5⟩ := hV
  unfold x_X11_encode x_X8_isThere x_X9_write
  obtain ⟨τ1, a1, a2, a3⟩ := X0_clear (σ := σ) (a := 3)
  have f1 : fb 3 σ τ1 := fun b h1 h2 => a3 b h1
  rw [a1, b1_eq, (a3 389 (by decide) 5).2.2, p5, if_neg (show ¬ ad c (some m) = none by intro z; cases z), (a3 389 (by decide) 4).2.2, p4, if_neg (show ¬ some (c + 1) = none by intro z; cases z), b1_eq, if_neg (show ¬ (1 : Int32) = 0 by decide), b1_id]
  have key := C_wmsg hU4 hcb hg9 hE hZ 24 1 0 [] τ1 (by omega) hG.2.2.2.1 hZ.2.1 (CS_fb hC hcb f1) (VG_fb hG f1) a2 (by rw [List.length_nil]; omega)
  rw [hG.2.2.2.2.1] at key
  obtain ⟨τ, t1, t2, t3⟩ := key
  have t1' : x_X9_writeMessage U 1094 24 (some 1091) 1 τ1 = some τ := t1
  rw [t1', b1_eq, X0_size t2, b1_eq]
  exact ⟨τ, rfl, t2, fb_trans f1 t3⟩
theorem C_encode_no {U : Nat} {σ : SG} (h : VCn σ) : ∃ τ, x_X11_encode U 0 σ = some (.inr ISE, τ) ∧ RB τ 3 [] 0 ∧ fb 3 σ τ := by
  unfold x_X11_encode x_X8_isThere
  obtain ⟨τ1, a1, a2, a3⟩ := X0_clear (σ := σ) (a := 3)
  rw [a1, b1_eq, (a3 389 (by decide) 5).2.2, h.2.1, if_pos rfl, b1_eq, if_pos rfl]
  exact ⟨τ1, rfl, a2, fun b h1 h2 => a3 b h1⟩
