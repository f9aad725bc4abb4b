/-! ===== the class prints ===== -/
def pE (T : List Nat) (D : List Dc) (dp : Nat) (rc : Nat → List Nat) (e : Eg) : List Nat := match eF e with
  | none => []
  | some f => match D[f]? with
    | none => []
    | some d => if live T D d e then pIt T D dp rc d (itm T D d e) else []
theorem LN_fp {σ τ : SG} {c n : Nat} {T : List Nat} {D : List Dc} {G : Gh} {L : List Eg} {p : Option Nat} (hV : VG σ c T D G) (hn : n < gC G) (hL : ∀ e ∈ L, e ∈ gL G n) (hf : fp3 σ τ) (h : LN σ L p) : LN τ L p := LN_keep L p h (fun e he => by
  have h1 := (hV.e hn (hL e he)).1
  have h2 := (hV.e hn (hL e he)).2.1
  have h3 := hV.2.1
  exact (hf (eA e) (by omega) (by omega) (by omega) 1).2.2)
theorem C_pch {U c n dp : Nat} {σ0 : SG} {T : List Nat} {D : List Dc} {G : Gh} {rcC : Option Nat → Option Nat → Int32 → SG → Option SG} {rc : Nat → List Nat} (hU4 : 4000 < U) (hcb : cb c) (hg : GSc T D) (hn : n < gC G) (h1 : 1 ≤ dp) (hdp : dp ≤ 20)
    (hrc : ∀ e ∈ gL G n, ∀ f d, eF e = some f → isF D (gN G n) f d → fty T D d = 13 → ∀ (τ : SG) (w' : List Nat × Int32), fp3 σ0 τ → RW τ 3 w' → WR w' (rc (eK e)) τ (rcC (some (eA e)) (some (c + 2)) (nI (dp + 1)) τ)) : ∀ (L : List Eg) (p : Option Nat) (U1 : Nat) (σ : SG) (w : List Nat × Int32), CS σ c T D → VG σ c T D G → fp3 σ0 σ → LN σ L p → (∀ e ∈ L, e ∈ gL G n) → RW σ 3 w → L.length < U1 → WR w (L.flatMap (pE T D dp rc)) σ (x_X7_writeMessage_L6 U rcC 1095 (some (c + 2)) (nI dp) U1 p σ) := by
  intro L
  induction L with
  | nil =>
    intro p U1 σ w hC hV h0 hp _ hw hu
    obtain ⟨V, rfl⟩ : ∃ V, U1 = V + 1 := ⟨U1 - 1, by simp at hu; omega⟩
    rw [x_X7_writeMessage_L6, if_pos (show p = none from hp)]
    exact ⟨σ, rfl, hw, fp3_refl σ⟩
  | cons e L ih =>
    intro p U1 σ w hC hV h0 hp hL hw hu
    rw [List.length_cons] at hu
    obtain ⟨V, rfl⟩ : ∃ V, U1 = V + 1 := ⟨U1 - 1, by omega⟩
    have he := hL e (List.mem_cons_self ..)
    have hul := hV.2.1
    have hl9 := hg.2.1
    obtain ⟨e1, e2, e3, _, _, _, e11⟩ := hV.e hn he
    have hsh : sh (eA e) = 4 := nd_sh e1 (by omega)
    have hdn : ¬ (20 : Int32) < nI dp := fun z => by have := (ltI (a := 20) (by decide) (by omega)).mp z; omega
    have hL' : ∀ x ∈ L, x ∈ gL G n := fun x hx => hL x (List.mem_cons_of_mem _ hx)
    have skip : pE T D dp rc e = [] → WR w ((e :: L).flatMap (pE T D dp rc)) σ (x_X7_writeMessage_L6 U rcC 1095 (some (c + 2)) (nI dp) V (sP σ (eA e) 1) σ) := by
      intro h
      rw [List.flatMap_cons, h, List.nil_append]
      exact ih (sP σ (eA e) 1) V σ w hC hV h0 hp.2 hL' hw (by omega)
    have hp1 : p = some (eA e) := hp.1
    rw [hp1, x_X7_writeMessage_L6, if_neg (show ¬ some (eA e) = none by intro z; cases z), if_neg hdn, ck_eq hsh, e3]
    unfold x_X7_writeMessage_46
    simp only [ck_eq hsh]
    cases hf : eF e with
    | none =>
      rw [if_pos (show ad c none = none from rfl)]
      exact skip (by unfold pE; rw [hf])
    | some f =>
      obtain ⟨d, hd, _⟩ := e11 f hf
      have hfl := (List.getElem?_eq_some_iff.mp hd.1).1
      rw [if_neg (show ¬ ad c (some f) = none by intro z; cases z), X4_isNothing hcb hg hC hV hn he hf hd, b1_eq, ifz]
      have hlv : live T D d e = !noth T D d (eV e) (eT e) := rfl
      have epE : pE T D dp rc e = if live T D d e then pIt T D dp rc d (itm T D d e) else [] := by unfold pE; rw [hf]; simp only [hd.1]
      cases hno : noth T D d (eV e) (eT e) with
      | true =>
        rw [if_pos (show true = true from rfl)]
        exact skip (by rw [epE, hlv, hno]; rfl)
      | false =>
        rw [if_neg (show ¬ false = true by decide), ad_some, List.flatMap_cons, epE, hlv, hno, if_pos (show (!false) = true from rfl)]
        refine WR_b1 (C_pfld hU4 hcb hg hC hV hn he hf hd h1 hdp hw (fun q13 τ w' hτ hw' => hrc e he f d hf hd q13 τ w' (fp3_trans h0 hτ) hw')) (fun τ t2 t3 => ?_)
        have hnx : sP τ (eA e) 1 = sP σ (eA e) 1 := (t3 (eA e) (by omega) (by omega) (by omega) 1).2.2
        rw [hnx]
        exact ih (sP σ (eA e) 1) V τ _ (CS_fp hC hcb t3) (VG_fp hV t3) (fp3_trans h0 t3) (LN_fp hV hn hL' t3 hp.2) hL' t2 (by omega)
theorem pE_flo {T : List Nat} {D : List Dc} {G : Gh} {A : AV} {dp n f : Nat} {d : Dc} {rc : Nat → List Nat} (hE : VE T D G A) (hn : n < gC G) (hd : isF D (gN G n) f d) : (flo (some f) (gL G n)).flatMap (pE T D dp rc) = pFd T D A dp rc n f := by
  have hEf := (hE.2.2 n hn).1 f d hd
  unfold pFd
  rw [hd.1]
  simp only
  rw [← hEf]
  have : ∀ (L : List Eg), (∀ e ∈ L, eF e = some f) → L.flatMap (pE T D dp rc) = ((L.filter (live T D d)).map (itm T D d)).flatMap (pIt T D dp rc d) := by
    intro L
    induction L with
    | nil => intro _; rfl
    | cons e L ih =>
      intro h
      have ih' := ih (fun x hx => h x (List.mem_cons_of_mem _ hx))
      have epE : pE T D dp rc e = if live T D d e then pIt T D dp rc d (itm T D d e) else [] := by unfold pE; rw [h e (List.mem_cons_self ..)]; simp only [hd.1]
      rw [List.flatMap_cons, ih', epE, List.filter_cons]
      by_cases q : live T D d e = true
      · rw [if_pos q, if_pos q, List.map_cons, List.flatMap_cons]
      · rw [if_neg q, if_neg q, List.nil_append]
  exact this _ (fun e he => (flo_mem.mp he).2)
theorem pFd_congr {T : List Nat} {D : List Dc} {A : AV} {dp : Nat} {rc rc' : Nat → List Nat} {n f : Nat} (hf : f ∈ chF D (aN A n)) (h : ∀ k ∈ chN T D A n, rc k = rc' k) : pFd T D A dp rc n f = pFd T D A dp rc' n f := by
  unfold pFd
  cases hd : D[f]? with
  | none => rfl
  | some d =>
    simp only
    apply flatMap_congr'
    intro it hit
    unfold pIt
    by_cases q : fty T D d = 13
    · rw [if_pos q, if_pos q, h _ (chN_mem.mpr ⟨f, hf, by unfold isT; rw [hd]; exact decide_eq_true q, it, hit, rfl⟩)]
    · rw [if_neg q, if_neg q]
def pMf (T : List Nat) (D : List Dc) (A : AV) (z : Nat → Nat) (n : Nat) : List Nat := pMs T D A (21 - z n) (z n) n
theorem pMf_eq {T : List Nat} {D : List Dc} {A : AV} {z : Nat → Nat} (h : AW T D A z) {n : Nat} (hn : n < aC A) : pMf T D A z n = (chF D (aN A n)).flatMap (pFd T D A (z n) (pMf T D A z) n) := by
  obtain ⟨a, b⟩ := h.2.2.1 n hn
  unfold pMf
  rw [show 21 - z n = (20 - z n) + 1 by omega, pMs]
  apply flatMap_congr'
  intro f hf
  apply pFd_congr hf
  intro k hk
  rw [(b k hk).2.2, show 21 - (z n + 1) = 20 - z n by omega]
theorem C_pmsg {U c : Nat} {T : List Nat} {D : List Dc} {G : Gh} {A : AV} {z : Nat → Nat} (hU4 : 4000 < U) (hcb : cb c) (hg9 : GSc T D) (hE : VE T D G A) (hZ : AW T D A z) : ∀ (j dp n : Nat) (w : List Nat × Int32) (σ : SG), j + dp = 25 → 1 ≤ dp → n < gC G → z n = dp → CS σ c T D → VG σ c T D G → RW σ 3 w → WR w (pMf T D A z n) σ (x_X7_writeMessage U 1095 j (some (gH G n)) (some (c + 2)) (nI dp) σ) := by
  intro j
  induction j with
  | zero =>
    intro dp n w σ hj _ hn hz
    have := (hZ.2.2.1 n (by rw [← hE.1]; exact hn)).1
    omega
  | succ j ih =>
    intro dp n w σ hj h1 hn hz hC hV hw
    have hnA : n < aC A := by rw [← hE.1]; exact hn
    obtain ⟨z1, z2⟩ := hZ.2.2.1 n hnA
    obtain ⟨g1, g2, g3⟩ := hV.h hn
    have hM : isM D (gN G n) := hV.2.2.2.2.2.2.2.1 n hn
    have hVN := hV.2.2.2.2.2.2.2.2.2 n hn
    have hgr := grp (D := D) (chF D (gN G n)) (gL G n) (chD_srt hg9 hM _) hVN.2.2.1 (fun f hf => by
      obtain ⟨d, hd⟩ := (chF_mem hg9 hM).mp hf
      have := (hg9.nu hd.1 hd.2.1).2.1
      omega) (fun e he f hf => by
      obtain ⟨d, hd, _⟩ := (hV.e hn he).2.2.2.2.2.2 f hf
      exact (chF_mem hg9 hM).mpr ⟨d, hd⟩)
    rw [x_X7_writeMessage]
    unfold x_X7_writeMessage_b
    rw [ck_eq (nd_sh g1 g2)]
    have key := C_pch (U := U) (c := c) (dp := dp) (σ0 := σ) (T := T) (D := D) (G := G) (rcC := x_X7_writeMessage U 1095 j) (rc := pMf T D A z) hU4 hcb hg9 hn h1 (by omega) (fun e he f d hf hd q13 τ w' hτ hw' => by
      have hk : eK e ∈ chN T D A n := (chN_e hg9 hV hE hn).mpr ⟨e, he, f, d, hf, hd, q13, rfl⟩
      obtain ⟨d', hd', _, g2⟩ := (hV.e hn he).2.2.2.2.2.2 f hf
      have : d' = d := by have := hd'.1; rw [hd.1] at this; exact (Option.some.inj this).symm
      subst this
      obtain ⟨k1, k2, k3, k4⟩ := g2 q13
      have := ih (dp + 1) (eK e) w' τ (by omega) (by omega) k2 (by rw [(z2 _ hk).2.2, hz]) (CS_fp hC hcb hτ) (VG_fp hV hτ) hw'
      rw [k3] at this
      exact this) (gL G n) _ U σ w hC hV (fp3_refl σ) hVN.1 (fun e he => he) hw (by have := hV.len hn; omega)
    have e1 : (gL G n).flatMap (pE T D dp (pMf T D A z)) = pMf T D A z n := by
      rw [pMf_eq hZ hnA, ← hE.2.1 n hn, hz]
      have : (flo none (gL G n)).flatMap (pE T D dp (pMf T D A z)) = [] := by
        rw [List.flatMap_eq_nil_iff]
        intro e he
        unfold pE
        rw [(flo_mem.mp he).2]
      conv => lhs; rw [hgr]
      rw [List.flatMap_append, this, List.append_nil, List.flatMap_assoc]
      apply flatMap_congr'
      intro f hf
      obtain ⟨d, hd⟩ := (chF_mem hg9 hM).mp hf
      exact pE_flo hE hn hd
    rw [e1] at key
    exact key
/-- OUT behind a print: its text, or none if it is too long -/
def prS (B : List Nat) : Option (List Nat) := if B.length ≤ 4000 then some B else none
theorem wrL_over {m : Nat} : ∀ (L : List Nat) (w : List Nat × Int32), w.1.length ≤ m → m < w.1.length + L.length → (wrL m w L).2 = 1 := by
  intro L
  induction L with
  | nil => intro w h1 h2; simp at h2; omega
  | cons a L ih =>
    intro w h1 h2
    rw [wrL_cons]
    by_cases q : w.1.length < m
    · have e : wr1 m w a = (w.1 ++ [a], w.2) := by unfold wr1; rw [if_pos q]
      rw [e]
      exact ih _ (by simp; omega) (by simp at h2 ⊢; omega)
    · have e : wr1 m w a = (w.1, 1) := by unfold wr1; rw [if_neg q]
      rw [e]
      have : ∀ (L : List Nat) (w : List Nat × Int32), w.2 = 1 → (wrL m w L).2 = 1 := by
        intro L
        induction L with
        | nil => intro w h; exact h
        | cons b L ih' =>
          intro w h
          rw [wrL_cons]
          apply ih'
          unfold wr1
          split
          · exact h
          · rfl
      exact this L _ rfl
noncomputable def prA (B : List Nat) : mm_R := if B.length ≤ 4000 then .inl (some (.int (nI B.length))) else .inr "java/lang/UnsupportedOperationException"
def prO (B : List Nat) : List Nat := if B.length ≤ 4000 then B else []
/-- the class's print -/
theorem C_print {U c m : Nat} {σ : SG} {T : List Nat} {D : List Dc} {A : AV} {z : Nat → Nat} (hU4 : 4000 < U) (hcb : cb c) (hg9 : GSc T D) (hC : CS σ c T D) (hV : VCs σ c T D m A) (hZ : AW T D A z) : ∃ τ, x_X11_print U 0 σ = some (prA (pMf T D A z 0), τ) ∧ RB τ 3 (prO (pMf T D A z 0)) 0 ∧ fp3 σ τ := by
  obtain ⟨⟨G, hG, hE⟩, p4, p5⟩ := hV
  have hc : c = 5 ∨ c = 197 := hcb
  unfold x_X11_print x_X8_isThere x_X7_write
  obtain ⟨τ1, a1, a2, a3⟩ := X0_clear (σ := σ) (a := 3)
  have f1 : fp3 σ τ1 := fun b h1 _ _ => a3 b h1
  have a2' : RW τ1 3 ([], 0) := a2
  rw [a1, b1_eq, (a3 389 (by decide) 5).2.2, p5, if_neg (show ¬ ad c (some m) = none by intro z; cases z), (a3 389 (by decide) 4).2.2, p4, if_neg (show ¬ some (c + 1) = none by intro z; cases z), b1_eq, if_neg (show ¬ (1 : Int32) = 0 by decide), if_neg (show ¬ some (c + 1) = none by intro z; cases z), ck_eq (show sh (c + 1) = 6 by rcases hc with z | z <;> rw [z] <;> decide)]
  unfold x_X6_text
  rw [b1_eq, b1_id]
  have key := C_pmsg hU4 hcb hg9 hE hZ 24 1 0 ([], 0) τ1 (by omega) (by decide) hG.2.2.2.1 hZ.2.1 (CS_fp hC hcb f1) (VG_fp hG f1) a2'
  rw [hG.2.2.2.2.1] at key
  obtain ⟨τ, t1, t2, t3⟩ := key
  have t1' : x_X7_writeMessage U 1095 24 (some 1091) (some (c + 1 + 1)) 1 τ1 = some τ := t1
  rw [t1', b1_eq]
  unfold x_X0_isSpilt prA prO
  have t22 : sI τ 3 2 = (wrL 4000 ([], 0) (pMf T D A z 0)).2 := t2.2.1
  by_cases q : (pMf T D A z 0).length ≤ 4000
  · rw [wrL_fit _ _ (by simpa using q)] at t2 t22
    have t2' : RB τ 3 (pMf T D A z 0) 0 := t2
    rw [if_pos q, if_pos q, t22, zb0, b1_eq, if_pos (show (0 : Int32) = 0 from rfl), X0_size t2', b1_eq]
    exact ⟨τ, rfl, t2', fp3_trans f1 t3⟩
  · rw [wrL_over _ _ (by simp) (by simpa using q)] at t22
    rw [if_neg q, if_neg q, t22, zb1, b1_eq, if_neg (show ¬ (1 : Int32) = 0 by decide)]
    obtain ⟨υ, u1, u2, u3⟩ := X0_clear (σ := τ) (a := 3)
    rw [u1, b1_eq]
    exact ⟨υ, rfl, u2, fp3_trans f1 (fp3_trans t3 (fun b h1 _ _ => u3 b h1))⟩
theorem C_print_no {U : Nat} {σ : SG} (h : VCn σ) : ∃ τ, x_X11_print U 0 σ = some (.inr ISE, τ) ∧ RB τ 3 [] 0 ∧ fp3 σ τ := by
  unfold x_X11_print x_X8_isThere
  obtain ⟨τ1, a1, a2, a3⟩ := X0_clear (σ := σ) (a := 3)
  rw [a1, b1_eq, (a3 389 (by decide) 5).2.2, h.2.1, if_pos rfl, b1_eq, if_pos rfl]
  exact ⟨τ1, rfl, a2, fun b h1 _ _ => a3 b h1⟩
