/-! ===== both compile ===== -/
theorem okA_split {lk : Option Nat → List Nat → Option Nat} {T : List Nat} {Ws : List Wd} {D : List Dc} (hW : WF D) (hG : GD T Ws D) : okA lk T Ws D = true ↔ (∀ (k : Nat) (d : Dc), D[k]? = some d → tkn T D k d = false) ∧ ((∀ (i : Nat) (d : Dc), D[i]? = some d → dK d = 2 → gdF D i d) ∧ ∀ (i : Nat) (d : Dc), D[i]? = some d → dK d = 3 → gdV D i d) ∧ ∀ (i : Nat) (d : Dc), D[i]? = some d → dK d = 2 → okT lk T Ws D d = true ∧ okP lk T Ws D d = true := by
  -- a field's number
  have fnum : ∀ (k : Nat) (d : Dc) (m : Nat), D[k]? = some d → dK d = 2 → dS d = some m → (((chD D k m).find? (fun i => decide (nLi D i = nL (dN d)))).isNone = true ↔ ∀ (j : Nat) (x : Dc), j < k → D[j]? = some x → dK x = 2 → dS x = dS d → (dN x).2 ≠ (dN d).2) := by
    intro k d m hd h2 hm
    rw [Option.isNone_iff_eq_none, List.find?_eq_none]
    have fd := (hG k d hd).2.1
    have f1 := (fd.2.2.1 h2).1
    have eqn : ∀ (x : Dc) (j : Nat), D[j]? = some x → dK x = 2 → (nL (dN x) = nL (dN d) ↔ (dN x).2 = (dN d).2) := by
      intro x j hx hx2
      have gx := (hG j x hx).2.1
      unfold nL
      rw [f1, (gx.2.2.1 hx2).1]
      simp only [Bool.false_eq_true, if_false]
      exact pk_lEQ (by have := gx.1; omega) (by have := fd.1; omega)
    constructor
    · intro h j x hj hx hx2 hs hn
      have : j ∈ chD D k m := (chD_mem k j).mpr ⟨hj, x, hx, Or.inl ⟨hx2, hs.trans hm⟩⟩
      have := h j this
      rw [nLi_some hx] at this
      exact this (decide_eq_true ((eqn x j hx hx2).mpr hn))
    · intro h j hj hn
      obtain ⟨h1, x, hx, h3⟩ := (chD_mem k j).mp hj
      have hn' := of_decide_eq_true hn
      rw [nLi_some hx] at hn'
      rcases h3 with h3 | h3
      · exact h j x h1 hx h3.1 (h3.2.trans hm.symm) ((eqn x j hx h3.1).mp hn')
      · obtain ⟨e, he, _, y, hy, hy1⟩ := hW.val hx h3.1
        rw [h3.2] at he
        cases he
        obtain ⟨z, hz, hz0⟩ := hW.scK hd m hm
        rw [hy] at hz
        cases hz
        omega
  have kOK : ∀ (k : Nat) (d : Dc), D[k]? = some d → (okK lk T Ws D k d = true ↔ (dK d = 2 → gdF D k d ∧ okP lk T Ws D d = true) ∧ (dK d = 3 → gdV D k d)) := by
    intro k d hd
    unfold okK
    by_cases h2 : dK d = 2
    · rw [if_pos h2]
      obtain ⟨m, hm⟩ : ∃ m, dS d = some m := by
        rcases (hW k d hd).2 with z | z | z | z | z
        · omega
        · omega
        · omega
        · cases e : dS d with
          | none => exact absurd e z.2.1
          | some m => exact ⟨m, rfl⟩
        · omega
      have fn := fnum k d m hd h2 hm
      rw [hm]
      simp only
      rw [Bool.and_eq_true, Bool.and_eq_true, fn]
      unfold gdF
      exact ⟨fun z => ⟨fun _ => ⟨⟨z.1.1, z.1.2⟩, z.2⟩, fun y => by omega⟩, fun z => ⟨⟨(z.1 h2).1.1, (z.1 h2).1.2⟩, (z.1 h2).2⟩⟩
    rw [if_neg h2]
    by_cases h3 : dK d = 3
    · rw [if_pos h3]
      obtain ⟨e, he, _, _⟩ := hW.val hd h3
      rw [he]
      simp only
      rw [Bool.and_eq_true, decide_eq_true_iff]
      unfold gdV
      exact ⟨fun z => ⟨fun y => absurd y h2, fun _ => ⟨z.1, fun e' he' => by rw [he] at he'; cases he'; exact z.2⟩⟩, fun z => ⟨(z.2 h3).1, (z.2 h3).2 e he⟩⟩
    · rw [if_neg h3]
      exact ⟨fun _ => ⟨fun y => absurd y h2, fun y => absurd y h3⟩, fun _ => rfl⟩
  rw [okA_iff]
  constructor
  · intro h
    have each : ∀ (k : Nat) (d : Dc), D[k]? = some d → okT lk T Ws D d = true ∧ tkn T D k d = false ∧ okK lk T Ws D k d = true := by
      intro k d hd
      have := h k d hd
      unfold okD at this
      rw [Bool.and_eq_true, Bool.and_eq_true, Bool.not_eq_true'] at this
      exact ⟨this.1.1, this.1.2, this.2⟩
    exact ⟨fun k d hd => (each k d hd).2.1, ⟨fun i d hd h2 => (((kOK i d hd).mp (each i d hd).2.2).1 h2).1, fun i d hd h3 => ((kOK i d hd).mp (each i d hd).2.2).2 h3⟩, fun i d hd h2 => ⟨(each i d hd).1, (((kOK i d hd).mp (each i d hd).2.2).1 h2).2⟩⟩
  · rintro ⟨h1, ⟨h2, h3⟩, h4⟩ k d hd
    unfold okD
    rw [Bool.and_eq_true, Bool.and_eq_true, Bool.not_eq_true']
    refine ⟨⟨?_, h1 k d hd⟩, (kOK k d hd).mpr ⟨fun z => ⟨h2 k d hd z, (h4 k d hd z).2⟩, fun z => h3 k d hd z⟩⟩
    by_cases z : dK d = 2
    · exact (h4 k d hd z).1
    · unfold okT; rw [show nmd d = false from decide_eq_false (fun y => z y.1)]; rfl
/-- the cells that the reference's compile may change -/
def KC : List Nat := [1, 5, 6, 31, 73, 79] ++ KR
def Pcm (s b k : Nat) : Prop := (b = 1101 ∧ k ∈ KC) ∨ (1128 ≤ b ∧ b ≤ 1159) ∨ PKP s b k
theorem Pcm_9 {s : Nat} {σ τ : SG} (h : fP P9 σ τ) : fP (Pcm s) σ τ := fP_mono h (fun b k z => by
  rcases z with z | z
  · rcases z with z | z
    · exact Or.inl ⟨z.1, List.mem_append_right _ z.2⟩
    · exact Or.inr (Or.inl (by omega))
  · exact Or.inr (Or.inl (by omega)))
theorem Pcm_T {s : Nat} {σ τ : SG} (h : fP PT σ τ) : fP (Pcm s) σ τ := fP_mono h (fun b k z => by
  rcases z with z | z | z
  · refine Or.inl ⟨z.1, ?_⟩
    rcases z.2 with y | y | y <;> rw [y] <;> decide
  · exact Or.inr (Or.inl (by omega))
  · exact Or.inr (Or.inl (by omega)))
theorem Pcm_q {s : Nat} {σ τ : SG} (h : fq [74, 75] σ τ) : fP (Pcm s) σ τ := Pcm_T (PT_q h)
theorem Pcm_K {s : Nat} {σ τ : SG} (h : fP (PK9 s) σ τ) : fP (Pcm s) σ τ := fP_mono h (fun b k z => by
  rcases z with z | z
  · exact Or.inl ⟨z.1, by rw [z.2]; decide⟩
  · exact Or.inr (Or.inr z))
theorem RS_nil {σ : SG} {s : Nat} (h : ∀ q, q < 4 → sI σ (1104 + q) s = 0) : RS σ s [] [] := ⟨by decide, fun q hq => (h q hq).trans rfl, fun i d hd => by simp at hd⟩
/-- the end of the reference's compile -/
theorem N_comp_end {U s : Nat} {T : List Nat} {σ : SG} {S : Option (List Dc)} (hs : s < 2) (hok : sI σ 1101 74 = 0 → ∃ D, S = some D ∧ ∃ τ, x_X12_keep U 1101 (nI s) (uI σ 1101 6 (-1)) = some τ ∧ fP (PK9 s) (uI σ 1101 6 (-1)) τ ∧ RS τ s T D) (hbad : ¬ sI σ 1101 74 = 0 → S = none) :
    ∃ v τ, x_X12_compile_77 U 1101 (nI s) σ = some (v, τ) ∧ fP (Pcm s) σ τ ∧ (∀ k, k ≠ 6 → k ≠ 31 → sI τ 1101 k = sI σ 1101 k) ∧ (S = none → RS τ s [] []) ∧ ∀ D, S = some D → RS τ s T D := by
  have m6 : ∀ v, fP (Pcm s) σ (uI σ 1101 6 v) := fun v => fP_u (Or.inl ⟨rfl, by decide⟩)
  unfold x_X12_compile_77 x_X12_compile_93
  by_cases q : sI σ 1101 74 = 0
  · rw [if_pos q, sb_eq, sI_o (Or.inr (by decide)), if_pos q]
    obtain ⟨D, hD, τ, e1, e2, e3⟩ := hok q
    rw [e1, b1_eq]
    refine ⟨_, τ, rfl, fP_trans (m6 _) (Pcm_K e2), fun k h6 h31 => ?_, fun z => (by rw [hD] at z; cases z), fun D' z => ?_⟩
    · rw [(e2 1101 k (by unfold PK9 PKP; omega)).1, sI_o (Or.inr h6)]
    · rw [hD] at z; cases z; exact e3
  · rw [if_neg q, sb_eq, sI_o (Or.inr (by decide)), if_neg q, ix_in hs (by decide), sb_eq, ix_in hs (by decide), sb_eq, ix_in hs (by decide), sb_eq, ix_in hs (by decide), sb_eq]
    refine ⟨_, _, rfl, ?_, fun k h6 h31 => ?_, fun _ => RS_nil (fun q' hq' => ?_), fun D' z => (by rw [hbad q] at z; cases z)⟩
    · refine fP_trans (fP_trans (fP_trans (fP_trans (m6 _) (fP_u ?_)) (fP_u ?_)) (fP_u ?_)) (fP_u ?_)
      all_goals exact Or.inr (Or.inr (by unfold PKP; omega))
    · rw [sI_o (Or.inl (by decide)), sI_o (Or.inl (by decide)), sI_o (Or.inl (by decide)), sI_o (Or.inl (by decide)), sI_o (Or.inr h6)]
    · have : q' = 0 ∨ q' = 1 ∨ q' = 2 ∨ q' = 3 := by omega
      rcases this with z | z | z | z <;> subst z
      · rw [sI_o (Or.inl (by decide)), sI_o (Or.inl (by decide)), sI_o (Or.inl (by decide)), sI_s]
      · rw [sI_o (Or.inl (by decide)), sI_o (Or.inl (by decide)), sI_s]
      · rw [sI_o (Or.inl (by decide)), sI_s]
      · rw [sI_s]
theorem isSchema_s {s : Nat} (hs : s < 2) : x_X12_isSchema (nI s) = some 1 := by
  have : s = 0 ∨ s = 1 := by omega
  rcases this with z | z <;> subst z <;> decide
theorem N_compile {U s : Nat} {T : List Nat} {σ : SG} (hU : 4000 < U) (hs : s < 2) (hT : RTr σ T) (h8 : ok8 T) (hl : T.length ≤ 700) :
    ∃ v τ, x_X12_compile U 1101 (nI s) σ = some (v, τ) ∧ fP (Pcm s) σ τ ∧ RTr τ [] ∧ sI τ 1101 5 = 0 ∧ sI τ 1101 79 = 0 ∧ (scm T = none → RS τ s [] []) ∧ ∀ D, scm T = some D → RS τ s T D := by
  unfold x_X12_compile x_X12_compile_13
  rw [isSchema_s hs, b1_eq, if_neg (by decide), sb_eq, sI_s, if_pos rfl, sb_eq, sb_eq, sb_eq, sI_o (Or.inr (by decide)), hT.1]
  have F8 : fP (Pcm s) σ (uI (uI (uI (uI σ 1101 5 0) 1101 73 (nI T.length)) 1101 1 0) 1101 79 0) := by
    refine fP_trans (fP_trans (fP_trans (fP_u ?_) (fP_u ?_)) (fP_u ?_)) (fP_u ?_)
    all_goals exact Or.inl ⟨rfl, by decide⟩
  have L8 : LR (uI (uI (uI (uI σ 1101 5 0) 1101 73 (nI T.length)) 1101 1 0) 1101 79 0) T := by
    refine ⟨?_, ?_, hl, h8⟩
    · rw [sI_o (Or.inr (by decide)), sI_o (Or.inr (by decide)), sI_s]
    · exact (((hT.2.sm (sm_uI (by decide))).sm (sm_uI (by decide))).sm (sm_uI (by decide))).sm (sm_uI (by decide))
  have c1 : sI (uI (uI (uI (uI σ 1101 5 0) 1101 73 (nI T.length)) 1101 1 0) 1101 79 0) 1101 1 = 0 := by rw [sI_o (Or.inr (by decide)), sI_s]
  have c5 : sI (uI (uI (uI (uI σ 1101 5 0) 1101 73 (nI T.length)) 1101 1 0) 1101 79 0) 1101 5 = 0 := by rw [sI_o (Or.inr (by decide)), sI_o (Or.inr (by decide)), sI_o (Or.inr (by decide)), sI_s]
  have c79 : sI (uI (uI (uI (uI σ 1101 5 0) 1101 73 (nI T.length)) 1101 1 0) 1101 79 0) 1101 79 = 0 := sI_s _ _ _ _
  generalize (uI (uI (uI (uI σ 1101 5 0) 1101 73 (nI T.length)) 1101 1 0) 1101 79 0) = σ8 at *
  obtain ⟨σ10, a1, a2, a3, a4⟩ := N_readSchema hU L8
  rw [a1, b1_eq]
  have keep9 : ∀ k, k = 1 ∨ k = 5 ∨ k = 79 → sI σ10 1101 k = sI σ8 1101 k := fun k hk => (a2 1101 k (by
    rintro (z | z)
    · rcases z with z | z
      · have := z.2; unfold KR at this; simp only [List.mem_cons, List.not_mem_nil, or_false] at this; omega
      · omega
    · omega)).1
  have fin : ∀ (ω : SG) (S : Option (List Dc)), S = scm T → fP (Pcm s) σ ω → (∀ k, k = 1 ∨ k = 5 ∨ k = 79 → sI ω 1101 k = 0) → (sI ω 1101 74 = 0 → ∃ D, S = some D ∧ ∃ τ, x_X12_keep U 1101 (nI s) (uI ω 1101 6 (-1)) = some τ ∧ fP (PK9 s) (uI ω 1101 6 (-1)) τ ∧ RS τ s T D) → (¬ sI ω 1101 74 = 0 → S = none) → ∃ v τ, x_X12_compile_77 U 1101 (nI s) ω = some (v, τ) ∧ fP (Pcm s) σ τ ∧ RTr τ [] ∧ sI τ 1101 5 = 0 ∧ sI τ 1101 79 = 0 ∧ (scm T = none → RS τ s [] []) ∧ ∀ D, scm T = some D → RS τ s T D := by
    intro ω S hS fω hk hok hbad
    obtain ⟨v, τ, e1, e2, e3, e4, e5⟩ := N_comp_end (U := U) (T := T) (S := S) hs hok hbad
    rw [hS] at e4 e5
    exact ⟨v, τ, e1, fP_trans fω e2, ⟨(e3 1 (by decide) (by decide)).trans (hk 1 (Or.inl rfl)), RI_nil _ _⟩, (e3 5 (by decide) (by decide)).trans (hk 5 (Or.inr (Or.inl rfl))), (e3 79 (by decide) (by decide)).trans (hk 79 (Or.inr (Or.inr rfl))), e4, e5⟩
  have k10 : ∀ k, k = 1 ∨ k = 5 ∨ k = 79 → sI σ10 1101 k = 0 := fun k hk => (keep9 k hk).trans (by rcases hk with z | z | z <;> rw [z] <;> assumption)
  have F10 := fP_trans F8 (Pcm_9 (s := s) a2)
  cases hdc : dcl T with
  | none =>
    have z := a4 hdc
    rw [if_neg z]
    exact fin σ10 none (by unfold scm; rw [hdc]) F10 k10 (fun y => absurd y z) (fun _ => rfl)
  | some D =>
    obtain ⟨hG, hW, hDl⟩ := dcl_GD h8 hl hdc
    have hS := WS_wl h8 hl
    have hN : GNs T D := fun i d hd => (hG i d hd).1
    have hnm := nmB_le hN hl hDl
    obtain ⟨z10, p, hM, hc0, hc1, hp⟩ := a3 D hdc
    have L10 : LR σ10 T := ⟨((a2 1101 73 (by
      rintro (z | z)
      · rcases z with z | z
        · have := z.2; unfold KR at this; simp at this
        · omega
      · omega)).1).trans L8.1, fun i c hi => ((a2 1102 i (by
        rintro (z | z)
        · rcases z with z | z <;> omega
        · omega)).1).trans (L8.2.1 i c hi), hl, h8⟩
    rw [if_pos z10]
    obtain ⟨σ13, b1', b2', b3⟩ := N_checkNames hU hW hN hDl L10 hM
    have M13 := RM_74 hM b2'
    have L13 := LR_74 L10 b2'
    obtain ⟨σ15, c1', c2', c3⟩ := N_checkNumbers hU hW hG hDl M13
    have M15 := RM_74 M13 c2'
    have L15 := LR_74 L13 c2'
    obtain ⟨σ17, d1, d2, d3, d4⟩ := N_checkTypes hU hS hW hG hDl hc0 hc1 hp M15 L15
    rw [b1', b1_eq, c1', b1_eq, d1, b1_eq]
    have F17 : fP (Pcm s) σ σ17 := fP_trans F10 (fP_trans (Pcm_q b2') (fP_trans (Pcm_q c2') (Pcm_T d2)))
    have k17 : ∀ k, k = 1 ∨ k = 5 ∨ k = 79 → sI σ17 1101 k = 0 := fun k hk => by
      rw [PT_o d2 (by omega) (by omega) (by omega), c2'.2.1 k (by simp only [List.mem_cons, List.not_mem_nil, or_false]; omega), b2'.2.1 k (by simp only [List.mem_cons, List.not_mem_nil, or_false]; omega)]
      exact k10 k hk
    have z17 : sI σ17 1101 74 = 0 ↔ okA (lkC T D) T (wl T 701 0) D = true := by
      rw [d3, c3, b3, okA_split hW hG]
      constructor
      · rintro ⟨⟨⟨_, n1⟩, n2⟩, n3⟩
        rw [lkR_eq n1] at n3
        exact ⟨n1, n2, n3⟩
      · rintro ⟨n1, n2, n3⟩
        rw [lkR_eq n1]
        exact ⟨⟨⟨z10, n1⟩, n2⟩, n3⟩
    by_cases q : sI σ17 1101 74 = 0
    · rw [if_pos q]
      obtain ⟨σ20, e1, e2⟩ := N_checkLimits (U := U) hU hDl (by omega) M15 d2 q
      rw [e1, b1_eq]
      have hall := (okA_split hW hG).mp (z17.mp q)
      have hlk := lkR_eq hall.1
      refine fin σ20 (if lim D then some D else none) ?_ (fP_trans F17 (Pcm_q e2.1)) (fun k hk => ?_) (fun y => ?_) (fun y => ?_)
      · unfold scm; rw [hdc]; simp only; rw [z17.mp q, Bool.true_and]
      · rw [e2.1.2.1 k (by simp only [List.mem_cons, List.not_mem_nil, or_false]; omega)]
        exact k17 k hk
      · have hlim := (e2.2.mp y).2
        refine ⟨D, by rw [hlim]; rfl, ?_⟩
        have f20 : fP PT σ15 (uI σ20 1101 6 (-1)) → True := fun _ => trivial
        have TY : ∀ (i : Nat) (d : Dc), D[i]? = some d → dK d = 2 → TYr (uI σ20 1101 6 (-1)) T (wl T 701 0) D (cnt (D.take i) 2) d := fun i d hd h2 => by
          obtain ⟨t1, t2⟩ := d4 i d hd h2
          refine ⟨?_, ?_⟩
          · rw [sI_o (Or.inl (by decide)), (e2.1.1 1139 (by decide) _).1]; exact t1
          · rw [sI_o (Or.inl (by decide)), (e2.1.1 1141 (by decide) _).1]; exact t2
        have fT : fP PT σ15 σ20 := fP_trans d2 (PT_q e2.1)
        have RK20 : RK σ20 T (wl T 701 0) D := RK_of M15 fT (fun i d hd h2 => by
          obtain ⟨t1, t2⟩ := d4 i d hd h2
          exact ⟨by rw [(e2.1.1 1139 (by decide) _).1]; exact t1, by rw [(e2.1.1 1141 (by decide) _).1]; exact t2⟩)
        have sm6 : ∀ b, b ≠ 1101 → sm σ20 (uI σ20 1101 6 (-1)) b := fun b hb => sm_uI hb
        have nm6 : ∀ b i v d, b ≠ 1101 → b + 1 ≠ 1101 → b + 2 ≠ 1101 → NMr σ20 b i v d → NMr (uI σ20 1101 6 (-1)) b i v d := fun b i v d h1 h2 h3 z => ⟨(sm6 b h1 i).1.trans z.1, (sm6 (b + 1) h2 i).1.trans z.2.1, (sm6 (b + 2) h3 i).1.trans z.2.2⟩
        have RK6 : RK (uI σ20 1101 6 (-1)) T (wl T 701 0) D := by
          refine ⟨fun q' hq' => by rw [sI_o (Or.inr (by omega))]; exact RK20.1 q' hq', fun i d hd => ?_⟩
          obtain ⟨r0, r1, r2, r3⟩ := RK20.2 i d hd
          refine ⟨fun z => nm6 _ _ _ _ (by decide) (by decide) (by decide) (r0 z), fun z => nm6 _ _ _ _ (by decide) (by decide) (by decide) (r1 z), fun z => ⟨nm6 _ _ _ _ (by decide) (by decide) (by decide) (r2 z).1, ?_⟩, fun z => ⟨nm6 _ _ _ _ (by decide) (by decide) (by decide) (r3 z).1, (r3 z).2⟩⟩
          obtain ⟨y1, y2, y3, y4, y5⟩ := (r2 z).2
          exact ⟨(sm6 1148 (by decide) _).1.trans y1, (sm6 1145 (by decide) _).1.trans y2, y3, (sm6 1146 (by decide) _).1.trans y4, TY i d hd z⟩
        have RI6 : RI (uI σ20 1101 6 (-1)) 1102 T := ((LR_PT L15 fT).2.1).sm (sm_uI (by decide))
        exact N_keep hU hs hl hN hDl hlim RK6 RI6 (fun i d hd h3 => (hall.2.1.2 i d hd h3).1) (fun i d hd h2 => by
          have g := (hG i d hd).2.1
          have g2 := g.2.2.1 h2
          exact ⟨(hall.2.1.1 i d hd h2).1, g2.1, g.2.1, g2.2.1⟩) hlk
      · cases hlim : lim D with
        | false => rfl
        | true => exact absurd (e2.2.mpr ⟨q, hlim⟩) y
    · rw [if_neg q]
      refine fin σ17 none ?_ F17 k17 (fun y => absurd y q) (fun _ => rfl)
      unfold scm; rw [hdc]; simp only
      cases qa : okA (lkC T D) T (wl T 701 0) D with
      | true => exact absurd (z17.mpr qa) q
      | false => rfl
