/-! ===== the reference begins a value, and decodes up to the end ===== -/
theorem lim_n {n : Int32} (h1 : ¬ n < 1) (h8 : ¬ 20 < n) : ∃ k, n = nI k ∧ 1 ≤ k ∧ k ≤ 20 := by
  obtain ⟨k, hk, rfl⟩ := nI_of (x := n) (fun z => h1 (Int32.lt_trans z (by decide)))
  refine ⟨k, rfl, ?_, ?_⟩
  · have : ¬ k < 1 := fun z => h1 ((ltI (b := 1) hk (by decide)).mpr z)
    omega
  · have : ¬ 20 < k := fun z => h8 ((ltI (a := 20) (by decide) hk).mpr z)
    omega
def r0 : Rh := ([], [], [], fun _ => 0, fun _ => 1)
def PBg (b k : Nat) : Prop := (b = 1101 ∧ (79 ≤ k ∧ k ≤ 85 ∨ k = 107)) ∨ (1160 ≤ b ∧ b ≤ 1162)
theorem N_beginV {s m lm : Nat} {σ : SG} {T : List Nat} {D : List Dc} (hm : isM D m) (h1 : 1 ≤ lm) (hlm : lm ≤ 20) : ∃ τ, x_X12_beginValue 1101 (nI s) (nI (cnt (D.take m) 0)) (nI lm) σ = some τ ∧ VR τ s T D (a0 m) r0 ∧ DPk T D lm (a0 m) r0 ∧ sI τ 1101 107 = 0 ∧ sI τ 1101 85 = nI lm ∧ sI τ 1101 79 = 0 ∧ fP PBg σ τ := by
  unfold x_X12_beginValue x_X12_addNode
  rw [sb_eq, sb_eq, sb_eq, sb_eq, sb_eq, sb_eq, sb_eq, sb_eq]
  have F8 : fP PBg σ (uI (uI (uI (uI (uI (uI (uI (uI σ 1101 80 (nI s)) 1101 79 0) 1101 107 0) 1101 81 0) 1101 82 0) 1101 83 0) 1101 84 0) 1101 85 (nI lm)) := by
    refine fP_trans (fP_trans (fP_trans (fP_trans (fP_trans (fP_trans (fP_trans (fP_u ?_) (fP_u ?_)) (fP_u ?_)) (fP_u ?_)) (fP_u ?_)) (fP_u ?_)) (fP_u ?_)) (fP_u ?_)
    all_goals exact Or.inl ⟨rfl, by omega⟩
  have c80 : sI (uI (uI (uI (uI (uI (uI (uI (uI σ 1101 80 (nI s)) 1101 79 0) 1101 107 0) 1101 81 0) 1101 82 0) 1101 83 0) 1101 84 0) 1101 85 (nI lm)) 1101 80 = nI s := rfl
  have c79 : sI (uI (uI (uI (uI (uI (uI (uI (uI σ 1101 80 (nI s)) 1101 79 0) 1101 107 0) 1101 81 0) 1101 82 0) 1101 83 0) 1101 84 0) 1101 85 (nI lm)) 1101 79 = 0 := rfl
  have c107 : sI (uI (uI (uI (uI (uI (uI (uI (uI σ 1101 80 (nI s)) 1101 79 0) 1101 107 0) 1101 81 0) 1101 82 0) 1101 83 0) 1101 84 0) 1101 85 (nI lm)) 1101 107 = 0 := rfl
  have c81 : sI (uI (uI (uI (uI (uI (uI (uI (uI σ 1101 80 (nI s)) 1101 79 0) 1101 107 0) 1101 81 0) 1101 82 0) 1101 83 0) 1101 84 0) 1101 85 (nI lm)) 1101 81 = 0 := rfl
  have c82 : sI (uI (uI (uI (uI (uI (uI (uI (uI σ 1101 80 (nI s)) 1101 79 0) 1101 107 0) 1101 81 0) 1101 82 0) 1101 83 0) 1101 84 0) 1101 85 (nI lm)) 1101 82 = 0 := rfl
  have c83 : sI (uI (uI (uI (uI (uI (uI (uI (uI σ 1101 80 (nI s)) 1101 79 0) 1101 107 0) 1101 81 0) 1101 82 0) 1101 83 0) 1101 84 0) 1101 85 (nI lm)) 1101 83 = 0 := rfl
  have c84 : sI (uI (uI (uI (uI (uI (uI (uI (uI σ 1101 80 (nI s)) 1101 79 0) 1101 107 0) 1101 81 0) 1101 82 0) 1101 83 0) 1101 84 0) 1101 85 (nI lm)) 1101 84 = 0 := rfl
  have c85 : sI (uI (uI (uI (uI (uI (uI (uI (uI σ 1101 80 (nI s)) 1101 79 0) 1101 107 0) 1101 81 0) 1101 82 0) 1101 83 0) 1101 84 0) 1101 85 (nI lm)) 1101 85 = nI lm := rfl
  generalize (uI (uI (uI (uI (uI (uI (uI (uI σ 1101 80 (nI s)) 1101 79 0) 1101 107 0) 1101 81 0) 1101 82 0) 1101 83 0) 1101 84 0) 1101 85 (nI lm)) = σ8 at *
  rw [c81, sb_eq, show (0 : Int32) = nI 0 from rfl, ix_in (by decide) (by decide), sb_eq, ix_in (by decide) (by decide), sb_eq, ix_in (by decide) (by decide), sb_eq]
  have F12 : fP (fun b k => (b = 1101 ∧ k = 81) ∨ (1160 ≤ b ∧ b ≤ 1162)) σ8 (uI (uI (uI (uI σ8 1101 81 (nI 0 + 1)) 1160 0 (nI (cnt (D.take m) 0))) 1161 0 (-1)) 1162 0 1) := by
    refine fP_trans (fP_trans (fP_trans (fP_u ?_) (fP_u ?_)) (fP_u ?_)) (fP_u ?_)
    · exact Or.inl ⟨rfl, rfl⟩
    all_goals exact Or.inr ⟨by decide, by decide⟩
  have d81 : sI (uI (uI (uI (uI σ8 1101 81 (nI 0 + 1)) 1160 0 (nI (cnt (D.take m) 0))) 1161 0 (-1)) 1162 0 1) 1101 81 = nI 1 := rfl
  have d60 : sI (uI (uI (uI (uI σ8 1101 81 (nI 0 + 1)) 1160 0 (nI (cnt (D.take m) 0))) 1161 0 (-1)) 1162 0 1) 1160 0 = nI (cnt (D.take m) 0) := rfl
  have d61 : sI (uI (uI (uI (uI σ8 1101 81 (nI 0 + 1)) 1160 0 (nI (cnt (D.take m) 0))) 1161 0 (-1)) 1162 0 1) 1161 0 = -1 := rfl
  have d62 : sI (uI (uI (uI (uI σ8 1101 81 (nI 0 + 1)) 1160 0 (nI (cnt (D.take m) 0))) 1161 0 (-1)) 1162 0 1) 1162 0 = nI 1 := rfl
  generalize (uI (uI (uI (uI σ8 1101 81 (nI 0 + 1)) 1160 0 (nI (cnt (D.take m) 0))) 1161 0 (-1)) 1162 0 1) = ω at *
  have e85 : sI ω 1101 85 = nI lm := ((F12 1101 85 (by omega)).1).trans c85
  have hlt : ¬ nI lm < 1 := fun z => by have := (ltI (b := 1) (by omega) (by decide)).mp z; omega
  rw [e85, if_neg hlt, b2_eq]
  refine ⟨ω, rfl, ⟨((F12 1101 80 (by omega)).1).trans c80, ⟨((F12 1101 82 (by omega)).1).trans c82, Nat.zero_le _, fun i r h => by cases h⟩, ⟨((F12 1101 84 (by omega)).1).trans c84, fun i c h => (by cases h), fun c h => (by cases h), Nat.zero_le _⟩, ⟨((F12 1101 83 (by omega)).1).trans c83, Nat.zero_le _, fun i u h => by cases h⟩, ⟨d81, Nat.one_pos, (by decide : 1 ≤ 351), fun n hn => ?_⟩, fun r hr => (by cases hr), fun n hn => ⟨fun f d _ => rfl, rfl⟩⟩, ⟨fun n _ => h1, fun r hr => (by cases hr), fun i r d hi => by cases hi⟩, ((F12 1101 107 (by omega)).1).trans c107, e85, ((F12 1101 79 (by omega)).1).trans c79, fP_trans F8 (fP_mono F12 (fun b k z => by unfold PBg; omega))⟩
  have : n = 0 := by have : n < 1 := hn; omega
  subst this
  exact ⟨hm, d60, d61, d62, fun z => absurd rfl z⟩
/-- what decoding may touch at all -/
def Pdec (b k : Nat) : Prop := PDc b k ∨ (b = 1101 ∧ (k = 1 ∨ k = 5 ∨ k = 73 ∨ k = 79 ∨ k = 80 ∨ k = 85))
/-- a value that is begun, or none -/
theorem N_begins {U s : Nat} {σ : SG} {T S : List Nat} {D : List Dc} {x y : Int32} (hs : s < 2) (hg : GSc T D) (hS : RS σ s T D) (hT : RTr σ S) (h8 : ok8 S) (hl : S.length ≤ 700) :
    ((msg D x = none ∨ y < 1 ∨ 20 < y) → ∃ τ, x_X12_begins 1101 (nI s) x y σ = some (0, τ) ∧ fP Pdec σ τ ∧ sI τ 1101 5 = 1 ∧ sI τ 1101 79 = 0 ∧ sI τ 1101 1 = 0) ∧
    ∀ m lm, msg D x = some m → y = nI lm → 1 ≤ lm → lm ≤ 20 → ∃ τ, x_X12_begins 1101 (nI s) x y σ = some (1, τ) ∧ fP Pdec σ τ ∧ sI τ 1101 79 = 0 ∧ sI τ 1101 1 = 0 ∧ RS τ s T D ∧ VR τ s T D (a0 m) r0 ∧ DPk T D lm (a0 m) r0 ∧ LR τ S ∧ sI τ 1101 107 = 0 ∧ sI τ 1101 85 = nI lm := by
  have hl9 := hg.2.1
  unfold x_X12_begins x_X12_begins_43 x_X12_begins_44
  rw [hT.1, sb_eq, sb_eq, sb_eq]
  have F3 : fP (fun b k => b = 1101 ∧ (k = 1 ∨ k = 73 ∨ k = 79)) σ (uI (uI (uI σ 1101 73 (nI S.length)) 1101 1 0) 1101 79 0) := by
    refine fP_trans (fP_trans (fP_u ?_) (fP_u ?_)) (fP_u ?_)
    all_goals exact ⟨rfl, by omega⟩
  have c73 : sI (uI (uI (uI σ 1101 73 (nI S.length)) 1101 1 0) 1101 79 0) 1101 73 = nI S.length := rfl
  have c1 : sI (uI (uI (uI σ 1101 73 (nI S.length)) 1101 1 0) 1101 79 0) 1101 1 = 0 := rfl
  have c79 : sI (uI (uI (uI σ 1101 73 (nI S.length)) 1101 1 0) 1101 79 0) 1101 79 = 0 := rfl
  generalize (uI (uI (uI σ 1101 73 (nI S.length)) 1101 1 0) 1101 79 0) = σ3 at *
  have S3 : RS σ3 s T D := RS_keep hS (fun b k hb => (F3 b k (by unfold PKP at hb; omega)).1)
  rw [N_isMessage hs hl9 S3, b1_eq, ifz, sb_eq, sb_eq, sI_s, sI_s, if_neg (show ¬ (1 : Int32) = 0 by decide), if_pos (show (0 : Int32) = 0 from rfl)]
  have bad : ∃ τ, some ((0 : Int32), uI σ3 1101 5 1) = some (0, τ) ∧ fP Pdec σ τ ∧ sI τ 1101 5 = 1 ∧ sI τ 1101 79 = 0 ∧ sI τ 1101 1 = 0 := ⟨_, rfl, fP_trans (fP_mono F3 (fun b k z => Or.inr ⟨z.1, by omega⟩)) (fP_u (Or.inr ⟨rfl, by omega⟩)), sI_s _ _ _ _, by rw [sI_o (Or.inr (by decide))]; exact c79, by rw [sI_o (Or.inr (by decide))]; exact c1⟩
  refine ⟨fun h => ?_, fun m lm hm hy h1 h20 => ?_⟩
  · cases hm : msg D x with
    | none => rw [Option.isSome_none, if_neg (show ¬ false = true by decide)]; exact bad
    | some m =>
      rw [Option.isSome_some, if_pos (show true = true from rfl)]
      by_cases q1 : y < 1
      · rw [if_pos q1]; exact bad
      · rw [if_neg q1]
        by_cases q2 : 20 < y
        · rw [if_pos q2]; exact bad
        · rcases h with z | z | z
          · rw [hm] at z; cases z
          · exact absurd z q1
          · exact absurd z q2
  · obtain ⟨hM, hx⟩ := msg_some hm
    obtain ⟨τ, t1, t2, t3, t4, t5, t6, t7⟩ := N_beginV (s := s) (σ := uI σ3 1101 5 0) (T := T) hM h1 h20
    subst hy
    rw [hm, Option.isSome_some, if_pos (show true = true from rfl), if_neg (show ¬ nI lm < 1 from fun z => by have := (ltI (b := 1) (by omega) (by decide)).mp z; omega), if_neg (show ¬ 20 < nI lm from fun z => by have := (ltI (a := 20) (by decide) (by omega)).mp z; omega), hx, t1, b1_eq]
    have F5 : fP (fun b k => b = 1101 ∧ k = 5) σ3 (uI σ3 1101 5 0) := fP_u ⟨rfl, rfl⟩
    have ci : ∀ b k, ¬ (b = 1101 ∧ (k = 1 ∨ k = 5 ∨ k = 73 ∨ k = 79)) → ¬ PBg b k → sI τ b k = sI σ b k := fun b k h1 h2 => ((t7 b k h2).1).trans (((F5 b k (by omega)).1).trans ((F3 b k (by omega)).1))
    refine ⟨τ, rfl, fP_trans (fP_trans (fP_mono F3 (fun b k z => Or.inr ⟨z.1, by omega⟩)) (fP_mono F5 (fun b k z => Or.inr ⟨z.1, by omega⟩))) (fP_mono t7 (fun b k z => by unfold PBg at z; unfold Pdec PDc PDn; omega)), t6, ?_, RS_keep hS (fun b k hb => ci b k (by unfold PKP at hb; omega) (by unfold PKP at hb; unfold PBg; omega)), t2, t3, ⟨?_, fun i c hi => (ci 1102 i (by omega) (by unfold PBg; omega)).trans (hT.2 i c hi), hl, h8⟩, t4, t5⟩
    · exact ((t7 1101 1 (by unfold PBg; omega)).1).trans (((F5 1101 1 (by omega)).1).trans c1)
    · exact ((t7 1101 73 (by unfold PBg; omega)).1).trans (((F5 1101 73 (by omega)).1).trans c73)
/-- the value that a tape decodes to -/
noncomputable def dcS (T : List Nat) (D : List Dc) (S : List Nat) (lm m : Nat) : Option AV := dMs T D S lm 24 1 (a0 m) 0 m S.length 0
theorem N_dec {U s : Nat} {σ : SG} {T S : List Nat} {D : List Dc} {x y : Int32} (hU4 : 4000 < U) (hs : s < 2) (hg : GSc T D) (hS : RS σ s T D) (hT : RTr σ S) (h8 : ok8 S) (hl : S.length ≤ 700) :
    ((msg D x = none ∨ y < 1 ∨ 20 < y) → ∃ τ, x_X12_decode U 1101 (nI s) x y σ = some (0, τ) ∧ fP Pdec σ τ ∧ sI τ 1101 5 = 1 ∧ sI τ 1101 79 = 0 ∧ sI τ 1101 1 = 0) ∧
    ∀ m lm, msg D x = some m → y = nI lm → 1 ≤ lm → lm ≤ 20 → ∃ τ, x_X12_decode U 1101 (nI s) x y σ = x_X12_finish U 1101 τ ∧ fP Pdec σ τ ∧ sI τ 1101 79 = 0 ∧ sI τ 1101 1 = 0 ∧ (dcS T D S lm m = none → ¬ sI τ 1101 107 = 0) ∧ ∀ A, dcS T D S lm m = some A → ∃ H, DR τ s T D S lm A H S.length S.length ∧ zD H 0 = 1 ∧ aN A 0 = m := by
  obtain ⟨b1', b2'⟩ := N_begins (U := U) (x := x) (y := y) hs hg hS hT h8 hl
  unfold x_X12_decode
  refine ⟨fun h => ?_, fun m lm hm hy h1 h20 => ?_⟩
  · obtain ⟨τ, t1, t2⟩ := b1' h
    rw [t1, b2_eq, if_pos rfl]
    exact ⟨τ, rfl, t2⟩
  · obtain ⟨τ, t1, t2, t3, t4, t5, t6, t7, t8, t9, t10⟩ := b2' m lm hm hy h1 h20
    rw [t1, b2_eq, if_neg (show ¬ (1 : Int32) = 0 by decide), sb_eq, show (0 : Int32) = nI 0 from rfl, ix_in (by decide) (by decide), sb_eq, ix_in (by decide) (by decide), sb_eq, sb_eq, sI_o (Or.inl (by decide)), sI_o (Or.inr (by decide)), t8.1]
    have F : fP (fun b k => (b = 1101 ∧ (k = 106 ∨ k = 109)) ∨ b = 1176 ∨ b = 1177) τ (uI (uI (uI (uI τ 1101 109 (nI 0)) 1176 0 (nI 0)) 1177 0 (nI S.length)) 1101 106 1) := by
      refine fP_trans (fP_trans (fP_trans (fP_u ?_) (fP_u ?_)) (fP_u ?_)) (fP_u ?_)
      · exact Or.inl ⟨rfl, by omega⟩
      · exact Or.inr (Or.inl rfl)
      · exact Or.inr (Or.inr rfl)
      · exact Or.inl ⟨rfl, by omega⟩
    have c9 : sI (uI (uI (uI (uI τ 1101 109 (nI 0)) 1176 0 (nI 0)) 1177 0 (nI S.length)) 1101 106 1) 1101 109 = nI 0 := rfl
    have c6 : sI (uI (uI (uI (uI τ 1101 109 (nI 0)) 1176 0 (nI 0)) 1177 0 (nI S.length)) 1101 106 1) 1101 106 = nI 1 := rfl
    have c76 : sI (uI (uI (uI (uI τ 1101 109 (nI 0)) 1176 0 (nI 0)) 1177 0 (nI S.length)) 1101 106 1) 1176 0 = nI 0 := rfl
    have c77 : sI (uI (uI (uI (uI τ 1101 109 (nI 0)) 1176 0 (nI 0)) 1177 0 (nI S.length)) 1101 106 1) 1177 0 = nI S.length := rfl
    generalize (uI (uI (uI (uI τ 1101 109 (nI 0)) 1176 0 (nI 0)) 1177 0 (nI S.length)) 1101 106 1) = ω at *
    have D0 : DR ω s T D S lm (a0 m) r0 0 0 := ⟨RS_keep t5 (fun b k hb => (F b k (by unfold PKP at hb; omega)).1), VR_keep t6 (fun b k hb => ⟨(F b k (by omega)).1, (F b k (by omega)).2.1⟩), t7, ⟨((F 1101 73 (by omega)).1).trans t8.1, RI_P t8.2.1 F (fun k => by omega), t8.2.2⟩, c9, ((F 1101 107 (by omega)).1).trans t9, ((F 1101 85 (by omega)).1).trans t10, ⟨Nat.zero_le _, Nat.zero_le _, Nat.zero_le _, Nat.le_refl _, Nat.zero_le _⟩, Nat.le_refl _, Nat.zero_le _⟩
    have Fd : fP Pdec σ ω := fP_trans t2 (fP_mono F (fun b k z => by unfold Pdec PDc PDn; omega))
    obtain ⟨k1, k2⟩ := N_ms (U := U) (K := fun σ31 => x_X12_decode_108 U 1101 σ31) hU4 hs hg h20 hl 24 1 ω (a0 m) r0 0 m S.length 0 U (by omega) (by decide) h1 (Nat.le_refl _) (Nat.zero_le _) D0 Nat.one_pos rfl rfl c6 c76 c77 (by omega)
    have ef : ∀ ψ, x_X12_decode_108 U 1101 ψ = x_X12_finish U 1101 ψ := fun ψ => b2_id _
    have i79 : ∀ ψ, fP PDc ω ψ → sI ψ 1101 79 = 0 ∧ sI ψ 1101 1 = 0 := fun ψ hψ => ⟨((hψ 1101 79 (by unfold PDc PDn; omega)).1).trans (((F 1101 79 (by omega)).1).trans t3), ((hψ 1101 1 (by unfold PDc PDn; omega)).1).trans (((F 1101 1 (by omega)).1).trans t4)⟩
    cases hd : dcS T D S lm m with
    | none =>
      obtain ⟨ψ, p1, p2, p3⟩ := k1 hd
      rw [p1]
      exact ⟨ψ, ef ψ, fP_trans Fd (fP_mono p2 (fun b k z => Or.inl z)), (i79 ψ p2).1, (i79 ψ p2).2, fun _ => p3, fun A z => by cases z⟩
    | some A =>
      obtain ⟨ψ, H', U2, p1, p2, p3, p4, p5, p6, p7⟩ := k2 A hd
      rw [p1]
      obtain ⟨V, rfl⟩ : ∃ V, U2 = V + 1 := ⟨U2 - 1, by omega⟩
      rw [x_X12_decode_L39, p5, if_neg (show ¬ (0 : Int32) < nI (1 - 1) by decide)]
      exact ⟨ψ, ef ψ, fP_trans Fd (fP_mono p4 (fun b k z => Or.inl z)), (i79 ψ p4).1, (i79 ψ p4).2, fun z => (by cases z), fun A' z => by cases z; exact ⟨H', p3, (p7.2 0 Nat.one_pos).2, (p7.2 0 Nat.one_pos).1⟩⟩
