/-! ===== the class reads a schema ===== -/
def atE (Ws : List Wd) (s : Rs) : Bool := decide (sK Ws s.1 = 0 ∧ s.2.1 = none ∧ s.2.2.1 = none ∧ s.2.2.2.1 = none)
def rd (T : List Nat) (Ws : List Wd) : Nat → Rs → List Dc → Option (List Dc)
  | 0, _, _ => none
  | n + 1, s, D => if atE Ws s then some D else match sStep T Ws s D with
    | none => none
    | some x => rd T Ws n x.1 x.2
theorem rd_WF {T : List Nat} {Ws : List Wd} (hS : WS T Ws) : ∀ (n : Nat) (s : Rs) (D D' : List Dc), IV Ws s D → rd T Ws n s D = some D' → WF D' ∧ D'.length < 180 := by
  intro n
  induction n with
  | zero => intro s D D' _ h; cases h
  | succ n ih =>
    intro s D D' hI h
    rw [rd] at h
    split at h
    · cases h; exact ⟨hI.2.2.1, (hI.len hS).1⟩
    · cases e : sStep T Ws s D with
      | none => rw [e] at h; cases h
      | some x =>
        obtain ⟨s1, D1⟩ := x
        rw [e] at h
        exact ih _ _ _ (sStep_IV hS hI e).1 h
/-- more fuel changes nothing -/
theorem rd_more {T : List Nat} {Ws : List Wd} (hS : WS T Ws) : ∀ (n m : Nat) (s : Rs) (D : List Dc), IV Ws s D → 701 ≤ n + pos Ws s.1 → 701 ≤ m + pos Ws s.1 → rd T Ws n s D = rd T Ws m s D := by
  intro n
  induction n with
  | zero => intro m s D hI h _; have := (hI.len hS).2.2; omega
  | succ n ih =>
    intro m s D hI hn hm
    cases m with
    | zero => have := (hI.len hS).2.2; omega
    | succ m =>
      rw [rd, rd]
      split
      · rfl
      · cases e : sStep T Ws s D with
        | none => rfl
        | some x =>
          obtain ⟨s1, D1⟩ := x
          have g := sStep_IV hS hI e
          exact ih m s1 D1 g.1 (by have := g.2.2; omega) (by have := g.2.2; omega)
theorem ad_none {c : Nat} {o : Option Nat} : ad c o = none ↔ o = none := by
  cases o with
  | none => exact ⟨fun _ => rfl, fun _ => rfl⟩
  | some i => exact ⟨fun z => (by cases z), fun z => (by cases z)⟩
theorem X5_isAtEnd {c : Nat} {σ : SG} {T : List Nat} {Ws : List Wd} {s : Rs} (hG : WG T Ws) (hW : WA σ (c + 186) Ws) (hR : RR σ c s) (hk : s.1 < 3000) :
    x_X5_isAtEnd (c + 191) σ = some (zI (atE Ws s)) := by
  unfold x_X5_isAtEnd atE
  rw [show c + 191 - 5 = c + 186 by omega, hR.1, U10_kindOf hW hk, b1_eq, hR.2.1, hR.2.2.1, hR.2.2.2.1]
  have h6 : sK Ws s.1 < 100 := by
    unfold sK
    cases e : Ws[s.1]? with
    | none => show 0 < 100; decide
    | some x => have := (hG.2 _ _ e).1; show x.1 < 100; omega
  by_cases h0 : sK Ws s.1 = 0
  · rw [if_pos (show nI (sK Ws s.1) = 0 by rw [h0]; rfl)]
    by_cases h1 : s.2.1 = none
    · rw [if_pos (ad_none.mpr h1)]
      by_cases h2 : s.2.2.1 = none
      · rw [if_pos (ad_none.mpr h2)]
        by_cases h3 : s.2.2.2.1 = none
        · rw [if_pos (ad_none.mpr h3), decide_eq_true ⟨h0, h1, h2, h3⟩]; rfl
        · rw [if_neg (fun z => h3 (ad_none.mp z)), decide_eq_false (fun z => h3 z.2.2.2)]; rfl
      · rw [if_neg (fun z => h2 (ad_none.mp z)), decide_eq_false (fun z => h2 z.2.2.1)]; rfl
    · rw [if_neg (fun z => h1 (ad_none.mp z)), decide_eq_false (fun z => h1 z.2.1)]; rfl
  · rw [if_neg (show ¬ nI (sK Ws s.1) = 0 from fun z => h0 ((nI_eq (b := 0) (by omega) (by decide)).mp z)), decide_eq_false (fun z => h0 z.1)]; rfl
/-- what the class's reading comes to: D, or an error -/
def RD (c : Nat) (σ : SG) (o : Option (List Dc)) (x : Option (Int32 × SG)) : Prop := ∃ v τ, x = some (v, τ) ∧ fR c σ τ ∧ (v = 0 ↔ o ≠ none) ∧ ∀ D', o = some D' → ITs τ c D'
theorem RD_from {c : Nat} {σ τ : SG} {o : Option (List Dc)} {x : Option (Int32 × SG)} (hf : fR c σ τ) (h : RD c τ o x) : RD c σ o x := by
  obtain ⟨v, υ, g1, g2, g3⟩ := h
  exact ⟨v, υ, g1, fR_trans hf g2, g3⟩
theorem RD_fail {c : Nat} {σ τ : SG} {v : Int32} (hf : fR c σ τ) (hv : ¬ v = 0) : RD c σ none (some (v, τ)) := ⟨v, τ, rfl, hf, ⟨fun z => absurd z hv, fun z => absurd rfl z⟩, fun D' h => by cases h⟩
theorem h6_fR {c : Nat} {σ τ : SG} {n : Nat} (h : sI σ (c + 186) 6 = nI n) (hf : fR c σ τ) : sI τ (c + 186) 6 = nI n := ((hf (c + 186) (by omega) (by omega) (by omega) 6).1).trans h
theorem X5_read_L {c : Nat} {T : List Nat} {Ws : List Wd} {U : Nat} (hU : 4000 < U) (hcb : cb c) (hS : WS T Ws) : ∀ (n U1 i : Nat) (s : Rs) (D : List Dc) (σ : SG), n < U1 → 701 ≤ n + pos Ws s.1 → i ≤ s.1 → IV Ws s D → sI σ (c + 186) 6 = nI T.length → WA σ (c + 186) Ws → RR σ c s → ITs σ c D → ¬ sI σ (c + 191) 7 = 0 →
    RD c σ (rd T Ws n s D) (x_X5_read_L32 U (c + 191) (fun w27 σ28 => x_X5_read_93 U (c + 191) w27 σ28) U1 1 (nI i) σ) := by
  intro n
  induction n with
  | zero => intro U1 i s D σ _ h _ hI; have := (hI.len hS).2.2; omega
  | succ n ih =>
    intro U1 i s D σ hu hp hi hI h6 hW hR hT h7
    have hG := hS.G
    have hlen := hI.len hS
    cases U1 with
    | zero => omega
    | succ U1 =>
    rw [x_X5_read_L32, rd]
    have hc : x_X10_count (c + 191 - 5) σ = some (nI Ws.length) := by
      unfold x_X10_count
      rw [show c + 191 - 5 = c + 186 by omega, hW.1]
    have hkl : s.1 < Ws.length := by
      obtain ⟨x, hx⟩ := hI.1
      obtain ⟨q, _⟩ := List.getElem?_eq_some_iff.mp hx
      exact q
    have hwl := hW.2.1
    rw [hc, b1_eq, if_pos ((ltI (by omega) (by omega)).mpr (by omega)), if_neg (show ¬ (1 : Int32) = 0 by decide), X5_isAtEnd hG hW hR (by omega), b1_eq, ifz]
    cases ha : atE Ws s with
    | true =>
      simp only [if_true]
      unfold x_X5_read_93
      rw [if_neg (show ¬ (1 : Int32) = 0 by decide), X5_isAtEnd hG hW hR (by omega), b1_eq, ifz, ha]
      simp only [if_true]
      exact ⟨0, σ, rfl, fR_refl c σ, ⟨fun _ z => (by cases z), fun _ => rfl⟩, fun D' h => by cases h; exact hT⟩
    | false =>
      simp only [Bool.false_eq_true, if_false]
      -- the step and what follows it
      have go : ∀ (x : Option (Int32 × SG)), RP c σ (sStep T Ws s D) x → RD c σ (match sStep T Ws s D with | none => none | some x => rd T Ws n x.1 x.2) (b2 x fun v19 σ20 => x_X5_read_86 U (c + 191) (x_X5_read_L32 U (c + 191) (fun w27 σ28 => x_X5_read_93 U (c + 191) w27 σ28) U1) (fun w27 σ28 => x_X5_read_93 U (c + 191) w27 σ28) (nI i) v19 σ20) := by
        intro x hx
        obtain ⟨τ, e1, e2, e3, e4⟩ := hx
        rw [e1, b2_eq]
        unfold x_X5_read_86
        rw [nI_1]
        cases e : sStep T Ws s D with
        | none =>
          simp only [Option.isSome_none]
          cases U1 with
          | zero => omega
          | succ U2 =>
            rw [x_X5_read_L32]
            have hc' : x_X10_count (c + 191 - 5) τ = some (nI Ws.length) := by
              unfold x_X10_count
              rw [show c + 191 - 5 = c + 186 by omega, (hW.fR e2).1]
            have hk : x_X5_read_93 U (c + 191) (zI false) τ = some (sI τ (c + 191) 7, τ) := by
              unfold x_X5_read_93
              rw [if_pos (show zI false = 0 from rfl)]
            rw [hc', b1_eq, if_pos (show zI false = 0 from rfl), hk]
            split
            · exact RD_fail e2 e3
            · exact RD_fail e2 e3
        | some y =>
          obtain ⟨s', D'⟩ := y
          have g := sStep_IV hS hI e
          have hr := e4 s' D' e
          have key := ih U1 (i + 1) s' D' τ (by omega) (by have := g.2.2; omega) (by have := far_lt hS hI.1 g.2; omega) g.1 (h6_fR h6 e2) (hW.fR e2) hr.1 hr.2 e3
          exact RD_from e2 key
      rw [hR.2.2.2.1]
      by_cases q1 : s.2.2.2.1 = none
      · rw [if_pos (ad_none.mpr q1), hR.2.2.1]
        by_cases q2 : s.2.2.1 = none
        · rw [if_pos (ad_none.mpr q2)]
          refine go _ ?_
          unfold sStep
          rw [if_pos q1, if_pos q2]
          exact X5_readMember hU hcb hS h6 hW hR hT hlen.1 hlen.2.1 h7 (fun m hm => KM_lt (hI.2.2.2.1 m hm))
        · rw [if_neg (fun z => q2 (ad_none.mp z))]
          refine go _ ?_
          unfold sStep
          rw [if_pos q1, if_neg q2]
          exact X5_readChoice hU hcb hS h6 hW hR hT hlen.1 hlen.2.1 h7
      · rw [if_neg (fun z => q1 (ad_none.mp z))]
        refine go _ ?_
        unfold sStep
        rw [if_neg q1]
        exact X5_readValue hcb hS hW hR hT hlen.1 (by omega) h7
/-- the whole reading, from the first word -/
def rdS (T : List Nat) (Ws : List Wd) : Option (List Dc) := if sSy T Ws then rd T Ws 701 (4, none, none, none, false) [] else none
theorem sSy_far {T : List Nat} {Ws : List Wd} (hS : WS T Ws) (h : sSy T Ws = true) : ∃ y, Ws[4]? = some y := by
  unfold sSy at h
  have h59 : sS T Ws 59 3 = true := by
    cases q : sS T Ws 59 3 with
    | true => rfl
    | false => rw [q] at h; simp at h
  exact (far_sS hS h59).1
/-- bare says nothing where nothing is open -/
theorem rd_bare {T : List Nat} {Ws : List Wd} {k n : Nat} {b b' : Bool} : rd T Ws n (k, none, none, none, b) [] = rd T Ws n (k, none, none, none, b') [] := by
  cases n with
  | zero => rfl
  | succ n =>
    rw [rd, rd]
    have h1 : atE Ws (k, none, none, none, b) = atE Ws (k, none, none, none, b') := rfl
    have h2 : sStep T Ws (k, none, none, none, b) [] = sStep T Ws (k, none, none, none, b') [] := by
      unfold sStep
      rw [if_pos rfl, if_pos rfl, if_pos rfl, if_pos rfl]
      unfold sMm sBg
      rfl
    rw [h1, h2]
theorem X5_read {c : Nat} {σ : SG} {T : List Nat} {Ws : List Wd} {U : Nat} (hU : 4000 < U) (hcb : cb c) (hS : WS T Ws) (h6 : sI σ (c + 186) 6 = nI T.length) (hW : WA σ (c + 186) Ws) (hT : ITs σ c []) :
    RD c σ (rdS T Ws) (x_X5_read U (c + 191) σ) := by
  unfold x_X5_read
  obtain ⟨b, hb⟩ : ∃ b, vN (sI σ (c + 191) 5) = b := ⟨_, rfl⟩
  rw [sb_eq, sb_eq, sb_eq, sb_eq, sb_eq]
  have f5 : ∀ d, d ≠ c + 191 → sm σ (uI (uI (uP (uP (uP σ (c + 191) 2 none) (c + 191) 3 none) (c + 191) 4 none) (c + 191) 6 0) (c + 191) 7 1) d := fun d hd => sm_trans (sm_trans (sm_trans (sm_trans (sm_uP hd) (sm_uP hd)) (sm_uP hd)) (sm_uI hd)) (sm_uI hd)
  have R5 : RR (uI (uI (uP (uP (uP σ (c + 191) 2 none) (c + 191) 3 none) (c + 191) 4 none) (c + 191) 6 0) (c + 191) 7 1) c (0, none, none, none, b) := by
    refine ⟨?_, ?_, ?_, ?_, ?_⟩
    · rw [sI_o (Or.inr (by decide)), sI_s]; rfl
    · rw [sP_uI, sP_uI, sP_o (Or.inr (by decide)), sP_o (Or.inr (by decide)), sP_s]; rfl
    · rw [sP_uI, sP_uI, sP_o (Or.inr (by decide)), sP_s]; rfl
    · rw [sP_uI, sP_uI, sP_s]; rfl
    · rw [sI_o (Or.inr (by decide)), sI_o (Or.inr (by decide)), sI_uP, sI_uP, sI_uP]; exact hb
  have s5 : sI (uI (uI (uP (uP (uP σ (c + 191) 2 none) (c + 191) 3 none) (c + 191) 4 none) (c + 191) 6 0) (c + 191) 7 1) (c + 191) 7 = 1 := sI_s _ _ _ _
  generalize (uI (uI (uP (uP (uP σ (c + 191) 2 none) (c + 191) 3 none) (c + 191) 4 none) (c + 191) 6 0) (c + 191) 7 1) = σ5 at *
  refine RD_from (fR_r f5) ?_
  have W5 := hW.fR (fR_r f5)
  obtain ⟨τ, e1, e2, e3⟩ := X5_readSyntax hS.G W5 R5
  rw [e1, b2_eq]
  refine RD_from (fR_r e2.1) ?_
  have s7 : ¬ sI τ (c + 191) 7 = 0 := by rw [e2.2, s5]; decide
  unfold rdS
  cases q : sSy T Ws with
  | false =>
    simp only [Bool.false_eq_true, if_false]
    cases U with
    | zero => omega
    | succ U1 =>
      rw [x_X5_read_L32]
      have hc' : x_X10_count (c + 191 - 5) τ = some (nI Ws.length) := by
        unfold x_X10_count
        rw [show c + 191 - 5 = c + 186 by omega, (W5.fR (fR_r e2.1)).1]
      have hk : x_X5_read_93 (U1 + 1) (c + 191) (zI false) τ = some (sI τ (c + 191) 7, τ) := by
        unfold x_X5_read_93
        rw [if_pos (show zI false = 0 from rfl)]
      rw [hc', b1_eq, if_pos (show zI false = 0 from rfl), hk]
      split
      · exact RD_fail (fR_refl c τ) s7
      · exact RD_fail (fR_refl c τ) s7
  | true =>
    simp only [if_true]
    have I0 : IV Ws (4, none, none, none, b) [] := ⟨sSy_far hS q, Nat.zero_le _, WF_nil, fun m h => (by cases h), fun m h => (by cases h), fun m h => (by cases h)⟩
    rw [rd_bare (b' := b)]
    exact X5_read_L hU hcb hS 701 U 0 (4, none, none, none, b) [] τ (by omega) (by omega) (Nat.zero_le _) I0 (h6_fR (h6_fR h6 (fR_r f5)) (fR_r e2.1)) (W5.fR (fR_r e2.1)) (e3 q) ((hT.r (by decide) f5).r (by decide) e2.1) s7
