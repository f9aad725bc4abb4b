/-! ===== the law's invariant: class and reference say the same ===== -/
/-- two schemas and a value -/
abbrev SV : Type := (Nat → List Nat × List Dc) × Option (Nat × AV)
def svT (B : SV) (s : Nat) : List Nat := (B.1 s).1
def svD (B : SV) (s : Nat) : List Dc := (B.1 s).2
def svV (B : SV) : Option (Nat × AV) := B.2
/-- the tape, OUT, and the rest -/
abbrev LST : Type := List Nat × List Nat × SV
def stS (A : LST) : List Nat := A.1
def stO (A : LST) : List Nat := A.2.1
def stB (A : LST) : SV := A.2.2
def IG (B : SV) : Prop := (∀ s, s < 2 → GSc (svT B s) (svD B s)) ∧ ∀ s V, svV B = some (s, V) → s < 2 ∧ (∃ z, AW (svT B s) (svD B s) V z) ∧ AK (svT B s) (svD B s) V ∧ nV (svT B s) (svD B s) V ≤ 200
def CV (B : SV) (σ : SG) : Prop := (∀ s, s < 2 → CS σ (cA s) (svT B s) (svD B s)) ∧ sI σ 1092 2 = 0 ∧ (svV B = none → VCn σ) ∧ ∀ s V, svV B = some (s, V) → ∃ m, VCs σ (cA s) (svT B s) (svD B s) m V
def RV (B : SV) (σ : SG) : Prop := (∀ s, s < 2 → RS σ s (svT B s) (svD B s)) ∧ (svV B = none → sI σ 1101 79 = 0) ∧ ∀ s V, svV B = some (s, V) → VRo σ s (svT B s) (svD B s) (some V)
def IC (A : LST) (σ : SG) : Prop := RB σ 1 (stS A) 0 ∧ (∃ z, RB σ 3 (stO A) z) ∧ CV (stB A) σ
def IR (A : LST) (σ : SG) : Prop := RTr σ (stS A) ∧ (∃ z, ROr σ (stO A, z)) ∧ RV (stB A) σ
def INV (A : LST) (σ : SG) : Prop := IG (stB A) ∧ IC A σ ∧ IR A σ
theorem cA_2 {s : Nat} (hs : s < 2) : (cA s = 5 ∨ cA s = 197) := cA_cb (s := s)
theorem CV_sm {B : SV} {σ τ : SG} (h : CV B σ) (hG : IG B) (hf : ∀ b, (5 ≤ b ∧ b ≤ 389) ∨ (391 ≤ b ∧ b ≤ 1093) → sm σ τ b) : CV B τ := by
  obtain ⟨h1, h2, h3, h4⟩ := h
  refine ⟨fun s hs => ?_, ?_, fun hn => ?_, fun s V hV => ?_⟩
  · have hc := cA_2 hs
    exact CS_sm (h1 s hs) (fun b g1 g2 => hf b (by omega))
  · exact ((hf 1092 (by omega)) 2).1.trans h2
  · obtain ⟨a1, a2, a3, a4⟩ := h3 hn
    have h9 := hf 389 (by omega)
    exact ⟨(h9 4).2.2.trans a1, (h9 5).2.2.trans a2, (h9 3).1.trans a3, a4.sm (hf 1092 (by omega)) (hf 1093 (by omega))⟩
  · obtain ⟨m, ⟨G, g1, g2⟩, p4, p5⟩ := h4 s V hV
    have h9 := hf 389 (by omega)
    exact ⟨m, ⟨G, VG_sm g1 (fun b hb => hf b (by omega)), g2⟩, (h9 4).2.2.trans p4, (h9 5).2.2.trans p5⟩
/-- the cells that the reference's schemas and value live in -/
def KpR (b k : Nat) : Prop := (b = 1101 ∧ 79 ≤ k ∧ k ≤ 84) ∨ (1104 ≤ b ∧ b ≤ 1127) ∨ (1160 ≤ b ∧ b ≤ 1162) ∨ (1165 ≤ b ∧ b ≤ 1175)
theorem RV_keep {B : SV} {σ τ : SG} (h : RV B σ) (hG : IG B) (hf : ∀ b k, KpR b k → sI τ b k = sI σ b k ∧ sL τ b k = sL σ b k) : RV B τ := by
  obtain ⟨h1, h2, h3⟩ := h
  refine ⟨fun s hs => RS_keep (h1 s hs) (fun b k hb => (hf b k (by unfold PKP at hb; unfold KpR; omega)).1), fun hn => (hf 1101 79 (by unfold KpR; omega)).1.trans (h2 hn), fun s V hV => ?_⟩
  obtain ⟨a1, H, a2⟩ := h3 s V hV
  exact ⟨(hf 1101 79 (by unfold KpR; omega)).1.trans a1, H, VS_keep a2 (fun b k hb => hf b k (by unfold KpR; omega))⟩
theorem IC_sm {A : LST} {σ τ : SG} (h : IC A σ) (hG : IG (stB A)) (hf : ∀ b, b < 1101 → sm σ τ b) : IC A τ := by
  obtain ⟨h1, ⟨z, h2⟩, h3⟩ := h
  exact ⟨h1.sm (hf 1 (by omega)) (hf 2 (by omega)), ⟨z, h2.sm (hf 3 (by omega)) (hf 4 (by omega))⟩, CV_sm h3 hG (fun b hb => hf b (by omega))⟩
theorem IR_sm {A : LST} {σ τ : SG} (h : IR A σ) (hG : IG (stB A)) (hf : ∀ b, 1101 ≤ b → b ≤ 1184 → sm σ τ b) : IR A τ := by
  obtain ⟨⟨h0, h1⟩, ⟨z, g1, g2, g3, g4⟩, h3⟩ := h
  have f1 := hf 1101 (by omega) (by omega)
  exact ⟨⟨(f1 1).1.trans h0, h1.sm (hf 1102 (by omega) (by omega))⟩, ⟨z, (f1 3).1.trans g1, (f1 4).1.trans g2, g3.sm (hf 1103 (by omega) (by omega)), g4⟩, RV_keep h3 hG (fun b k hb => ⟨(hf b (by unfold KpR at hb; omega) (by unfold KpR at hb; omega) k).1, (hf b (by unfold KpR at hb; omega) (by unfold KpR at hb; omega) k).2.1⟩)⟩
/-- a call of the class touches nothing of the reference -/
def fCl (σ τ : SG) : Prop := ∀ b, 1101 ≤ b → sm σ τ b
/-- a call of the reference touches nothing of the class, nor the law's out -/
def fRf (σ τ : SG) : Prop := ∀ b, (b < 1101 ∨ 1185 ≤ b) → sm σ τ b
theorem fRf_P {P : Nat → Nat → Prop} {σ τ : SG} (h : fP P σ τ) (hP : ∀ b k, P b k → 1101 ≤ b ∧ b ≤ 1184) : fRf σ τ := fun b hb k => h b k (fun z => by have := hP b k z; omega)
/-- an answer: a number, or one of these exceptions -/
def okR (L : List String) (r : mm_R) : Prop := (∃ w, r = .inl (some (.int w))) ∨ ∃ E, E ∈ L ∧ r = .inr E
theorem ok_i {L : List String} {w : Int32} : okR L (.inl (some (.int w))) := Or.inl ⟨w, rfl⟩
theorem ok_1 {L : List String} {E : String} : okR (E :: L) (.inr E) := Or.inr ⟨E, List.mem_cons_self .., rfl⟩
theorem ok_2 {L : List String} {E E' : String} : okR (E' :: E :: L) (.inr E) := Or.inr ⟨E, List.mem_cons_of_mem _ (List.mem_cons_self ..), rfl⟩
theorem ok_fdS {T : List Nat} {b : Int64} {n : Int32} : okR [IAE, ISE] (fdS T b n).1 := by
  unfold fdS
  split
  · exact ok_1
  · split
    · exact ok_2
    · exact ok_i
theorem ok_tnS {T O : List Nat} : okR [ISE] (tnS T O).1 := by
  unfold tnS
  split
  · exact ok_1
  · exact ok_i
theorem ok_mnS {D : List Dc} {w : Int32} : okR [IAE] (mnS D w) := by
  unfold mnS
  split
  · exact ok_1
  · exact ok_i
theorem ok_flS {T : List Nat} {D : List Dc} {x y w : Int32} : okR [IAE] (flS T D x y w) := by
  unfold flS
  split
  · exact ok_1
  · split
    · exact ok_1
    · split
      · exact ok_1
      · exact ok_i
theorem ok_seR {T : List Nat} {D : List Dc} {o : Option AV} : okR [IAE, ISE] (seR T D o).1 := by
  unfold seR
  split
  · exact ok_1
  · split
    · exact ok_2
    · exact ok_i
theorem ok_prA {B : List Nat} : okR [ISE, UOE] (prA B) := by
  unfold prA
  split
  · exact ok_i
  · exact ok_2
theorem ok_chS {T E' : List Nat} {D E : List Dc} {x y : Int32} : okR [IAE] (chS T E' D E x y).1 := by
  unfold chS
  split
  · exact ok_i
  · exact ok_1
/-- what the reference does once the class has answered r -/
def After (q : SG → Option (Int32 × SG)) (C : mm_R → Int32) (cmp : Prop) (r : mm_R) (τ : SG) : Prop := ∀ ω, (∀ b, b ≠ 1185 → sm τ ω b) → ∃ v υ, q ω = some (v, υ) ∧ fRf ω υ ∧ sI υ 1101 5 = C r ∧ (cmp → ∀ w, r = .inl (some (.int w)) → v = w) ∧ ∃ A', INV A' υ
/-- both sides' rows of a call, put together -/
theorem step_of {A A' : LST} {σ τ : SG} {q : SG → Option (Int32 × SG)} {C : mm_R → Int32} {cmp : Prop} {r : mm_R} (h : INV A σ) (hG : IG (stB A')) (hc : IC A' τ) (hf : fCl σ τ)
    (hr : ∀ ω, IR A ω → ∃ v υ, q ω = some (v, υ) ∧ fRf ω υ ∧ sI υ 1101 5 = C r ∧ (cmp → ∀ w, r = .inl (some (.int w)) → v = w) ∧ IR A' υ) : After q C cmp r τ := by
  intro ω hω
  have hRω : IR A ω := IR_sm h.2.2 h.1 (fun b h1 h2 => sm_trans (hf b h1) (hω b (by omega)))
  obtain ⟨v, υ, e1, e2, e3, e4, e5⟩ := hr ω hRω
  have hCω : IC A' ω := IC_sm hc hG (fun b hb => hω b (by omega))
  exact ⟨v, υ, e1, e2, e3, e4, A', hG, IC_sm hCω hG (fun b hb => e2 b (Or.inl hb)), e5⟩
/-- the tape alone changes: class -/
theorem IC_tape {A : LST} {σ τ : SG} {S' : List Nat} (h : IC A σ) (hG : IG (stB A)) (hB : RB τ 1 S' 0) (hf : ∀ b, b ≠ 1 → b ≠ 2 → sm σ τ b) : IC (S', A.2) τ := by
  obtain ⟨_, ⟨z, h2⟩, h3⟩ := h
  exact ⟨hB, ⟨z, h2.sm (hf 3 (by omega) (by omega)) (hf 4 (by omega) (by omega))⟩, CV_sm h3 hG (fun b hb => hf b (by omega) (by omega))⟩
/-- OUT alone changes: class -/
theorem IC_out {A : LST} {σ τ : SG} {O' : List Nat} {z : Int32} (h : IC A σ) (hG : IG (stB A)) (hB : RB τ 3 O' z) (hf : ∀ b, b ≠ 3 → b ≠ 4 → b < 1094 → sm σ τ b) : IC (A.1, O', A.2.2) τ := by
  obtain ⟨h1, _, h3⟩ := h
  exact ⟨h1.sm (hf 1 (by omega) (by omega) (by omega)) (hf 2 (by omega) (by omega) (by omega)), ⟨z, hB⟩, CV_sm h3 hG (fun b hb => hf b (by omega) (by omega) (by omega))⟩
/-- the tape alone changes: reference -/
theorem IR_tape {A : LST} {σ τ : SG} {S' : List Nat} (h : IR A σ) (hG : IG (stB A)) (hT : RTr τ S') (hf : ∀ b k, (b = 1101 ∧ (k = 3 ∨ k = 4)) ∨ b = 1103 ∨ KpR b k → sI τ b k = sI σ b k ∧ sL τ b k = sL σ b k) : IR (S', A.2) τ := by
  obtain ⟨_, ⟨z, g1, g2, g3, g4⟩, h3⟩ := h
  exact ⟨hT, ⟨z, (hf 1101 3 (by omega)).1.trans g1, (hf 1101 4 (by omega)).1.trans g2, fun i c hi => (hf 1103 i (by omega)).1.trans (g3 i c hi), g4⟩, RV_keep h3 hG (fun b k hb => hf b k (Or.inr (Or.inr hb)))⟩
/-- OUT alone changes: reference -/
theorem IR_out {A : LST} {σ τ : SG} {O' : List Nat} {z : Int32} (h : IR A σ) (hG : IG (stB A)) (hO : ROr τ (O', z)) (hf : ∀ b k, (b = 1101 ∧ k = 1) ∨ b = 1102 ∨ KpR b k → sI τ b k = sI σ b k ∧ sL τ b k = sL σ b k) : IR (A.1, O', A.2.2) τ := by
  obtain ⟨⟨h0, h1⟩, _, h3⟩ := h
  exact ⟨⟨(hf 1101 1 (by omega)).1.trans h0, fun i c hi => (hf 1102 i (by omega)).1.trans (h1 i c hi)⟩, ⟨z, hO⟩, RV_keep h3 hG (fun b k hb => hf b k (Or.inr (Or.inr hb)))⟩
theorem f5_k {σ τ : SG} (h : f5 σ τ) {b k : Nat} (hb : b ≠ 1101 ∨ k ≠ 5) : sI τ b k = sI σ b k ∧ sL τ b k = sL σ b k ∧ sP τ b k = sP σ b k := by
  by_cases q : b = 1101
  · subst q
    exact ⟨h.2.1 k (by simp; omega), h.2.2.1 k, h.2.2.2 k⟩
  · exact h.1 b q k
theorem f5_fRf {σ τ : SG} (h : f5 σ τ) : fRf σ τ := fun b hb => h.1 b (by omega)
/-- nothing changes: reference -/
theorem IR_f5 {A : LST} {σ τ : SG} (h : IR A σ) (hG : IG (stB A)) (hf : f5 σ τ) : IR A τ := by
  obtain ⟨h0, ⟨z, g⟩, h3⟩ := h
  exact ⟨h0.f5 hf, ⟨z, g.f5 hf⟩, RV_keep h3 hG (fun b k hb => ⟨(f5_k hf (by unfold KpR at hb; omega)).1, (f5_k hf (by unfold KpR at hb; omega)).2.1⟩)⟩
theorem ft_k {σ τ : SG} (h : ft σ τ) {b k : Nat} (h1 : b ≠ 1102) (h2 : b = 1101 → k ≠ 1 ∧ k ≠ 5) : sI τ b k = sI σ b k ∧ sL τ b k = sL σ b k ∧ sP τ b k = sP σ b k := by
  by_cases q : b = 1101
  · subst q
    exact ⟨h.2.1 k (by have := h2 rfl; simp; omega), h.2.2.1 k, h.2.2.2 k⟩
  · exact h.1 b q h1 k
theorem ft_fRf {σ τ : SG} (h : ft σ τ) : fRf σ τ := fun b hb => h.1 b (by omega) (by omega)
theorem IC.len {A : LST} {σ : SG} (h : IC A σ) : (stS A).length ≤ 700 := h.1.2.2.1
theorem IC.ok {A : LST} {σ : SG} (h : IC A σ) : ok8 (stS A) := h.1.2.2.2.2
theorem st_feed {U : Nat} {A : LST} {σ : SG} {b : Int64} {n : Int32} (hU : 4000 < U) (h : INV A σ) : ∃ r τ, okR [IAE, ISE] r ∧ x_X11_feed U 0 b n σ = some (r, τ) ∧ fCl σ τ ∧ After (x_X12_feed U 1101 b n) fdC True r τ := by
  obtain ⟨τ, c1, c2, c3⟩ := X11_feed (U := U) (b := b) (n := n) hU h.2.1.1
  refine ⟨_, τ, ok_fdS, c1, fun b' hb => c3 b' (by omega) (by omega), step_of (A' := ((fdS (stS A) b n).2, A.2)) h h.1 (IC_tape h.2.1 h.1 c2 c3) (fun b' hb => c3 b' (by omega) (by omega)) (fun ω hR => ?_)⟩
  obtain ⟨v, υ, d1, d2, d3, d4, d5⟩ := X12_feed (U := U) (b := b) (n := n) hU h.2.1.len hR.1
  refine ⟨v, υ, d1, ft_fRf d3, d4, fun _ w hw => ?_, IR_tape hR h.1 d2 (fun b' k hb => ?_)⟩
  · rcases d5 with z | ⟨E, z⟩
    · rw [z] at hw; cases hw; rfl
    · rw [z] at hw; cases hw
  · unfold KpR at hb
    have := ft_k d3 (b := b') (k := k) (by omega) (by omega)
    exact ⟨this.1, this.2.1⟩
theorem st_turn {U : Nat} {A : LST} {σ : SG} (hU : 4000 < U) (h : INV A σ) : ∃ r τ, okR [ISE] r ∧ x_X11_turn U 0 σ = some (r, τ) ∧ fCl σ τ ∧ After (x_X12_turn U 1101) otC True r τ := by
  obtain ⟨zc, hO⟩ := h.2.1.2.1
  obtain ⟨τ, c1, c2, c3⟩ := X11_turn (U := U) hU h.2.1.1 hO
  refine ⟨_, τ, ok_tnS, c1, fun b' hb => c3 b' (by omega) (by omega), step_of (A' := ((tnS (stS A) (stO A)).2, A.2)) h h.1 (IC_tape h.2.1 h.1 c2 c3) (fun b' hb => c3 b' (by omega) (by omega)) (fun ω hR => ?_)⟩
  obtain ⟨zr, hOr⟩ := hR.2.1
  obtain ⟨v, υ, d1, d2, d3, d4, d5⟩ := X12_turn (U := U) hU hR.1 hOr
  refine ⟨v, υ, d1, ft_fRf d3, d4, fun _ w hw => ?_, IR_tape hR h.1 d2 (fun b' k hb => ?_)⟩
  · rcases d5 with z | ⟨E, z⟩
    · rw [z] at hw; cases hw; rfl
    · rw [z] at hw; cases hw
  · unfold KpR at hb
    have := ft_k d3 (b := b') (k := k) (by omega) (by omega)
    exact ⟨this.1, this.2.1⟩
theorem sch2 (p : Int32) : noS p ∨ ∃ s, s < 2 ∧ p = nI s := by
  by_cases h0 : p = 0
  · exact Or.inr ⟨0, by decide, h0⟩
  · by_cases h1 : p = 1
    · exact Or.inr ⟨1, by decide, h1⟩
    · exact Or.inl ⟨h0, h1⟩
theorem fCl_refl (σ : SG) : fCl σ σ := fun b _ => sm_refl σ b
theorem st_many {A : LST} {σ : SG} {p w : Int32} (h : INV A σ) : ∃ r τ, okR [IAE] r ∧ x_X11_many 0 p w σ = some (r, τ) ∧ fCl σ τ ∧ After (x_X12_many 1101 p w) fdC True r τ := by
  rcases sch2 p with hp | ⟨s, hs, rfl⟩
  · refine ⟨_, σ, ok_1, C_many_no hp, fCl_refl σ, step_of (A' := A) h h.1 h.2.1 (fCl_refl σ) (fun ω hR => ⟨0, _, N_many_no hp, f5_fRf (f5_u ω 1), by rw [sI_s]; rfl, fun _ w hw => (by cases hw), IR_f5 hR h.1 (f5_u ω 1)⟩)⟩
  · refine ⟨_, σ, ok_mnS, X11_many hs (h.2.1.2.2.1 s hs), fCl_refl σ, step_of (A' := A) h h.1 h.2.1 (fCl_refl σ) (fun ω hR => ?_)⟩
    obtain ⟨v, e1, e2⟩ := N_many (w := w) hs (hR.2.2.1 s hs)
    refine ⟨v, _, e1, f5_fRf (f5_u ω _), ?_, fun _ w' hw => ?_, IR_f5 hR h.1 (f5_u ω _)⟩
    · rw [sI_s]
      unfold mnS
      split <;> rfl
    · rcases e2 with z | ⟨E, z⟩
      · rw [z] at hw; cases hw; rfl
      · rw [z] at hw; cases hw
theorem st_field {U : Nat} {A : LST} {σ : SG} {p x y w : Int32} (hU : 4000 < U) (h : INV A σ) : ∃ r τ, okR [IAE] r ∧ x_X11_field U 0 p x y w σ = some (r, τ) ∧ fCl σ τ ∧ After (x_X12_field U 1101 p x y w) fdC True r τ := by
  rcases sch2 p with hp | ⟨s, hs, rfl⟩
  · refine ⟨_, σ, ok_1, C_field_no hp, fCl_refl σ, step_of (A' := A) h h.1 h.2.1 (fCl_refl σ) (fun ω hR => ⟨0, _, N_field_no hp, f5_fRf (f5_u ω 1), by rw [sI_s]; rfl, fun _ w hw => (by cases hw), IR_f5 hR h.1 (f5_u ω 1)⟩)⟩
  · refine ⟨_, σ, ok_flS, C_field hU hs (h.1.1 s hs) (h.2.1.2.2.1 s hs), fCl_refl σ, step_of (A' := A) h h.1 h.2.1 (fCl_refl σ) (fun ω hR => ?_)⟩
    obtain ⟨v, e1, e2⟩ := N_field (x := x) (y := y) (w := w) hU hs (h.1.1 s hs) (hR.2.2.1 s hs)
    exact ⟨v, _, e1, f5_fRf (f5_u ω _), sI_s _ _ _ _, fun _ w' hw => e2 w' hw, IR_f5 hR h.1 (f5_u ω _)⟩
theorem RTr_nil {τ : SG} (h : sI τ 1101 1 = 0) : RTr τ [] := ⟨h, RI_nil _ _⟩
theorem fiA_d {D : List Dc} {o : Option Nat} {w : Int32} (h : (.inl (some (.int (fiA D o))) : mm_R) = .inl (some (.int w))) : fiA D o = w := by
  injection h with h
  injection h with h
  injection h
theorem st_find {U : Nat} {A : LST} {σ : SG} {p : Int32} (hU : 4000 < U) (h : INV A σ) : ∃ r τ, okR [IAE] r ∧ x_X11_find U 0 p σ = some (r, τ) ∧ fCl σ τ ∧ After (x_X12_find U 1101 p) fdC True r τ := by
  have hP : ∀ b k, Pfi b k → 1101 ≤ b ∧ b ≤ 1184 := fun b k z => by unfold Pfi at z; omega
  rcases sch2 p with hp | ⟨s, hs, rfl⟩
  · obtain ⟨τ, c1, c2, c3⟩ := C_find_no (U := U) (σ := σ) hp
    refine ⟨_, τ, ok_1, c1, fun b hb => c3 b (by omega), step_of (A' := ([], A.2)) h h.1 (IC_tape h.2.1 h.1 c2 (fun b hb _ => c3 b hb)) (fun b hb => c3 b (by omega)) (fun ω hR => ?_)⟩
    obtain ⟨υ, d1, d2, d3, d4⟩ := N_find_no (U := U) (σ := ω) hp
    exact ⟨0, υ, d1, fRf_P d2 hP, d4, fun _ w hw => (by cases hw), IR_tape hR h.1 (RTr_nil d3) (fun b k hb => ⟨(d2 b k (by unfold KpR at hb; unfold Pfi; omega)).1, (d2 b k (by unfold KpR at hb; unfold Pfi; omega)).2.1⟩)⟩
  · obtain ⟨τ, c1, c2, c3⟩ := C_find (U := U) hU hs (h.1.1 s hs) (h.2.1.2.2.1 s hs) h.2.1.1
    refine ⟨_, τ, ok_i, c1, fun b hb => c3 b (by omega), step_of (A' := ([], A.2)) h h.1 (IC_tape h.2.1 h.1 c2 (fun b hb _ => c3 b hb)) (fun b hb => c3 b (by omega)) (fun ω hR => ?_)⟩
    obtain ⟨υ, d1, d2, d3, d4⟩ := N_find (U := U) hU hs (h.1.1 s hs) (hR.2.2.1 s hs) hR.1 h.2.1.ok h.2.1.len
    exact ⟨_, υ, d1, fRf_P d2 hP, d4, fun _ w hw => fiA_d hw, IR_tape hR h.1 (RTr_nil d3) (fun b k hb => ⟨(d2 b k (by unfold KpR at hb; unfold Pfi; omega)).1, (d2 b k (by unfold KpR at hb; unfold Pfi; omega)).2.1⟩)⟩
