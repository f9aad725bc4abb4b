/-! ===== check: the reference's loop ===== -/
def RFs (D E : List Dc) (σ : SG) : List Fr → Prop
  | [] => True
  | fr :: Q => sI σ 1182 Q.length = nI (ordM D fr.1) ∧ sI σ 1183 Q.length = nI (ordM E fr.2.1) ∧ sI σ 1184 Q.length = nI (2 * fr.2.2.1 + (if fr.2.2.2 then 1 else 0)) ∧ RFs D E σ Q
theorem RFs_keep {D E : List Dc} {σ τ : SG} : ∀ (Q : List Fr), RFs D E σ Q → (∀ b k, (b = 1182 ∨ b = 1183 ∨ b = 1184) → k < Q.length → sI τ b k = sI σ b k) → RFs D E τ Q := by
  intro Q
  induction Q with
  | nil => intro _ _; exact trivial
  | cons fr Q ih =>
    intro h hk
    obtain ⟨h1, h2, h3, h4⟩ := h
    exact ⟨(hk 1182 _ (by omega) (by simp)).trans h1, (hk 1183 _ (by omega) (by simp)).trans h2, (hk 1184 _ (by omega) (by simp)).trans h3, ih h4 (fun b k hb hk' => hk b k hb (by simp; omega))⟩
/-- at the end: the fields of the way -/
def RFw (D : List Dc) (σ : SG) : List Fr → Prop
  | [] => True
  | fr :: Q => sI σ 1182 Q.length = nI (ordM D fr.1) ∧ (∃ a, (a = 2 * fr.2.2.1 + 1 ∨ a = 2 * fr.2.2.1 + 2) ∧ sI σ 1184 Q.length = nI a) ∧ RFw D σ Q
theorem RFw_of {D E : List Dc} {σ τ : SG} : ∀ (Q : List Fr), RFs D E σ Q → (∀ fr ∈ Q, fr.2.2.2 = true) → (∀ b k, (b = 1182 ∨ b = 1184) → k < Q.length → sI τ b k = sI σ b k) → RFw D τ Q := by
  intro Q
  induction Q with
  | nil => intro _ _ _; exact trivial
  | cons fr Q ih =>
    intro h hb hk
    obtain ⟨h1, h2, h3, h4⟩ := h
    refine ⟨(hk 1182 _ (by omega) (by simp)).trans h1, ⟨2 * fr.2.2.1 + 1, Or.inl rfl, ?_⟩, ih h4 (fun x hx => hb x (List.mem_cons_of_mem _ hx)) (fun b k hb' hk' => hk b k hb' (by simp; omega))⟩
    rw [hk 1184 _ (by omega) (by simp), h3, hb fr (List.mem_cons_self ..), if_pos rfl]
/-- what a check of the reference touches -/
def PCk (b k : Nat) : Prop := (b = 1101 ∧ k = 106) ∨ (1181 ≤ b ∧ b ≤ 1184)
def KRr (σ : SG) (T E' : List Nat) (D E : List Dc) (stk : List Fr) (met : List Nat) : Prop := RS σ 0 T D ∧ RS σ 1 E' E ∧ sI σ 1101 106 = nI stk.length ∧ RFs D E σ stk ∧ ∀ c, c < 256 → sI σ 1181 c = zI (decide (c ∈ met))
theorem RS_PCk {σ τ : SG} {s : Nat} {T : List Nat} {D : List Dc} (h : RS σ s T D) (hf : fP PCk σ τ) : RS τ s T D := RS_keep h (fun b k hb => (hf b k (by unfold PKP at hb; unfold PCk; omega)).1)
theorem half2 : ∀ a, a < 1000 → nI a / 2 = nI (a / 2) := by decide +kernel
theorem N_open {t v : Nat} {σ : SG} {T E' : List Nat} {D E : List Dc} {n : Nat} (hg : GSc T D) (hh : GSc E' E) (ht : isM D t) (hv : isM E v) (h106 : sI σ 1101 106 = nI n) (hn : n < 256) : ∃ τ, x_X12_open 1101 (nI (ordM D t)) (nI (ordM E v)) σ = some τ ∧ fP PCk σ τ ∧ sI τ 1101 106 = nI (n + 1) ∧ sI τ 1182 n = nI (ordM D t) ∧ sI τ 1183 n = nI (ordM E v) ∧ sI τ 1184 n = nI 0 ∧ (∀ b k, (b = 1182 ∨ b = 1183 ∨ b = 1184) → k ≠ n → sI τ b k = sI σ b k) ∧ sI τ 1181 (cod D E t v) = zI true ∧ ∀ c, c ≠ cod D E t v → sI τ 1181 c = sI σ 1181 c := by
  have hc := cod_lt hg hh ht hv
  have ecod : (16 : Int32) * nI (ordM D t) + nI (ordM E v) = nI (cod D E t v) := by
    have e : (16 : Int32) * nI (ordM D t) = nI (16 * ordM D t) := pk_mul 16 _
    rw [e, nI_add, Nat.mul_comm]; rfl
  unfold x_X12_open
  rw [ecod, ix_in hc (by decide), sb_eq, sI_o (Or.inl (by decide)), h106, ix_in (by omega) (by decide), sb_eq, sI_o (Or.inl (by decide)), sI_o (Or.inl (by decide)), h106, ix_in (by omega) (by decide), sb_eq, sI_o (Or.inl (by decide)), sI_o (Or.inl (by decide)), sI_o (Or.inl (by decide)), h106, ix_in (by omega) (by decide), sb_eq, sb_eq, sI_o (Or.inl (by decide)), sI_o (Or.inl (by decide)), sI_o (Or.inl (by decide)), sI_o (Or.inl (by decide)), h106, nI_1]
  refine ⟨_, rfl, fP_trans (fP_trans (fP_trans (fP_trans (fP_u ?_) (fP_u ?_)) (fP_u ?_)) (fP_u ?_)) (fP_u ?_), sI_s _ _ _ _, ?_, ?_, ?_, fun b k hb hk => ?_, ?_, fun c hc' => ?_⟩
  · unfold PCk; omega
  · unfold PCk; omega
  · unfold PCk; omega
  · unfold PCk; omega
  · unfold PCk; omega
  · rw [sI_o (Or.inl (by decide)), sI_o (Or.inl (by decide)), sI_o (Or.inl (by decide)), sI_s]
  · rw [sI_o (Or.inl (by decide)), sI_o (Or.inl (by decide)), sI_s]
  · rw [sI_o (Or.inl (by decide)), sI_s]; rfl
  · rw [sI_o (by omega), sI_o (by omega), sI_o (by omega), sI_o (by omega), sI_o (by omega)]
  · rw [sI_o (Or.inl (by decide)), sI_o (Or.inl (by decide)), sI_o (Or.inl (by decide)), sI_o (Or.inl (by decide)), sI_s]; exact nar19
  · rw [sI_o (Or.inl (by decide)), sI_o (Or.inl (by decide)), sI_o (Or.inl (by decide)), sI_o (Or.inl (by decide)), sI_o (Or.inr hc')]
/-- one step of the reference, by what it finds -/
theorem N_cstep {U m u k a : Nat} {b : Bool} {n : Nat} {σ : SG} {T E' : List Nat} {D E : List Dc} (hU : 4000 < U) (hg : GSc T D) (hh : GSc E' E) (hS : RS σ 0 T D) (hS' : RS σ 1 E' E) (hM : isM D m) (hN : isM E u) (h106 : sI σ 1101 106 = nI (n + 1)) (hn : n < 256) (h82 : sI σ 1182 n = nI (ordM D m)) (h83 : sI σ 1183 n = nI (ordM E u)) (h84 : sI σ 1184 n = nI a) (ha : a = 2 * k + (if b then 1 else 0)) (hk : k < 300) :
    ((chF D m)[k]? = none → x_X12_checkStep U 1101 σ = some (0, uI σ 1101 106 (nI n))) ∧
    ∀ f d, (chF D m)[k]? = some f → isF D m f d → ((fOf E u (nmn D f) = none → x_X12_checkStep U 1101 σ = some (0, uI σ 1184 n (nI (a + 1)))) ∧ ∀ g e, fOf E u (nmn D f) = some g → isF E u g e → ((b = true → x_X12_checkStep U 1101 σ = some (if trn D E m u f g then 3 else 0, uI σ 1184 n (nI (a + 1)))) ∧ (b = false → (dR d ≠ dR e → x_X12_checkStep U 1101 σ = some (1, uI σ 1184 n (nI (a + 1)))) ∧ (dR d = dR e → und (fty T D d) (fty E' E e) = false → x_X12_checkStep U 1101 σ = some (2, uI σ 1184 n (nI (a + 1)))) ∧ (dR d = dR e → und (fty T D d) (fty E' E e) = true → x_X12_checkStep U 1101 σ = x_X12_checkStep_180 U 1101 (nI (fx D 0 f)) (nI (fx E 1 g)) (uI σ 1184 n (nI (a + 1))))))) := by
  have e1 : nI (n + 1) - 1 = nI n := nI_sub (b := 1) (by omega)
  have ek : a / 2 = k := by rw [ha]; split <;> omega
  have ha1 : a < 1000 := by rw [ha]; split <;> omega
  have hmA : mAt (chF D m) (nI k) = (chF D m)[k]? := by unfold mAt; rw [if_neg (nI_neg (by omega)), clampN (by omega)]
  have hodd : nI a - nI k * 2 = nI (if b then 1 else 0) := by
    have e : nI k * 2 = nI (k * 2) := pk_mul k 2
    rw [e, nI_sub (by omega)]
    congr 1
    rw [ha]
    split <;> omega
  have hfa := N_fieldAt (U := U) (s := 0) (x := nI k) hU (by decide) hg hS hM
  have hfa' : x_X12_fieldAt U 1101 0 (nI (ordM D m)) (nI k) σ = some (fIx D 0 ((chF D m)[k]?)) := by rw [← hmA]; exact hfa
  unfold x_X12_checkStep
  rw [h106, e1, ix_in (by omega) (by decide), ix_in (by omega) (by decide), h82, h84, half2 a ha1, ek, hfa', b1_eq]
  refine ⟨fun hf => ?_, fun f d hf hd => ?_⟩
  · rw [hf, if_pos (show fIx D 0 none = -1 from rfl), sb_eq]
  obtain ⟨f1, _, f3, f4, f5, f6, _, f8⟩ := hS.f hd.1 hd.2.1
  have hne : ¬ nI (fx D 0 f) = -1 := fun z => nI_neg (by omega : fx D 0 f < 2 ^ 31) (by rw [z]; decide)
  have hbd := (hg.fld hd.1 hd.2.1).2.2.1
  have hft : fty T D d ≤ 14 := dTy_lt (hg.fld hd.1 hd.2.1).2.2.2.1
  have hfr := N_fresh (U := U) (x := (dN d).2) hU hh hS' hN hbd
  have hnf : nmn D f = (dN d).2 := nmn_some hd.1
  have F1 : fP PCk σ (uI σ 1184 n (nI (a + 1))) := fP_u (by unfold PCk; omega)
  have S1 := RS_PCk hS F1
  have S1' := RS_PCk hS' F1
  have x82 : sI (uI σ 1184 n (nI (a + 1))) 1182 n = nI (ordM D m) := (sI_o (Or.inl (by decide))).trans h82
  have x83 : sI (uI σ 1184 n (nI (a + 1))) 1183 n = nI (ordM E u) := (sI_o (Or.inl (by decide))).trans h83
  have eb : nI (if b then 1 else 0) = 0 ↔ b = false := by cases b <;> decide
  rw [hf, show fIx D 0 (some f) = nI (fx D 0 f) from rfl, if_neg hne, ix_in (by omega) (by decide), ix_in (by omega) (by decide), h83, f3, hfr, b1_eq, ix_in (by omega) (by decide), h84, half2 a ha1, ek, hodd, ifd eb, hnf]
  unfold x_X12_checkStep_77
  rw [ix_in (show n < 260 by omega) (by decide), ix_in (show n < 260 by omega) (by decide), ix_in (show n < 260 by omega) (by decide), ix_in (show n < 260 by omega) (by decide), h84, nI_1, sb_eq, sb_eq]
  generalize uI σ 1184 n (nI (a + 1)) = σ1 at *
  refine ⟨fun hgn => ?_, fun g e hgs he => ?_⟩
  · rw [hgn, if_pos (show fIx E 1 none = -1 from rfl), if_pos (show fIx E 1 none = -1 from rfl), ite_self]
  obtain ⟨g1, _, g3, g4, g5, g6, _, g8⟩ := S1'.f he.1 he.2.1
  obtain ⟨k1, _, k3, k4, k5, k6, _, k8⟩ := S1.f hd.1 hd.2.1
  have hfu : fty E' E e ≤ 14 := dTy_lt (hh.fld he.1 he.2.1).2.2.2.1
  have hneg : ¬ nI (fx E 1 g) = -1 := fun z => nI_neg (by omega : fx E 1 g < 2 ^ 31) (by rw [z]; decide)
  have er : zI (dR d) = zI (dR e) ↔ dR d = dR e := by cases dR d <;> cases dR e <;> decide
  have et : nI (fty T D d) = nI (fty E' E e) ↔ fty T D d = fty E' E e := nI_eq (by omega) (by omega)
  rw [hgs, show fIx E 1 (some g) = nI (fx E 1 g) from rfl, if_neg hneg, if_neg hneg]
  refine ⟨fun hb => ?_, fun hb => ?_⟩
  · rw [if_neg (show ¬ b = false from fun z => by rw [hb] at z; cases z), if_pos (show (0 : Int32) = 0 from rfl), ix_in (show n < 260 by omega) (by decide), ix_in (show n < 260 by omega) (by decide), x82, x83, N_joined hU hg hh S1 S1' hM hN hd he, b1_eq, ifz]
    split <;> rfl
  · rw [if_pos hb, if_neg (show ¬ (1 : Int32) = 0 by decide), ix_in (i := fx D 0 f) (by omega) (by decide), ix_in (i := fx E 1 g) (by omega) (by decide), k6, g6, ifd er]
    refine ⟨fun q1 => by rw [if_neg q1], fun q1 q2 => ?_, fun q1 q2 => ?_⟩
    · rw [if_pos q1, ix_in (i := fx D 0 f) (by omega) (by decide), ix_in (i := fx E 1 g) (by omega) (by decide), k4, g4, ifd et]
      have hu := N_und (fty T D d) (by omega) (fty E' E e) (by omega)
      have hne' : fty T D d ≠ fty E' E e := fun z => by rw [hu.1 z] at q2; cases q2
      rw [if_neg hne', ix_in (i := fx D 0 f) (by omega) (by decide), ix_in (i := fx E 1 g) (by omega) (by decide), k4, g4, hu.2 hne', b1_eq, q2, if_pos (show zI false = 0 from rfl)]
    · rw [if_pos q1, ix_in (i := fx D 0 f) (by omega) (by decide), ix_in (i := fx E 1 g) (by omega) (by decide), k4, g4, ifd et]
      have hu := N_und (fty T D d) (by omega) (fty E' E e) (by omega)
      by_cases hne' : fty T D d = fty E' E e
      · rw [if_pos hne']
      · rw [if_neg hne', ix_in (i := fx D 0 f) (by omega) (by decide), ix_in (i := fx E 1 g) (by omega) (by decide), k4, g4, hu.2 hne', b1_eq, q2, if_neg (show ¬ zI true = 0 by decide)]
/-- one step of the spec, done by the reference -/
theorem N_kstep {U : Nat} {fr : Fr} {Q : List Fr} {met : List Nat} {σ : SG} {T E' : List Nat} {D E : List Dc} {K : Int32 → SG → Option (Int32 × SG)} (hU : 4000 < U) (hg : GSc T D) (hh : GSc E' E) (h : KRr σ T E' D E (fr :: Q) met) (hK : KI T E' D E (fr :: Q) met) : ((kSt T E' D E (fr :: Q) met).1 = 0 → ∃ τ, (∃ c, c ≤ 2 ∧ 1 ≤ c ∧ ∀ V, x_X12_check_L75 U 1101 K (V + 2) 0 σ = x_X12_check_L75 U 1101 K (V + 2 - c) 0 τ) ∧ KRr τ T E' D E (kSt T E' D E (fr :: Q) met).2.1 (kSt T E' D E (fr :: Q) met).2.2 ∧ fP PCk σ τ) ∧ ((kSt T E' D E (fr :: Q) met).1 ≠ 0 → ∃ τ, (∀ V, x_X12_check_L75 U 1101 K (V + 3) 0 σ = K (nI (kSt T E' D E (fr :: Q) met).1) τ) ∧ RS τ 0 T D ∧ sI τ 1101 106 = nI (kSt T E' D E (fr :: Q) met).2.1.length ∧ RFw D τ (kSt T E' D E (fr :: Q) met).2.1 ∧ fP PCk σ τ) := by
  obtain ⟨m, u, k, b⟩ := fr
  obtain ⟨s1, s2, s3, ⟨r1, r2, r3, r4⟩, s5⟩ := h
  obtain ⟨i1, i2, i3, i4, i5⟩ := id hK
  obtain ⟨hM, hN, hP⟩ := i1 _ (List.mem_cons_self ..)
  have hM' : isM D m := hM
  have hN' : isM E u := hN
  have i2' : ∀ fr ∈ Q, fr.2.2.2 = true := i2
  rw [List.length_cons] at s3 i3
  have hm256 : met.length ≤ 256 := by
    have := nd_len 256 _ i4 0 (fun a ha => ⟨Nat.zero_le _, i5 a ha⟩)
    omega
  have hn : Q.length < 256 := by omega
  have r1' : sI σ 1182 Q.length = nI (ordM D m) := r1
  have r2' : sI σ 1183 Q.length = nI (ordM E u) := r2
  have r3' : sI σ 1184 Q.length = nI (2 * k + (if b then 1 else 0)) := r3
  have pos : ∀ (x : Nat), x < 300 → (0 : Int32) < nI (x + 1) := fun x hx => (ltI (a := 0) (by decide) (by omega)).mpr (by omega)
  -- a step of the loop
  have lp : ∀ (υ ψ : SG) (V : Nat) (r : Int32), sI υ 1101 106 = nI (Q.length + 1) → x_X12_checkStep U 1101 υ = some (r, ψ) → x_X12_check_L75 U 1101 K (V + 1) 0 υ = x_X12_check_L75 U 1101 K V r ψ := by
    intro υ ψ V r h1 h2
    rw [x_X12_check_L75, h1, if_pos (pos _ (by omega)), if_pos (show (0 : Int32) = 0 from rfl), h2, b2_eq]
  have fin : ∀ (ψ : SG) (V n : Nat) (r : Int32), n < 300 → sI ψ 1101 106 = nI (n + 1) → r ≠ 0 → x_X12_check_L75 U 1101 K (V + 1) r ψ = K r ψ := by
    intro ψ V n r hn h1 h2
    rw [x_X12_check_L75, h1, if_pos (pos _ hn), if_neg h2]
  have hch := chF_len (a := m) hg.2.1
  -- the top's place
  have up84 : ∀ (υ : SG) (x : Nat), RS υ 0 T D → RS υ 1 E' E → sI υ 1101 106 = nI (Q.length + 1) → fP PCk σ υ → (∀ b k, (b = 1182 ∨ b = 1183) → sI υ b k = sI σ b k) → (∀ k, k < Q.length → sI υ 1184 k = sI σ 1184 k) → (∀ c, sI υ 1181 c = sI σ 1181 c) → RS (uI υ 1184 Q.length (nI x)) 0 T D ∧ RS (uI υ 1184 Q.length (nI x)) 1 E' E ∧ sI (uI υ 1184 Q.length (nI x)) 1101 106 = nI (Q.length + 1) ∧ fP PCk σ (uI υ 1184 Q.length (nI x)) ∧ (∀ b k, (b = 1182 ∨ b = 1183) → sI (uI υ 1184 Q.length (nI x)) b k = sI σ b k) ∧ (∀ k, k < Q.length → sI (uI υ 1184 Q.length (nI x)) 1184 k = sI σ 1184 k) ∧ (∀ c, sI (uI υ 1184 Q.length (nI x)) 1181 c = sI σ 1181 c) ∧ sI (uI υ 1184 Q.length (nI x)) 1184 Q.length = nI x := by
    intro υ x a1 a2 a3 a4 a5 a6 a7
    have F : fP PCk υ (uI υ 1184 Q.length (nI x)) := fP_u (by unfold PCk; omega)
    exact ⟨RS_PCk a1 F, RS_PCk a2 F, (sI_o (Or.inl (by decide))).trans a3, fP_trans a4 F, fun b k hb => (sI_o (Or.inl (by omega))).trans (a5 b k hb), fun k hk => (sI_o (Or.inr (by omega))).trans (a6 k hk), fun c => (sI_o (Or.inl (by decide))).trans (a7 c), sI_s _ _ _ _⟩
  have base := up84 σ (2 * k + (if b then 1 else 0) + 1) s1 s2 s3 (fP_refl _ σ) (fun _ _ _ => rfl) (fun _ _ => rfl) (fun _ => rfl)
  -- on to the next field
  have nextK : ∀ (υ : SG), RS υ 0 T D → RS υ 1 E' E → sI υ 1101 106 = nI (Q.length + 1) → (∀ b k, (b = 1182 ∨ b = 1183) → sI υ b k = sI σ b k) → (∀ k, k < Q.length → sI υ 1184 k = sI σ 1184 k) → (∀ c, sI υ 1181 c = sI σ 1181 c) → sI υ 1184 Q.length = nI (2 * k + 2) → KRr υ T E' D E ((m, u, k + 1, false) :: Q) met := by
    intro υ a1 a2 a3 a5 a6 a7 a8
    refine ⟨a1, a2, by rw [List.length_cons]; exact a3, ⟨(a5 1182 _ (by omega)).trans r1, (a5 1183 _ (by omega)).trans r2, ?_, RFs_keep Q r4 (fun b k hb hk => ?_)⟩, fun c hc => (a7 c).trans (s5 c hc)⟩
    · show sI υ 1184 Q.length = nI (2 * (k + 1) + (if false = true then 1 else 0))
      rw [a8, if_neg (by decide)]
      congr 1
    · rcases hb with z | z | z
      · rw [z]; exact a5 1182 k (by omega)
      · rw [z]; exact a5 1183 k (by omega)
      · rw [z]; exact a6 k hk
  -- the way where it stops
  have wayK : ∀ (υ : SG) (x : Nat), (x = 2 * k + 1 ∨ x = 2 * k + 2) → (∀ b k, (b = 1182 ∨ b = 1183) → sI υ b k = sI σ b k) → (∀ k, k < Q.length → sI υ 1184 k = sI σ 1184 k) → sI υ 1184 Q.length = nI x → RFw D υ ((m, u, k, b) :: Q) := by
    intro υ x hx a5 a6 a8
    refine ⟨(a5 1182 _ (by omega)).trans r1, ⟨x, hx, a8⟩, RFw_of Q r4 i2' (fun b k hb hk => ?_)⟩
    rcases hb with z | z
    · rw [z]; exact a5 1182 k (by omega)
    · rw [z]; exact a6 k hk
  have hk300 : k < 300 := by have : k ≤ (chF D m).length := hP.2; omega
  have cs := N_cstep (U := U) (k := k) (b := b) hU hg hh s1 s2 hM' hN' s3 hn r1' r2' r3' rfl hk300
  obtain ⟨c1, c2⟩ := cs
  obtain ⟨b1, b2, b3, b4, b5, b6, b7, b8⟩ := base
  rcases kSt_cases (k := k) (b := b) (Q := Q) (met := met) hg hh hM' hN' with ⟨hf, e⟩ | ⟨f, d, hf, hd, hrest⟩
  · rw [e]
    refine ⟨fun _ => ?_, fun z => absurd rfl z⟩
    have F : fP PCk σ (uI σ 1101 106 (nI Q.length)) := fP_u (by unfold PCk; omega)
    refine ⟨_, ⟨1, by decide, by decide, fun V => lp σ _ (V + 1) 0 s3 (c1 hf)⟩, ⟨RS_PCk s1 F, RS_PCk s2 F, sI_s _ _ _ _, RFs_keep Q r4 (fun b k hb _ => sI_o (Or.inl (by omega))), fun c hc => (sI_o (Or.inl (by decide))).trans (s5 c hc)⟩, F⟩
  · obtain ⟨d1, d2⟩ := c2 f d hf hd
    -- the second step, at an odd place
    have second : ∀ (υ : SG), RS υ 0 T D → RS υ 1 E' E → sI υ 1101 106 = nI (Q.length + 1) → (∀ b k, (b = 1182 ∨ b = 1183) → sI υ b k = sI σ b k) → sI υ 1184 Q.length = nI (2 * k + 1) → (fOf E u (nmn D f) = none → x_X12_checkStep U 1101 υ = some (0, uI υ 1184 Q.length (nI (2 * k + 2)))) ∧ ∀ g e, fOf E u (nmn D f) = some g → isF E u g e → x_X12_checkStep U 1101 υ = some (if trn D E m u f g then 3 else 0, uI υ 1184 Q.length (nI (2 * k + 2))) := by
      intro υ a1 a2 a3 a5 a8
      have cs2 := (N_cstep (U := U) (k := k) (b := true) hU hg hh a1 a2 hM' hN' a3 hn ((a5 1182 _ (by omega)).trans r1') ((a5 1183 _ (by omega)).trans r2') a8 (by rw [if_pos rfl]) hk300).2 f d hf hd
      exact ⟨fun hg0 => cs2.1 hg0, fun g e hgs he => (cs2.2 g e hgs he).1 rfl⟩
    rcases hrest with ⟨hgf, e⟩ | ⟨g, x, hgf, hx, hrest⟩
    · rw [e]
      refine ⟨fun _ => ?_, fun z => absurd rfl z⟩
      cases hb : b with
      | true =>
        exfalso
        obtain ⟨f', g', _, _, _, _, y1, y2, _⟩ := hP.1 hb
        have y1' : (chF D m)[k]? = some f' := y1
        rw [hf] at y1'
        cases y1'
        have y2' : fOf E u (nmn D f) = some g' := y2
        rw [hgf] at y2'
        cases y2'
      | false =>
        rw [hb] at d1 b1 b2 b3 b4 b5 b6 b7 b8
        rw [if_neg (show ¬ false = true by decide), Nat.add_zero] at d1 b1 b2 b3 b4 b5 b6 b7 b8
        have st1 := d1 hgf
        generalize uI σ 1184 Q.length (nI (2 * k + 1)) = υ at *
        have st2 := (second υ b1 b2 b3 b5 b8).1 hgf
        obtain ⟨w1, w2, w3, w4, w5, w6, w7, w8⟩ := up84 υ (2 * k + 2) b1 b2 b3 b4 b5 b6 b7
        exact ⟨_, ⟨2, by decide, by decide, fun V => (lp σ υ (V + 1) 0 s3 st1).trans (lp υ _ V 0 b3 st2)⟩, nextK _ w1 w2 w3 w5 w6 w7 w8, w4⟩
    · obtain ⟨p1, p2⟩ := d2 g x hgf hx
      -- at an odd place the oneofs are looked at
      have oddK : ∀ (υ : SG), RS υ 0 T D → RS υ 1 E' E → sI υ 1101 106 = nI (Q.length + 1) → fP PCk σ υ → (∀ b k, (b = 1182 ∨ b = 1183) → sI υ b k = sI σ b k) → (∀ k, k < Q.length → sI υ 1184 k = sI σ 1184 k) → (∀ c, sI υ 1181 c = sI σ 1181 c) → sI υ 1184 Q.length = nI (2 * k + 1) → (trn D E m u f g = false → ∃ τ, (∀ V, x_X12_check_L75 U 1101 K (V + 1) 0 υ = x_X12_check_L75 U 1101 K V 0 τ) ∧ KRr τ T E' D E ((m, u, k + 1, false) :: Q) met ∧ fP PCk σ τ) ∧ (trn D E m u f g = true → ∃ τ, (∀ V, x_X12_check_L75 U 1101 K (V + 2) 0 υ = K 3 τ) ∧ RS τ 0 T D ∧ sI τ 1101 106 = nI (Q.length + 1) ∧ RFw D τ ((m, u, k, b) :: Q) ∧ fP PCk σ τ) := by
        intro υ a1 a2 a3 a4 a5 a6 a7 a8
        have st2 := (second υ a1 a2 a3 a5 a8).2 g x hgf hx
        obtain ⟨w1, w2, w3, w4, w5, w6, w7, w8⟩ := up84 υ (2 * k + 2) a1 a2 a3 a4 a5 a6 a7
        refine ⟨fun ht => ?_, fun ht => ?_⟩
        · rw [ht, if_neg (show ¬ false = true by decide)] at st2
          exact ⟨_, fun V => lp υ _ V 0 a3 st2, nextK _ w1 w2 w3 w5 w6 w7 w8, w4⟩
        · rw [ht, if_pos (show true = true from rfl)] at st2
          exact ⟨_, fun V => (lp υ _ (V + 1) 3 a3 st2).trans (fin _ V Q.length 3 (by omega) w3 (by decide)), w1, w3, wayK _ _ (Or.inr rfl) w5 w6 w8, w4⟩
      cases hb : b with
      | true =>
        -- it was looked at before: only the oneofs are left
        obtain ⟨f', g', d', e', t', v', y1, y2, y3, y4, y5, y6, y7, y8, y9, y10⟩ := hP.1 hb
        have y1' : (chF D m)[k]? = some f' := y1
        rw [hf] at y1'
        cases y1'
        have y2' : fOf E u (nmn D f) = some g' := y2
        rw [hgf] at y2'
        cases y2'
        rw [hd.1] at y3
        cases y3
        rw [hx.1] at y4
        cases y4
        have est : kSt T E' D E ((m, u, k, b) :: Q) met = (if trn D E m u f g then (3, (m, u, k, b) :: Q, met) else (0, (m, u, k + 1, false) :: Q, met)) := by
          rcases hrest with ⟨q1, _⟩ | ⟨_, q2, _⟩ | ⟨q1, q2, ⟨t, v, t1, t2, t3, t4, t5, t6, t7, e⟩ | ⟨t1, e⟩⟩
          · exact absurd y5 q1
          · rw [y6, y7] at q2; exact absurd q2 (by decide)
          · exfalso
            rw [t3] at y8
            cases y8
            rw [t4] at y9
            cases y9
            exact t7 y10
          · exact e
        rw [hb] at est r3'
        rw [if_pos rfl] at r3'
        rw [est]
        have ok := oddK σ s1 s2 s3 (fP_refl _ σ) (fun _ _ _ => rfl) (fun _ _ => rfl) (fun _ => rfl) r3'
        rw [hb] at ok
        cases ht : trn D E m u f g with
        | true =>
          rw [if_pos (show true = true from rfl)]
          refine ⟨fun z => (by cases z), fun _ => ?_⟩
          obtain ⟨τ, t1, t2, t3, t4, t5⟩ := ok.2 ht
          exact ⟨τ, fun V => t1 (V + 1), t2, by show _ = nI ((m, u, k, true) :: Q).length; rw [List.length_cons]; exact t3, t4, t5⟩
        | false =>
          rw [if_neg (show ¬ false = true by decide)]
          refine ⟨fun _ => ?_, fun z => absurd rfl z⟩
          obtain ⟨τ, t1, t2, t3⟩ := ok.1 ht
          exact ⟨τ, ⟨1, by decide, by decide, fun V => t1 (V + 1)⟩, t2, t3⟩
      | false =>
        rw [hb] at p2 b1 b2 b3 b4 b5 b6 b7 b8 hrest oddK wayK
        rw [if_neg (show ¬ false = true by decide), Nat.add_zero] at p2 b1 b2 b3 b4 b5 b6 b7 b8
        obtain ⟨v1, v2, v3⟩ := p2 rfl
        generalize uI σ 1184 Q.length (nI (2 * k + 1)) = υ at *
        rcases hrest with ⟨q1, e⟩ | ⟨q1, q2, e⟩ | ⟨q1, q2, hrest⟩
        · rw [e]
          refine ⟨fun z => (by cases z), fun _ => ?_⟩
          exact ⟨υ, fun V => (lp σ υ (V + 2) 1 s3 (v1 q1)).trans (fin υ (V + 1) Q.length 1 (by omega) b3 (by decide)), b1, by show _ = nI ((m, u, k, false) :: Q).length; rw [List.length_cons]; exact b3, wayK υ _ (Or.inl rfl) b5 b6 b8, b4⟩
        · rw [e]
          refine ⟨fun z => (by cases z), fun _ => ?_⟩
          exact ⟨υ, fun V => (lp σ υ (V + 2) 2 s3 (v2 q1 q2)).trans (fin υ (V + 1) Q.length 2 (by omega) b3 (by decide)), b1, by show _ = nI ((m, u, k, false) :: Q).length; rw [List.length_cons]; exact b3, wayK υ _ (Or.inl rfl) b5 b6 b8, b4⟩
        · have v3' := v3 q1 q2
          obtain ⟨k1, _, _, k4, k5, _⟩ := b1.f hd.1 hd.2.1
          obtain ⟨g1, _, _, g4, g5, _⟩ := b2.f hx.1 hx.2.1
          have hft : fty T D d ≤ 14 := dTy_lt (hg.fld hd.1 hd.2.1).2.2.2.1
          have e13 : nI (fty T D d) = 13 ↔ fty T D d = 13 := nI_eq (b := 13) (by omega) (by decide)
          unfold x_X12_checkStep_180 at v3'
          rw [ix_in (i := fx D 0 f) (by omega) (by decide), k4, ifd e13] at v3'
          have rf : ∀ t v, ftg T D d = some t → ftg E' E x = some v → isM D t → isM E v → sI υ 1119 (fx D 0 f) = nI (ordM D t) ∧ sI υ 1119 (fx E 1 g) = nI (ordM E v) ∧ (16 : Int32) * nI (ordM D t) + nI (ordM E v) = nI (cod D E t v) := by
            intro t v ht hv hMt hMv
            obtain ⟨dt, hdt, ht0⟩ := hMt
            obtain ⟨dv, hdv, hv0⟩ := hMv
            refine ⟨?_, ?_, ?_⟩
            · rw [k5, ht]; show nI (cnt (D.take t) (knd D t)) = _; rw [knd_some hdt, ht0]; rfl
            · rw [g5, hv]; show nI (cnt (E.take v) (knd E v)) = _; rw [knd_some hdv, hv0]; rfl
            · have e : (16 : Int32) * nI (ordM D t) = nI (16 * ordM D t) := pk_mul 16 _
              rw [e, nI_add, Nat.mul_comm]; rfl
          rcases hrest with ⟨t, v, t1, t2, t3, t4, t5, t6, t7, e⟩ | ⟨t1, e⟩
          · rw [e]
            refine ⟨fun _ => ?_, fun z => absurd rfl z⟩
            obtain ⟨x1, x2, x3⟩ := rf t v t3 t4 t5 t6
            have hcl := cod_lt hg hh t5 t6
            have hlook : sI υ 1181 (cod D E t v) = 0 := by rw [b7, s5 _ hcl, decide_eq_false t7]; rfl
            have hs255 : Q.length + 1 < 256 := by
              have hn2 : (cod D E t v :: met).Nodup := List.nodup_cons.mpr ⟨t7, i4⟩
              have := nd_len 256 _ hn2 0 (fun a ha => ⟨Nat.zero_le _, (List.mem_cons.mp ha).elim (fun z => by rw [z]; exact hcl) (i5 a)⟩)
              rw [List.length_cons] at this
              omega
            obtain ⟨ψ, o1, o2, o3, o4, o5, o6, o7, o8, o9⟩ := N_open hg hh t5 t6 b3 hs255
            rw [if_pos t1, ix_in (i := fx D 0 f) (by omega) (by decide), ix_in (i := fx E 1 g) (by omega) (by decide), x1, x2, x3, ix_in hcl (by decide), hlook, if_pos (show (0 : Int32) = 0 from rfl), ix_in (i := fx D 0 f) (by omega) (by decide), ix_in (i := fx E 1 g) (by omega) (by decide), x1, x2, o1, b1_eq] at v3'
            refine ⟨ψ, ⟨1, by decide, by decide, fun V => lp σ ψ (V + 1) 0 s3 v3'⟩, ⟨RS_PCk b1 o2, RS_PCk b2 o2, by show _ = nI ((t, v, 0, false) :: (m, u, k, true) :: Q).length; rw [List.length_cons, List.length_cons]; exact o3, ⟨by rw [List.length_cons]; exact o4, by rw [List.length_cons]; exact o5, by rw [List.length_cons]; exact o6, ?_, ?_, ?_, ?_⟩, fun c hc => ?_⟩, fP_trans b4 o2⟩
            · exact (o7 1182 Q.length (by omega) (by omega)).trans ((b5 1182 _ (by omega)).trans r1)
            · exact (o7 1183 Q.length (by omega) (by omega)).trans ((b5 1183 _ (by omega)).trans r2)
            · show sI ψ 1184 Q.length = nI (2 * k + (if true = true then 1 else 0))
              rw [if_pos rfl]
              exact (o7 1184 Q.length (by omega) (by omega)).trans b8
            · refine RFs_keep Q r4 (fun b k hb hk => (o7 b k hb (by omega)).trans ?_)
              rcases hb with z | z | z
              · rw [z]; exact b5 1182 k (by omega)
              · rw [z]; exact b5 1183 k (by omega)
              · rw [z]; exact b6 k hk
            · by_cases q : c = cod D E t v
              · rw [q, o8, decide_eq_true (List.mem_cons_self ..)]
              · rw [o9 c q, b7, s5 c hc]
                congr 1
                exact decide_eq_decide.mpr ⟨fun z => List.mem_cons_of_mem _ z, fun z => (List.mem_cons.mp z).elim (fun y => absurd y q) id⟩
          · have st1 : x_X12_checkStep U 1101 σ = some (0, υ) := by
              by_cases q13 : fty T D d = 13
              · obtain ⟨t, v, x2', x3', x4', x5', x6', x7'⟩ := t1 q13
                obtain ⟨x1, x2, x3⟩ := rf t v x3' x4' x5' x6'
                have hcl := cod_lt hg hh x5' x6'
                have hlook : sI υ 1181 (cod D E t v) = 1 := by rw [b7, s5 _ hcl, decide_eq_true x7']; rfl
                rw [if_pos q13, ix_in (i := fx D 0 f) (by omega) (by decide), ix_in (i := fx E 1 g) (by omega) (by decide), x1, x2, x3, ix_in hcl (by decide), hlook, if_neg (show ¬ (1 : Int32) = 0 by decide)] at v3'
                exact v3'
              · rw [if_neg q13] at v3'
                exact v3'
            rw [e]
            have ok := oddK υ b1 b2 b3 b4 b5 b6 b7 b8
            cases ht : trn D E m u f g with
            | true =>
              rw [if_pos (show true = true from rfl)]
              refine ⟨fun z => (by cases z), fun _ => ?_⟩
              obtain ⟨τ, z1, z2, z3, z4, z5⟩ := ok.2 ht
              exact ⟨τ, fun V => (lp σ υ (V + 2) 0 s3 st1).trans (z1 V), z2, by show _ = nI ((m, u, k, false) :: Q).length; rw [List.length_cons]; exact z3, z4, z5⟩
            | false =>
              rw [if_neg (show ¬ false = true by decide)]
              refine ⟨fun _ => ?_, fun z => absurd rfl z⟩
              obtain ⟨τ, z1, z2, z3⟩ := ok.1 ht
              exact ⟨τ, ⟨2, by decide, by decide, fun V => (lp σ υ (V + 1) 0 s3 st1).trans (z1 V)⟩, z2, z3⟩
