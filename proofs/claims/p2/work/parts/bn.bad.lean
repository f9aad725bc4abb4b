/-! ===== a schema that there is not ===== -/
def noS (p : Int32) : Prop := ¬ p = 0 ∧ ¬ p = 1
theorem isSchema_no {p : Int32} (h : noS p) : x_X12_isSchema p = some 0 := by
  unfold x_X12_isSchema
  rw [if_neg h.1, if_neg h.2]
theorem C_compile_no {U : Nat} {p : Int32} {σ : SG} (h : noS p) : x_X11_compile U 0 p σ = some (.inr IAE, σ) := by
  unfold x_X11_compile
  rw [cOf_no h.1 h.2, b1_eq, if_pos rfl]; rfl
theorem N_compile_no {U : Nat} {p : Int32} {σ : SG} (h : noS p) : x_X12_compile U 1101 p σ = some (0, uI σ 1101 5 1) := by
  unfold x_X12_compile x_X12_compile_13
  rw [isSchema_no h, b1_eq, if_pos rfl, sb_eq, sI_s, if_neg (show ¬ (1 : Int32) = 0 by decide)]
theorem C_many_no {p w : Int32} {σ : SG} (h : noS p) : x_X11_many 0 p w σ = some (.inr IAE, σ) := by
  unfold x_X11_many x_X11_many_19
  rw [cOf_no h.1 h.2, b1_eq, if_pos rfl]; rfl
theorem N_many_no {p w : Int32} {σ : SG} (h : noS p) : x_X12_many 1101 p w σ = some (0, uI σ 1101 5 1) := by
  unfold x_X12_many x_X12_many_21 x_X12_many_22
  rw [isSchema_no h, b1_eq, if_pos rfl, sb_eq, sI_s, if_neg (show ¬ (1 : Int32) = 0 by decide)]
theorem C_field_no {U : Nat} {p x y w : Int32} {σ : SG} (h : noS p) : x_X11_field U 0 p x y w σ = some (.inr IAE, σ) := by
  unfold x_X11_field x_X11_messageOf x_X11_field_23 x_X11_field_41
  rw [cOf_no h.1 h.2, b1_eq, if_pos rfl, b1_eq, if_pos rfl, if_pos rfl]; rfl
theorem N_field_no {U : Nat} {p x y w : Int32} {σ : SG} (h : noS p) : x_X12_field U 1101 p x y w σ = some (0, uI σ 1101 5 1) := by
  unfold x_X12_field x_X12_isMessage x_X12_field_20 x_X12_field_40 x_X12_field_45
  rw [isSchema_no h, b1_eq, if_pos rfl, b1_eq, if_pos rfl, if_pos rfl, sb_eq, sI_s, if_neg (show ¬ (1 : Int32) = 0 by decide)]
theorem C_find_no {U : Nat} {p : Int32} {σ : SG} (h : noS p) : ∃ τ, x_X11_find U 0 p σ = some (.inr IAE, τ) ∧ RB τ 1 [] 0 ∧ ∀ b, b ≠ 1 → sm σ τ b := by
  obtain ⟨τ, t1, t2, t3⟩ := X0_clear (σ := σ) (a := 1)
  unfold x_X11_find x_X11_find_25
  rw [cOf_no h.1 h.2, b1_eq, if_pos rfl, t1, b1_eq, if_pos rfl]
  exact ⟨τ, rfl, t2, t3⟩
theorem N_find_no {U : Nat} {p : Int32} {σ : SG} (h : noS p) : ∃ τ, x_X12_find U 1101 p σ = some (0, τ) ∧ fP Pfi σ τ ∧ sI τ 1101 1 = 0 ∧ sI τ 1101 5 = 1 := by
  unfold x_X12_find x_X12_find_26
  rw [sb_eq, sb_eq, isSchema_no h, b1_eq, if_pos rfl, sb_eq, sI_s, if_neg (show ¬ (1 : Int32) = 0 by decide)]
  refine ⟨_, rfl, ?_, ?_, sI_s _ _ _ _⟩
  · refine fP_trans (fP_trans (fP_u ?_) (fP_u ?_)) (fP_u ?_)
    · exact ⟨rfl, by decide⟩
    · exact ⟨rfl, by decide⟩
    · exact ⟨rfl, by decide⟩
  · rw [sI_o (Or.inr (by decide)), sI_s]
theorem opens_no {U : Nat} {p x y : Int32} {σ : SG} (h : noS p) : x_X11_opens U 0 p x y σ = some (0, σ) := by
  unfold x_X11_opens x_X11_messageOf
  rw [cOf_no h.1 h.2, b1_eq, b1_eq, if_pos rfl, b1_eq, if_pos rfl]
theorem C_decode_no {U : Nat} {p x y : Int32} {σ : SG} (hU4 : 4000 < U) (h : noS p) (h92 : sI σ 1092 2 = 0) : ∃ τ, x_X11_decode U 0 p x y σ = some (.inr IAE, τ) ∧ fCd σ τ ∧ RB τ 1 [] 0 ∧ VCn τ := by
  obtain ⟨τ, t1, t2, t3, t4, _⟩ := C_settle (U := U) (c := 5) (m := 0) (σ := σ) (o := none) hU4 (Or.inl rfl) GSc_nil (fun _ => h92) (fun A hA => by cases hA)
  unfold x_X11_decode x_X11_decode_26 x_X11_decode_27
  rw [opens_no h, b2_eq, if_pos rfl]
  exact ⟨τ, t1, t2, t3, t4 rfl⟩
theorem C_parse_no {U : Nat} {p x y : Int32} {σ : SG} (hU4 : 4000 < U) (h : noS p) (h92 : sI σ 1092 2 = 0) : ∃ τ, x_X11_parse U 0 p x y σ = some (.inr IAE, τ) ∧ fCd σ τ ∧ RB τ 1 [] 0 ∧ VCn τ := by
  obtain ⟨τ, t1, t2, t3, t4, _⟩ := C_settle (U := U) (c := 5) (m := 0) (σ := σ) (o := none) hU4 (Or.inl rfl) GSc_nil (fun _ => h92) (fun A hA => by cases hA)
  unfold x_X11_parse x_X11_parse_26 x_X11_parse_27
  rw [opens_no h, b2_eq, if_pos rfl]
  exact ⟨τ, t1, t2, t3, t4 rfl⟩
theorem begins_no {p x y : Int32} {σ : SG} (h : noS p) : x_X12_begins 1101 p x y σ = some (0, uI (uI (uI (uI σ 1101 73 (sI σ 1101 1)) 1101 1 0) 1101 79 0) 1101 5 1) := by
  unfold x_X12_begins x_X12_begins_43 x_X12_begins_44 x_X12_isMessage
  rw [sb_eq, sb_eq, sb_eq, isSchema_no h, b1_eq, if_pos rfl, b1_eq, if_pos rfl, sb_eq, sI_s, if_neg (show ¬ (1 : Int32) = 0 by decide)]
def Pbn (b i : Nat) : Prop := b = 1101 ∧ (i = 1 ∨ i = 5 ∨ i = 73 ∨ i = 79)
theorem begins_f {σ : SG} {v : Int32} : fP Pbn σ (uI (uI (uI (uI σ 1101 73 v) 1101 1 0) 1101 79 0) 1101 5 1) ∧ sI (uI (uI (uI (uI σ 1101 73 v) 1101 1 0) 1101 79 0) 1101 5 1) 1101 1 = 0 ∧ sI (uI (uI (uI (uI σ 1101 73 v) 1101 1 0) 1101 79 0) 1101 5 1) 1101 79 = 0 ∧ sI (uI (uI (uI (uI σ 1101 73 v) 1101 1 0) 1101 79 0) 1101 5 1) 1101 5 = 1 := by
  refine ⟨?_, ?_, ?_, sI_s _ _ _ _⟩
  · refine fP_trans (fP_trans (fP_trans (fP_u ?_) (fP_u ?_)) (fP_u ?_)) (fP_u ?_)
    all_goals exact ⟨rfl, by decide⟩
  · rw [sI_o (Or.inr (by decide)), sI_o (Or.inr (by decide)), sI_s]
  · rw [sI_o (Or.inr (by decide)), sI_s]
theorem N_decode_no {U : Nat} {p x y : Int32} {σ : SG} (h : noS p) : ∃ τ, x_X12_decode U 1101 p x y σ = some (0, τ) ∧ fP Pbn σ τ ∧ sI τ 1101 1 = 0 ∧ sI τ 1101 79 = 0 ∧ sI τ 1101 5 = 1 := by
  unfold x_X12_decode
  rw [begins_no h, b2_eq, if_pos rfl]
  exact ⟨_, rfl, begins_f⟩
theorem N_parse_no {U : Nat} {p x y : Int32} {σ : SG} (h : noS p) : ∃ τ, x_X12_parse U 1101 p x y σ = some (0, τ) ∧ fP Pbn σ τ ∧ sI τ 1101 1 = 0 ∧ sI τ 1101 79 = 0 ∧ sI τ 1101 5 = 1 := by
  unfold x_X12_parse
  rw [begins_no h, b2_eq, if_pos rfl]
  exact ⟨_, rfl, begins_f⟩
