/-! ===== one step of the reference's encoding ===== -/
/-- the reference while it encodes -/
def ES (σ : SG) (s : Nat) (T : List Nat) (D : List Dc) (A : AV) (H : Rh) (z : Nat → Nat) (w : List Nat × Int32) : Prop := RS σ s T D ∧ VS σ s T D A H ∧ (∀ n, al T D A n = true → sI σ 1163 n = nI (eMf T D A z n).length) ∧ ROr σ w
/-- what encoding touches -/
def PEs (b k : Nat) : Prop := (b = 1101 ∧ (k = 3 ∨ k = 4 ∨ k = 106)) ∨ b = 1103 ∨ b = 1176 ∨ b = 1178 ∨ b = 1179
theorem ES_fw {σ τ : SG} {s : Nat} {T : List Nat} {D : List Dc} {A : AV} {H : Rh} {z : Nat → Nat} {w w' : List Nat × Int32} (h : ES σ s T D A H z w) (hf : fw σ τ) (hw : ROr τ w') : ES τ s T D A H z w' := ⟨RS_fw h.1 hf, VS_fw h.2.1 hf, fun n hn => ((fw_I hf (by decide) (by omega)).1).trans (h.2.2.1 n hn), hw⟩
/-- the top of the stack: a node, a field's place, a row -/
def TP (σ : SG) (dp n k i : Nat) : Prop := sI σ 1101 106 = nI (dp + 1) ∧ sI σ 1176 dp = nI n ∧ sI σ 1179 dp = nI k ∧ sI σ 1178 dp = nI i
theorem TP_fw {σ τ : SG} {dp n k i : Nat} (h : TP σ dp n k i) (hf : fw σ τ) : TP τ dp n k i := ⟨((fw_I hf (by decide) (by omega)).1).trans h.1, ((fw_I hf (by decide) (by omega)).1).trans h.2.1, ((fw_I hf (by decide) (by omega)).1).trans h.2.2.1, ((fw_I hf (by decide) (by omega)).1).trans h.2.2.2⟩
theorem N_estep {U s dp n k i : Nat} {σ : SG} {T : List Nat} {D : List Dc} {A : AV} {H : Rh} {z : Nat → Nat} {w : List Nat × Int32} (hU4 : 4000 < U) (hs : s < 2) (hg : GSc T D) (hE : ES σ s T D A H z w) (hM : isM D (aN A n)) (hn : n < aC A) (hdp : dp < 20) (hk : k < 2 ^ 31) (hi : i ≤ (zR H).length) (ht : TP σ dp n k i) :
    ((chF D (aN A n))[k]? = none → x_X12_encodeStep U 1101 σ = (b1 (x_X12_putUnknown U 1101 (nI n) σ) fun σ17 => sb (uI σ17 1101 106 ((sI σ17 1101 106) - 1)) fun σ18 => some σ18)) ∧
    ∀ f d, (chF D (aN A n))[k]? = some f → isF D (aN A n) f d → (dPa (lkC T D) T (wl T 701 0) D d = false → x_X12_encodeStep U 1101 σ = x_X12_encodeStep_98 U 1101 (nI dp) (nI (fx D s f)) (rwI (ff (pRw n f) ((zR H).drop i) i)) σ) ∧ (dPa (lkC T D) T (wl T 701 0) D d = true → x_X12_encodeStep U 1101 σ = (b1 (x_X12_putPacked U 1101 (nI n) (nI (fx D s f)) σ) fun σ125 => x_X12_encodeStep_98 U 1101 (nI dp) (nI (fx D s f)) (-1) σ125)) := by
  obtain ⟨hS, hV, h63, hw⟩ := hE
  obtain ⟨t1, t2, t3, t4⟩ := ht
  have hc := hV.2.2.2.2.1
  have hR7 := hV.2.1.2.1
  have hRn : ∀ r ∈ zR H, rN r < 400 := fun r hr => by have := (hV.2.2.2.2.2.1 r hr).1; omega
  have e1 : nI (dp + 1) - 1 = nI dp := nI_sub (b := 1) (by omega)
  have hmA : mAt (chF D (aN A n)) (nI k) = (chF D (aN A n))[k]? := by unfold mAt; rw [if_neg (nI_neg hk), clampN hk]
  unfold x_X12_encodeStep
  rw [t1, e1, ix_in (by omega) (by decide), t2, ix_in (by omega) (by decide), ix_in (by omega) (by decide), hV.1, (hc.2.2.2 n hn).2.1, t3, N_fieldAt hU4 hs hg hS hM, b1_eq, hmA]
  refine ⟨fun h0 => ?_, fun f d hf hd => ?_⟩
  · rw [h0, if_pos (show fIx D s none = -1 from rfl)]
  · obtain ⟨f1, _, f3, f4, f5, f6, f7, _⟩ := hS.f hd.1 hd.2.1
    have hne : ¬ nI (fx D s f) = -1 := fun z => nI_neg (by omega : fx D s f < 2 ^ 31) (by rw [z]; decide)
    rw [hf, show fIx D s (some f) = nI (fx D s f) from rfl, if_neg hne, ix_in (by omega) (by decide), f7, ifz]
    unfold x_X12_encodeStep_81 x_X12_nextRow
    refine ⟨fun hp => ?_, fun hp => ?_⟩
    · rw [hp] at f7 ⊢
      rw [if_neg (show ¬ false = true by decide), ix_in (show dp < 40 by omega) (by decide), t4, N_nextRow hU4 hs hg hV.2.1 (by omega) hRn hd.1 hd.2.1 ((zR H).length - i) i U (by omega) (by omega), b1_eq, ix_in (by omega) (by decide), f7, if_pos (show zI false = 0 from rfl)]
    · rw [hp] at f7 ⊢
      rw [if_pos (show true = true from rfl), ix_in (by omega) (by decide), f7, if_neg (show ¬ zI true = 0 by decide)]
