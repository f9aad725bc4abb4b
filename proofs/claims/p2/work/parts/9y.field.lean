/-! ===== field and place ===== -/
def flV (T : List Nat) (D : List Dc) (d : Dc) (w : Int32) : Int32 := if w = 0 then nI (dN d).2 else if w = 1 then nI (fty T D d) else if w = 2 then refI D (ftg T D d) else if w = 3 then (if dPa (lkC T D) T (wl T 701 0) D d then 2 else if dR d then 1 else 0) else if w = 4 then oq D 4 (dO d) else nI (dE d - dA d)
def flS (T : List Nat) (D : List Dc) (x y w : Int32) : mm_R := match (msg D x).bind (fun m => mAt (chF D m) y) with
  | none => .inr IAE
  | some f => match D[f]? with
    | none => .inr IAE
    | some d => if w < 0 ∨ 5 < w then .inr IAE else .inl (some (.int (flV T D d w)))
theorem mAt_isF {T : List Nat} {D : List Dc} {m f : Nat} {y : Int32} (hg : GSc T D) (hm : isM D m) (h : mAt (chF D m) y = some f) : ∃ d, isF D m f d := by
  unfold mAt at h
  split at h
  · cases h
  · exact (chF_mem hg hm).mp (List.mem_of_getElem? h)
theorem C_field {U s : Nat} {σ : SG} {T : List Nat} {D : List Dc} {x y w : Int32} (hU4 : 4000 < U) (hs : s < 2) (hg : GSc T D) (hC : CS σ (cA s) T D) : x_X11_field U 0 (nI s) x y w σ = some (flS T D x y w, σ) := by
  have hcb := cA_cb (s := s)
  have hl := hg.2.1
  unfold x_X11_field x_X11_messageOf
  rw [cOf hs, b1_eq, if_neg (show ¬ some (cA s) = none by intro z; cases z), ck_eq (cb_sh hcb).2.2.2.2, show x_X2_schema (cA s) σ = some (some (cA s + 1)) from rfl, b1_eq, ck_eq (cb_sh hcb).2.2.1, C_message hU4 hcb hC hg.1, b1_eq, b1_eq]
  have key : ∀ o, (∀ f, o = some f → ∃ m d, isM D m ∧ isF D m f d) → x_X11_field_23 U 0 w (ad (cA s) o) σ = some ((match o with | none => .inr IAE | some f => match D[f]? with | none => .inr IAE | some d => if w < 0 ∨ 5 < w then .inr IAE else .inl (some (.int (flV T D d w)))), σ) := by
    intro o ho
    unfold x_X11_field_23 x_X11_field_41
    cases o with
    | none => rw [if_pos (show ad (cA s) none = none from rfl)]; rfl
    | some f =>
      obtain ⟨m, d, hM, hd⟩ := ho f rfl
      have hfl := (List.getElem?_eq_some_iff.mp hd.1).1
      rw [if_neg (show ¬ ad (cA s) (some f) = none by intro z; cases z)]
      simp only
      rw [hd.1]
      simp only
      by_cases q0 : w < 0
      · rw [if_pos q0, if_pos (Or.inl q0)]; rfl
      rw [if_neg q0]
      by_cases q5 : 5 < w
      · rw [if_pos q5, if_pos (Or.inr q5)]; rfl
      rw [if_neg q5, if_neg (show ¬ (w < 0 ∨ 5 < w) from fun z => z.elim q0 q5), ad_some, ck_eq (it_sh hcb (by omega)), ck_eq (it_sh hcb (by omega)), ck_eq (it_sh hcb (by omega)), ck_eq (it_sh hcb (by omega)), ck_eq (it_sh hcb (by omega)), ck_eq (it_sh hcb (by omega))]
      obtain ⟨i1, i2, i3, i4⟩ := hC.it hd.1
      unfold flV
      by_cases w0 : w = 0
      · rw [if_pos w0, if_pos w0, i1.2.2.2.2.2.2.1]
        have e := (hg.nu hd.1 hd.2.1).1
        rw [nLi_some hd.1, nmn_some hd.1] at e
        rw [e, lN_i]
      rw [if_neg w0, if_neg w0]
      by_cases w1 : w = 1
      · rw [if_pos w1, if_pos w1, i2]; rfl
      rw [if_neg w1, if_neg w1]
      by_cases w2 : w = 2
      · rw [if_pos w2, if_pos w2, i3]
        show (if ad (cA s) (ftg T D d) = none then _ else ck 3 (ad (cA s) (ftg T D d)) _) = _
        have hft : fty T D d ≤ 14 := dTy_lt (hg.fld hd.1 hd.2.1).2.2.2.1
        have hk : ∀ t, ftg T D d = some t → ∃ e, D[t]? = some e := by
          intro t ht
          obtain ⟨k1, k2, k3⟩ := ftg_msg hg hd.1 hd.2.1
          by_cases z : fty T D d < 13
          · rw [k3 z] at ht; cases ht
          · by_cases z2 : fty T D d = 13
            · obtain ⟨t', e1, e, e2, _⟩ := k1 z2
              rw [ht] at e1; cases e1; exact ⟨e, e2⟩
            · obtain ⟨t', e, e1, e2, _⟩ := k2 (by omega)
              rw [ht] at e1; cases e1; exact ⟨e, e2⟩
        cases ht : ftg T D d with
        | none => rw [if_pos (show ad (cA s) none = none from rfl)]; rfl
        | some t =>
          obtain ⟨e, he⟩ := hk t ht
          have htl := (List.getElem?_eq_some_iff.mp he).1
          rw [if_neg (show ¬ ad (cA s) (some t) = none by intro z; cases z), ad_some, ck_eq (it_sh hcb (by omega)), (hC.it he).1.2.1]
          unfold refI
          simp only
          rw [knd_some he]
      rw [if_neg w2, if_neg w2]
      by_cases w3 : w = 3
      · rw [if_pos w3, if_pos w3, i4, ifz, i1.2.2.2.2.2.2.2.2.1, ifz]
        cases dPa (lkC T D) T (wl T 701 0) D d with
        | true => rw [if_pos (show true = true from rfl), if_pos (show true = true from rfl)]
        | false =>
          rw [if_neg (show ¬ false = true by decide), if_neg (show ¬ false = true by decide)]
          cases dR d with
          | true => rw [if_pos (show true = true from rfl), if_pos (show true = true from rfl)]
          | false => rw [if_neg (show ¬ false = true by decide), if_neg (show ¬ false = true by decide)]
      rw [if_neg w3, if_neg w3]
      by_cases w4 : w = 4
      · rw [if_pos w4, if_pos w4, i1.2.2.2.1]
        cases ho' : dO d with
        | none => rw [if_pos (show ad (cA s) none = none from rfl)]; rfl
        | some t =>
          obtain ⟨e, he, he4⟩ := hg.1.one hd.1 hd.2.1 t ho'
          have htl := (List.getElem?_eq_some_iff.mp he).1
          rw [if_neg (show ¬ ad (cA s) (some t) = none by intro z; cases z), ad_some, ck_eq (it_sh hcb (by omega)), (hC.it he).1.2.1, he4]
          rfl
      rw [if_neg w4, if_neg w4, i1.2.2.2.2.1, i1.2.2.2.2.2.1, nI_sub (by have := (hg.2.2.1 f d hd.1).1; unfold GN at this; omega)]
  unfold flS
  cases hm : msg D x with
  | none =>
    rw [if_pos (show ad (cA s) none = none from rfl)]
    exact key none (fun f z => by cases z)
  | some m =>
    obtain ⟨hM, _⟩ := msg_some hm
    have hM2 := hM
    obtain ⟨dm, hdm, _⟩ := hM2
    have hml := (List.getElem?_eq_some_iff.mp hdm).1
    rw [if_neg (show ¬ ad (cA s) (some m) = none by intro z; cases z), ad_some, ck_eq (it_sh hcb (by omega)), C_memberAt hU4 hcb hC hml, b1_eq]
    exact key (mAt (chF D m) y) (fun f hf => by obtain ⟨d, hd⟩ := mAt_isF hg hM hf; exact ⟨m, d, hM, hd⟩)
theorem N_field {U s : Nat} {σ : SG} {T : List Nat} {D : List Dc} {x y w : Int32} (hU4 : 4000 < U) (hs : s < 2) (hg : GSc T D) (hS : RS σ s T D) : ∃ v, x_X12_field U 1101 (nI s) x y w σ = some (v, uI σ 1101 5 (fdC (flS T D x y w))) ∧ ∀ u, flS T D x y w = .inl (some (.int u)) → v = u := by
  have hl := hg.2.1
  unfold x_X12_field
  rw [N_isMessage hs hl hS, b1_eq, ifz]
  have key : ∀ o, (∀ f, o = some f → ∃ m d, isM D m ∧ isF D m f d) → ∃ v, x_X12_field_20 U 1101 w (fIx D s o) σ = some (v, uI σ 1101 5 (fdC ((match o with | none => .inr IAE | some f => match D[f]? with | none => .inr IAE | some d => if w < 0 ∨ 5 < w then .inr IAE else .inl (some (.int (flV T D d w))) : mm_R)))) ∧ ∀ u, ((match o with | none => .inr IAE | some f => match D[f]? with | none => .inr IAE | some d => if w < 0 ∨ 5 < w then .inr IAE else .inl (some (.int (flV T D d w))) : mm_R)) = .inl (some (.int u)) → v = u := by
    intro o ho
    unfold x_X12_field_20 x_X12_field_40
    have bad : ∀ i, x_X12_field_45 U 1101 w i 1 σ = some (0, uI σ 1101 5 1) := fun i => by
      unfold x_X12_field_45
      rw [sb_eq, sI_s, if_neg (show ¬ (1 : Int32) = 0 by decide)]
    cases o with
    | none =>
      rw [if_pos (show fIx D s none = -1 from rfl), bad]
      exact ⟨0, rfl, fun u z => by cases z⟩
    | some f =>
      obtain ⟨m, d, hM, hd⟩ := ho f rfl
      obtain ⟨f1, f2, f3, f4, f5, f6, f7, f8⟩ := hS.f hd.1 hd.2.1
      have hne : ¬ nI (fx D s f) = -1 := fun z => nI_neg (by omega : fx D s f < 2 ^ 31) (by rw [z]; decide)
      rw [show fIx D s (some f) = nI (fx D s f) from rfl, if_neg hne, bad]
      simp only
      rw [hd.1]
      simp only
      by_cases q0 : w < 0
      · rw [if_pos q0, if_pos (Or.inl q0)]
        exact ⟨0, rfl, fun u z => by cases z⟩
      rw [if_neg q0]
      by_cases q5 : 5 < w
      · rw [if_pos q5, if_pos (Or.inr q5)]
        exact ⟨0, rfl, fun u z => by cases z⟩
      rw [if_neg q5, if_neg (show ¬ (w < 0 ∨ 5 < w) from fun z => z.elim q0 q5)]
      refine ⟨flV T D d w, ?_, fun u z => by cases z; rfl⟩
      show _ = some (flV T D d w, uI σ 1101 5 0)
      have ci : ∀ b k, b ≠ 1101 → sI (uI σ 1101 5 0) b k = sI σ b k := fun b k hb => sI_o (Or.inl hb)
      have e16 : sI σ 1116 (fx D s f) = nI (dE d - dA d) := by
        obtain ⟨_, _, h3, _⟩ := hS.2.2 f d hd.1
        obtain ⟨_, hN, _⟩ := h3 hd.2.1
        obtain ⟨q, _, h2, _⟩ := hN
        have gn := (hg.2.2.1 f d hd.1).1
        rw [slc_len (by have := gn.1; omega) gn.2.1] at h2
        exact h2
      unfold x_X12_field_45 flV
      rw [sb_eq, sI_s, if_pos (show (0 : Int32) = 0 from rfl), ix_in (by omega) (by decide), ix_in (by omega) (by decide), ix_in (by omega) (by decide), ix_in (by omega) (by decide), ix_in (by omega) (by decide), ix_in (by omega) (by decide), ix_in (by omega) (by decide), ci _ _ (by decide), ci _ _ (by decide), ci _ _ (by decide), ci _ _ (by decide), ci _ _ (by decide), ci _ _ (by decide), ci _ _ (by decide), f3, f4, f5, f6, f7, f8, e16, ifz, ifz]
      by_cases w0 : w = 0
      · rw [if_pos w0, if_pos w0]
      rw [if_neg w0, if_neg w0]
      by_cases w1 : w = 1
      · rw [if_pos w1, if_pos w1]
      rw [if_neg w1, if_neg w1]
      by_cases w2 : w = 2
      · rw [if_pos w2, if_pos w2]
      rw [if_neg w2, if_neg w2]
      by_cases w3 : w = 3
      · rw [if_pos w3, if_pos w3]
        cases dPa (lkC T D) T (wl T 701 0) D d with
        | true => rw [if_pos (show true = true from rfl), if_pos (show true = true from rfl)]
        | false =>
          rw [if_neg (show ¬ false = true by decide), if_neg (show ¬ false = true by decide)]
          cases dR d with
          | true => rw [if_pos (show true = true from rfl), if_pos (show true = true from rfl)]
          | false => rw [if_neg (show ¬ false = true by decide), if_neg (show ¬ false = true by decide)]
      rw [if_neg w3, if_neg w3]
      by_cases w4 : w = 4
      · rw [if_pos w4, if_pos w4]
      rw [if_neg w4, if_neg w4]
  unfold flS
  cases hm : msg D x with
  | none =>
    rw [Option.isSome_none, if_neg (show ¬ false = true by decide)]
    exact key none (fun f z => by cases z)
  | some m =>
    obtain ⟨hM, hx⟩ := msg_some hm
    rw [Option.isSome_some, if_pos (show true = true from rfl), hx, N_fieldAt hU4 hs hg hS hM, b1_eq]
    exact key (mAt (chF D m) y) (fun f hf => by obtain ⟨d, hd⟩ := mAt_isF hg hM hf; exact ⟨m, d, hM, hd⟩)
