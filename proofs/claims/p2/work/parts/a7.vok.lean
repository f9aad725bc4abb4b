/-! ===== the numbers of a decoded value ===== -/
theorem i64_32 (y : Int32) : Int64.toInt32 (Int32.toInt64 y) = y := by
  apply Int32.toBitVec_inj.mp
  rw [Int64.toBitVec_toInt32, Int32.toBitVec_toInt64]
  apply BitVec.eq_of_getLsbD_eq
  intro i hi
  rw [BitVec.getLsbD_signExtend, BitVec.getLsbD_signExtend, decide_eq_true hi, if_pos (show i < 64 by omega), decide_eq_true (show i < 64 by omega), if_pos hi]
  rfl
theorem mng_4 (t : Nat) (x : Int64) : okV4 t (mng t x) := by
  intro ht
  subst ht
  show _ = Int32.toInt64 (Int64.toInt32 _)
  have : ∃ y, mng 4 x = Int32.toInt64 y := ⟨_, rfl⟩
  obtain ⟨y, hy⟩ := this
  rw [hy, i64_32]
/-- numbers of one type are small -/
def VO (T : List Nat) (D : List Dc) (A : AV) : Prop := ∀ n f d it, D[f]? = some d → it ∈ aE A n f → okV4 (fty T D d) it.1
theorem VO_a0 {T : List Nat} {D : List Dc} {m : Nat} : VO T D (a0 m) := fun n f d it _ h => by cases h
theorem ok4_0 {t : Nat} : okV4 t 0 := fun _ => by decide
theorem VO_put {T : List Nat} {D : List Dc} {A : AV} {n f : Nat} {d : Dc} {v : Int64} {t : List Nat} (hd : D[f]? = some d) (h : VO T D A) (hv : okV4 (fty T D d) v) : VO T D (aPut T D A n f d v t) := by
  intro n' f' d' it hd' hit
  have hit' : it ∈ up (aE A) n (fun g => if g = f then (if dR d then aE A n f ++ [(v, t, 0)] else if noth T D d v t then [] else [(v, t, 0)]) else if rivB D f d g then [] else aE A n g) n' f' := hit
  by_cases q : n' = n
  · subst q
    rw [up_s] at hit'
    by_cases q2 : f' = f
    · subst q2
      rw [hd] at hd'
      cases hd'
      rw [if_pos rfl] at hit'
      split at hit'
      · rcases List.mem_append.mp hit' with z | z
        · exact h n' f' d it hd z
        · rw [List.mem_singleton.mp z]; exact hv
      · split at hit'
        · cases hit'
        · rw [List.mem_singleton.mp hit']; exact hv
    · rw [if_neg q2] at hit'
      split at hit'
      · cases hit'
      · exact h n' f' d' it hd' hit'
  · rw [up_o q] at hit'
    exact h n' f' d' it hd' hit'
theorem VO_msg {T : List Nat} {D : List Dc} {A : AV} {n f t : Nat} {d : Dc} (h : VO T D A) : VO T D (aMsg D A n f d t).1 := by
  have old : VO T D (aOld D A n f d) := by
    intro n' f' d' it hd' hit
    have hit' : it ∈ up (aE A) n (fun g => if g ≠ f ∧ rivB D f d g then [] else aE A n g) n' f' := hit
    by_cases q : n' = n
    · subst q
      rw [up_s] at hit'
      split at hit'
      · cases hit'
      · exact h n' f' d' it hd' hit'
    · rw [up_o q] at hit'
      exact h n' f' d' it hd' hit'
  have new : VO T D (aNew D A n f d t) := by
    intro n' f' d' it hd' hit
    have hit' : it ∈ up (up (aE A) n (fun g => if g = f then aE A n f ++ [(0, [], aC A)] else if rivB D f d g then [] else aE A n g)) (aC A) (fun _ => []) n' f' := hit
    by_cases q0 : n' = aC A
    · subst q0
      rw [up_s] at hit'
      cases hit'
    · rw [up_o q0] at hit'
      by_cases q : n' = n
      · subst q
        rw [up_s] at hit'
        by_cases q2 : f' = f
        · subst q2
          rw [if_pos rfl] at hit'
          rcases List.mem_append.mp hit' with z | z
          · exact h n' f' d' it hd' z
          · rw [List.mem_singleton.mp z]; exact ok4_0
        · rw [if_neg q2] at hit'
          split at hit'
          · cases hit'
          · exact h n' f' d' it hd' hit'
      · rw [up_o q] at hit'
        exact h n' f' d' it hd' hit'
  unfold aMsg
  split
  · exact old
  · exact new
theorem VO_unk {T : List Nat} {D : List Dc} {A : AV} {n : Nat} {t : List Nat} (h : VO T D A) : VO T D (aUnk A n t) := h
theorem VO_row {T : List Nat} {D : List Dc} {S : List Nat} {n f e : Nat} {d : Dc} (hd : D[f]? = some d) : ∀ (j : Nat) (A : AV) (p : Nat) (A' : AV), VO T D A → dRow T D S n f d e j A p = some A' → VO T D A' := by
  intro j
  induction j with
  | zero => intro A p A' _ h; cases h
  | succ j ih =>
    intro A p A' hA h
    rw [dRow] at h
    split at h
    · cases hr : rdN S (kdO (fty T D d)) p e with
      | none => rw [hr] at h; cases h
      | some y =>
        obtain ⟨x, p'⟩ := y
        rw [hr] at h
        exact ih _ p' A' (VO_put hd hA (mng_4 _ _)) h
    · cases h; exact hA
theorem VO_sx {T : List Nat} {D : List Dc} {S : List Nat} {n m e p w p1 : Nat} {A A' : AV} {p' : Nat} {o : Option (Nat × Nat × Nat)} (hA : VO T D A) (h : dSx T D S n m e p w p1 A = some (A', p', o)) : VO T D A' := by
  unfold dSx at h
  by_cases hw : w % 8 = 2
  · rw [if_pos hw] at h
    cases hl : lnS S p1 e with
    | none => rw [hl] at h; cases h
    | some y =>
      obtain ⟨l, p2⟩ := y
      rw [hl] at h
      simp only at h
      cases hf : fOf D m (w / 8) with
      | none => rw [hf] at h; cases h; exact VO_unk hA
      | some f =>
        rw [hf] at h
        simp only at h
        cases hd : D[f]? with
        | none => rw [hd] at h; cases h
        | some d =>
          rw [hd] at h
          simp only at h
          by_cases c1 : (dR d && nmr (fty T D d)) = true
          · rw [if_pos c1] at h
            cases hr : dRow T D S n f d (p2 + l) 701 A p2 with
            | none => rw [hr] at h; cases h
            | some A2 => rw [hr] at h; cases h; exact VO_row hd _ _ _ _ hA hr
          · rw [if_neg c1] at h
            by_cases c2 : nmr (fty T D d) = true
            · rw [if_pos c2] at h; cases h; exact VO_unk hA
            · rw [if_neg c2] at h
              by_cases c3 : fty T D d = 11 ∧ u8T S p2 (p2 + l) = false
              · rw [if_pos c3] at h; cases h
              · rw [if_neg c3] at h
                by_cases c4 : fty T D d = 13
                · rw [if_pos c4] at h
                  cases ht : ftg T D d with
                  | none => rw [ht] at h; cases h
                  | some t => rw [ht] at h; cases h; exact VO_msg hA
                · rw [if_neg c4] at h; cases h; exact VO_put hd hA ok4_0
  · rw [if_neg hw] at h
    cases hl : rdN S (w % 8) p1 e with
    | none => rw [hl] at h; cases h
    | some y =>
      obtain ⟨x, p2⟩ := y
      rw [hl] at h
      simp only at h
      cases hf : fOf D m (w / 8) with
      | none => rw [hf] at h; cases h; exact VO_unk hA
      | some f =>
        rw [hf] at h
        simp only at h
        cases hd : D[f]? with
        | none => rw [hd] at h; cases h
        | some d =>
          rw [hd] at h
          simp only at h
          by_cases c1 : kdO (fty T D d) = w % 8
          · rw [if_pos c1] at h; cases h; exact VO_put hd hA (mng_4 _ _)
          · rw [if_neg c1] at h; cases h; exact VO_unk hA
theorem VO_lp {T : List Nat} {D : List Dc} {S : List Nat} {rc : AV → Nat → Nat → Nat → Nat → Option AV} {n m e : Nat} (hrc : ∀ A k t q p A', VO T D A → rc A k t q p = some A' → VO T D A') : ∀ (j : Nat) (A : AV) (p : Nat) (A' : AV), VO T D A → dLp T D S rc n m e j A p = some A' → VO T D A' := by
  intro j
  induction j with
  | zero => intro A p A' _ h; cases h
  | succ j ih =>
    intro A p A' hA h
    rw [dLp] at h
    split at h
    · cases ht : tgS S p e with
      | none => rw [ht] at h; cases h
      | some y =>
        obtain ⟨w, p1⟩ := y
        rw [ht] at h
        simp only at h
        rw [dSt_x] at h
        cases hsx : dSx T D S n m e p w p1 A with
        | none => rw [hsx] at h; cases h
        | some y =>
          obtain ⟨A1, p', o⟩ := y
          have h1 := VO_sx hA hsx
          rw [hsx] at h
          cases o with
          | none => exact ih A1 p' A' h1 h
          | some c =>
            obtain ⟨k, t, q⟩ := c
            simp only [dFn] at h
            cases hr : rc A1 k t q p' with
            | none => rw [hr] at h; cases h
            | some A2 => rw [hr] at h; exact ih A2 q A' (hrc _ _ _ _ _ _ h1 hr) h
    · cases h; exact hA
theorem VO_ms {T : List Nat} {D : List Dc} {S : List Nat} {lm : Nat} : ∀ (j dp : Nat) (A : AV) (n m e p : Nat) (A' : AV), VO T D A → dMs T D S lm j dp A n m e p = some A' → VO T D A' := by
  intro j
  induction j with
  | zero => intro dp A n m e p A' _ h; cases h
  | succ j ih =>
    intro dp A n m e p A' hA h
    rw [dMs] at h
    split at h
    · cases h
    · exact VO_lp (fun A k t q p A' hA h => ih (dp + 1) A k t q p A' hA h) 701 A p A' hA h
theorem VO_dc {T : List Nat} {D : List Dc} {S : List Nat} {lm m : Nat} {A : AV} (h : dcS T D S lm m = some A) : VO T D A := VO_ms 24 1 (a0 m) 0 m S.length 0 A VO_a0 h
