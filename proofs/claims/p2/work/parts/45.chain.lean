/-! ===== the words of a text, one behind the other ===== -/
theorem wl_chain {T : List Nat} : ∀ (n p : Nat), T.length < p + n → p ≤ T.length → (wl T n p)[0]? = some (nw T p) ∧ ∀ (k : Nat) (x : Wd), (wl T n p)[k]? = some x → gw T x ∧ (x.1 ≠ 0 → x.1 ≠ 5 → (wl T n p)[k + 1]? = some (nw T x.2.2.1)) ∧ (x.1 = 0 ∨ x.1 = 5 → (wl T n p)[k + 1]? = none) := by
  intro n
  induction n with
  | zero => intro p h h'; omega
  | succ n ih =>
    intro p h h'
    rw [wl]
    by_cases hz : (nw T p).1 = 0 ∨ (nw T p).1 = 5
    · rw [if_pos hz]
      refine ⟨rfl, fun k x hk => ?_⟩
      have : k = 0 := by have := (List.getElem?_eq_some_iff.mp hk).1; simp at this; exact this
      subst this
      simp at hk
      subst hk
      exact ⟨gw_nw h', fun h0 h5 => absurd hz (fun q => q.elim h0 h5), fun _ => rfl⟩
    · rw [if_neg hz]
      have h0 : (nw T p).1 ≠ 0 := fun q => hz (Or.inl q)
      have h5 : (nw T p).1 ≠ 5 := fun q => hz (Or.inr q)
      obtain ⟨e1, e2, e3⟩ := nw_pos h' h0 h5
      obtain ⟨g1, g2⟩ := ih (nw T p).2.2.1 (by omega) e2
      refine ⟨rfl, fun k x hk => ?_⟩
      cases k with
      | zero =>
        simp at hk
        subst hk
        exact ⟨gw_nw h', fun _ _ => by rw [List.getElem?_cons_succ]; exact g1, fun q => absurd q hz⟩
      | succ k =>
        rw [List.getElem?_cons_succ] at hk
        obtain ⟨a1, a2, a3⟩ := g2 k x hk
        exact ⟨a1, fun q0 q5 => by rw [List.getElem?_cons_succ]; exact a2 q0 q5, fun q => by rw [List.getElem?_cons_succ]; exact a3 q⟩
/-- all the words of a text -/
def WS (T : List Nat) (Ws : List Wd) : Prop := ok8 T ∧ T.length ≤ 700 ∧ Ws[0]? = some (nw T 0) ∧ ∀ (k : Nat) (x : Wd), Ws[k]? = some x → gw T x ∧ (x.1 ≠ 0 → x.1 ≠ 5 → Ws[k + 1]? = some (nw T x.2.2.1)) ∧ (x.1 = 0 ∨ x.1 = 5 → Ws[k + 1]? = none)
theorem WS_wl {T : List Nat} (h8 : ok8 T) (hl : T.length ≤ 700) : WS T (wl T 701 0) := ⟨h8, hl, (wl_chain 701 0 (by omega) (Nat.zero_le _)).1, (wl_chain 701 0 (by omega) (Nat.zero_le _)).2⟩
theorem WS.G {T : List Nat} {Ws : List Wd} (h : WS T Ws) : WG T Ws := ⟨h.1, fun k x hk => (h.2.2.2 k x hk).1⟩
theorem nw_start {T : List Nat} {p : Nat} (hp : p ≤ T.length) : p ≤ (nw T p).2.1 ∧ (nw T p).2.1 ≤ T.length := by
  have := bbS_le (T := T) (T.length + 1) p false (by omega) hp
  unfold nw; rw [lx_start]; exact ⟨this.2, this.1⟩
/-- the next word, behind one that is taken -/
theorem WS.next {T : List Nat} {Ws : List Wd} {k : Nat} {x : Wd} (h : WS T Ws) (hk : Ws[k]? = some x) (h0 : x.1 ≠ 0) (h5 : x.1 ≠ 5) : ∃ y, Ws[k + 1]? = some y ∧ x.2.2.1 ≤ y.2.1 ∧ y.2.1 ≤ T.length ∧ x.2.1 < x.2.2.1 := by
  obtain ⟨a1, a2, a3⟩ := h.2.2.2 k x hk
  have hb := a1.2.2.1 h0 h5
  exact ⟨_, a2 h0 h5, (nw_start hb.2).1, (nw_start hb.2).2, hb.1⟩
theorem sg_4 {T : List Nat} {x : Wd} {c : Nat} (h : sgX T x c = true) : x.1 = 4 := (of_decide_eq_true h).1
theorem cd_1 {x : Wd} {q : Nat} (hq : q < 256) (h : cdX x = nI q) : x.1 = 1 := by
  by_cases q1 : x.1 = 1
  · exact q1
  · unfold cdX at h; rw [if_neg q1] at h; exact absurd h ((by decide +kernel : ∀ c, c < 256 → ¬ (-1 : Int32) = nI c) q hq)
/-- how long a keyword is -/
theorem kw_len {T : List Nat} {x : Wd} {k : Nat} (hx : gw T x) (hk : k < 9) (h : cdX x = nI (20 + k)) : x.2.2.1 - x.2.1 = (kwW.getD k []).length := by
  have h1 := cd_1 (by omega) h
  have hb := hx.2.2.1 (by omega) (by omega)
  rw [cdX_1 hx h1, cd_kw hk] at h
  rw [List.getD_eq_getElem?_getD, h]
  exact (slc_len (by omega) hb.2).symm
/-- where the k-th word begins -/
def pos (Ws : List Wd) (k : Nat) : Nat := match Ws[k]? with
  | some x => x.2.1
  | none => 0
theorem pos_some {Ws : List Wd} {k : Nat} {x : Wd} (h : Ws[k]? = some x) : pos Ws k = x.2.1 := by unfold pos; rw [h]
