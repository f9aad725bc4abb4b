/-! ===== the reference's reader: what it asks of a type ===== -/
theorem N_takeParts {U j k p : Nat} {σ : SG} {T : List Nat} {Ws : List Wd} (hU : 4000 < U) (hS : WS T Ws) (hl : Ws.length ≤ 701) (hj : j < 200) (h : QX σ T Ws k) (h74 : sI σ 1101 74 = 0) (h37 : sI σ 1101 37 = nI p) (hp : 2 * p ≤ pos Ws k) (h44 : sI σ 1144 j = nI 0) :
    ∃ τ, x_X12_takeParts U 1101 (nI j) σ = some τ ∧ fP (PQ j p) σ τ ∧ (∀ k', sTN T Ws Ws.length k = some k' → sI τ 1101 74 = 0 ∧ QX τ T Ws k' ∧ ∃ m, k' + 1 = k + 2 * m ∧ 1 ≤ m ∧ sI τ 1101 37 = nI (p + m) ∧ sI τ 1144 j = nI m ∧ PTs τ Ws p k m) ∧ (sTN T Ws Ws.length k = none → ¬ sI τ 1101 74 = 0) := by
  unfold x_X12_takeParts
  obtain ⟨τ, e1, e2, e3, e4⟩ := N_parts_L (K := fun σ31 => b1 (x_X12_fail 1101 1 (sI σ31 1101 71) σ31) fun σ33 => some σ33) hU hS hj (fun υ => rfl) Ws.length U k p 0 1 σ (by omega) (by omega) (by decide) h h74 h37 hp h44
  refine ⟨τ, e1, e2, fun k' z => ?_, e4⟩
  obtain ⟨w1, w2, m, w3, w4, w5, w6, w7⟩ := e3 k' z
  exact ⟨w1, w2, m, w3, w4, w5, by rw [w6]; congr 1; omega, w7⟩
theorem nty_sPl {Ws : List Wd} {k : Nat} {x : Wd} (hx : Ws[k]? = some x) : nty x = if sPl Ws k then sC Ws k else -1 := by
  have hs : sC Ws k = cdX x := by unfold sC; rw [hx]
  unfold nty sPl
  rw [hs]
  by_cases h : 0 ≤ cdX x ∧ cdX x < 13
  · have h1 := Int32.le_iff_toInt_le.mp h.1
    have h2 := Int32.lt_iff_toInt_lt.mp h.2
    have e0 : (0 : Int32).toInt = 0 := by decide
    have e12 : (12 : Int32).toInt = 12 := by decide
    have e13 : (13 : Int32).toInt = 13 := by decide
    rw [if_pos h, decide_eq_true (⟨fun z => by have := Int32.lt_iff_toInt_lt.mp z; omega, fun z => by have := Int32.lt_iff_toInt_lt.mp z; omega⟩ : ¬ cdX x < 0 ∧ ¬ 12 < cdX x), if_pos rfl]
  · rw [if_neg h, decide_eq_false (fun z => h ?_), if_neg (by decide)]
    have e0 : (0 : Int32).toInt = 0 := by decide
    have e12 : (12 : Int32).toInt = 12 := by decide
    have e13 : (13 : Int32).toInt = 13 := by decide
    have z1 : ¬ (cdX x).toInt < (0 : Int32).toInt := fun y => z.1 (Int32.lt_iff_toInt_lt.mpr y)
    have z2 : ¬ (12 : Int32).toInt < (cdX x).toInt := fun y => z.2 (Int32.lt_iff_toInt_lt.mpr y)
    exact ⟨Int32.le_iff_toInt_le.mpr (by omega), Int32.lt_iff_toInt_lt.mpr (by omega)⟩
theorem rsv_iff {T : List Nat} {Ws : List Wd} {k : Nat} {x : Wd} (hG : WG T Ws) (hx : Ws[k]? = some x) : rsv x = decide (¬ sC Ws k < 20 ∧ ¬ 23 < sC Ws k) := by
  have hs : sC Ws k = cdX x := by unfold sC; rw [hx]
  by_cases h : sC Ws k < 0
  · have e0 : (0 : Int32).toInt = 0 := by decide
    have e20 : (20 : Int32).toInt = 20 := by decide
    have hi := Int32.lt_iff_toInt_lt.mp h
    rw [decide_eq_false (fun z => z.1 (Int32.lt_iff_toInt_lt.mpr (by omega)))]
    have no : ∀ q, q < 41 → ¬ cdX x = nI q := fun q hq z => by
      rw [hs, z] at h
      exact (by decide +kernel : ∀ q, q < 41 → ¬ nI q < 0) q hq h
    unfold rsv
    rw [decide_eq_false (no 20 (by decide)), decide_eq_false (no 21 (by decide)), decide_eq_false (no 22 (by decide)), decide_eq_false (no 23 (by decide))]
    rfl
  · obtain ⟨q, hq, e⟩ := sC_lt hG k h
    have e' : cdX x = nI q := hs.symm.trans e
    unfold rsv
    rw [e, e']
    exact (by decide +kernel : ∀ q, q < 41 → (decide (nI q = nI 20) || decide (nI q = nI 21) || decide (nI q = nI 22) || decide (nI q = nI 23)) = decide (¬ nI q < 20 ∧ ¬ 23 < nI q)) q hq
