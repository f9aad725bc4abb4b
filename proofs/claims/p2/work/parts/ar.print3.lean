/-! ===== print: the spec; the class prints a field ===== -/
theorem ff_snoc {α : Type} {p : α → Bool} {d : α} : ∀ (L : List α) (k : Nat), ff p (L ++ [d]) k = (ff p L k).or (if p d then some (k + L.length) else none) := by
  intro L
  induction L with
  | nil => intro k; rfl
  | cons a L ih =>
    intro k
    show (if p a then some k else ff p (L ++ [d]) (k + 1)) = _
    rw [ih, show ff p (a :: L) k = if p a then some k else ff p L (k + 1) from rfl]
    by_cases q : p a = true
    · rw [if_pos q, if_pos q]; rfl
    · rw [if_neg q, if_neg q, List.length_cons, show k + 1 + L.length = k + (L.length + 1) by omega]
/-- a value of an enum with a number -/
def pVl (e : Nat) (x : Int64) (d : Dc) : Bool := decide (dK d = 3 ∧ dO d = some e ∧ nL (dN d) = x)
theorem chE_find {T : List Nat} {D : List Dc} (hg : GSc T D) {e : Nat} {y : Dc} (he : D[e]? = some y) (h1 : dK y = 1) (p : Nat → Bool) (P : Dc → Bool) (hP : ∀ i d, D[i]? = some d → (P d = true ↔ dK d = 3 ∧ dO d = some e ∧ p i = true)) : ∀ k, k ≤ D.length → (chD D k e).find? p = ff P (D.take k) 0 := by
  intro k
  induction k with
  | zero => intro _; rfl
  | succ k ih =>
    intro hk
    have hkl : k < D.length := by omega
    have hd := List.getElem?_eq_getElem hkl
    have hP' := hP k _ hd
    have e1 : D.take (k + 1) = D.take k ++ [D[k]] := by rw [List.take_succ, hd]; rfl
    rw [e1, ff_snoc, ← ih (by omega), chD, hd]
    simp only
    have hlen : (D.take k).length = k := by rw [List.length_take]; omega
    rw [hlen, Nat.zero_add]
    by_cases q2 : dK D[k] = 2 ∧ dS D[k] = some e
    · exfalso
      obtain ⟨z, hz, hz0⟩ := hg.1.scK hd e q2.2
      rw [he] at hz
      cases hz
      omega
    · rw [if_neg q2]
      by_cases q3 : dK D[k] = 3 ∧ dO D[k] = some e
      · rw [if_pos q3, List.find?_append]
        cases hp : p k with
        | true =>
          have : P D[k] = true := hP'.mpr ⟨q3.1, q3.2, hp⟩
          rw [this, if_pos (show true = true from rfl), List.find?_singleton, hp, if_pos (show true = true from rfl)]
        | false =>
          have : ¬ P D[k] = true := fun z => by rw [(hP'.mp z).2.2] at hp; cases hp
          rw [if_neg this, List.find?_singleton, hp, if_neg (show ¬ false = true by decide)]
      · rw [if_neg q3]
        have : ¬ P D[k] = true := fun z => q3 ⟨(hP'.mp z).1, (hP'.mp z).2.1⟩
        rw [if_neg this, Option.or_none]
theorem C_vl {T : List Nat} {D : List Dc} (hg : GSc T D) {e : Nat} {y : Dc} (he : D[e]? = some y) (h1 : dK y = 1) (x : Int64) : (chF D e).find? (fun i => decide (nLi D i = x)) = ff (pVl e x) D 0 := by
  have := chE_find hg he h1 (fun i => decide (nLi D i = x)) (pVl e x) (fun i d hd => by
    unfold pVl nLi
    rw [hd, decide_eq_true_iff, decide_eq_true_iff]) D.length (Nat.le_refl _)
  rw [List.take_length] at this
  exact this
def nmT (T : List Nat) (d : Dc) : List Nat := slc T (dA d) (dE d)
def nmI (T : List Nat) (D : List Dc) (i : Nat) : List Nat := match D[i]? with
  | some d => nmT T d
  | none => []
theorem nmI_some {T : List Nat} {D : List Dc} {i : Nat} {d : Dc} (h : D[i]? = some d) : nmI T D i = nmT T d := by unfold nmI; rw [h]
/-- the value's name that a number of an enum's field has -/
def vnm (T : List Nat) (D : List Dc) (d : Dc) (x : Int64) : Option Nat := if fty T D d = 14 then (match ftg T D d with
  | some e => ff (pVl e x) D 0
  | none => none) else none
def nuP (t : Nat) (x : Int64) : List Nat := if t = 10 then (if x = 0 then [102, 97, 108, 115, 101] else [116, 114, 117, 101]) else if x < 0 ∧ t ≠ 3 ∧ t ≠ 7 then 45 :: dcB (-x) else dcB x
def nuT (T : List Nat) (D : List Dc) (d : Dc) (x : Int64) : List Nat := match vnm T D d x with
  | some i => nmI T D i
  | none => nuP (fty T D d) x
def pIt (T : List Nat) (D : List Dc) (dp : Nat) (rc : Nat → List Nat) (d : Dc) (it : It) : List Nat := inB dp ++ (nmT T d ++ (if fty T D d = 13 then [32, 123, 10] ++ (rc it.2.2 ++ (inB dp ++ [125, 10])) else [58, 32] ++ ((if nmr (fty T D d) then nuT T D d it.1 else txB it.2.1) ++ [10])))
def pFd (T : List Nat) (D : List Dc) (A : AV) (dp : Nat) (rc : Nat → List Nat) (n f : Nat) : List Nat := match D[f]? with
  | none => []
  | some d => (aE A n f).flatMap (pIt T D dp rc d)
def pMs (T : List Nat) (D : List Dc) (A : AV) : Nat → Nat → Nat → List Nat
  | 0, _, _ => []
  | j + 1, dp, n => (chF D (aN A n)).flatMap (pFd T D A dp (pMs T D A j (dp + 1)) n)
theorem VG_fp {σ τ : SG} {c : Nat} {T : List Nat} {D : List Dc} {G : Gh} (h : VG σ c T D G) (hf : fp3 σ τ) : VG τ c T D G := VG_sm h (fun b hb => hf b (by omega) (by omega) (by omega))
theorem CS_fp {σ τ : SG} {c : Nat} {T : List Nat} {D : List Dc} (h : CS σ c T D) (hcb : cb c) (hf : fp3 σ τ) : CS τ c T D := by
  have hc : c = 5 ∨ c = 197 := hcb
  exact CS_sm h (fun b h1 h2 => hf b (by omega) (by omega) (by omega))
theorem W_name {U c i : Nat} {σ : SG} {T : List Nat} {D : List Dc} {d : Dc} {w : List Nat × Int32} (hU4 : 4000 < U) (hcb : cb c) (hg : GSc T D) (hC : CS σ c T D) (hd : D[i]? = some d) (hw : RW σ 3 w) : WR w (nmT T d) σ (x_X0_addAll U 3 (some (c + 2)) (sI σ (c + 5 + i) 4) (sI σ (c + 5 + i) 5) σ) := by
  have hc : c = 5 ∨ c = 197 := hcb
  have hn := hg.N i d hd
  have hI := (hC.it hd).1
  rw [hI.2.2.2.2.1, hI.2.2.2.2.2.1]
  obtain ⟨τ, t1, t2, t3⟩ := X0_addAll (U := U) (a := 3) (b := c + 2) (S := T) (k := dA d) (to := dE d) (w := w) (by rcases hc with z | z <;> rw [z] <;> decide) (by unfold apt; omega) (Nat.le_of_lt hn.1) hn.2.1 hU4 hw hC.1
  rw [ln4] at t2
  exact ⟨τ, t1, t2, fb_fp3 t3⟩
theorem C_numP {U t : Nat} {σ : SG} {x : Int64} {w : List Nat × Int32} (hU4 : 4000 < U) (hw : RW σ 3 w) (hx : x < 0 ∧ t ≠ 3 ∧ t ≠ 7) : WR w (45 :: dcB (-x)) σ (b1 (x_X0_add 3 45 σ) fun σ20 => b1 (x_X7_writeDecimal U 1095 (-x) σ20) fun σ22 => some σ22) := by
  refine WR_b1 (B := [45]) (W_addc (c := 45) (by decide) hw) (fun τ t2 t3 => ?_)
  rw [b1_id]
  exact C_dec hU4 t2
theorem C_num0 {U c f : Nat} {σ : SG} {T : List Nat} {D : List Dc} {d : Dc} {x : Int64} {w : List Nat × Int32} {v4 : Option Nat} (hU4 : 4000 < U) (hcb : cb c) (hg : GSc T D) (hC : CS σ c T D) (hd : D[f]? = some d) (h2 : dK d = 2) (hw : RW σ 3 w) : WR w (nuP (fty T D d) x) σ (x_X7_writeNumber_28 U 1095 (some (c + 5 + f)) x v4 none σ) := by
  have hl9 := hg.2.1
  have hfl := (List.getElem?_eq_some_iff.mp hd).1
  have hft : fty T D d ≤ 14 := dTy_lt (hg.fld hd h2).2.2.2.1
  have ety : sI σ (c + 5 + f) 8 = nI (fty T D d) := (hC.it hd).2.1
  have e10 : nI (fty T D d) = 10 ↔ fty T D d = 10 := nI_eq (b := 10) (by omega) (by decide)
  have e3 : nI (fty T D d) = 3 ↔ fty T D d = 3 := nI_eq (b := 3) (by omega) (by decide)
  have e7 : nI (fty T D d) = 7 ↔ fty T D d = 7 := nI_eq (b := 7) (by omega) (by decide)
  unfold x_X7_writeNumber_28 x_X7_writeNumber_83 x_X7_writeNumber_130 nuP
  rw [if_pos (show (none : Option Nat) = none from rfl), ck_eq (it_sh hcb (by omega)), ety, ifd e10, ifd e3, ifd e7]
  by_cases q10 : fty T D d = 10
  · rw [if_pos q10, if_pos q10, b1_id, b1_id]
    by_cases q0 : x = 0
    · rw [if_pos q0, if_pos q0, ← t19]; exact W_text hU4 (by decide) hw
    · rw [if_neg q0, if_neg q0, ← t18]; exact W_text hU4 (by decide) hw
  rw [if_neg q10, if_neg q10, b1_id]
  have plain : WR w (dcB x) σ (x_X7_writeDecimal U 1095 x σ) := C_dec hU4 hw
  by_cases qx : x < 0
  · rw [if_pos qx]
    by_cases q3 : fty T D d = 3
    · rw [if_pos q3, if_neg (fun z => z.2.1 q3)]; exact plain
    rw [if_neg q3]
    by_cases q7 : fty T D d = 7
    · rw [if_pos q7, if_neg (fun z => z.2.2 q7)]; exact plain
    rw [if_neg q7, if_pos ⟨qx, q3, q7⟩]
    exact C_numP (t := fty T D d) hU4 hw ⟨qx, q3, q7⟩
  · rw [if_neg qx, if_neg (fun z => qx z.1)]; exact plain
theorem C_numT {U c f : Nat} {σ : SG} {T : List Nat} {D : List Dc} {d : Dc} {x : Int64} {w : List Nat × Int32} (hU4 : 4000 < U) (hcb : cb c) (hg : GSc T D) (hC : CS σ c T D) (hd : D[f]? = some d) (h2 : dK d = 2) (hw : RW σ 3 w) : WR w (nuT T D d x) σ (x_X7_writeNumber U 1095 (some (c + 5 + f)) x (some (c + 2)) σ) := by
  have hl9 := hg.2.1
  have hfl := (List.getElem?_eq_some_iff.mp hd).1
  have hft : fty T D d ≤ 14 := dTy_lt (hg.fld hd h2).2.2.2.1
  have ety : sI σ (c + 5 + f) 8 = nI (fty T D d) := (hC.it hd).2.1
  have etg : sP σ (c + 5 + f) 10 = ad c (ftg T D d) := (hC.it hd).2.2.1
  have e14 : nI (fty T D d) = 14 ↔ fty T D d = 14 := nI_eq (b := 14) (by omega) (by decide)
  unfold x_X7_writeNumber x_X7_writeNumber_27 nuT vnm
  rw [ck_eq (it_sh hcb (by omega)), ety, ifd e14, etg]
  by_cases q : fty T D d = 14
  · obtain ⟨e, y, h3, h4, h5⟩ := (ftg_msg hg hd h2).2.1 q
    have hel := (List.getElem?_eq_some_iff.mp h4).1
    rw [if_pos q, if_pos q, h3, if_neg (show ¬ ad c (some e) = none by intro z; cases z), ad_some, ck_eq (it_sh hcb (by omega)), C_numbered hU4 hcb hC hel, b1_eq, C_vl hg h4 h5]
    simp only
    cases hff : ff (pVl e x) D 0 with
    | none => exact C_num0 hU4 hcb hg hC hd h2 hw
    | some i =>
      obtain ⟨y', hi, _⟩ := ff_some _ _ _ hff
      rw [Nat.sub_zero] at hi
      have hil := (List.getElem?_eq_some_iff.mp hi).1
      simp only
      unfold x_X7_writeNumber_28
      rw [nmI_some hi, if_neg (show ¬ ad c (some i) = none by intro z; cases z), ad_some, ck_eq (it_sh hcb (by omega)), b1_id]
      exact W_name hU4 hcb hg hC hi hw
  · rw [if_neg q, if_neg q]
    exact C_num0 hU4 hcb hg hC hd h2 hw
theorem C_pfld {U c n f dp : Nat} {σ : SG} {T : List Nat} {D : List Dc} {G : Gh} {e : Eg} {d : Dc} {w : List Nat × Int32} {rcC : Option Nat → Option Nat → Int32 → SG → Option SG} {rc : Nat → List Nat} (hU4 : 4000 < U) (hcb : cb c) (hg : GSc T D) (hC : CS σ c T D) (hV : VG σ c T D G) (hn : n < gC G) (he : e ∈ gL G n) (hf : eF e = some f) (hd : isF D (gN G n) f d) (h1 : 1 ≤ dp) (hdp : dp ≤ 20) (hw : RW σ 3 w)
    (hrc : fty T D d = 13 → ∀ (τ : SG) (w' : List Nat × Int32), fp3 σ τ → RW τ 3 w' → WR w' (rc (eK e)) τ (rcC (some (eA e)) (some (c + 2)) (nI (dp + 1)) τ)) : WR w (pIt T D dp rc d (itm T D d e)) σ (x_X7_writeField U rcC 1095 (some (eA e)) (some (c + 5 + f)) (some (c + 2)) (nI dp) σ) := by
  have hl9 := hg.2.1
  have hul := hV.2.1
  have hfl := (List.getElem?_eq_some_iff.mp hd.1).1
  have hft : fty T D d ≤ 14 := dTy_lt (hg.fld hd.1 hd.2.1).2.2.2.1
  obtain ⟨e1, e2, _⟩ := hV.e hn he
  have e13 : nI (fty T D d) = 13 ↔ fty T D d = 13 := nI_eq (b := 13) (by omega) (by decide)
  have hc : c = 5 ∨ c = 197 := hcb
  unfold x_X7_writeField x_X7_writeField_103 pIt
  refine WR_b1 (W_ind hU4 h1 (by omega) hw) (fun τ t2 t3 => ?_)
  rw [ck_eq (it_sh hcb (by omega))]
  have C1 := CS_fp hC hcb t3
  refine WR_b1 (W_name hU4 hcb hg C1 hd.1 t2) (fun υ u2 u3 => ?_)
  have C2 := CS_fp C1 hcb u3
  have f2 := fp3_trans t3 u3
  have ety : sI υ (c + 5 + f) 8 = nI (fty T D d) := (C2.it hd.1).2.1
  rw [ety, ifd e13]
  by_cases q : fty T D d = 13
  · rw [if_pos q, if_pos q, ← t15]
    refine WR_b1 (W_text hU4 (by decide) u2) (fun ω o2 o3 => ?_)
    have ei : (itm T D d e).2.2 = eK e := by unfold itm; rw [if_pos q]
    rw [ei, nI_1]
    refine WR_b1 (hrc q ω _ (fp3_trans f2 o3) o2) (fun φ p2 p3 => ?_)
    refine WR_b1 (W_ind hU4 h1 (by omega) p2) (fun ψ y2 y3 => ?_)
    rw [b1_id, ← t16]
    exact W_text hU4 (by decide) y2
  · rw [if_neg q, if_neg q, ← t17]
    refine WR_b1 (W_text hU4 (by decide) u2) (fun ω o2 o3 => ?_)
    have C3 := CS_fp C2 hcb o3
    have V3 := VG_fp hV (fp3_trans f2 o3)
    obtain ⟨_, _, _, g4, ⟨a', b', g5, g6, g7, g8, g9⟩, _⟩ := V3.e hn he
    have ety3 : sI ω (c + 5 + f) 8 = nI (fty T D d) := (C3.it hd.1).2.1
    rw [ety3, X11_isNumeric (by omega), b1_eq, ifz]
    cases hnm : nmr (fty T D d) with
    | true =>
      have ei : (itm T D d e).1 = eV e := by unfold itm; rw [if_neg q, hnm, if_pos rfl]
      rw [if_pos (show true = true from rfl), if_pos (show true = true from rfl), ck_eq (nd_sh e1 (by omega)), g4, ei]
      refine WR_b1 (C_numT hU4 hcb hg C3 hd.1 hd.2.1 o2) (fun φ p2 p3 => ?_)
      rw [b1_id]
      exact W_addc (c := 10) (by decide) p2
    | false =>
      have ei : (itm T D d e).2.1 = eT e := by unfold itm; rw [if_neg q, hnm, if_neg (show ¬ false = true by decide)]
      rw [if_neg (show ¬ false = true by decide), if_neg (show ¬ false = true by decide), ei, ← g9]
      refine WR_b1 (WB_WR (C_ptxt hU4 (nd_sh e1 (by omega)) (by omega) (by omega) g7 g8 g5 g6 V3.2.2.1 o2)) (fun φ p2 p3 => ?_)
      rw [b1_id]
      exact W_addc (c := 10) (by decide) p2
