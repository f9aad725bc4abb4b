/-! ===== the reference encodes: the rows of a field ===== -/
theorem ff_rest {α : Type} {p : α → Bool} {R : List α} : ∀ (j i : Nat), i + j = R.length → (ff p (R.drop i) i = none → (R.drop i).filter p = []) ∧ ∀ i', ff p (R.drop i) i = some i' → ∃ r, R[i']? = some r ∧ p r = true ∧ i ≤ i' ∧ i' < R.length ∧ (R.drop i).filter p = r :: (R.drop (i' + 1)).filter p := by
  intro j
  induction j with
  | zero =>
    intro i hi
    rw [List.drop_eq_nil_of_le (by omega)]
    exact ⟨fun _ => rfl, fun i' h => by cases h⟩
  | succ j ih =>
    intro i hi
    have hil : i < R.length := by omega
    rw [List.drop_eq_getElem_cons hil, ff, List.filter_cons]
    obtain ⟨a, b⟩ := ih (i + 1) (by omega)
    cases hp : p R[i] with
    | true =>
      rw [if_pos (show true = true from rfl), if_pos (show true = true from rfl)]
      exact ⟨fun h => (by cases h), fun i' h => by cases h; exact ⟨R[i], List.getElem?_eq_getElem hil, hp, Nat.le_refl _, hil, rfl⟩⟩
    | false =>
      rw [if_neg (show ¬ false = true by decide), if_neg (show ¬ false = true by decide)]
      refine ⟨a, fun i' h => ?_⟩
      obtain ⟨r, h1, h2, h3, h4, h5⟩ := b i' h
      exact ⟨r, h1, h2, by omega, h4, h5⟩
/-- what the loop does with a piece of a message: bytes B, cost c, then the state Q -/
def EL (U s : Nat) (T : List Nat) (D : List Dc) (A : AV) (H : Rh) (z : Nat → Nat) (dp : Nat) (w : List Nat × Int32) (B : List Nat) (c : Nat) (Q : SG → Prop) (U1 : Nat) (σ : SG) : Prop := ∃ τ U2, x_X12_encode_L43 U 1101 U1 σ = x_X12_encode_L43 U 1101 U2 τ ∧ U1 ≤ U2 + c ∧ ES τ s T D A H z (wrL 4000 w B) ∧ Q τ ∧ fP PEs σ τ ∧ ∀ j, j < dp → sI τ 1176 j = sI σ 1176 j ∧ sI τ 1178 j = sI σ 1178 j ∧ sI τ 1179 j = sI σ 1179 j
theorem L43_step {U dp n k i V : Nat} {σ τ : SG} (ht : TP σ dp n k i) (hdp : dp < 20) (h : x_X12_encodeStep U 1101 σ = some τ) : x_X12_encode_L43 U 1101 (V + 1) σ = x_X12_encode_L43 U 1101 V τ := by
  rw [x_X12_encode_L43, ht.1, if_pos (show (0 : Int32) < nI (dp + 1) from (ltI (a := 0) (by decide) (by omega)).mpr (by omega)), h, b1_eq]
/-- a cost for each item of a field -/
def cIt (T : List Nat) (D : List Dc) (cst : Nat → Nat) (d : Dc) (it : It) : Nat := 1 + if fty T D d = 13 then cst it.2.2 else 0
theorem N_erows {U s dp n k f : Nat} {T : List Nat} {D : List Dc} {A : AV} {H : Rh} {z : Nat → Nat} {cst : Nat → Nat} {d : Dc} (hU4 : 4000 < U) (hs : s < 2) (hg : GSc T D) (hO : VO T D A) (hM : isM D (aN A n)) (hal : al T D A n = true) (hn : n < aC A) (hdp : dp < 20) (hk : (chF D (aN A n))[k]? = some f) (hd : isF D (aN A n) f d) (hpk : dPa (lkC T D) T (wl T 701 0) D d = false)
    (hch : ∀ m ∈ chN T D A n, al T D A m = true ∧ m < 400 ∧ (eMf T D A z m).length < 2 ^ 31)
    (hrc : ∀ m ∈ chN T D A n, ∀ (τ : SG) (w' : List Nat × Int32) (U1 : Nat), ES τ s T D A H z w' → TP τ (dp + 1) m 0 0 → cst m < U1 → EL U s T D A H z (dp + 1) w' (eMf T D A z m) (cst m) (fun υ => sI υ 1101 106 = nI (dp + 1)) U1 τ) : ∀ (j i : Nat) (σ : SG) (w : List Nat × Int32) (U1 : Nat), i + j = (zR H).length → ES σ s T D A H z w → TP σ dp n k i → 1 + (((((zR H).drop i).filter (pRw n f)).map (itR T D d)).map (cIt T D cst d)).sum < U1 → EL U s T D A H z dp w (((((zR H).drop i).filter (pRw n f)).map (itR T D d)).flatMap (eIt T D (eMf T D A z) d)) (1 + (((((zR H).drop i).filter (pRw n f)).map (itR T D d)).map (cIt T D cst d)).sum) (fun τ => TP τ dp n (k + 1) 0) U1 σ := by
  intro j
  induction j using Nat.strongRecOn with
  | ind j ih =>
    intro i σ w U1 hij hE ht hu
    obtain ⟨V, rfl⟩ : ∃ V, U1 = V + 1 := ⟨U1 - 1, by omega⟩
    have hk31 : k < 2 ^ 31 := by
      have h1 := (List.getElem?_eq_some_iff.mp hk).1
      have h2 := chF_len (a := aN A n) hg.2.1
      omega
    have stp := ((N_estep (U := U) hU4 hs hg hE hM hn hdp hk31 (show i ≤ (zR H).length by omega) ht).2 f d hk hd).1 hpk
    obtain ⟨fn, fs⟩ := ff_rest (p := pRw n f) (R := zR H) j i hij
    cases hff : ff (pRw n f) ((zR H).drop i) i with
    | none =>
      rw [fn hff]
      rw [hff] at stp
      obtain ⟨τ, t1, t2, t3, t4, t5⟩ := S_next (U := U) (v3 := nI (fx D s f)) hE hdp ht
      have stp' : x_X12_encodeStep U 1101 σ = some τ := by rw [stp]; exact t1
      exact ⟨τ, V, L43_step ht hdp stp', by show V + 1 ≤ V + (1 + 0); omega, t2, t3, t4, t5⟩
    | some i' =>
      obtain ⟨r, r1, r2, r3, r4, r5⟩ := fs i' hff
      rw [hff] at stp
      rw [r5, List.map_cons, List.map_cons, List.sum_cons] at hu
      rw [r5, List.map_cons, List.flatMap_cons, List.map_cons, List.sum_cons]
      obtain ⟨p1, p2⟩ := pRw_of r2
      have hA : rA r = true := by have := r2; unfold pRw at this; rw [Bool.and_eq_true] at this; exact this.2
      by_cases q13 : fty T D d = 13
      · have hit := (VS_it hE.2.1 (List.mem_of_getElem? r1) hA p1 (show D[rF r]? = some d by rw [p2]; exact hd.1)).2.2
        rw [p2] at hit
        have hkc : rK r ∈ chN T D A n := chN_mem.mpr ⟨f, (chF_mem hg hM).mpr ⟨d, hd⟩, by unfold isT; rw [hd.1]; exact decide_eq_true q13, _, hit, by unfold itR; rw [if_pos q13]⟩
        obtain ⟨c1, c2, c3⟩ := hch _ hkc
        obtain ⟨τ, t1, t2, t3, t4, t5, t6, t7, t8⟩ := S_msg (U := U) hU4 hs hg hE hdp ht r1 r2 hd.1 hd.2.1 q13 c1 c2 c3
        have stp' : x_X12_encodeStep U 1101 σ = some τ := by rw [stp]; exact t1
        have ecI : cIt T D cst d (itR T D d r) = 1 + cst (rK r) := by unfold cIt itR; rw [if_pos q13, if_pos q13]
        rw [ecI] at hu ⊢
        obtain ⟨υ, U2, u1, u2, u3, u4, u5, u6⟩ := hrc _ hkc τ _ V t2 t3 (by omega)
        have T2 : TP υ dp n k (i' + 1) := ⟨u4, (u6 dp (by omega)).1.trans t4, (u6 dp (by omega)).2.2.trans t5, (u6 dp (by omega)).2.1.trans t6⟩
        obtain ⟨ω, U3, o1, o2, o3, o4, o5, o6⟩ := ih ((zR H).length - (i' + 1)) (by omega) (i' + 1) υ _ U2 (by omega) u3 T2 (by omega)
        refine ⟨ω, U3, by rw [L43_step ht hdp stp', u1, o1], by omega, ?_, o4, fP_trans t7 (fP_trans u5 o5), fun x hx => ⟨?_, ?_, ?_⟩⟩
        · have eI : eIt T D (eMf T D A z) d (itR T D d r) = tgB d 2 ++ (vB (lN (eMf T D A z (rK r)).length) ++ eMf T D A z (rK r)) := by
            unfold eIt lnB itR
            rw [q13, if_pos (show kdO 13 = 2 from rfl), if_pos rfl, if_pos rfl]
            rfl
          rw [eI, wrL_app, wrL_app, wrL_app]
          exact o3
        · exact (o6 x hx).1.trans ((u6 x (by omega)).1.trans (t8 x hx).1)
        · exact (o6 x hx).2.1.trans ((u6 x (by omega)).2.1.trans (t8 x hx).2.1)
        · exact (o6 x hx).2.2.trans ((u6 x (by omega)).2.2.trans (t8 x hx).2.2)
      · obtain ⟨τ, t1, t2, t3, t4, t5⟩ := S_row (U := U) hU4 hs hg hE hO hdp ht r1 r2 hd.1 hd.2.1 q13
        have stp' : x_X12_encodeStep U 1101 σ = some τ := by rw [stp]; exact t1
        have ecI : cIt T D cst d (itR T D d r) = 1 := by unfold cIt; rw [if_neg q13]
        rw [ecI] at hu ⊢
        obtain ⟨ω, U3, o1, o2, o3, o4, o5, o6⟩ := ih ((zR H).length - (i' + 1)) (by omega) (i' + 1) τ _ V (by omega) t2 t3 (by omega)
        refine ⟨ω, U3, by rw [L43_step ht hdp stp', o1], by omega, by rw [wrL_app]; exact o3, o4, fP_trans t4 o5, fun x hx => ⟨?_, ?_, ?_⟩⟩
        · exact (o6 x hx).1.trans (t5 x hx).1
        · exact (o6 x hx).2.1.trans (t5 x hx).2.1
        · exact (o6 x hx).2.2.trans (t5 x hx).2.2
