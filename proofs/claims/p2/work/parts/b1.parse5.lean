/-! ===== parse: a value, read by the class ===== -/
def tvS (S : List Nat) (t p : Nat) : Option (List Nat × Nat) := match S[p]? with
  | none => none
  | some c => if c = 34 ∨ c = 39 then (match txS S c 701 (p + 1) with
    | none => none
    | some (x, q) => if t = 11 ∧ u8T x 0 x.length = false then none else some (x, q)) else none
/-- the text form's place, the texts, and a node's text -/
def fN5 (a : Nat) (σ τ : SG) : Prop := (∀ b, b ≠ 1095 → b ≠ 1092 → b ≠ 1093 → b ≠ a → sm σ τ b) ∧ (∀ k, k ≠ 4 → sI τ 1095 k = sI σ 1095 k) ∧ sI τ 1092 2 = sI σ 1092 2 ∧ ∀ k, (k ≠ 5 → k ≠ 6 → sI τ a k = sI σ a k) ∧ sL τ a k = sL σ a k ∧ sP τ a k = sP σ a k
theorem fN5_trans {a : Nat} {σ τ υ : SG} (h : fN5 a σ τ) (h' : fN5 a τ υ) : fN5 a σ υ := ⟨fun b h1 h2 h3 h4 => sm_trans (h.1 b h1 h2 h3 h4) (h'.1 b h1 h2 h3 h4), fun k hk => (h'.2.1 k hk).trans (h.2.1 k hk), h'.2.2.1.trans h.2.2.1, fun k => ⟨fun h5 h6 => ((h'.2.2.2 k).1 h5 h6).trans ((h.2.2.2 k).1 h5 h6), (h'.2.2.2 k).2.1.trans (h.2.2.2 k).2.1, (h'.2.2.2 k).2.2.trans (h.2.2.2 k).2.2⟩⟩
theorem fU_N5 {a : Nat} {σ τ : SG} (ha : 391 ≤ a) (ha2 : a < 1092) (h : fU σ τ) : fN5 a σ τ := ⟨fun b h1 h2 h3 _ => h.1 b h1 h2 h3, h.2.1, h.2.2, fun k => ⟨fun _ _ => (h.1 a (by omega) (by omega) (by omega) k).1, (h.1 a (by omega) (by omega) (by omega) k).2.1, (h.1 a (by omega) (by omega) (by omega) k).2.2⟩⟩
theorem uI_N5 {a k : Nat} {σ : SG} {v : Int32} (ha : 391 ≤ a) (ha2 : a < 1092) (hk : k = 5 ∨ k = 6) : fN5 a σ (uI σ a k v) := ⟨fun b _ _ _ h4 => sm_uI h4, fun k _ => sI_o (Or.inl (by omega)), sI_o (Or.inl (by omega)), fun j => ⟨fun h5 h6 => sI_o (Or.inr (by omega)), rfl, rfl⟩⟩
theorem u8_pre {P t : List Nat} : u8T (P ++ t) P.length (P.length + t.length) = u8T t 0 t.length := by
  have := u8_pool (P := P) (S := t) (a := 0) (e := t.length) (Nat.zero_le _) (Nat.le_refl _)
  have e : slc t 0 t.length = t := by unfold slc; rw [List.drop_zero, Nat.sub_zero, List.take_length]
  rw [e, Nat.sub_zero] at this
  exact this
theorem C_rtext {U a t p : Nat} {S P : List Nat} {σ : SG} (hU4 : 4000 < U) (hSl : S.length ≤ 700) (ha : 391 ≤ a) (ha2 : a < 1092) (ht : t ≤ 14) (hp : p ≤ S.length) (hPl : P.length ≤ p) (hR : RB σ 1 S 0) (hP : RB σ 1092 P 0) (h4 : sI σ 1095 4 = nI p) : ∃ τ, x_X7_readText U 1095 (some a) (nI t) σ = some (zI (tvS S t p).isSome, τ) ∧ fN5 a σ τ ∧ ∀ x q, tvS S t p = some (x, q) → sI τ 1095 4 = nI q ∧ RB τ 1092 (P ++ x) 0 ∧ sI τ a 5 = nI P.length ∧ sI τ a 6 = nI (P ++ x).length ∧ p + x.length < q ∧ q ≤ S.length ∧ ok8 x := by
  have h8 : ok8 S := hR.2.2.2.2
  have hsh : sh a = 4 := nd_sh ha ha2
  have f0 : fN5 a σ σ := fU_N5 ha ha2 (fU_refl σ)
  unfold x_X7_readText
  rw [h4, X0_at hR (by omega), b1_eq, show (34 : Int32) = nI 34 from rfl, ifA h8 (by decide), show (39 : Int32) = nI 39 from rfl, ifA h8 (by decide)]
  unfold tvS
  cases hs : S[p]? with
  | none =>
    rw [if_neg (by intro z; cases z), if_neg (by intro z; cases z)]
    exact ⟨σ, rfl, f0, fun x q z => by cases z⟩
  | some c =>
    have hpl := (List.getElem?_eq_some_iff.mp hs).1
    have hc : c < 256 := h8 c (List.mem_of_getElem? hs)
    have e34 : some c = some 34 ↔ c = 34 := ⟨fun z => Option.some.inj z, fun z => by rw [z]⟩
    have e39 : some c = some 39 ↔ c = 39 := ⟨fun z => Option.some.inj z, fun z => by rw [z]⟩
    rw [ifd e34, ifd e39, bA_some hs]
    simp only
    by_cases cq : c = 34 ∨ c = 39
    · have go : ∃ τ, x_X7_readText_26 U 1095 (some a) (nI t) (nI c) σ = some (zI (match txS S c 701 (p + 1) with
          | none => (none : Option (List Nat × Nat))
          | some (x, q) => if t = 11 ∧ u8T x 0 x.length = false then none else some (x, q)).isSome, τ) ∧ fN5 a σ τ ∧ ∀ x q, (match txS S c 701 (p + 1) with
          | none => (none : Option (List Nat × Nat))
          | some (x, q) => if t = 11 ∧ u8T x 0 x.length = false then none else some (x, q)) = some (x, q) → sI τ 1095 4 = nI q ∧ RB τ 1092 (P ++ x) 0 ∧ sI τ a 5 = nI P.length ∧ sI τ a 6 = nI (P ++ x).length ∧ p + x.length < q ∧ q ≤ S.length ∧ ok8 x := by
        unfold x_X7_readText_26
        rw [sb_eq, h4, nI_1]
        have P1 := RB_fT hP (fT_u (v := nI (p + 1))) (by decide) (by decide)
        have R1 := RB_fT hR (fT_u (v := nI (p + 1))) (by decide) (by decide)
        have a4 : sI (uI σ 1095 4 (nI (p + 1))) 1095 4 = nI (p + 1) := sI_s _ _ _ _
        have F1 : fN5 a σ (uI σ 1095 4 (nI (p + 1))) := fU_N5 ha ha2 (fT_fU fT_u)
        generalize uI σ 1095 4 (nI (p + 1)) = σ1 at *
        rw [X0_size P1, b1_eq, ck_eq hsh, sb_eq]
        have P2 : RB (uI σ1 a 5 (nI P.length)) 1092 P 0 := P1.sm (sm_uI (by omega)) (sm_uI (by omega))
        have R2 : RB (uI σ1 a 5 (nI P.length)) 1 S 0 := R1.sm (sm_uI (by omega)) (sm_uI (by omega))
        have a42 : sI (uI σ1 a 5 (nI P.length)) 1095 4 = nI (p + 1) := (sI_o (Or.inl (by omega))).trans a4
        have a5 : sI (uI σ1 a 5 (nI P.length)) a 5 = nI P.length := sI_s _ _ _ _
        have F2 : fN5 a σ (uI σ1 a 5 (nI P.length)) := fN5_trans F1 (uI_N5 ha ha2 (Or.inl rfl))
        generalize uI σ1 a 5 (nI P.length) = σ2 at *
        have key := C_tx_L (U := U) (a := a) (v2 := t) (qt := c) (K := fun σ29 => x_X7_readText_160 U 1095 (some a) (nI t) σ29) hU4 hSl hc (by omega) 701 (p + 1) U P σ2 (by omega) (by omega) (by omega) (by omega) R2 P2 a42
        obtain ⟨k1, k2⟩ := key
        cases htx : txS S c 701 (p + 1) with
        | none =>
          simp only
          rcases k1 htx with ⟨τ, t1, t2⟩ | ⟨τ, P', t1, t2, t3, t4⟩
          · exact ⟨τ, t1, fN5_trans F2 (fU_N5 ha ha2 t2), fun x q z => by cases z⟩
          · rw [t1]
            unfold x_X7_readText_160 x_X7_readText_193
            have R3 := fU_RB1 R2 t2
            have R4 : RB (uI τ a 6 (nI P'.length)) 1 S 0 := R3.sm (sm_uI (by omega)) (sm_uI (by omega))
            have e4 : sI (uI τ a 6 (nI P'.length)) 1095 4 = nI S.length := (sI_o (Or.inl (by omega))).trans t3
            rw [X0_size t4, b1_eq, ck_eq hsh, sb_eq, X0_size R4, b1_eq, e4, if_neg (show ¬ nI S.length < nI S.length from fun z => by have := (ltI (by omega) (by omega)).mp z; omega), sb_eq, if_pos (show (0 : Int32) = 0 from rfl)]
            exact ⟨_, rfl, fN5_trans F2 (fN5_trans (fU_N5 ha ha2 t2) (fN5_trans (uI_N5 ha ha2 (Or.inr rfl)) (fU_N5 ha ha2 (fT_fU fT_u)))), fun x q z => by cases z⟩
        | some y =>
          obtain ⟨x, q⟩ := y
          obtain ⟨τ, t1, t2, t3, t4, t5, t6, t7⟩ := k2 x q htx
          simp only
          rw [t1]
          unfold x_X7_readText_160
          have R3 := fU_RB1 R2 t2
          have R4 : RB (uI τ a 6 (nI (P ++ x).length)) 1 S 0 := R3.sm (sm_uI (by omega)) (sm_uI (by omega))
          have e4 : sI (uI τ a 6 (nI (P ++ x).length)) 1095 4 = nI (q - 1) := (sI_o (Or.inl (by omega))).trans t3
          have T4 : RB (uI τ a 6 (nI (P ++ x).length)) 1092 (P ++ x) 0 := t4.sm (sm_uI (by omega)) (sm_uI (by omega))
          have a53 : sI (uI τ a 6 (nI (P ++ x).length)) a 5 = nI P.length := (sI_o (Or.inr (by decide))).trans (((t2.1 a (by omega) (by omega) (by omega)) 5).1.trans a5)
          have a63 : sI (uI τ a 6 (nI (P ++ x).length)) a 6 = nI (P ++ x).length := sI_s _ _ _ _
          rw [X0_size t4, b1_eq, ck_eq hsh, sb_eq, X0_size R4, b1_eq, e4, if_pos (show nI (q - 1) < nI S.length from (ltI (by omega) (by omega)).mpr (by omega))]
          have F4 : fN5 a σ (uI τ a 6 (nI (P ++ x).length)) := fN5_trans F2 (fN5_trans (fU_N5 ha ha2 t2) (uI_N5 ha ha2 (Or.inr rfl)))
          generalize uI τ a 6 (nI (P ++ x).length) = σ4 at *
          unfold x_X7_readText_193
          rw [sb_eq, e4, nI_1, show q - 1 + 1 = q by omega, if_neg (show ¬ (1 : Int32) = 0 by decide)]
          have T5 := RB_fT T4 (fT_u (v := nI q)) (by decide) (by decide)
          have b5 : sI (uI σ4 1095 4 (nI q)) a 5 = nI P.length := (sI_o (Or.inl (by omega))).trans a53
          have b6 : sI (uI σ4 1095 4 (nI q)) a 6 = nI (P ++ x).length := (sI_o (Or.inl (by omega))).trans a63
          have b4 : sI (uI σ4 1095 4 (nI q)) 1095 4 = nI q := sI_s _ _ _ _
          have F5 : fN5 a σ (uI σ4 1095 4 (nI q)) := fN5_trans F4 (fU_N5 ha ha2 (fT_fU fT_u))
          generalize uI σ4 1095 4 (nI q) = σ5 at *
          have e11 : nI t = 11 ↔ t = 11 := nI_eq (b := 11) (by omega) (by decide)
          have h9 := List.length_append (as := P) (bs := x)
          rw [ifd e11, ck_eq hsh, b5, b6, X0_isUtf8 (U := U) hU4 T5 (by omega) (Nat.le_refl _), b1_eq, ifz, h9, u8_pre]
          by_cases q11 : t = 11
          · rw [if_pos q11]
            cases hu8 : u8T x 0 x.length with
            | true =>
              rw [if_pos (show true = true from rfl), if_neg (fun z => by cases z.2)]
              refine ⟨σ5, rfl, F5, fun x' q' z => ?_⟩
              cases z
              exact ⟨b4, T5, b5, b6, by omega, t6, t7⟩
            | false =>
              rw [if_neg (show ¬ false = true by decide), if_pos ⟨q11, rfl⟩]
              exact ⟨σ5, rfl, F5, fun x' q' z => by cases z⟩
          · rw [if_neg q11, if_neg (fun z => q11 z.1)]
            refine ⟨σ5, rfl, F5, fun x' q' z => ?_⟩
            cases z
            exact ⟨b4, T5, b5, b6, by omega, t6, t7⟩
      rw [if_pos cq]
      rcases cq with z | z
      · rw [if_pos z]; exact go
      · rw [if_neg (by omega), if_pos z]; exact go
    · rw [if_neg cq, if_neg (fun z => cq (Or.inl z)), if_neg (fun z => cq (Or.inr z))]
      exact ⟨σ, rfl, f0, fun x q z => by cases z⟩
def bvS (S : List Nat) (p : Nat) : Option (Int64 × Nat) := (fi (slc S p (weS S p)) [[102, 97, 108, 115, 101], [116, 114, 117, 101]] 0).map (fun i => (lN i, weS S p))
theorem t12 : tby.getD 12 [] = jn [[102, 97, 108, 115, 101], [116, 114, 117, 101]] := by decide
theorem C_rbool {U p : Nat} {S : List Nat} {σ : SG} (hU4 : 4000 < U) (hSl : S.length ≤ 700) (hp : p ≤ S.length) (hR : RB σ 1 S 0) (h4 : sI σ 1095 4 = nI p) : RNo σ (bvS S p) (x_X7_readBool U 1095 σ) := by
  unfold x_X7_readBool bvS
  obtain ⟨τ, t1, t2, t3⟩ := C_skipW (U := U) hU4 hSl hp hR h4
  obtain ⟨w1, w2⟩ := weS_le hp
  have hwI := X0_wordIn (U := U) (k := 12) hU4 (RB_fT hR t3 (by decide) (by decide)) (by decide) w1 w2
  rw [t12, wI_fi _ 0 (by decide) (by decide)] at hwI
  have hsl : (S.drop p).take (weS S p - p) = slc S p (weS S p) := rfl
  rw [hsl] at hwI
  rw [t1, b1_eq, h4, t2, hwI, b1_eq, sb_eq, sL_s]
  have hfi : ∀ i, fi (slc S p (weS S p)) [[102, 97, 108, 115, 101], [116, 114, 117, 101]] 0 = some i → i ≤ 1 := by
    intro i h
    unfold fi at h
    split at h
    · cases h; omega
    · unfold fi at h
      split at h
      · cases h; omega
      · cases h
  cases hf : fi (slc S p (weS S p)) [[102, 97, 108, 115, 101], [116, 114, 117, 101]] 0 with
  | none =>
    rw [if_pos (show Int32.toInt64 (oI none) < 0 by decide)]
    exact RNo_no (fT_trans t3 fT_L)
  | some i =>
    have hi := hfi i hf
    rw [if_neg (show ¬ Int32.toInt64 (oI (some i)) < 0 from (by decide +kernel : ∀ i, i < 2 → ¬ Int32.toInt64 (oI (some i)) < 0) i (by omega))]
    refine ⟨_, rfl, fT_trans t3 fT_L, fun v q z => ?_⟩
    cases z
    refine ⟨?_, t2⟩
    rw [sL_uL, if_pos ⟨rfl, rfl⟩]
    exact nI_l (by omega)
def evS (T : List Nat) (D : List Dc) (e : Nat) (S : List Nat) (p : Nat) : Option (Int64 × Nat) := (vNm T D e (slc S p (weS S p))).map (fun i => (nLi D i, weS S p))
theorem C_rname {U c e p : Nat} {T S : List Nat} {D : List Dc} {y : Dc} {σ : SG} (hU4 : 4000 < U) (hcb : cb c) (hg : GSc T D) (hSl : S.length ≤ 700) (hp : p ≤ S.length) (hC : CS σ c T D) (hR : RB σ 1 S 0) (h4 : sI σ 1095 4 = nI p) (h9 : sP σ 389 4 = some (c + 1)) (he : D[e]? = some y) (h1 : dK y = 1) : RNo σ (evS T D e S p) (x_X7_readEnumName U 1095 (ad c (some e)) σ) := by
  have hc : c = 5 ∨ c = 197 := hcb
  have hl := hg.2.1
  have hel := (List.getElem?_eq_some_iff.mp he).1
  unfold x_X7_readEnumName evS
  obtain ⟨τ, t1, t2, t3⟩ := C_skipW (U := U) hU4 hSl hp hR h4
  obtain ⟨w1, w2⟩ := weS_le hp
  have hC1 : CS τ c T D := CS_sm hC (fun b h1 h2 => t3.1 b (by omega))
  have hR1 := RB_fT hR t3 (by decide) (by decide)
  have h91 : sP τ 389 4 = some (c + 1) := ((t3.1 389 (by decide) 4).2.2).trans h9
  rw [t1, b1_eq, if_neg (show ¬ ad c (some e) = none by intro z; cases z), h91, if_neg (show ¬ some (c + 1) = none by intro z; cases z), ck_eq (show sh (c + 1) = 6 by rcases hc with z | z <;> rw [z] <;> decide), h4, t2, C_called hU4 hcb hg hC1 hR1 w1 w2 hel, b1_eq, vNm_find hg he h1]
  cases hv : vNm T D e (slc S p (weS S p)) with
  | none =>
    rw [if_pos (show ad c none = none from rfl)]
    exact RNo_no t3
  | some i =>
    obtain ⟨d, hd, _⟩ := vNm_some hv
    have hil := (List.getElem?_eq_some_iff.mp hd).1
    have e6 : sL τ (c + 5 + i) 6 = nLi D i := by unfold nLi; rw [hd]; exact (hC1.it hd).1.2.2.2.2.2.2.1
    rw [if_neg (show ¬ ad c (some i) = none by intro z; cases z), ad_some, ck_eq (it_sh hcb (by omega)), e6, sb_eq]
    refine ⟨_, rfl, fT_trans t3 fT_L, fun v q z => ?_⟩
    cases z
    exact ⟨by rw [sL_uL, if_pos ⟨rfl, rfl⟩], t2⟩
/-- a number of a field -/
def nvS (T : List Nat) (D : List Dc) (S : List Nat) (d : Dc) (p : Nat) : Option (Int64 × Nat) := if fty T D d = 10 then bvS S p else if fty T D d = 14 ∧ bP pL S p = true then (match ftg T D d with
  | some e => evS T D e S p
  | none => none) else numS S (fty T D d) p
theorem C_nval {U c f a p : Nat} {T S : List Nat} {D : List Dc} {d : Dc} {σ : SG} (hU4 : 4000 < U) (hcb : cb c) (hg : GSc T D) (hSl : S.length ≤ 700) (hp : p ≤ S.length) (ha : 391 ≤ a) (ha2 : a < 1092) (hC : CS σ c T D) (hR : RB σ 1 S 0) (h4 : sI σ 1095 4 = nI p) (h9 : sP σ 389 4 = some (c + 1)) (hd : D[f]? = some d) (h2 : dK d = 2) (hnm : nmr (fty T D d) = true) : ∃ υ, x_X7_readValue U 1095 (some a) (ad c (some f)) σ = some (zI (nvS T D S d p).isSome, uL υ a 4 (sL υ 1095 6)) ∧ fT σ υ ∧ ∀ v q, nvS T D S d p = some (v, q) → sL υ 1095 6 = v ∧ sI υ 1095 4 = nI q := by
  have hl := hg.2.1
  have hfl := (List.getElem?_eq_some_iff.mp hd).1
  have hft : fty T D d ≤ 14 := dTy_lt (hg.fld hd h2).2.2.2.1
  have ety : sI σ (c + 5 + f) 8 = nI (fty T D d) := (hC.it hd).2.1
  have etg : sP σ (c + 5 + f) 10 = ad c (ftg T D d) := (hC.it hd).2.2.1
  have hsh : sh a = 4 := nd_sh ha ha2
  have e10 : nI (fty T D d) = 10 ↔ fty T D d = 10 := nI_eq (b := 10) (by omega) (by decide)
  have e14 : nI (fty T D d) = 14 ↔ fty T D d = 14 := nI_eq (b := 14) (by omega) (by decide)
  have hsh3 : sh (c + 5 + f) = 3 := it_sh hcb (by omega)
  unfold x_X7_readValue x_X7_readValue_75 x_X7_readValue_84 nvS
  simp only [ad_some, ck_eq hsh3, ck_eq hsh, ety]
  rw [X11_isNumeric (by omega), b1_eq, ifz, hnm, if_pos (show true = true from rfl), ifd e10, ifd e14, h4, X0_at hR (by omega), b1_eq, W_isLetter hR.2.2.2.2, b1_eq, ifz, etg]
  have fin : ∀ (o : Option (Int64 × Nat)) (x : Option (Int32 × SG)), RNo σ o x → ∃ υ, (b2 x fun v13 σ14 => sb (uL σ14 a 4 (sL σ14 1095 6)) fun σ18 => zb v13 <| some (v13, σ18)) = some (zI o.isSome, uL υ a 4 (sL υ 1095 6)) ∧ fT σ υ ∧ ∀ v q, o = some (v, q) → sL υ 1095 6 = v ∧ sI υ 1095 4 = nI q := by
    rintro o x ⟨υ, u1, u2, u3⟩
    refine ⟨υ, ?_, u2, u3⟩
    rw [u1, b2_eq, sb_eq, zb_zI]
  by_cases q10 : fty T D d = 10
  · rw [if_pos q10, if_pos q10]
    exact fin _ _ (C_rbool hU4 hSl hp hR h4)
  rw [if_neg q10, if_neg q10]
  have num : ∃ υ, (b2 (x_X7_readNumber U 1095 (nI (fty T D d)) σ) fun v30 σ31 => sb (uL σ31 a 4 (sL σ31 1095 6)) fun σ18 => zb v30 <| some (v30, σ18)) = some (zI (numS S (fty T D d) p).isSome, uL υ a 4 (sL υ 1095 6)) ∧ fT σ υ ∧ ∀ v q, numS S (fty T D d) p = some (v, q) → sL υ 1095 6 = v ∧ sI υ 1095 4 = nI q := fin _ _ (C_number hU4 hSl hft hp hR h4)
  by_cases q14 : fty T D d = 14
  · rw [if_pos q14]
    cases hb : bP pL S p with
    | false => rw [if_neg (show ¬ false = true by decide), if_neg (fun z => by cases z.2)]; exact num
    | true =>
      obtain ⟨e, y, h3, h5, h6⟩ := (ftg_msg hg hd h2).2.1 q14
      rw [if_pos (show true = true from rfl), if_pos ⟨q14, rfl⟩, h3]
      exact fin _ _ (C_rname hU4 hcb hg hSl hp hC hR h4 h9 h5 h6)
  · rw [if_neg q14, if_neg (fun z => q14 z.1)]
    exact num
