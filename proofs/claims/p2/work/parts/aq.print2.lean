/-! ===== the class prints numbers and texts ===== -/
theorem RI_app {σ : SG} {r : Nat} {K : List Nat} {c : Nat} {v : Int32} (h : RI σ r K) (hv : v = nI c) : RI (uI σ r K.length v) r (K ++ [c]) := by
  intro i x hi
  rcases Nat.lt_or_ge i K.length with q | q
  · rw [List.getElem?_append_left q] at hi
    rw [sI_o (Or.inr (by omega))]
    exact h i x hi
  · have hl := (List.getElem?_eq_some_iff.mp hi).1
    rw [List.length_append, List.length_singleton] at hl
    have : i = K.length := by omega
    subst this
    rw [List.getElem?_append_right (Nat.le_refl _), Nat.sub_self] at hi
    cases hi
    rw [sI_s, hv]
theorem C_dec_L {U : Nat} {k63 : Int32 → SG → Option SG} : ∀ (j u U1 : Nat) (K : List Nat) (σ : SG), K.length + j = 20 → 1 ≤ j → u < 10 ^ j → u < 2 ^ 64 → j < U1 → RI σ 1096 K → ∃ τ, x_X7_writeDecimal_L5 U 1095 k63 U1 (lN u) (nI K.length) σ = k63 (nI (K ++ dgN j u).length) τ ∧ RI τ 1096 (K ++ dgN j u) ∧ ∀ b, b ≠ 1096 → sm σ τ b := by
  intro j
  induction j with
  | zero => intro u U1 K σ _ h; omega
  | succ j ih =>
    intro u U1 K σ hK _ hu hu6 hU hR
    obtain ⟨V, rfl⟩ : ∃ V, U1 = V + 1 := ⟨U1 - 1, by omega⟩
    have e20 : nI K.length < 20 := (ltI (b := 20) (by omega) (by decide)).mpr (by omega)
    have hd : vp_nar .byte (i2b (nI (u % 10))) = nI (u % 10) := (by decide +kernel : ∀ m, m < 10 → vp_nar .byte (i2b (nI m)) = nI m) _ (by omega)
    have hlt : u / 10 < 2 ^ 64 := by omega
    have R1 := RI_app (c := u % 10) (v := nI (u % 10)) hR rfl
    have S1 : ∀ b, b ≠ 1096 → sm σ (uI σ 1096 K.length (nI (u % 10))) b := fun b hb => sm_uI hb
    rw [x_X7_writeDecimal_L5, if_pos e20, ix_in (by omega) (by decide), half5 hu6, digN hu6, hd, sb_eq, nI_1, dgN]
    unfold x_X7_writeDecimal_44
    rw [ifd (lN_zero hlt)]
    by_cases q : u / 10 = 0
    · rw [if_pos q, if_pos q]
      exact ⟨_, by rw [List.length_append, List.length_singleton], R1, S1⟩
    · rw [if_neg q, if_neg q]
      have hj : 1 ≤ j := by
        rcases Nat.eq_zero_or_pos j with z | z
        · subst z; omega
        · exact z
      have e20' : nI (K.length + 1) < 20 := (ltI (b := 20) (by omega) (by decide)).mpr (by omega)
      rw [if_pos e20']
      have hu' : u / 10 < 10 ^ j := by
        rw [Nat.pow_succ] at hu
        exact Nat.div_lt_of_lt_mul (by rw [Nat.mul_comm]; exact hu)
      obtain ⟨τ, t1, t2, t3⟩ := ih (u / 10) V (K ++ [u % 10]) _ (by rw [List.length_append, List.length_singleton]; omega) hj hu' hlt (by omega) R1
      rw [List.length_append, List.length_singleton] at t1
      have e : K ++ [u % 10] ++ dgN j (u / 10) = K ++ u % 10 :: dgN j (u / 10) := by rw [List.append_assoc]; rfl
      rw [e] at t1 t2
      exact ⟨τ, t1, t2, fun b hb => sm_trans (S1 b hb) (t3 b hb)⟩
/-- a writer that touches OUT alone -/
def WB (w : List Nat × Int32) (B : List Nat) (σ : SG) (x : Option SG) : Prop := ∃ τ, x = some τ ∧ RW τ 3 (wrL 4000 w B) ∧ fb 3 σ τ
theorem WB_WR {w : List Nat × Int32} {B : List Nat} {σ : SG} {x : Option SG} (h : WB w B σ x) : WR w B σ x := by
  obtain ⟨τ, t1, t2, t3⟩ := h
  exact ⟨τ, t1, t2, fb_fp3 t3⟩
theorem WB_addc {w : List Nat × Int32} {σ : SG} {c : Nat} (hc : c < 256) (h : RW σ 3 w) : WB w [c] σ (x_X0_add 3 (nI c) σ) := by
  obtain ⟨τ, t1, t2, t3⟩ := X0_addW (x := nI c) h
  rw [ln4, lo8_nI hc] at t2
  exact ⟨τ, t1, t2, t3⟩
theorem WB_b1 {w : List Nat × Int32} {B C : List Nat} {σ : SG} {x : Option SG} {k : SG → Option SG} (h : WB w B σ x) (hk : ∀ τ, RW τ 3 (wrL 4000 w B) → fb 3 σ τ → WB (wrL 4000 w B) C τ (k τ)) : WB w (B ++ C) σ (b1 x k) := by
  obtain ⟨τ, t1, t2, t3⟩ := h
  obtain ⟨υ, u1, u2, u3⟩ := hk τ t2 t3
  rw [t1, b1_eq]
  exact ⟨υ, u1, by rw [wrL_app]; exact u2, fb_trans t3 u3⟩
theorem C_dec_W {U : Nat} : ∀ (n U1 : Nat) (K : List Nat) (σ : SG) (w : List Nat × Int32), K.length = n → n ≤ 20 → n < U1 → (∀ c ∈ K, c < 10) → RI σ 1096 K → RW σ 3 w → WB w (K.map (fun c => 48 + c)).reverse σ (x_X7_writeDecimal_L69 U 1095 U1 (nI n - 1) σ) := by
  intro n
  induction n with
  | zero =>
    intro U1 K σ w hK _ hU _ hR hw
    obtain ⟨V, rfl⟩ : ∃ V, U1 = V + 1 := ⟨U1 - 1, by omega⟩
    have : K = [] := List.length_eq_zero_iff.mp hK
    subst this
    rw [x_X7_writeDecimal_L69, if_pos (by decide)]
    exact ⟨σ, rfl, hw, fb_refl _ σ⟩
  | succ n ih =>
    intro U1 K σ w hK hn hU hlt hR hw
    obtain ⟨V, rfl⟩ : ∃ V, U1 = V + 1 := ⟨U1 - 1, by omega⟩
    have hne : K ≠ [] := fun z => by rw [z] at hK; cases hK
    obtain ⟨K', c, rfl⟩ : ∃ K' c, K = K' ++ [c] := ⟨K.dropLast, K.getLast hne, (List.dropLast_concat_getLast hne).symm⟩
    rw [List.length_append, List.length_singleton] at hK
    have hl : K'.length = n := by omega
    have hc := hlt c (by simp)
    have e1 : nI (n + 1) - 1 = nI n := nI_sub (b := 1) (by omega)
    have hrd : sI σ 1096 n = nI c := hR n c (by rw [List.getElem?_append_right (by omega), hl, Nat.sub_self]; rfl)
    have e48 : (48 : Int32) + nI c = nI (48 + c) := nI_add 48 c
    rw [x_X7_writeDecimal_L69, e1, if_neg (nI_neg (by omega)), if_pos (show nI n < 20 from (ltI (b := 20) (by omega) (by decide)).mpr (by omega)), ix_in (by omega) (by decide), hrd, e48, List.map_append, List.reverse_append]
    refine WB_b1 (B := [48 + c]) (WB_addc (by omega) hw) (fun τ t2 t3 => ?_)
    refine ih V K' τ _ hl (by omega) (by omega) (fun x hx => hlt x (List.mem_append_left _ hx)) (fun i x hi => ?_) t2
    rw [(t3 1096 (by decide) (by decide) i).1]
    exact hR i x (by rw [List.getElem?_append_left (List.getElem?_eq_some_iff.mp hi).1]; exact hi)
theorem C_dec {U : Nat} {σ : SG} {w : List Nat × Int32} {x : Int64} (hU4 : 4000 < U) (hw : RW σ 3 w) : WR w (dcB x) σ (x_X7_writeDecimal U 1095 x σ) := by
  unfold x_X7_writeDecimal
  obtain ⟨τ, t1, t2, t3⟩ := C_dec_L (U := U) (k63 := fun w10 σ11 => x_X7_writeDecimal_63 U 1095 w10 σ11) 20 (uN x) U [] σ rfl (by decide) (Nat.lt_trans (uN_lt x) (by decide)) (uN_lt x) (by omega) (fun i c hi => by simp at hi)
  rw [lN_uN] at t1
  have t1' : x_X7_writeDecimal_L5 U 1095 (fun w10 σ11 => x_X7_writeDecimal_63 U 1095 w10 σ11) U x 0 σ = _ := t1
  rw [t1']
  rw [List.nil_append] at t2 ⊢
  have hl := dgN_len 20 (uN x)
  have hw' : RW τ 3 w := RB.sm hw (t3 3 (by decide)) (t3 4 (by decide))
  obtain ⟨υ, u1, u2, u3⟩ := C_dec_W (U := U) (dgN 20 (uN x)).length U _ τ w rfl hl (by omega) (dgN_lt 20 _) t2 hw'
  exact ⟨υ, u1, u2, fun b h1 h2 h3 => sm_trans (t3 b h3) (u3 b h1 h2)⟩
/-- a byte of a text -/
def esB (c : Nat) : List Nat := if c = 10 then [92, 110] else if c = 13 then [92, 114] else if c = 9 then [92, 116] else if c = 34 then [92, 34] else if c = 92 then [92, 92] else if c < 32 ∨ 126 < c then [92, 48 + c / 64, 48 + c / 8 % 8, 48 + c % 8] else [c]
def txB (t : List Nat) : List Nat := 34 :: (t.flatMap esB ++ [34])
theorem oct6 : ∀ c, c < 256 → (48 : Int32) + ((iush (nI c) 6) &&& 7) = nI (48 + c / 64) := by decide +kernel
theorem oct3 : ∀ c, c < 256 → (48 : Int32) + ((iush (nI c) 3) &&& 7) = nI (48 + c / 8 % 8) := by decide +kernel
theorem oct0 : ∀ c, c < 256 → (48 : Int32) + ((nI c) &&& 7) = nI (48 + c % 8) := by decide +kernel
theorem C_txc {U c : Nat} {σ : SG} {w : List Nat × Int32} (hU4 : 4000 < U) (hc : c < 256) (hw : RW σ 3 w) : WB w (esB c) σ (x_X7_writeTextByte U 1095 (nI c) σ) := by
  unfold x_X7_writeTextByte
  generalize hk64 : x_X7_writeTextByte_64 U 1095 (nI c) σ = k64
  have two : ∀ (y : Nat) (j : Nat), y < 256 → j < 6 → tchr 10 j = nI y → WB w [92, y] σ (b1 (x_X0_add 3 92 σ) fun σ11 => ix (nI j) (tlen 10) fun j12 => b1 (x_X0_add 3 (tchr 10 j12) σ11) fun σ17 => some σ17) := by
    intro y j hy hj ht
    refine WB_b1 (B := [92]) (WB_addc (c := 92) (by decide) hw) (fun τ t2 t3 => ?_)
    rw [show tlen 10 = 6 from by decide, ix_in hj (by decide), ht, b1_id]
    exact WB_addc hy t2
  obtain ⟨V, hV⟩ : ∃ V, U = V + 6 := ⟨U - 6, by omega⟩
  have go : ∀ (k35 : Int32 → Option SG), (c = 10 → WB w (esB c) σ (k35 (nI 0))) → (c = 13 → WB w (esB c) σ (k35 (nI 1))) → (c = 9 → WB w (esB c) σ (k35 (nI 2))) → (c = 34 → WB w (esB c) σ (k35 (nI 3))) → (c = 92 → WB w (esB c) σ (k35 (nI 4))) → (c ≠ 10 → c ≠ 13 → c ≠ 9 → c ≠ 34 → c ≠ 92 → WB w (esB c) σ k64) → WB w (esB c) σ (x_X7_writeTextByte_L2 U 1095 k35 k64 (nI c) σ (V + 6) (nI 0)) := by
    intro k35 g0 g1 g2 g3 g4 g5
    have step : ∀ (j W e : Nat), j < 5 → tchr 11 j = nI e → e < 256 → (c = e → WB w (esB c) σ (k35 (nI j))) → (c ≠ e → WB w (esB c) σ (x_X7_writeTextByte_L2 U 1095 k35 k64 (nI c) σ W (nI (j + 1)))) → WB w (esB c) σ (x_X7_writeTextByte_L2 U 1095 k35 k64 (nI c) σ (W + 1) (nI j)) := by
      intro j W e hj ht he h1 h2
      rw [x_X7_writeTextByte_L2, if_pos (show nI j < 5 from (ltI (b := 5) (by omega) (by decide)).mpr hj), show tlen 11 = 6 from by decide, show tlen 10 = 6 from by decide, if_pos ((ltI (by omega) (by decide)).mpr (by omega)), if_pos ((ltI (by omega) (by decide)).mpr (by omega)), ix_in (by omega) (by decide), ht, nI_1]
      by_cases q : c = e
      · rw [if_pos (by rw [q])]; exact h1 q
      · rw [if_neg (fun z => q ((nI_eq (by omega) (by omega)).mp z).symm)]; exact h2 q
    refine step 0 (V + 5) 10 (by decide) (by decide) (by decide) g0 (fun n0 => ?_)
    refine step 1 (V + 4) 13 (by decide) (by decide) (by decide) g1 (fun n1 => ?_)
    refine step 2 (V + 3) 9 (by decide) (by decide) (by decide) g2 (fun n2 => ?_)
    refine step 3 (V + 2) 34 (by decide) (by decide) (by decide) g3 (fun n3 => ?_)
    refine step 4 (V + 1) 92 (by decide) (by decide) (by decide) g4 (fun n4 => ?_)
    rw [x_X7_writeTextByte_L2, if_neg (show ¬ nI 5 < 5 by decide)]
    exact g5 n0 n1 n2 n3 n4
  have := go (fun w9 => b1 (x_X0_add 3 92 σ) fun σ11 => ix w9 (tlen 10) fun j12 => b1 (x_X0_add 3 (tchr 10 j12) σ11) fun σ17 => some σ17)
    (fun q => by rw [q]; exact two 110 0 (by decide) (by decide) (by decide)) (fun q => by rw [q]; exact two 114 1 (by decide) (by decide) (by decide)) (fun q => by rw [q]; exact two 116 2 (by decide) (by decide) (by decide)) (fun q => by rw [q]; exact two 34 3 (by decide) (by decide) (by decide)) (fun q => by rw [q]; exact two 92 4 (by decide) (by decide) (by decide)) (fun n0 n1 n2 n3 n4 => by
      rw [← hk64]
      unfold esB
      rw [if_neg n0, if_neg n1, if_neg n2, if_neg n3, if_neg n4]
      unfold x_X7_writeTextByte_64
      have e32 : nI c < 32 ↔ c < 32 := ltI (b := 32) (by omega) (by decide)
      have e126 : (126 : Int32) < nI c ↔ 126 < c := ltI (a := 126) (by decide) (by omega)
      rw [ifd e32, ifd e126]
      have o : WB w [92, 48 + c / 64, 48 + c / 8 % 8, 48 + c % 8] σ (x_X7_writeTextByte_85 U 1095 (nI c) σ) := by
        unfold x_X7_writeTextByte_85
        refine WB_b1 (B := [92]) (WB_addc (c := 92) (by decide) hw) (fun τ t2 t3 => ?_)
        rw [oct6 c hc]
        refine WB_b1 (B := [48 + c / 64]) (WB_addc (by omega) t2) (fun τ t2 t3 => ?_)
        rw [oct3 c hc]
        refine WB_b1 (B := [48 + c / 8 % 8]) (WB_addc (by omega) t2) (fun τ t2 t3 => ?_)
        rw [oct0 c hc, b1_id]
        exact WB_addc (by omega) t2
      by_cases q1 : c < 32
      · rw [if_pos q1, if_pos (Or.inl q1)]; exact o
      rw [if_neg q1]
      by_cases q2 : 126 < c
      · rw [if_pos q2, if_pos (Or.inr q2)]; exact o
      rw [if_neg q2, if_neg (fun z => z.elim q1 q2), b1_id]
      exact WB_addc hc hw)
  rw [← hV] at this
  exact this
theorem C_ptxt_L {U p b : Nat} {K : SG → Option SG} {P C : List Nat} (hU4 : 4000 < U) (hsh : sh p = 4) (hp3 : p ≠ 3) (hp4 : p ≠ 4) (hb : b ≤ P.length) (hP8 : ok8 P) (hPl : P.length ≤ 4000) (hK : ∀ τ w', RW τ 3 w' → WB w' C τ (K τ)) : ∀ (j k U1 : Nat) (σ : SG) (w : List Nat × Int32), k + j = b → j < U1 → sI σ p 6 = nI b → RB σ 1092 P 0 → RW σ 3 w → WB w ((slc P k b).flatMap esB ++ C) σ (x_X7_writeText_L14 U 1095 K (some p) U1 (nI k) σ) := by
  intro j
  induction j with
  | zero =>
    intro k U1 σ w hk hu h6 hP hw
    obtain ⟨V, rfl⟩ : ∃ V, U1 = V + 1 := ⟨U1 - 1, by omega⟩
    rw [x_X7_writeText_L14, ck_eq hsh, h6, if_neg (fun z => by have := (ltI (by omega) (by omega)).mp z; omega)]
    have : slc P k b = [] := by unfold slc; rw [show b - k = 0 by omega]; rfl
    rw [this]
    exact hK σ w hw
  | succ j ih =>
    intro k U1 σ w hk hu h6 hP hw
    obtain ⟨V, rfl⟩ : ∃ V, U1 = V + 1 := ⟨U1 - 1, by omega⟩
    have hkl : k < P.length := by omega
    have hc := hP8 _ (List.getElem_mem hkl)
    have e1 : bA P k = nI P[k] := by unfold bA; rw [List.getElem?_eq_getElem hkl]
    have e2 : slc P k b = P[k] :: slc P (k + 1) b := by
      unfold slc
      rw [List.drop_eq_getElem_cons hkl, show b - k = (b - (k + 1)) + 1 by omega, List.take_succ_cons]
    rw [x_X7_writeText_L14, ck_eq hsh, h6, if_pos ((ltI (by omega) (by omega)).mpr (by omega)), X0_at hP (by omega), b1_eq, e1, e2, List.flatMap_cons, List.append_assoc]
    refine WB_b1 (B := esB P[k]) (C_txc hU4 hc hw) (fun τ t2 t3 => ?_)
    rw [nI_1]
    exact ih (k + 1) V τ _ (by omega) (by omega) (((t3 p hp3 hp4) 6).1.trans h6) (RB.fb hP t3 (by unfold apt; omega)) t2
theorem C_ptxt {U p a b : Nat} {σ : SG} {w : List Nat × Int32} {P : List Nat} (hU4 : 4000 < U) (hsh : sh p = 4) (hp3 : p ≠ 3) (hp4 : p ≠ 4) (hab : a ≤ b) (hb : b ≤ P.length) (h5 : sI σ p 5 = nI a) (h6 : sI σ p 6 = nI b) (hP : RB σ 1092 P 0) (hw : RW σ 3 w) : WB w (txB (slc P a b)) σ (x_X7_writeText U 1095 (some p) σ) := by
  have hPl : P.length ≤ 4000 := Nat.le_trans hP.2.2.1 (ln_small _)
  unfold x_X7_writeText txB
  refine WB_b1 (B := [34]) (WB_addc (c := 34) (by decide) hw) (fun τ t2 t3 => ?_)
  rw [ck_eq hsh, ((t3 p hp3 hp4) 5).1, h5]
  exact C_ptxt_L hU4 hsh hp3 hp4 hb hP.2.2.2.2 hPl (fun υ w' hw' => by rw [b1_id]; exact WB_addc (c := 34) (by decide) hw') (b - a) a U τ _ (by omega) (by omega) (((t3 p hp3 hp4) 6).1.trans h6) (RB.fb hP t3 (by unfold apt; omega)) t2
