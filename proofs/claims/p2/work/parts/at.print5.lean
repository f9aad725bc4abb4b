/-! ===== the reference's small writers of a print ===== -/
/-- only OUT and the digits are touched -/
def Pfw (b k : Nat) : Prop := (b = 1101 ∧ (k = 3 ∨ k = 4)) ∨ b = 1103 ∨ b = 1180
theorem fw_Pfw {σ τ : SG} (h : fw σ τ) : fP Pfw σ τ := fun b k hb => by
  by_cases q : b = 1101
  · subst q
    have : k ∉ [3, 4] := by unfold Pfw at hb; simp; omega
    exact ⟨h.2.1 k this, h.2.2.1 k, h.2.2.2 k⟩
  · exact h.1 b q (fun z => hb (by unfold Pfw; omega)) k
def WN (w : List Nat × Int32) (B : List Nat) (σ : SG) (x : Option SG) : Prop := ∃ τ, x = some τ ∧ ROr τ (wrL 4000 w B) ∧ fP Pfw σ τ
theorem WN_b1 {w : List Nat × Int32} {B C : List Nat} {σ : SG} {x : Option SG} {k : SG → Option SG} (h : WN w B σ x) (hk : ∀ τ, ROr τ (wrL 4000 w B) → fP Pfw σ τ → WN (wrL 4000 w B) C τ (k τ)) : WN w (B ++ C) σ (b1 x k) := by
  obtain ⟨τ, t1, t2, t3⟩ := h
  obtain ⟨υ, u1, u2, u3⟩ := hk τ t2 t3
  rw [t1, b1_eq]
  exact ⟨υ, u1, by rw [wrL_app]; exact u2, fP_trans t3 u3⟩
theorem WN_nil {w : List Nat × Int32} {σ : SG} (h : ROr σ w) : WN w [] σ (some σ) := ⟨σ, rfl, h, fP_refl _ σ⟩
theorem N_put1 {w : List Nat × Int32} {σ : SG} {c : Nat} (h : ROr σ w) : WN w [c] σ (x_X12_put 1101 (nI c) σ) := by
  obtain ⟨τ, t1, t2, t3⟩ := X12_put (c := c) h
  exact ⟨τ, t1, t2, fw_Pfw t3⟩
theorem N_blanks_L {U n : Nat} (hn : n < 1000) : ∀ (j k U1 : Nat) (σ : SG) (w : List Nat × Int32), k + j = n → j < U1 → ROr σ w → WN w (List.replicate j 32) σ (x_X12_blanks_L2 U 1101 (nI n) U1 (nI k) σ) := by
  intro j
  induction j with
  | zero =>
    intro k U1 σ w hk hu hw
    obtain ⟨V, rfl⟩ : ∃ V, U1 = V + 1 := ⟨U1 - 1, by omega⟩
    rw [x_X12_blanks_L2, if_neg (fun z => by have := (ltI (by omega) (by omega)).mp z; omega)]
    exact WN_nil hw
  | succ j ih =>
    intro k U1 σ w hk hu hw
    obtain ⟨V, rfl⟩ : ∃ V, U1 = V + 1 := ⟨U1 - 1, by omega⟩
    rw [x_X12_blanks_L2, if_pos ((ltI (by omega) (by omega)).mpr (by omega)), List.replicate_succ]
    refine WN_b1 (B := [32]) (N_put1 hw) (fun τ t2 t3 => ?_)
    rw [nI_1]
    exact ih (k + 1) V τ _ (by omega) (by omega) t2
theorem N_blanks {U dp : Nat} {σ : SG} {w : List Nat × Int32} (hU4 : 4000 < U) (hd : dp < 100) (hw : ROr σ w) : WN w (inB (dp + 1)) σ (x_X12_blanks U 1101 (2 * nI dp) σ) := by
  have := N_blanks_L (U := U) (n := 2 * dp) (by omega) (2 * dp) 0 U σ w (by omega) (by omega) hw
  have e : (2 : Int32) * nI dp = nI (2 * dp) := pk_mul 2 dp
  unfold x_X12_blanks
  rw [e]
  exact this
theorem N_name_L {U q : Nat} {N : List Nat} (hq : q + N.length ≤ 1200) : ∀ (j k U1 : Nat) (σ : SG) (w : List Nat × Int32), k + j = N.length → j < U1 → NMs σ q N → ROr σ w → WN w (N.drop k) σ (x_X12_putName_L2 U 1101 (nI q) (nI N.length) U1 (nI k) σ) := by
  intro j
  induction j with
  | zero =>
    intro k U1 σ w hk hu hN hw
    obtain ⟨V, rfl⟩ : ∃ V, U1 = V + 1 := ⟨U1 - 1, by omega⟩
    rw [x_X12_putName_L2, if_neg (fun z => by have := (ltI (by omega) (by omega)).mp z; omega), List.drop_eq_nil_of_le (by omega)]
    exact WN_nil hw
  | succ j ih =>
    intro k U1 σ w hk hu hN hw
    obtain ⟨V, rfl⟩ : ∃ V, U1 = V + 1 := ⟨U1 - 1, by omega⟩
    have hkl : k < N.length := by omega
    rw [x_X12_putName_L2, if_pos ((ltI (by omega) (by omega)).mpr (by omega)), nI_add, ix_in (by omega) (by decide), hN k _ (List.getElem?_eq_getElem hkl), List.drop_eq_getElem_cons hkl]
    refine WN_b1 (B := [N[k]]) (N_put1 hw) (fun τ t2 t3 => ?_)
    rw [nI_1]
    exact ih (k + 1) V τ _ (by omega) (by omega) (NMs_keep hN (fun i hi => (t3 1127 _ (by unfold Pfw; omega)).1)) t2
theorem N_putName {U s b j : Nat} {N : List Nat} {σ : SG} {w : List Nat × Int32} (hU4 : 4000 < U) (hs : s < 2) (h : NM σ s b j N) (hw : ROr σ w) : WN w N σ (x_X12_putName U 1101 (sI σ b j) (sI σ (b + 1) j) σ) := by
  obtain ⟨q, h1, h2, h3, h4, h5⟩ := h
  rw [h1, h2]
  exact N_name_L (U := U) (by omega) N.length 0 U σ w (by omega) (by omega) h5 hw
theorem N_word_L {U : Nat} {v : Int64} (hU4 : 4000 < U) : ∀ (j k U1 : Nat) (σ : SG) (w : List Nat × Int32), k + j = lcnt v 8 0 → j < U1 → ROr σ w → WN w ((bw v).drop k) σ (x_X12_putWord_L2 U 1101 v U1 (nI k) σ) := by
  have h8 := lcnt_le v 8 0 rfl
  intro j
  induction j with
  | zero =>
    intro k U1 σ w hk hu hw
    obtain ⟨V, rfl⟩ : ∃ V, U1 = V + 1 := ⟨U1 - 1, by omega⟩
    rw [x_X12_putWord_L2, X12_letters hU4, b1_eq, if_neg (fun z => by have := (ltI (by omega) (by omega)).mp z; omega), List.drop_eq_nil_of_le (by rw [bw_len]; omega)]
    exact WN_nil hw
  | succ j ih =>
    intro k U1 σ w hk hu hw
    obtain ⟨V, rfl⟩ : ∃ V, U1 = V + 1 := ⟨U1 - 1, by omega⟩
    have hkl : k < (bw v).length := by rw [bw_len]; omega
    have hg := bw_get (w := v) (i := k) (by omega)
    rw [List.getElem?_eq_getElem hkl] at hg
    rw [x_X12_putWord_L2, X12_letters hU4, b1_eq, if_pos ((ltI (by omega) (by omega)).mpr (by omega)), X12_letter hU4, b1_eq, List.drop_eq_getElem_cons hkl, Option.some.inj hg]
    refine WN_b1 (B := [lch v k]) (N_put1 hw) (fun τ t2 t3 => ?_)
    rw [nI_1]
    exact ih (k + 1) V τ _ (by omega) (by omega) t2
theorem N_putWord {U : Nat} {v : Int64} {σ : SG} {w : List Nat × Int32} (hU4 : 4000 < U) (hw : ROr σ w) : WN w (bw v) σ (x_X12_putWord U 1101 v σ) := by
  have h8 := lcnt_le v 8 0 rfl
  exact N_word_L (U := U) (v := v) hU4 (lcnt v 8 0) 0 U σ w (by omega) (by omega) hw
theorem bw1 : bw 8315 = [32, 123] := by decide +kernel
theorem bw2 : bw 14880 = [58, 32] := by decide +kernel
theorem bw3 : bw 439721161573 = [102, 97, 108, 115, 101] := by decide +kernel
theorem bw4 : bw 1953658213 = [116, 114, 117, 101] := by decide +kernel
theorem N_dec_L {U : Nat} {k52 : Int32 → SG → Option SG} : ∀ (j u U1 : Nat) (K : List Nat) (σ : SG), K.length + j = 20 → 1 ≤ j → u < 10 ^ j → u < 2 ^ 64 → j + 1 < U1 → (u = 0 → K = []) → RI σ 1180 K → ∃ τ, x_X12_putDecimal_L5 U 1101 k52 U1 (nI K.length) (lN u) σ = k52 (nI (K ++ dgN j u).length) τ ∧ RI τ 1180 (K ++ dgN j u) ∧ ∀ b, b ≠ 1180 → sm σ τ b := by
  intro j
  induction j with
  | zero => intro u U1 K σ _ h; omega
  | succ j ih =>
    intro u U1 K σ hK _ hu hu6 hU h0 hR
    obtain ⟨V, rfl⟩ : ∃ V, U1 = V + 1 := ⟨U1 - 1, by omega⟩
    have hlt : u / 10 < 2 ^ 64 := by omega
    have R1 := RI_app (c := u % 10) (v := nI (u % 10)) hR rfl
    have S1 : ∀ b, b ≠ 1180 → sm σ (uI σ 1180 K.length (nI (u % 10))) b := fun b hb => sm_uI hb
    have ed : Int64.toInt32 (lN u - 10 * lN (u / 10)) = nI (u % 10) := by rw [Int64.mul_comm]; exact digN hu6
    have hz : ∀ (X Y : Option SG), (if lN u = 0 then (if nI K.length = 0 then X else Y) else X) = X := by
      intro X Y
      rw [ifd (lN_zero hu6)]
      by_cases q : u = 0
      · rw [if_pos q, h0 q, if_pos (show nI ([] : List Nat).length = 0 from rfl)]
      · rw [if_neg q]
    rw [x_X12_putDecimal_L5, hz]
    unfold x_X12_putDecimal_16
    rw [ix_in (by omega) (by decide), half5 hu6, ed, sb_eq, nI_1, dgN]
    by_cases q : u / 10 = 0
    · rw [if_pos q]
      obtain ⟨V', rfl⟩ : ∃ V', V = V' + 1 := ⟨V - 1, by omega⟩
      have hne : ¬ nI (K.length + 1) = 0 := fun z => by have := (nI_eq (b := 0) (by omega) (by decide)).mp z; omega
      rw [q, x_X12_putDecimal_L5, if_pos (show lN 0 = 0 from rfl), if_neg hne]
      exact ⟨_, by rw [List.length_append, List.length_singleton], R1, S1⟩
    · rw [if_neg q]
      have hj : 1 ≤ j := by
        rcases Nat.eq_zero_or_pos j with z | z
        · subst z; omega
        · exact z
      have hu' : u / 10 < 10 ^ j := by
        rw [Nat.pow_succ] at hu
        exact Nat.div_lt_of_lt_mul (by rw [Nat.mul_comm]; exact hu)
      obtain ⟨τ, t1, t2, t3⟩ := ih (u / 10) V (K ++ [u % 10]) _ (by rw [List.length_append, List.length_singleton]; omega) hj hu' hlt (by omega) (fun z => absurd z q) R1
      rw [List.length_append, List.length_singleton] at t1
      have e : K ++ [u % 10] ++ dgN j (u / 10) = K ++ u % 10 :: dgN j (u / 10) := by rw [List.append_assoc]; rfl
      rw [e] at t1 t2
      exact ⟨τ, t1, t2, fun b hb => sm_trans (S1 b hb) (t3 b hb)⟩
theorem N_dec_W {U : Nat} : ∀ (n U1 : Nat) (K : List Nat) (σ : SG) (w : List Nat × Int32), K.length = n → n ≤ 20 → n < U1 → RI σ 1180 K → ROr σ w → ∃ τ, x_X12_putDecimal_L57 U 1101 U1 (nI n - 1) σ = some τ ∧ ROr τ (wrL 4000 w (K.map (fun c => 48 + c)).reverse) ∧ fw σ τ := by
  intro n
  induction n with
  | zero =>
    intro U1 K σ w hK _ hU hR hw
    obtain ⟨V, rfl⟩ : ∃ V, U1 = V + 1 := ⟨U1 - 1, by omega⟩
    have : K = [] := List.length_eq_zero_iff.mp hK
    subst this
    rw [x_X12_putDecimal_L57, if_pos (by decide)]
    exact ⟨σ, rfl, hw, fw_refl σ⟩
  | succ n ih =>
    intro U1 K σ w hK hn hU hR hw
    obtain ⟨V, rfl⟩ : ∃ V, U1 = V + 1 := ⟨U1 - 1, by omega⟩
    have hne : K ≠ [] := fun z => by rw [z] at hK; cases hK
    obtain ⟨K', c, rfl⟩ : ∃ K' c, K = K' ++ [c] := ⟨K.dropLast, K.getLast hne, (List.dropLast_concat_getLast hne).symm⟩
    rw [List.length_append, List.length_singleton] at hK
    have hl : K'.length = n := by omega
    have e1 : nI (n + 1) - 1 = nI n := nI_sub (b := 1) (by omega)
    have hrd : sI σ 1180 n = nI c := hR n c (by rw [List.getElem?_append_right (by omega), hl, Nat.sub_self]; rfl)
    have e48 : (48 : Int32) + nI c = nI (48 + c) := nI_add 48 c
    obtain ⟨τ, t1, t2, t3⟩ := X12_put (c := 48 + c) hw
    obtain ⟨υ, u1, u2, u3⟩ := ih V K' τ _ hl (by omega) (by omega) (fun i x hi => by
      rw [(fw_I t3 (by decide) (by omega)).1]
      exact hR i x (by rw [List.getElem?_append_left (List.getElem?_eq_some_iff.mp hi).1]; exact hi)) t2
    rw [x_X12_putDecimal_L57, e1, if_neg (nI_neg (by omega)), ix_in (by omega) (by decide), hrd, e48, t1, b1_eq, List.map_append, List.reverse_append]
    exact ⟨υ, u1, u2, fw_trans t3 u3⟩
theorem N_putDec {U : Nat} {σ : SG} {w : List Nat × Int32} {x : Int64} (hU4 : 4000 < U) (hw : ROr σ w) : WN w (dcB x) σ (x_X12_putDecimal U 1101 x σ) := by
  unfold x_X12_putDecimal
  obtain ⟨τ, t1, t2, t3⟩ := N_dec_L (U := U) (k52 := fun w9 σ10 => x_X12_putDecimal_L57 U 1101 U (w9 - 1) σ10) 20 (uN x) U [] σ rfl (by decide) (Nat.lt_trans (uN_lt x) (by decide)) (uN_lt x) (by omega) (fun _ => rfl) (fun i c hi => by simp at hi)
  rw [lN_uN] at t1
  have t1' : x_X12_putDecimal_L5 U 1101 (fun w9 σ10 => x_X12_putDecimal_L57 U 1101 U (w9 - 1) σ10) U 0 x σ = _ := t1
  rw [t1']
  rw [List.nil_append] at t2 ⊢
  have hl := dgN_len 20 (uN x)
  have hw' : ROr τ w := ⟨(t3 1101 (by decide) 3).1.trans hw.1, (t3 1101 (by decide) 4).1.trans hw.2.1, fun i c hi => (t3 1103 (by decide) i).1.trans (hw.2.2.1 i c hi), hw.2.2.2⟩
  obtain ⟨υ, u1, u2, u3⟩ := N_dec_W (U := U) (dgN 20 (uN x)).length U _ τ w rfl hl (by omega) t2 hw'
  exact ⟨υ, u1, u2, fP_trans (fun b k hb => t3 b (by unfold Pfw at hb; omega) k) (fw_Pfw u3)⟩
theorem noct6 : ∀ c, c < 256 → (48 : Int32) + (ishr9 (nI c) 6) = nI (48 + c / 64) := by decide +kernel
theorem noct3 : ∀ c, c < 256 → (48 : Int32) + ((ishr9 (nI c) 3) &&& 7) = nI (48 + c / 8 % 8) := by decide +kernel
theorem N_txt_L {U a n : Nat} {K : SG → Option SG} {P C : List Nat} (hn : a + n ≤ P.length) (hP8 : ok8 P) (hP : P.length ≤ 700) (hK : ∀ τ w', ROr τ w' → WN w' C τ (K τ)) : ∀ (j k U1 : Nat) (σ : SG) (w : List Nat × Int32), k + j = a + n → j < U1 → RI σ 1175 P → ROr σ w → WN w ((slc P k (a + n)).flatMap esB ++ C) σ (x_X12_putText__L8 U 1101 K (nI a) (nI n) U1 (nI k) σ) := by
  intro j
  induction j with
  | zero =>
    intro k U1 σ w hk hu hR hw
    obtain ⟨V, rfl⟩ : ∃ V, U1 = V + 1 := ⟨U1 - 1, by omega⟩
    rw [x_X12_putText__L8, nI_add, if_neg (fun z => by have := (ltI (by omega) (by omega)).mp z; omega)]
    have : slc P k (a + n) = [] := by unfold slc; rw [show a + n - k = 0 by omega]; rfl
    rw [this]
    exact hK σ w hw
  | succ j ih =>
    intro k U1 σ w hk hu hR hw
    obtain ⟨V, rfl⟩ : ∃ V, U1 = V + 1 := ⟨U1 - 1, by omega⟩
    have hkl : k < P.length := by omega
    have hc := hP8 _ (List.getElem_mem hkl)
    have e2 : slc P k (a + n) = P[k] :: slc P (k + 1) (a + n) := by
      unfold slc
      rw [List.drop_eq_getElem_cons hkl, show a + n - k = (a + n - (k + 1)) + 1 by omega, List.take_succ_cons]
    have hrd := hR k _ (List.getElem?_eq_getElem hkl)
    rw [x_X12_putText__L8, nI_add, if_pos ((ltI (by omega) (by omega)).mpr (by omega)), ix_in (by omega) (by decide), hrd, e2, List.flatMap_cons, List.append_assoc]
    generalize P[k] = c at *
    have go : ∀ τ w', ROr τ w' → fP Pfw σ τ → WN w' ((slc P (k + 1) (a + n)).flatMap esB ++ C) τ (x_X12_putText__176 U 1101 (x_X12_putText__L8 U 1101 K (nI a) (nI n) V) K (nI a) (nI n) (nI k) τ) := by
      intro τ w' hw' hf
      unfold x_X12_putText__176
      rw [nI_1]
      exact ih (k + 1) V τ w' (by omega) (by omega) (fun i x hi => (hf 1175 i (by unfold Pfw; omega)).1.trans (hR i x hi)) hw'
    have e10 : nI c = 10 ↔ c = 10 := nI_eq (b := 10) (by omega) (by decide)
    have e13 : nI c = 13 ↔ c = 13 := nI_eq (b := 13) (by omega) (by decide)
    have e9 : nI c = 9 ↔ c = 9 := nI_eq (b := 9) (by omega) (by decide)
    have e34 : nI c = 34 ↔ c = 34 := nI_eq (b := 34) (by omega) (by decide)
    have e92 : nI c = 92 ↔ c = 92 := nI_eq (b := 92) (by omega) (by decide)
    have e32 : nI c < 32 ↔ c < 32 := ltI (b := 32) (by omega) (by decide)
    have e126 : (126 : Int32) < nI c ↔ 126 < c := ltI (a := 126) (by decide) (by omega)
    unfold x_X12_putText__58 x_X12_putText__103
    unfold x_X12_putText__132
    rw [ifd e10, ifd e13, ifd e9, ifd e34, ifd e92, ifd e32, ifd e126]
    -- an escaped byte
    have two : ∀ (y : Nat) (F : SG → Option SG), (∀ τ, F τ = b1 (x_X12_put 1101 (nI y) τ) fun σ13 => x_X12_putText__176 U 1101 (x_X12_putText__L8 U 1101 K (nI a) (nI n) V) K (nI a) (nI n) (nI k) σ13) → WN w ([92, y] ++ ((slc P (k + 1) (a + n)).flatMap esB ++ C)) σ (b1 (x_X12_put 1101 92 σ) F) := by
      intro y F hF
      rw [show [92, y] = [92] ++ [y] from rfl, List.append_assoc]
      refine WN_b1 (B := [92]) (N_put1 (c := 92) hw) (fun τ t2 t3 => ?_)
      rw [hF]
      refine WN_b1 (B := [y]) (N_put1 t2) (fun υ u2 u3 => ?_)
      exact go υ _ u2 (fP_trans t3 u3)
    have eb : esB c = if c = 10 then [92, 110] else if c = 13 then [92, 114] else if c = 9 then [92, 116] else if c = 34 then [92, 34] else if c = 92 then [92, 92] else if c < 32 ∨ 126 < c then [92, 48 + c / 64, 48 + c / 8 % 8, 48 + c % 8] else [c] := rfl
    rw [eb]
    by_cases q10 : c = 10
    · rw [if_pos q10, if_pos q10]
      exact two 110 _ (fun τ => by rw [if_pos (e10.mpr q10)]; rfl)
    rw [if_neg q10, if_neg q10]
    by_cases q13 : c = 13
    · rw [if_pos q13, if_pos q13]
      exact two 114 _ (fun τ => by rw [if_neg (fun z => q10 (e10.mp z)), if_pos (e13.mpr q13)]; rfl)
    rw [if_neg q13, if_neg q13]
    by_cases q9 : c = 9
    · rw [if_pos q9, if_pos q9]
      exact two 116 _ (fun τ => by rw [if_neg (fun z => q10 (e10.mp z)), if_neg (fun z => q13 (e13.mp z)), if_pos (e9.mpr q9)]; rfl)
    rw [if_neg q9, if_neg q9]
    by_cases q34 : c = 34
    · rw [if_pos q34, if_pos q34]
      exact two 34 _ (fun τ => by rw [if_neg (fun z => q10 (e10.mp z)), if_neg (fun z => q13 (e13.mp z)), if_neg (fun z => q9 (e9.mp z)), q34])
    rw [if_neg q34, if_neg q34]
    by_cases q92 : c = 92
    · rw [if_pos q92, if_pos q92]
      exact two 92 _ (fun τ => by rw [if_neg (fun z => q10 (e10.mp z)), if_neg (fun z => q13 (e13.mp z)), if_neg (fun z => q9 (e9.mp z)), q92])
    rw [if_neg q92, if_neg q92]
    have oct : WN w ([92, 48 + c / 64, 48 + c / 8 % 8, 48 + c % 8] ++ ((slc P (k + 1) (a + n)).flatMap esB ++ C)) σ (b1 (x_X12_put 1101 92 σ) fun σ22 => b1 (x_X12_put 1101 (48 + (ishr9 (nI c) 6)) σ22) fun σ24 => b1 (x_X12_put 1101 (48 + ((ishr9 (nI c) 3) &&& 7)) σ24) fun σ26 => b1 (x_X12_put 1101 (48 + ((nI c) &&& 7)) σ26) fun σ28 => x_X12_putText__176 U 1101 (x_X12_putText__L8 U 1101 K (nI a) (nI n) V) K (nI a) (nI n) (nI k) σ28) := by
      rw [show [92, 48 + c / 64, 48 + c / 8 % 8, 48 + c % 8] = [92] ++ ([48 + c / 64] ++ ([48 + c / 8 % 8] ++ [48 + c % 8])) from rfl, List.append_assoc, List.append_assoc, List.append_assoc, noct6 c hc, noct3 c hc, oct0 c hc]
      refine WN_b1 (B := [92]) (N_put1 (c := 92) hw) (fun τ t2 t3 => ?_)
      refine WN_b1 (B := [48 + c / 64]) (N_put1 t2) (fun υ u2 u3 => ?_)
      refine WN_b1 (B := [48 + c / 8 % 8]) (N_put1 u2) (fun ω o2 o3 => ?_)
      refine WN_b1 (B := [48 + c % 8]) (N_put1 o2) (fun φ p2 p3 => ?_)
      exact go φ _ p2 (fP_trans t3 (fP_trans u3 (fP_trans o3 p3)))
    by_cases q1 : c < 32
    · rw [if_pos q1, if_pos (Or.inl q1)]; exact oct
    rw [if_neg q1]
    by_cases q2 : 126 < c
    · rw [if_pos q2, if_pos (Or.inr q2)]; exact oct
    rw [if_neg q2, if_neg (fun z => z.elim q1 q2)]
    refine WN_b1 (B := [c]) (N_put1 hw) (fun τ t2 t3 => ?_)
    exact go τ _ t2 t3
theorem N_putTxt {U a n : Nat} {σ : SG} {w : List Nat × Int32} {P : List Nat} (hU4 : 4000 < U) (hn : a + n ≤ P.length) (hP8 : ok8 P) (hP : P.length ≤ 700) (hR : RI σ 1175 P) (hw : ROr σ w) : WN w (txB (slc P a (a + n))) σ (x_X12_putText_ U 1101 (nI a) (nI n) σ) := by
  unfold x_X12_putText_ txB
  refine WN_b1 (B := [34]) (N_put1 (c := 34) hw) (fun τ t2 t3 => ?_)
  exact N_txt_L (U := U) hn hP8 hP (fun υ w' hw' => by rw [b1_id]; exact N_put1 (c := 34) hw') n a U τ _ rfl (by omega) (fun i x hi => (t3 1175 i (by unfold Pfw; omega)).1.trans (hR i x hi)) t2
