/-! ===== the reference measures every opened message ===== -/
theorem len_mem {α β : Type} {f : α → List β} {a : α} : ∀ (L : List α), a ∈ L → (f a).length ≤ (L.flatMap f).length := by
  intro L
  induction L with
  | nil => intro h; cases h
  | cons b L ih =>
    intro h
    rw [List.flatMap_cons, List.length_append]
    rcases List.mem_cons.mp h with z | z
    · rw [z]; omega
    · have := ih z; omega
theorem child_le {T : List Nat} {D : List Dc} {A : AV} {z : Nat → Nat} (hg : GSc T D) (h : AW T D A z) {n k : Nat} (hn : n < aC A) (hM : isM D (aN A n)) (hk : k ∈ chN T D A n) : (eMf T D A z k).length ≤ (eMf T D A z n).length := by
  obtain ⟨f, hf, hT, it, hit, e⟩ := chN_mem.mp hk
  obtain ⟨d, hd⟩ := (chF_mem hg hM).mp hf
  have q13 : fty T D d = 13 := by unfold isT at hT; rw [hd.1] at hT; exact of_decide_eq_true hT
  rw [eMf_eq h hn, List.length_append]
  have h1 := len_mem (f := eFd T D A (eMf T D A z) n) _ hf
  have e1 : eFd T D A (eMf T D A z) n f = (aE A n f).flatMap (eIt T D (eMf T D A z) d) := by
    unfold eFd
    rw [hd.1]
    simp only
    have : dPa (lkC T D) T (wl T 701 0) D d = false := by
      have : nmr (dTy (lkC T D) T (wl T 701 0) D d) = false := by show nmr (fty T D d) = false; rw [q13]; rfl
      unfold dPa
      rw [this, Bool.and_false, Bool.false_and, Bool.false_and]
    rw [this, if_neg (show ¬ false = true by decide)]
  rw [e1] at h1
  have h2 := len_mem (f := eIt T D (eMf T D A z) d) _ hit
  have e2 : eIt T D (eMf T D A z) d it = tgB d (kdO (fty T D d)) ++ lnB (eMf T D A z k) := by
    unfold eIt
    rw [q13, if_pos (show kdO 13 = 2 from rfl), if_pos rfl, e]
  rw [e2] at h2
  unfold lnB at h2
  rw [List.length_append, List.length_append] at h2
  omega
theorem al_child {T : List Nat} {D : List Dc} {A : AV} {z : Nat → Nat} (h : AW T D A z) {n k : Nat} (hn : al T D A n = true) (hk : k ∈ chN T D A n) : al T D A k = true ∧ n < k ∧ k < aC A := by
  have hn' := of_decide_eq_true hn
  have hlt := List.mem_range.mp ((alL_lt _).subset hn')
  obtain ⟨b1, b2, b3⟩ := (h.2.2.1 n hlt).2 k hk
  refine ⟨decide_eq_true ((alL_mem _ _ b2).mpr (Or.inr (List.mem_flatMap.mpr ⟨n, ?_, hk⟩))), b1, b2⟩
  rw [alL_mem _ _ b1, ← alL_mem _ _ hlt]
  exact hn'
theorem al_le {T : List Nat} {D : List Dc} {A : AV} {z : Nat → Nat} (hg : GSc T D) (hM : ∀ n, n < aC A → isM D (aN A n)) (h : AW T D A z) : ∀ (b n : Nat), n < b → al T D A n = true → (eMf T D A z n).length ≤ (eMf T D A z 0).length := by
  intro b
  induction b with
  | zero => intro n hn; omega
  | succ b ih =>
    intro n hn hal
    have hn' := of_decide_eq_true hal
    have hlt := List.mem_range.mp ((alL_lt _).subset hn')
    rcases (alL_mem _ _ hlt).mp hn' with q | q
    · rw [q]; exact Nat.le_refl _
    · obtain ⟨p, hp, hk⟩ := List.mem_flatMap.mp q
      have hpn := List.mem_range.mp ((alL_lt n).subset hp)
      have hpal : al T D A p = true := decide_eq_true (by rw [alL_mem _ _ (show p < aC A by omega), ← alL_mem _ _ hpn]; exact hp)
      have := ih p (by omega) hpal
      have := child_le hg h (show p < aC A by omega) (hM p (by omega)) hk
      omega
theorem VS_it {σ : SG} {s n : Nat} {T : List Nat} {D : List Dc} {A : AV} {H : Rh} {r : Rg} {d : Dc} (h : VS σ s T D A H) (hr : r ∈ zR H) (hA : rA r = true) (hn : rN r = n) (hd : D[rF r]? = some d) : al T D A n = true ∧ isF D (aN A n) (rF r) d ∧ itR T D d r ∈ aE A n (rF r) := by
  have hal := h.2.2.2.2.2.2.2 r hr hA
  rw [hn] at hal
  obtain ⟨o1, d', o2, o3⟩ := h.2.2.2.2.2.1 r hr
  rw [hn] at o2
  have : d' = d := by have := o2.1; rw [hd] at this; exact (Option.some.inj this).symm
  subst this
  refine ⟨hal, o2, ?_⟩
  rw [← (h.2.2.2.2.2.2.1 n hal).1 (rF r) d' o2]
  refine List.mem_map.mpr ⟨r, List.mem_filter.mpr ⟨hr, ?_⟩, rfl⟩
  unfold pRw
  rw [hn, hA, decide_eq_true rfl, decide_eq_true rfl]
  rfl
theorem VS_ok4 {σ : SG} {s n : Nat} {T : List Nat} {D : List Dc} {A : AV} {H : Rh} {r : Rg} {d : Dc} (h : VS σ s T D A H) (hO : VO T D A) (hr : r ∈ zR H) (hA : rA r = true) (hn : rN r = n) (hd : D[rF r]? = some d) : okV4 (fty T D d) (rV r) := by
  obtain ⟨_, _, h3⟩ := VS_it h hr hA hn hd
  intro h4
  have := hO n (rF r) d _ hd h3 h4
  have ei : (itR T D d r).1 = rV r := by unfold itR; rw [if_neg (by omega), h4, if_pos (show nmr 4 = true from rfl)]
  rw [ei] at this
  exact this
theorem N_measure {U s : Nat} {σ : SG} {T : List Nat} {D : List Dc} {A : AV} {H : Rh} {z : Nat → Nat} (hU4 : 4000 < U) (hs : s < 2) (hg : GSc T D) (hS : RS σ s T D) (h : VS σ s T D A H) (hZ : AW T D A z) (hK : AK T D A) (hb : (eMf T D A z 0).length ≤ 3900) : ∃ τ, x_X12_measure U 1101 σ = some τ ∧ fP (fun b _ => b = 1163) σ τ ∧ ∀ n, al T D A n = true → sI τ 1163 n = nI (eMf T D A z n).length := by
  obtain ⟨hO, _, hM⟩ := hK
  have hc := h.2.2.2.2.1
  have hlt : ∀ n, al T D A n = true → n < aC A := fun n hn => List.mem_range.mp ((alL_lt _).subset (of_decide_eq_true hn))
  have main : ∀ (k U1 : Nat) (τ : SG), k ≤ aC A → k < U1 → fP (fun b _ => b = 1163) σ τ → (∀ n, k ≤ n → al T D A n = true → sI τ 1163 n = nI (eMf T D A z n).length) → ∃ υ, x_X12_measure_L7 U 1101 U1 (nI k - 1) τ = some υ ∧ fP (fun b _ => b = 1163) σ υ ∧ ∀ n, al T D A n = true → sI υ 1163 n = nI (eMf T D A z n).length := by
    intro k
    induction k with
    | zero =>
      intro U1 τ _ hu hf hm
      obtain ⟨V, rfl⟩ : ∃ V, U1 = V + 1 := ⟨U1 - 1, by omega⟩
      rw [x_X12_measure_L7, if_pos (show nI 0 - 1 < 0 by decide)]
      exact ⟨τ, rfl, hf, fun n hn => hm n (Nat.zero_le _) hn⟩
    | succ k ih =>
      intro U1 τ hk hu hf hm
      obtain ⟨V, rfl⟩ : ∃ V, U1 = V + 1 := ⟨U1 - 1, by omega⟩
      have ek : nI (k + 1) - 1 = nI k := nI_sub (b := 1) (by omega)
      have cI : ∀ b j, b ≠ 1163 → sI τ b j = sI σ b j := fun b j hb => (hf b j hb).1
      have cL : ∀ b j, b ≠ 1163 → sL τ b j = sL σ b j := fun b j hb => (hf b j hb).2.1
      have hkc : k < aC A := by omega
      -- the state is as before but for the sizes
      have S1 : RS τ s T D := RS_keep hS (fun b j hb => cI b j (by unfold PKP at hb; omega))
      have R1 : RT τ s T D (zP H) (zR H) := ⟨(cI 1101 82 (by decide)).trans h.2.1.1, h.2.1.2.1, fun i r hi => ⟨RWs_sm (h.2.1.2.2 i r hi).1 (fun b h1 h2 => ⟨cI b i (by omega), cL b i (by omega)⟩), (cI 1171 i (by decide)).trans (h.2.1.2.2 i r hi).2⟩⟩
      have h80 : sI τ 1101 80 = nI s := (cI 1101 80 (by decide)).trans h.1
      have hRn : ∀ r ∈ zR H, rN r < 400 := fun r hr => by have := (h.2.2.2.2.2.1 r hr).1; omega
      have h60 : sI τ 1160 k = nI (cnt (D.take (aN A k)) 0) := (cI 1160 k (by decide)).trans (hc.2.2.2 k hkc).2.1
      have hP7 := h.2.2.1.2.2.2
      have hR7 := h.2.1.2.1
      have hrow : ∀ r ∈ zR H, ofN k r = true → rowK τ T D (eMf T D A z) r := fun r hr ho d hd => by
        unfold ofN at ho
        rw [Bool.and_eq_true] at ho
        have hrn : rN r = k := of_decide_eq_true ho.2
        refine ⟨VS_ok4 h hO hr ho.1 hrn hd, fun q13 => ?_⟩
        obtain ⟨y1, y2, y3⟩ := VS_it h hr ho.1 hrn hd
        have hkc' : rK r ∈ chN T D A k := chN_mem.mpr ⟨rF r, (chF_mem hg (hM k hkc)).mpr ⟨d, y2⟩, by unfold isT; rw [hd]; exact decide_eq_true q13, _, y3, by unfold itR; rw [if_pos q13]⟩
        obtain ⟨a1, a2, a3⟩ := al_child hZ y1 hkc'
        have hle := al_le hg hM hZ (rK r + 1) (rK r) (by omega) a1
        exact ⟨by omega, hm (rK r) (by omega) a1, by omega⟩
      have h4 : ∀ f d, D[f]? = some d → ∀ r ∈ zR H, pRw k f r = true → okV4 (fty T D d) (rV r) := fun f d hd r hr hp => by
        obtain ⟨p1, p2⟩ := pRw_of hp
        unfold pRw at hp
        rw [Bool.and_eq_true] at hp
        exact VS_ok4 h hO hr hp.2 p1 (by rw [p2]; exact hd)
      have hpb : ∀ f d, D[f]? = some d → (pkB T D d ((zR H).filter (pRw k f))).length < 2 ^ 31 := fun f d _ => by
        have : ∀ (L : List Rg), (pkB T D d L).length ≤ 10 * L.length := by
          intro L
          induction L with
          | nil => exact Nat.le_refl _
          | cons a L ih =>
            unfold pkB at ih ⊢
            rw [List.flatMap_cons, List.length_append, List.length_cons]
            have := nuB_le (fty T D d) (rV a)
            omega
        have h1 := this ((zR H).filter (pRw k f))
        have h2 := List.length_filter_le (pRw k f) (zR H)
        omega
      have hU9 : ∀ i u, (zU H)[i]? = some u → u.1 < aC A ∧ UKs τ (zP H) i u := fun i u hu => by
        obtain ⟨u1, u2, a, u3, u4, u5⟩ := h.2.2.2.1.2.2 i u hu
        exact ⟨u1, (cI 1172 i (by decide)).trans u2, a, (cI 1173 i (by decide)).trans u3, (cI 1174 i (by decide)).trans u4, u5⟩
      have l2 := (lim_of hS.1).2.2.1
      rw [x_X12_measure_L7, ek, if_neg (nI_neg (by omega))]
      have m1 := N_meas15 (U := U) (n := k) (rc := eMf T D A z) (K := fun w24 => x_X12_measure_L78 U 1101 (fun w53 => x_X12_measure_L170 U 1101 (fun w64 => ix (nI k) 400 fun j65 => sb (uI τ 1163 j65 w64) fun σ69 => x_X12_measure_L7 U 1101 V ((nI k) - 1) σ69) (nI k) τ U w53 0) (nI k) τ U w24 (60 * (sI τ 1101 80))) hU4 hs hg S1 R1 hP7 (by omega) hRn hrow (zR H).length 0 0 U (by omega) (by omega)
      have m1' := m1
      rw [show nI 0 = 0 from rfl] at m1'
      rw [m1', h80, show (60 : Int32) = nI 60 from rfl, pk_mul]
      have m2 := N_meas78 (U := U) (n := k) (m := aN A k) (K := fun w53 => x_X12_measure_L170 U 1101 (fun w64 => ix (nI k) 400 fun j65 => sb (uI τ 1163 j65 w64) fun σ69 => x_X12_measure_L7 U 1101 V ((nI k) - 1) σ69) (nI k) τ U w53 0) hU4 hs h80 hg S1 R1 (by omega) hRn (hM k hkc) h60 h4 hpb (cnt D 2) 0 (0 + ((((zR H).drop 0).filter (ofN k)).map (szR T D (eMf T D A z))).sum) U (by omega) (by omega)
      rw [Nat.add_zero] at m2
      rw [m2]
      have m3 := N_meas170 (U := U) (n := k) (K := fun w64 => ix (nI k) 400 fun j65 => sb (uI τ 1163 j65 w64) fun σ69 => x_X12_measure_L7 U 1101 V ((nI k) - 1) σ69) ((cI 1101 83 (by decide)).trans h.2.2.2.1.1) h.2.2.2.1.2.1 hU9 hc.2.2.1 (by omega) (zU H).length 0 (0 + ((((zR H).drop 0).filter (ofN k)).map (szR T D (eMf T D A z))).sum + (((flD D).drop 0).map (szP T D (zR H) k (aN A k))).sum) U (by omega) (by have := h.2.2.2.1.2.1; omega)
      rw [show nI 0 = 0 from rfl] at m3
      rw [m3, ix_in (by omega) (by decide), sb_eq]
      refine ih V _ (by omega) (by omega) (fP_trans hf (fP_u rfl)) (fun n hn hal => ?_)
      by_cases q : n = k
      · subst q
        rw [sI_s, List.drop_zero, List.drop_zero, List.drop_zero, Nat.zero_add, meas_sum hg h hal (hM n hkc), ← eMf_eq hZ hkc]
      · rw [sI_o (Or.inr q)]
        exact hm n (by omega) hal
  unfold x_X12_measure
  rw [hc.1]
  exact main (aC A) U σ (Nat.le_refl _) (by omega) (fP_refl _ _) (fun n hn hal => by have := hlt n hal; omega)
