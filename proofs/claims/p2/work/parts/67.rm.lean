/-! ===== the reference's rows say D ===== -/
/-- the ordinal of a place among those of kind q -/
def oq (D : List Dc) (q : Nat) (o : Option Nat) : Int32 := match o with
  | none => -1
  | some m => nI (cnt (D.take m) q)
def NMr (σ : SG) (b i : Nat) (v : Int32) (d : Dc) : Prop := sI σ b i = v ∧ sI σ (b + 1) i = nI (dA d) ∧ sI σ (b + 2) i = nI (dE d - dA d)
def w0 (T : List Nat) (Ws : List Wd) (k : Nat) : Nat := if sS T Ws 46 k then k + 1 else k
def FDr (σ : SG) (T : List Nat) (Ws : List Wd) (D : List Dc) (j p : Nat) (d : Dc) : Prop := sI σ 1148 j = oq D 4 (dO d) ∧ sI σ 1145 j = zI (dR d) ∧ NR (sL σ 1137 j) (dN d) ∧ sI σ 1146 j = nI (dP d) ∧ dT d < 14 ∧ (dT d ≠ 13 → sI σ 1139 j = nI (dT d)) ∧ (dT d = 13 → sI σ 1139 j = -1 ∧ ∃ q m k', sTy T Ws (dW d) = some k' ∧ q + m ≤ p ∧ sI σ 1142 j = zI (sS T Ws 46 (dW d)) ∧ sI σ 1143 j = nI q ∧ sI σ 1144 j = nI m ∧ k' + 1 = w0 T Ws (dW d) + 2 * m ∧ 1 ≤ m ∧ PTs σ Ws q (w0 T Ws (dW d)) m)
def RwD (σ : SG) (T : List Nat) (Ws : List Wd) (D : List Dc) (p i : Nat) (d : Dc) : Prop := NMr σ 1156 i (oq D 0 (dS d)) d ∧ (dK d = 0 → NMr σ 1128 (cnt (D.take i) 0) (oq D 0 (dS d)) d) ∧ (dK d = 1 → NMr σ 1131 (cnt (D.take i) 1) (oq D 0 (dS d)) d) ∧ (dK d = 2 → NMr σ 1134 (cnt (D.take i) 2) (oq D 0 (dS d)) d ∧ FDr σ T Ws D (cnt (D.take i) 2) p d) ∧ (dK d = 3 → NMr σ 1149 (cnt (D.take i) 3) (oq D 1 (dO d)) d ∧ NR (sL σ 1152 (cnt (D.take i) 3)) (dN d))
def RM (σ : SG) (T : List Nat) (Ws : List Wd) (D : List Dc) (p : Nat) : Prop := (∀ q, q < 5 → sI σ 1101 (32 + q) = nI (cnt D q)) ∧ sI σ 1101 37 = nI p ∧ sI σ 1101 38 = nI D.length ∧ ∀ i d, D[i]? = some d → RwD σ T Ws D p i d
def ct (D : List Dc) (p : Nat) : CT := (cnt D 0, cnt D 1, cnt D 2, cnt D 3, p, D.length)
theorem cnt_sn (D : List Dc) (d : Dc) (k : Nat) : cnt (D ++ [d]) k = cnt D k + (if dK d = k then 1 else 0) := cnt_snoc D d k
theorem cnt_take_le (D : List Dc) (i q : Nat) : cnt (D.take i) q ≤ cnt D q := ((List.take_sublist i D).filter _).length_le
theorem cnt_take_lt {D : List Dc} {i q : Nat} {d : Dc} (h : D[i]? = some d) (hq : dK d = q) : cnt (D.take i) q < cnt D q := by
  have h1 := cnt_take_le D (i + 1) q
  rw [List.take_add_one, h] at h1
  have h2 : cnt (D.take i ++ [d]) q = cnt (D.take i) q + 1 := by rw [cnt_sn, if_pos hq]
  have h3 : (some d).toList = [d] := rfl
  rw [h3, h2] at h1
  omega
theorem oq_snoc {D : List Dc} {e : Dc} {q : Nat} {o : Option Nat} (h : ∀ m, o = some m → m ≤ D.length) : oq (D ++ [e]) q o = oq D q o := by
  cases o with
  | none => rfl
  | some m =>
    unfold oq
    simp only
    rw [List.take_append_of_le_length (h m rfl)]
theorem nPX {c : CT} {b k : Nat} (h0 : b ≠ 1101) (h1 : 1128 ≤ b → b ≤ 1130 → k < tM c) (h2 : 1131 ≤ b → b ≤ 1133 → k < tE c) (h3 : 1134 ≤ b → b ≤ 1148 → k < tF c) (h4 : 1149 ≤ b → b ≤ 1153 → k < tV c) (h5 : 1154 ≤ b → b ≤ 1155 → k < tP c) (h6 : 1156 ≤ b → b ≤ 1158 → k < tN c) : ¬ PX c b k := by
  intro z
  rcases z with z | z | z | z | z | z | z
  · exact h0 z.1
  · have := h1 z.1 z.2.1; omega
  · have := h2 z.1 z.2.1; omega
  · have := h3 z.1 z.2.1; omega
  · have := h4 z.1 z.2.1; omega
  · have := h5 z.1 z.2.1; omega
  · have := h6 z.1 z.2.1; omega
theorem nPX_m {c : CT} {b k : Nat} (h1 : 1128 ≤ b) (h2 : b ≤ 1130) (h : k < tM c) : ¬ PX c b k := nPX (by omega) (fun _ _ => h) (by omega) (by omega) (by omega) (by omega) (by omega)
theorem nPX_e {c : CT} {b k : Nat} (h1 : 1131 ≤ b) (h2 : b ≤ 1133) (h : k < tE c) : ¬ PX c b k := nPX (by omega) (by omega) (fun _ _ => h) (by omega) (by omega) (by omega) (by omega)
theorem nPX_f {c : CT} {b k : Nat} (h1 : 1134 ≤ b) (h2 : b ≤ 1148) (h : k < tF c) : ¬ PX c b k := nPX (by omega) (by omega) (by omega) (fun _ _ => h) (by omega) (by omega) (by omega)
theorem nPX_v {c : CT} {b k : Nat} (h1 : 1149 ≤ b) (h2 : b ≤ 1153) (h : k < tV c) : ¬ PX c b k := nPX (by omega) (by omega) (by omega) (by omega) (fun _ _ => h) (by omega) (by omega)
theorem nPX_p {c : CT} {b k : Nat} (h1 : 1154 ≤ b) (h2 : b ≤ 1155) (h : k < tP c) : ¬ PX c b k := nPX (by omega) (by omega) (by omega) (by omega) (by omega) (fun _ _ => h) (by omega)
theorem nPX_n {c : CT} {b k : Nat} (h1 : 1156 ≤ b) (h2 : b ≤ 1158) (h : k < tN c) : ¬ PX c b k := nPX (by omega) (by omega) (by omega) (by omega) (by omega) (by omega) (fun _ _ => h)
theorem NMr_keep {P : Nat → Nat → Prop} {σ τ : SG} {b i : Nat} {v w : Int32} {d : Dc} (h : NMr σ b i v d) (hf : fP P σ τ) (hn : ∀ b', b ≤ b' → b' ≤ b + 2 → ¬ P b' i) (hv : v = w) : NMr τ b i w d := by
  subst hv
  exact ⟨(fP_at hf (hn b (by omega) (by omega))).trans h.1, (fP_at hf (hn (b + 1) (by omega) (by omega))).trans h.2.1, (fP_at hf (hn (b + 2) (by omega) (by omega))).trans h.2.2⟩
theorem FDr_keep {σ τ : SG} {T : List Nat} {Ws : List Wd} {D D' : List Dc} {j p p' : Nat} {d : Dc} {c : CT} (h : FDr σ T Ws D j p d) (hf : fP (PX c) σ τ) (hj : j < tF c) (hp : p ≤ tP c) (hp' : p ≤ p') (ho : oq D' 4 (dO d) = oq D 4 (dO d)) : FDr τ T Ws D' j p' d := by
  have k : ∀ b, 1134 ≤ b → b ≤ 1148 → sI τ b j = sI σ b j := fun b h1 h2 => fP_at hf (nPX_f h1 h2 hj)
  obtain ⟨a1, a2, a3, a4, a5, a6, a7⟩ := h
  refine ⟨by rw [k 1148 (by decide) (by decide), ho]; exact a1, by rw [k 1145 (by decide) (by decide)]; exact a2, by rw [(hf 1137 j (nPX_f (by decide) (by decide) hj)).2.1]; exact a3, by rw [k 1146 (by decide) (by decide)]; exact a4, a5, fun z => by rw [k 1139 (by decide) (by decide)]; exact a6 z, fun z => ?_⟩
  obtain ⟨b0, q, m, k', b1, b2, b3, b4, b5, b6, b7, b8⟩ := a7 z
  refine ⟨by rw [k 1139 (by decide) (by decide)]; exact b0, q, m, k', b1, by omega, by rw [k 1142 (by decide) (by decide)]; exact b3, by rw [k 1143 (by decide) (by decide)]; exact b4, by rw [k 1144 (by decide) (by decide)]; exact b5, b6, b7, fun t ht => ?_⟩
  obtain ⟨x, c1, c2, c3⟩ := b8 t ht
  exact ⟨x, c1, by rw [fP_at hf (nPX_p (by decide) (by decide) (by omega))]; exact c2, by rw [fP_at hf (nPX_p (by decide) (by decide) (by omega))]; exact c3⟩
/-- scope and owner stand before -/
theorem WF.before {D : List Dc} {i : Nat} {d : Dc} (h : WF D) (hd : D[i]? = some d) : (∀ m, dS d = some m → m < i) ∧ (∀ m, dO d = some m → m < i) := by
  have hn := h i d hd
  refine ⟨fun m hm => ?_, fun m hm => ?_⟩
  · exact (KM_take (hn.1 m hm)).2
  · have ko : ∀ q sc, KO (D.take i) m q sc → m < i := fun q sc z => by
      obtain ⟨x, a, _⟩ := z
      obtain ⟨g, _⟩ := List.getElem?_eq_some_iff.mp a
      rw [List.length_take] at g
      omega
    rcases hn.2 with z | z | z | z | z
    · rw [z.2] at hm; cases hm
    · rw [z.2] at hm; cases hm
    · rw [z.2.1] at hm; cases hm
    · exact ko _ _ (z.2.2 m hm)
    · obtain ⟨_, e, he, g⟩ := z
      rw [he] at hm
      cases hm
      exact ko _ _ g
theorem RwD_keep {σ τ : SG} {T : List Nat} {Ws : List Wd} {D : List Dc} {e d : Dc} {p p' i : Nat} (hW : WF D) (hd : D[i]? = some d) (h : RwD σ T Ws D p i d) (hf : fP (PX (ct D p)) σ τ) (hp' : p ≤ p') : RwD τ T Ws (D ++ [e]) p' i d := by
  have hi : i < D.length := by obtain ⟨q, _⟩ := List.getElem?_eq_some_iff.mp hd; exact q
  have hb := hW.before hd
  have e1 : oq (D ++ [e]) 0 (dS d) = oq D 0 (dS d) := oq_snoc (fun m hm => by have := hb.1 m hm; omega)
  have e2 : ∀ q, oq (D ++ [e]) q (dO d) = oq D q (dO d) := fun q => oq_snoc (fun m hm => by have := hb.2 m hm; omega)
  have ht : ∀ q, cnt ((D ++ [e]).take i) q = cnt (D.take i) q := fun q => by rw [List.take_append_of_le_length (Nat.le_of_lt hi)]
  unfold RwD at *
  rw [ht, ht, ht, ht, e1, e2]
  obtain ⟨a1, a2, a3, a4, a5⟩ := h
  refine ⟨NMr_keep a1 hf (fun b' h1 h2 => nPX_n h1 h2 hi) rfl, fun z => NMr_keep (a2 z) hf (fun b' h1 h2 => nPX_m h1 h2 (cnt_take_lt hd z)) rfl, fun z => NMr_keep (a3 z) hf (fun b' h1 h2 => nPX_e h1 h2 (cnt_take_lt hd z)) rfl, fun z => ⟨NMr_keep (a4 z).1 hf (fun b' h1 h2 => nPX_f h1 (by omega) (cnt_take_lt hd z)) rfl, FDr_keep (a4 z).2 hf (cnt_take_lt hd z) (Nat.le_refl _) hp' (e2 4)⟩, fun z => ⟨NMr_keep (a5 z).1 hf (fun b' h1 h2 => nPX_v h1 (by omega) (cnt_take_lt hd z)) rfl, ?_⟩⟩
  rw [(hf 1152 _ (nPX_v (by decide) (by decide) (cnt_take_lt hd z))).2.1]
  exact (a5 z).2
theorem RM_snoc {σ τ : SG} {T : List Nat} {Ws : List Wd} {D : List Dc} {e : Dc} {p p' : Nat} (hW : WF D) (h : RM σ T Ws D p) (hf : fP (PX (ct D p)) σ τ) (hp : p ≤ p') (hq : ∀ q, q < 5 → sI τ 1101 (32 + q) = nI (cnt (D ++ [e]) q)) (h37 : sI τ 1101 37 = nI p') (h38 : sI τ 1101 38 = nI (D.length + 1)) (hnew : RwD τ T Ws (D ++ [e]) p' D.length e) : RM τ T Ws (D ++ [e]) p' := by
  refine ⟨hq, h37, by rw [h38, List.length_append]; rfl, fun i d hd => ?_⟩
  rcases Nat.lt_trichotomy i D.length with hi | hi | hi
  · rw [List.getElem?_append_left hi] at hd
    exact RwD_keep hW hd (h.2.2.2 i d hd) hf hp
  · subst hi
    rw [get_snoc_last] at hd
    cases hd
    exact hnew
  · rw [List.getElem?_eq_none (by rw [List.length_append]; simp; omega)] at hd
    cases hd
/-- the counts, one of them one higher -/
theorem cnt_up {σ τ : SG} {D : List Dc} {e : Dc} {z : Nat} (h : ∀ q, q < 5 → sI σ 1101 (32 + q) = nI (cnt D q)) (hz : dK e = z) (hz5 : z < 5) (h1 : sI τ 1101 (32 + z) = nI (cnt D z + 1)) (h2 : ∀ q, q < 5 → q ≠ z → sI τ 1101 (32 + q) = sI σ 1101 (32 + q)) : ∀ q, q < 5 → sI τ 1101 (32 + q) = nI (cnt (D ++ [e]) q) := by
  intro q hq
  rw [cnt_sn]
  by_cases hqz : q = z
  · subst hqz
    rw [if_pos hz, h1]
  · rw [if_neg (fun y => hqz (y.symm.trans hz)), Nat.add_zero, h2 q hq hqz, h q hq]
/-- the rows alone are read -/
theorem RM_sm {σ τ : SG} {T : List Nat} {Ws : List Wd} {D : List Dc} {p : Nat} (h : RM σ T Ws D p) (hb : ∀ b, 1128 ≤ b → b ≤ 1158 → sm σ τ b) (h0 : ∀ i, 32 ≤ i → i ≤ 38 → sI τ 1101 i = sI σ 1101 i) : RM τ T Ws D p := by
  have i1 : ∀ b k, 1128 ≤ b → b ≤ 1158 → sI τ b k = sI σ b k := fun b k h1 h2 => (hb b h1 h2 k).1
  have nm : ∀ b i v d, 1128 ≤ b → b + 2 ≤ 1158 → NMr σ b i v d → NMr τ b i v d := fun b i v d h1 h2 z => ⟨(i1 b i h1 (by omega)).trans z.1, (i1 (b + 1) i (by omega) (by omega)).trans z.2.1, (i1 (b + 2) i (by omega) h2).trans z.2.2⟩
  refine ⟨fun q hq => (h0 (32 + q) (by omega) (by omega)).trans (h.1 q hq), (h0 37 (by decide) (by decide)).trans h.2.1, (h0 38 (by decide) (by decide)).trans h.2.2.1, fun i d hd => ?_⟩
  obtain ⟨a1, a2, a3, a4, a5⟩ := h.2.2.2 i d hd
  refine ⟨nm _ _ _ _ (by decide) (by decide) a1, fun z => nm _ _ _ _ (by decide) (by decide) (a2 z), fun z => nm _ _ _ _ (by decide) (by decide) (a3 z), fun z => ⟨nm _ _ _ _ (by decide) (by decide) (a4 z).1, ?_⟩, fun z => ⟨nm _ _ _ _ (by decide) (by decide) (a5 z).1, ?_⟩⟩
  · obtain ⟨b1, b2, b3, b4, b5, b6, b7⟩ := (a4 z).2
    refine ⟨(i1 _ _ (by decide) (by decide)).trans b1, (i1 _ _ (by decide) (by decide)).trans b2, by rw [(hb 1137 (by decide) (by decide) _).2.1]; exact b3, (i1 _ _ (by decide) (by decide)).trans b4, b5, fun y => (i1 _ _ (by decide) (by decide)).trans (b6 y), fun y => ?_⟩
    obtain ⟨c0, q, m, k', c1, c2, c3, c4, c5, c6, c7, c8⟩ := b7 y
    refine ⟨(i1 _ _ (by decide) (by decide)).trans c0, q, m, k', c1, c2, (i1 _ _ (by decide) (by decide)).trans c3, (i1 _ _ (by decide) (by decide)).trans c4, (i1 _ _ (by decide) (by decide)).trans c5, c6, c7, fun t ht => ?_⟩
    obtain ⟨x, e1, e2, e3⟩ := c8 t ht
    exact ⟨x, e1, (i1 _ _ (by decide) (by decide)).trans e2, (i1 _ _ (by decide) (by decide)).trans e3⟩
  · rw [(hb 1152 (by decide) (by decide) _).2.1]; exact (a5 z).2
theorem RM_q {σ τ : SG} {T : List Nat} {Ws : List Wd} {D : List Dc} {p : Nat} (h : RM σ T Ws D p) (hf : fq KF σ τ) : RM τ T Ws D p :=
  RM_sm h (fun b h1 _ => hf.1 b (by omega)) (fun i h1 h2 => hf.2.1 i (by unfold KF; simp only [List.mem_cons, List.not_mem_nil, or_false]; omega))
