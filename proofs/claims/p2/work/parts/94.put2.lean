/-! ===== the class's value: a new node, or the old one ===== -/
def twE (D : List Dc) (o : Option Nat) (L : List Eg) : List Eg := L.takeWhile (fun e => decide (key D (eF e) ≤ key D o))
def dwE (D : List Dc) (o : Option Nat) (L : List Eg) : List Eg := L.dropWhile (fun e => decide (key D (eF e) ≤ key D o))
theorem tdE (D : List Dc) (o : Option Nat) (L : List Eg) : twE D o L ++ dwE D o L = L := List.takeWhile_append_dropWhile
def insE (D : List Dc) (e : Eg) (L : List Eg) : List Eg := twE D (eF e) L ++ e :: dwE D (eF e) L
/-- the node that a value replaces -/
def ruE (D : List Dc) (o : Option Nat) (L : List Eg) : Option Eg := match o, (twE D o L).getLast? with
  | some f, some b => if eF b = some f ∧ (∀ d, D[f]? = some d → dR d = false) then some b else none
  | _, _ => none
/-- a new node in a chain -/
def gNew (D : List Dc) (G : Gh) (n : Nat) (o : Option Nat) (mt : Option Nat) : Gh := match mt with
  | none => (gN G, gH G, up (gL G) n (insE D (391 + gU G, o, 0, 0, []) (gL G n)), gC G, gU G + 1, gP G)
  | some t => (up (gN G) (gC G) t, up (gH G) (gC G) (391 + gU G), up (up (gL G) n (insE D (391 + gU G, o, gC G, 0, []) (gL G n))) (gC G) [], gC G + 1, gU G + 1, gP G)
theorem mem_insE {D : List Dc} {e x : Eg} {L : List Eg} : x ∈ insE D e L ↔ x = e ∨ x ∈ L := by
  have h : x ∈ L ↔ x ∈ twE D (eF e) L ∨ x ∈ dwE D (eF e) L := by
    conv => lhs; rw [← tdE D (eF e) L]
    exact List.mem_append
  unfold insE
  rw [List.mem_append, List.mem_cons, h]
  constructor
  · rintro (z | z | z)
    · exact Or.inr (Or.inl z)
    · exact Or.inl z
    · exact Or.inr (Or.inr z)
  · rintro (z | z | z)
    · exact Or.inr (Or.inl z)
    · exact Or.inl z
    · exact Or.inr (Or.inr z)
theorem dwE_gt {D : List Dc} {o : Option Nat} : ∀ (L : List Eg), srE D L → ∀ x ∈ dwE D o L, key D o < key D (eF x) := by
  intro L
  induction L with
  | nil => intro _ x hx; cases hx
  | cons a L ih =>
    intro h x hx
    obtain ⟨h1, h2⟩ := List.pairwise_cons.mp h
    unfold dwE at hx
    rw [List.dropWhile_cons] at hx
    by_cases q : key D (eF a) ≤ key D o
    · rw [decide_eq_true q, if_pos rfl] at hx; exact ih h2 x hx
    · rw [decide_eq_false q, if_neg (by decide)] at hx
      rcases List.mem_cons.mp hx with z | z
      · rw [z]; omega
      · have := h1 x z; omega
theorem twE_le {D : List Dc} {o : Option Nat} {L : List Eg} : ∀ x ∈ twE D o L, key D (eF x) ≤ key D o := fun x hx => of_decide_eq_true (List.all_eq_true.mp List.all_takeWhile x hx)
theorem insE_srE {D : List Dc} {e : Eg} {L : List Eg} (h : srE D L) : srE D (insE D e L) := by
  unfold srE insE
  have h' : srE D (twE D (eF e) L ++ dwE D (eF e) L) := by rw [tdE]; exact h
  obtain ⟨h1, h2, h3⟩ := List.pairwise_append.mp h'
  refine List.pairwise_append.mpr ⟨h1, List.pairwise_cons.mpr ⟨fun x hx => Nat.le_of_lt (dwE_gt L h x hx), h2⟩, fun x hx y hy => ?_⟩
  rcases List.mem_cons.mp hy with z | z
  · rw [z]; exact twE_le x hx
  · exact h3 x hx y z
theorem insE_nd {D : List Dc} {e : Eg} {L : List Eg} (h : (L.map eA).Nodup) (he : ∀ x ∈ L, eA x ≠ eA e) : ((insE D e L).map eA).Nodup := by
  unfold insE
  have h' : ((twE D (eF e) L ++ dwE D (eF e) L).map eA).Nodup := by rw [tdE]; exact h
  rw [List.map_append] at h'
  obtain ⟨h1, h2, h3⟩ := List.nodup_append.mp h'
  have hm : ∀ x, x ∈ twE D (eF e) L ∨ x ∈ dwE D (eF e) L → x ∈ L := fun x hx => by rw [← tdE D (eF e) L]; exact List.mem_append.mpr hx
  rw [List.map_append, List.map_cons]
  refine List.nodup_append.mpr ⟨h1, List.nodup_cons.mpr ⟨fun z => ?_, h2⟩, fun a ha b hb => ?_⟩
  · obtain ⟨x, hx, hxe⟩ := List.mem_map.mp z
    exact he x (hm x (Or.inr hx)) hxe
  · rcases List.mem_cons.mp hb with z | z
    · obtain ⟨x, hx, hxe⟩ := List.mem_map.mp ha
      rw [z, ← hxe]; exact he x (hm x (Or.inl hx))
    · exact h3 a ha b z
/-- a field that stands once and is in a chain is the last one up to its key -/
theorem tw_last {T : List Nat} {D : List Dc} (hg : GSc T D) {m f : Nat} {L : List Eg} {e : Eg} {d : Dc} (hs : srE D L) (hd : isF D m f d) (hL : ∀ x ∈ L, ∀ g, eF x = some g → ∃ y, isF D m g y) (he : e ∈ L) (hef : eF e = some f) : ∃ b, (twE D (some f) L).getLast? = some b ∧ eF b = some f ∧ b ∈ L := by
  have hm : e ∈ twE D (some f) L := by
    rw [← tdE D (some f) L] at he
    rcases List.mem_append.mp he with z | z
    · exact z
    · have := dwE_gt L hs e z
      rw [hef] at this
      omega
  cases hb : (twE D (some f) L).getLast? with
  | none => rw [List.getLast?_eq_none_iff.mp hb] at hm; cases hm
  | some b =>
    obtain ⟨A, hA⟩ := List.getLast?_eq_some_iff.mp hb
    have hbm : b ∈ twE D (some f) L := by rw [hA]; simp
    have hbL : b ∈ L := by rw [← tdE D (some f) L]; exact List.mem_append.mpr (Or.inl hbm)
    have k1 := twE_le b hbm
    have k2 : key D (eF e) ≤ key D (eF b) := by
      have hst : srE D (twE D (some f) L) := hs.sublist (List.takeWhile_sublist _)
      rw [hA] at hm hst
      rcases List.mem_append.mp hm with z | z
      · exact (List.pairwise_append.mp hst).2.2 e z b (by simp)
      · rw [List.mem_singleton.mp z]; exact Nat.le_refl _
    rw [hef] at k2
    have kk : key D (eF b) = key D (some f) := Nat.le_antisymm k1 k2
    refine ⟨b, rfl, ?_, hbL⟩
    have hfn := (hg.nu hd.1 hd.2.1).2.1
    cases hF : eF b with
    | none =>
      rw [hF] at kk
      have : (9223372036854775807 : Nat) = nmn D f := kk
      omega
    | some g =>
      rw [hF] at kk
      obtain ⟨y, hy⟩ := hL b hbL g hF
      have hk : nmn D g = nmn D f := kk
      rw [nmn_some hy.1, nmn_some hd.1] at hk
      rw [num_inj hg hy hd hk]
theorem insE_unE {T : List Nat} {D : List Dc} (hg : GSc T D) {m : Nat} {L : List Eg} {e : Eg} (hs : srE D L) (hun : unE D L) (hL : ∀ x ∈ L, ∀ g, eF x = some g → ∃ y, isF D m g y) (ho : ∀ f, eF e = some f → ∃ d, isF D m f d) (hr : ruE D (eF e) L = none) : unE D (insE D e L) := by
  have no : ∀ x ∈ L, ∀ f d, eF e = some f → eF x = some f → D[f]? = some d → dR d = true := by
    intro x hx f d hef hxf hd
    cases hR : dR d with
    | true => rfl
    | false =>
      exfalso
      obtain ⟨d', hd'⟩ := ho f hef
      obtain ⟨b, b1', b2', _⟩ := tw_last hg hs hd' hL hx hxf
      unfold ruE at hr
      rw [hef, b1'] at hr
      simp only at hr
      rw [if_pos ⟨b2', fun d'' hd'' => by rw [hd] at hd''; cases hd''; exact hR⟩] at hr
      cases hr
  unfold unE insE
  have h' : unE D (twE D (eF e) L ++ dwE D (eF e) L) := by rw [tdE]; exact hun
  have hm : ∀ x, x ∈ twE D (eF e) L ∨ x ∈ dwE D (eF e) L → x ∈ L := fun x hx => by rw [← tdE D (eF e) L]; exact List.mem_append.mpr hx
  obtain ⟨h1, h2, h3⟩ := List.pairwise_append.mp h'
  refine List.pairwise_append.mpr ⟨h1, List.pairwise_cons.mpr ⟨fun x hx f d hef hxf hd => no x (hm x (Or.inr hx)) f d hef hxf hd, h2⟩, fun x hx y hy => ?_⟩
  rcases List.mem_cons.mp hy with z | z
  · rw [z]; exact fun f d hxf hef hd => no x (hm x (Or.inl hx)) f d hef hxf hd
  · exact h3 x hx y z
/-- how the class puts a new node -/
theorem X8_put_62 {U c n : Nat} {σ : SG} {T : List Nat} {D : List Dc} {G : Gh} {o : Option Nat} (h : VG σ c T D G) (hn : n < gC G) (hu : gU G < 700) (k : Nat) :
    ∃ τ, x_X8_put_62 U 389 (some (gH G n)) (ad c o) (prN none (twE D o (gL G n))) σ = some (some (391 + gU G), τ) ∧ LN τ (insE D (391 + gU G, o, k, 0, []) (gL G n)) (sP τ (gH G n) 2) ∧ sP τ (gH G n) 3 = some (391 + gU G) ∧ sP τ (391 + gU G) 0 = ad c o ∧ sP τ (391 + gU G) 2 = none ∧ sP τ (391 + gU G) 3 = none ∧ sL τ (391 + gU G) 4 = 0 ∧ sI τ (391 + gU G) 5 = 0 ∧ sI τ (391 + gU G) 6 = 0 ∧ sI τ 389 3 = nI (gU G + 1) ∧ fP (fun b k => (b = 389 ∧ k = 3) ∨ b = 391 + gU G ∨ (b = gH G n ∧ (k = 2 ∨ k = 3)) ∨ (k = 1 ∧ ∃ e ∈ gL G n, b = eA e)) σ τ := by
  have hh := h.h hn
  have hv := h.2.2.2.2.2.2.2.2.2 n hn
  have ea : ∀ e ∈ gL G n, 391 ≤ eA e ∧ eA e < 391 + gU G := fun e he => ⟨(h.e hn he).1, (h.e hn he).2.1⟩
  have hha : gH G n ≠ 391 + gU G := by rcases hh.2.2 with z | z <;> omega
  unfold x_X8_put_62 x_X8_put_94 x_X8_put_156
  rw [h.1, if_neg (nI_neg (by omega)), show (700 : Int32) = nI 700 from rfl, if_pos ((ltI (by omega) (by decide)).mpr hu), ix_in hu (by decide), if_neg (by intro z; cases z), sb_eq, ck_eq (nd_sh (by omega) (by omega)), nI_1]
  obtain ⟨σ13, b1', b2', b3, b4, b5, b6, b7, b8, b9⟩ := X4_begin (σ := uI σ 389 3 (nI (gU G + 1))) (a := 391 + gU G) (f := ad c o)
  rw [b1', b1_eq]
  -- how the state was before the links
  have o13 : ∀ b k, b ≠ 391 + gU G → (b ≠ 389 ∨ k ≠ 3) → sI σ13 b k = sI σ b k ∧ sL σ13 b k = sL σ b k ∧ sP σ13 b k = sP σ b k := fun b k h1 h2 => by
    obtain ⟨x1, x2, x3⟩ := b2' b h1 k
    exact ⟨x1.trans (sI_o h2), x2, x3⟩
  have L13 : LN σ13 (gL G n) (sP σ13 (gH G n) 2) := by
    rw [(o13 _ 2 hha (Or.inr (by decide))).2.2]
    exact LN_keep _ _ hv.1 (fun e he => (o13 _ 1 (by have := ea e he; omega) (Or.inr (by decide))).2.2)
  have u13 : sI σ13 389 3 = nI (gU G + 1) := ((b2' 389 (by omega) 3).1).trans (sI_s _ _ _ _)
  have spl : insE D (391 + gU G, o, k, 0, []) (gL G n) = twE D o (gL G n) ++ (391 + gU G, o, k, 0, []) :: dwE D o (gL G n) := rfl
  have hL := tdE D o (gL G n)
  rcases listE_last (L := twE D o (gL G n)) with hA | ⟨A, b, hA⟩
  · rw [hA, if_pos (show prN none [] = none from rfl), ck_eq (nd_sh hh.1 hh.2.1), sb_eq, sb_eq, ck_eq (nd_sh hh.1 hh.2.1), sb_eq]
    have hdw : dwE D o (gL G n) = gL G n := by rw [hA] at hL; exact hL
    refine ⟨_, rfl, ?_, sP_s _ _ _ _, ?_, ?_, ?_, ?_, ?_, ?_, ?_, ?_⟩
    · rw [spl, hA, hdw, sP_o (Or.inr (by decide)), sP_s]
      refine ⟨rfl, ?_⟩
      show LN _ (gL G n) (sP _ (391 + gU G) 1)
      rw [sP_o (Or.inr (by decide)), sP_o (Or.inr (by decide)), sP_s]
      exact LN_keep _ _ L13 (fun e he => by rw [sP_o (Or.inr (by decide)), sP_o (Or.inr (by decide)), sP_o (Or.inl (by have := ea e he; omega))])
    · rw [sP_o (Or.inr (by decide)), sP_o (Or.inr (by decide)), sP_o (Or.inr (by decide))]; exact b3
    · rw [sP_o (Or.inr (by decide)), sP_o (Or.inl (Ne.symm hha)), sP_o (Or.inr (by decide))]; exact b5
    · rw [sP_o (Or.inl (Ne.symm hha)), sP_o (Or.inr (by decide)), sP_o (Or.inr (by decide))]; exact b6
    · exact b7
    · exact b8
    · exact b9
    · exact u13
    · intro x j hj
      obtain ⟨y1, y2, y3⟩ := o13 x j (fun z => hj (Or.inr (Or.inl z))) (ne2 (fun zy => hj (Or.inl zy)))
      refine ⟨y1, y2, ?_⟩
      rw [sP_o (ne2 (fun zy => hj (Or.inr (Or.inr (Or.inl ⟨zy.1, Or.inr zy.2⟩))))), sP_o (ne2 (fun zy => hj (Or.inr (Or.inr (Or.inl ⟨zy.1, Or.inl zy.2⟩))))), sP_o (Or.inl (fun z => hj (Or.inr (Or.inl z))))]
      exact y3
  · have hbL : b ∈ gL G n := by rw [← hL, hA]; simp
    have hbe := ea b hbL
    rw [hA, prN_last, if_neg (by intro z; cases z), ck_eq (nd_sh hbe.1 (by omega)), sb_eq, sb_eq, ck_eq (nd_sh hh.1 hh.2.1), sb_eq]
    have hnd := hv.2.2.2.1
    have hL' : A ++ b :: dwE D o (gL G n) = gL G n := by
      have e1 : A ++ b :: dwE D o (gL G n) = (A ++ [b]) ++ dwE D o (gL G n) := by simp
      rw [e1, ← hA]; exact hL
    rw [← hL'] at hnd L13
    rw [List.map_append, List.map_cons] at hnd
    obtain ⟨m1, m2, m3⟩ := List.nodup_append.mp hnd
    obtain ⟨m4, m5⟩ := List.nodup_cons.mp m2
    have mem : ∀ e, e ∈ A ∨ e ∈ dwE D o (gL G n) → e ∈ gL G n := fun e he => by
      rw [← hL']
      rcases he with z | z
      · simp [z]
      · simp [z]
    refine ⟨_, rfl, ?_, sP_s _ _ _ _, ?_, ?_, ?_, ?_, ?_, ?_, ?_, ?_⟩
    · rw [spl, hA, sP_o (Or.inr (by decide)), sP_o (Or.inr (by decide)), sP_o (Or.inr (by decide)), List.append_assoc]
      refine LN_cut (σ := σ13) (b := b) (B := dwE D o (gL G n)) (B' := (391 + gU G, o, k, 0, []) :: dwE D o (gL G n)) ?_ A _ L13 (fun e he => ?_)
      · refine ⟨?_, ?_⟩
        · rw [sP_o (Or.inr (by decide)), sP_s]; rfl
        show LN _ (dwE D o (gL G n)) (sP _ (391 + gU G) 1)
        rw [sP_o (Or.inr (by decide)), sP_o (Or.inl (by omega)), sP_s]
        refine LN_keep _ _ (LN_mid A _ L13) (fun e he => ?_)
        have := ea e (mem e (Or.inr he))
        rw [sP_o (Or.inr (by decide)), sP_o (Or.inl (fun z => m4 (by rw [← z]; exact List.mem_map_of_mem he))), sP_o (Or.inl (by omega))]
      · have := ea e (mem e (Or.inl he))
        rw [sP_o (Or.inr (by decide)), sP_o (Or.inl (m3 _ (List.mem_map_of_mem he) _ (List.mem_cons_self ..))), sP_o (Or.inl (by omega))]
    · rw [sP_o (Or.inr (by decide)), sP_o (Or.inr (by decide)), sP_o (Or.inr (by decide))]; exact b3
    · rw [sP_o (Or.inr (by decide)), sP_o (Or.inr (by decide)), sP_o (Or.inr (by decide))]; exact b5
    · rw [sP_o (Or.inl (Ne.symm hha)), sP_o (Or.inr (by decide)), sP_o (Or.inr (by decide))]; exact b6
    · exact b7
    · exact b8
    · exact b9
    · exact u13
    · intro x j hj
      obtain ⟨y1, y2, y3⟩ := o13 x j (fun z => hj (Or.inr (Or.inl z))) (ne2 (fun zy => hj (Or.inl zy)))
      refine ⟨y1, y2, ?_⟩
      rw [sP_o (ne2 (fun zy => hj (Or.inr (Or.inr (Or.inl ⟨zy.1, Or.inr zy.2⟩))))), sP_o (ne2 (fun zy => hj (Or.inr (Or.inr (Or.inr ⟨zy.2, b, hbL, zy.1⟩))))), sP_o (Or.inl (fun z => hj (Or.inr (Or.inl z))))]
      exact y3
