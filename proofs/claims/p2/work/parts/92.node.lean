/-! ===== the class's value: chains of nodes ===== -/
/-- an entry of a message's chain: its node, its field, the message it opens, its number, its text -/
abbrev Eg : Type := Nat × Option Nat × Nat × Int64 × List Nat
def eA (e : Eg) : Nat := e.1
def eF (e : Eg) : Option Nat := e.2.1
def eK (e : Eg) : Nat := e.2.2.1
def eV (e : Eg) : Int64 := e.2.2.2.1
def eT (e : Eg) : List Nat := e.2.2.2.2
def LN (σ : SG) : List Eg → Option Nat → Prop
  | [], p => p = none
  | e :: L, p => p = some (eA e) ∧ LN σ L (sP σ (eA e) 1)
theorem LN_keep {σ τ : SG} : ∀ (L : List Eg) (p : Option Nat), LN σ L p → (∀ e ∈ L, sP τ (eA e) 1 = sP σ (eA e) 1) → LN τ L p := by
  intro L
  induction L with
  | nil => intro p h _; exact h
  | cons i L ih =>
    intro p h hk
    refine ⟨h.1, ?_⟩
    rw [hk i (List.mem_cons_self ..)]
    exact ih _ h.2 (fun j hj => hk j (List.mem_cons_of_mem _ hj))
theorem LN_mid {σ : SG} {b : Eg} {B : List Eg} : ∀ (A : List Eg) (p : Option Nat), LN σ (A ++ b :: B) p → LN σ B (sP σ (eA b) 1) := by
  intro A
  induction A with
  | nil => intro p h; exact h.2
  | cons a A ih => intro p h; exact ih _ h.2
/-- what follows the last of a first piece is another piece now -/
theorem LN_cut {σ τ : SG} {b : Eg} {B B' : List Eg} (hb : LN τ B' (sP τ (eA b) 1)) : ∀ (A : List Eg) (p : Option Nat), LN σ (A ++ b :: B) p → (∀ e ∈ A, sP τ (eA e) 1 = sP σ (eA e) 1) → LN τ (A ++ b :: B') p := by
  intro A
  induction A with
  | nil => intro p h _; exact ⟨h.1, hb⟩
  | cons a A ih =>
    intro p h ha
    refine ⟨h.1, ?_⟩
    rw [ha a (List.mem_cons_self ..)]
    exact ih _ h.2 (fun i hi => ha i (List.mem_cons_of_mem _ hi))
/-- the last one's node, or what was told -/
def prN (o : Option Nat) (L : List Eg) : Option Nat := match L.getLast? with
  | none => o
  | some e => some (eA e)
theorem prN_cons (o : Option Nat) (i : Eg) (L : List Eg) : prN o (i :: L) = prN (some (eA i)) L := by
  unfold prN
  cases L with
  | nil => rfl
  | cons j L => rw [List.getLast?_cons_cons]; cases e : (j :: L).getLast? with
    | none => simp at e
    | some x => rfl
theorem prN_app (o : Option Nat) (A L : List Eg) : prN o (A ++ L) = prN (prN o A) L := by
  induction A generalizing o with
  | nil => rfl
  | cons a A ih => rw [List.cons_append, prN_cons, prN_cons, ih]
theorem listE_last {L : List Eg} : L = [] ∨ ∃ A b, L = A ++ [b] := by
  cases h : L.getLast? with
  | none => exact Or.inl (by simpa using h)
  | some b => exact Or.inr ⟨L.dropLast, b, by
      rcases List.getLast?_eq_some_iff.mp h with ⟨A, e⟩
      rw [e, List.dropLast_concat]⟩
theorem prN_last (o : Option Nat) (A : List Eg) (b : Eg) : prN o (A ++ [b]) = some (eA b) := by unfold prN; rw [List.getLast?_append]; rfl
/-- the place of an entry in its chain -/
def key (D : List Dc) (o : Option Nat) : Nat := match o with
  | none => 9223372036854775807
  | some f => nmn D f
/-- a node of the class -/
theorem nd_sh {a : Nat} (h1 : 391 ≤ a) (h2 : a < 1092) : sh a = 4 := by
  unfold sh
  rw [if_neg (by omega), if_neg (by omega), if_neg (by omega), if_neg (by omega), if_neg (by omega), if_pos h2]
/-- an entry's field, as the class's node tells it -/
def EF (σ : SG) (c : Nat) (D : List Dc) (e : Eg) : Prop := 391 ≤ eA e ∧ eA e < 1091 ∧ sP σ (eA e) 0 = ad c (eF e) ∧ ∀ f, eF e = some f → ∃ d, D[f]? = some d ∧ dK d = 2
theorem key_lt {T : List Nat} {D : List Dc} (hg : GSc T D) {o : Option Nat} (ho : ∀ f, o = some f → ∃ d, D[f]? = some d ∧ dK d = 2) : key D o < 2 ^ 63 := by
  cases o with
  | none => exact (by decide : 9223372036854775807 < 2 ^ 63)
  | some f =>
    obtain ⟨d, h1, h2⟩ := ho f rfl
    have := (hg.nu h1 h2).2.1
    show nmn D f < 2 ^ 63
    omega
/-- the number by which an entry stands in its chain, as the class reads it -/
theorem C_key {α : Type} {c : Nat} {σ : SG} {T : List Nat} {D : List Dc} {o : Option Nat} {K : Int64 → Option α} (hcb : cb c) (hg : GSc T D) (hC : CS σ c T D) (ho : ∀ f, o = some f → ∃ d, D[f]? = some d ∧ dK d = 2) : (if ad c o = none then K 9223372036854775807 else ck 3 (ad c o) fun q => K (sL σ q 6)) = K (lN (key D o)) := by
  have hl := hg.2.1
  cases o with
  | none => rw [if_pos (show ad c none = none from rfl)]; rfl
  | some f =>
    obtain ⟨d, h1, h2⟩ := ho f rfl
    have hf := (List.getElem?_eq_some_iff.mp h1).1
    rw [if_neg (by intro z; cases z), ad_some, ck_eq (it_sh hcb (by omega)), hC.2.1.num hf, (hg.nu h1 h2).1]
    rfl
theorem X8_lastUpTo_L {U c : Nat} {σ : SG} {T : List Nat} {D : List Dc} {v : Nat} (hcb : cb c) (hg : GSc T D) (hC : CS σ c T D) (hv : v < 2 ^ 63) : ∀ (L : List Eg) (o p : Option Nat) (U1 : Nat), LN σ L p → (∀ e ∈ L, EF σ c D e) → L.length < U1 →
    x_X8_lastUpTo_L60 U 389 (lN v) σ U1 o p = some (prN o (L.takeWhile (fun e => decide (key D (eF e) ≤ v)))) := by
  intro L
  induction L with
  | nil =>
    intro o p U1 h _ hu
    obtain ⟨V, rfl⟩ : ∃ V, U1 = V + 1 := ⟨U1 - 1, by simp at hu; omega⟩
    rw [x_X8_lastUpTo_L60, show p = none from h, if_pos rfl]; rfl
  | cons e L ih =>
    intro o p U1 h hb hu
    rw [List.length_cons] at hu
    obtain ⟨V, rfl⟩ : ∃ V, U1 = V + 1 := ⟨U1 - 1, by omega⟩
    obtain ⟨e1, e2, e3, e4⟩ := hb e (List.mem_cons_self ..)
    obtain ⟨h1, h2⟩ := h
    have hk := C_key (o := eF e) (K := fun s => x_X8_lastUpTo_87 U 389 (x_X8_lastUpTo_L60 U 389 (lN v) σ V) (lN v) o (some (eA e)) s σ) hcb hg hC e4
    rw [x_X8_lastUpTo_L60, h1, if_neg (by intro z; cases z), ck_eq (nd_sh e1 (by omega)), e3, hk]
    unfold x_X8_lastUpTo_87
    have kl := key_lt hg e4
    rw [ifd (pk_lLT hv kl), List.takeWhile_cons]
    by_cases q : v < key D (eF e)
    · rw [if_pos q, decide_eq_false (by omega), if_neg (by decide)]; rfl
    · rw [if_neg q, decide_eq_true (by omega), if_pos rfl, ck_eq (nd_sh e1 (by omega)), prN_cons]
      exact ih _ _ V h2 (fun j hj => hb j (List.mem_cons_of_mem _ hj)) (by omega)
/-- a chain stands by its keys -/
def srE (D : List Dc) (L : List Eg) : Prop := L.Pairwise (fun e e' => key D (eF e) ≤ key D (eF e'))
theorem srE_tw {D : List Dc} {r : Eg} {B : List Eg} {v : Nat} (hr : key D (eF r) ≤ v) : ∀ (A : List Eg), srE D (A ++ r :: B) → (A ++ r :: B).takeWhile (fun e => decide (key D (eF e) ≤ v)) = A ++ r :: B.takeWhile (fun e => decide (key D (eF e) ≤ v)) := by
  intro A
  induction A with
  | nil => intro _; rw [List.nil_append, List.takeWhile_cons, decide_eq_true hr, if_pos rfl]; rfl
  | cons a A ih =>
    intro h
    obtain ⟨h1, h2⟩ := List.pairwise_cons.mp h
    have := h1 r (by simp)
    rw [List.cons_append, List.takeWhile_cons, decide_eq_true (by omega), if_pos rfl, ih h2]
    rfl
theorem X8_lastUpTo {U c h : Nat} {σ : SG} {T : List Nat} {D : List Dc} {v : Nat} {L : List Eg} (hU : 4000 < U) (hcb : cb c) (hg : GSc T D) (hC : CS σ c T D) (hv : v < 2 ^ 63) (hh : 391 ≤ h) (hh' : h < 1092) (hL : LN σ L (sP σ h 2)) (hE : ∀ e ∈ L, EF σ c D e) (hl : L.length ≤ 800) (hs : srE D L) (hr : sP σ h 3 = none ∨ ∃ e ∈ L, sP σ h 3 = some (eA e)) :
    x_X8_lastUpTo U 389 (some h) (lN v) σ = some (prN none (L.takeWhile (fun e => decide (key D (eF e) ≤ v)))) := by
  unfold x_X8_lastUpTo x_X8_lastUpTo_33
  have first : x_X8_lastUpTo_41 U 389 (some h) (lN v) none σ = some (prN none (L.takeWhile (fun e => decide (key D (eF e) ≤ v)))) := by
    unfold x_X8_lastUpTo_41 x_X8_lastUpTo_58
    rw [if_pos rfl, ck_eq (nd_sh hh hh')]
    exact X8_lastUpTo_L hcb hg hC hv L none _ U hL hE (by omega)
  rw [ck_eq (nd_sh hh hh')]
  rcases hr with hr | ⟨r, hrL, hr⟩
  · rw [if_pos hr, hr]; exact first
  · obtain ⟨e1, e2, e3, e4⟩ := hE r hrL
    rw [if_neg (by rw [hr]; intro z; cases z), hr, ck_eq (nd_sh e1 (by omega)), e3]
    have hk := C_key (o := eF r) (K := fun s => if lN v < s then x_X8_lastUpTo_41 U 389 (some h) (lN v) none σ else x_X8_lastUpTo_41 U 389 (some h) (lN v) (some (eA r)) σ) hcb hg hC e4
    rw [hk]
    have kl := key_lt hg e4
    rw [ifd (pk_lLT hv kl)]
    by_cases q : v < key D (eF r)
    · rw [if_pos q]; exact first
    · rw [if_neg q]
      unfold x_X8_lastUpTo_41 x_X8_lastUpTo_58
      rw [if_neg (by intro z; cases z), ck_eq (nd_sh e1 (by omega))]
      obtain ⟨A, B, hAB⟩ := List.append_of_mem hrL
      subst hAB
      rw [srE_tw (by omega) A hs, prN_app, prN_cons]
      refine X8_lastUpTo_L hcb hg hC hv B _ _ U (LN_mid A _ hL) (fun e he => hE e (by simp [he])) ?_
      rw [List.length_append, List.length_cons] at hl
      omega
/-! dropping rivals -/
/-- the other fields of a field's oneof -/
def riv (D : List Dc) (f : Nat) (d : Dc) (e : Eg) : Bool := match eF e with
  | none => false
  | some g => match D[g]? with
    | none => false
    | some x => decide (g ≠ f ∧ dO x = dO d)
theorem X8_drop_L {U c h f : Nat} {T : List Nat} {D : List Dc} {d : Dc} {K : SG → Option SG} (hcb : cb c) (hg : GSc T D) (hh : 391 ≤ h) (hh' : h < 1092) (hd : D[f]? = some d) : ∀ (R A : List Eg) (U1 : Nat) (σ : SG), CS σ c T D → LN σ (A ++ R) (sP σ h 2) → (∀ e ∈ A ++ R, EF σ c D e ∧ eA e ≠ h) → ((A ++ R).map eA).Nodup → R.length < U1 →
    ∃ τ, x_X8_dropRivals_L8 U 389 K (some h) (ad c (some f)) U1 (prN none A) (R.head?.map eA) σ = K τ ∧ LN τ (A ++ R.filter (fun e => !riv D f d e)) (sP τ h 2) ∧ fP (fun b k => (b = h ∧ k = 2) ∨ (k = 1 ∧ ∃ e ∈ A ++ R, b = eA e)) σ τ := by
  have hl := hg.2.1
  have hfl := (List.getElem?_eq_some_iff.mp hd).1
  intro R
  induction R with
  | nil =>
    intro A U1 σ hC hL hE hn hu
    obtain ⟨V, rfl⟩ : ∃ V, U1 = V + 1 := ⟨U1 - 1, by simp at hu; omega⟩
    rw [x_X8_dropRivals_L8, if_pos (show Option.map eA ([] : List Eg).head? = none from rfl)]
    exact ⟨σ, rfl, hL, fP_refl _ _⟩
  | cons e R ih =>
    intro A U1 σ hC hL hE hn hu
    rw [List.length_cons] at hu
    obtain ⟨V, rfl⟩ : ∃ V, U1 = V + 1 := ⟨U1 - 1, by omega⟩
    obtain ⟨⟨e1, e2, e3, e4⟩, e5⟩ := hE e (by simp)
    have hnx : sP σ (eA e) 1 = R.head?.map eA := by
      have := LN_mid A _ hL
      cases R with
      | nil => exact this
      | cons r R => exact this.1
    rw [x_X8_dropRivals_L8, if_neg (show ¬ Option.map eA (e :: R).head? = none by intro z; cases z), show Option.map eA (e :: R).head? = some (eA e) from rfl, ck_eq (nd_sh e1 (by omega)), e3]
    -- it stays
    have stay : riv D f d e = false → ∃ τ, x_X8_dropRivals_49 U 389 (x_X8_dropRivals_L8 U 389 K (some h) (ad c (some f)) V) K (some h) (ad c (some f)) (prN none A) (some (eA e)) σ = K τ ∧ LN τ (A ++ (e :: R).filter (fun e => !riv D f d e)) (sP τ h 2) ∧ fP (fun b k => (b = h ∧ k = 2) ∨ (k = 1 ∧ ∃ x ∈ A ++ e :: R, b = eA x)) σ τ := by
      intro hr
      unfold x_X8_dropRivals_49 x_X8_dropRivals_50 x_X8_dropRivals_88
      rw [if_pos rfl, ck_eq (nd_sh e1 (by omega)), hnx]
      have hAe : A ++ e :: R = (A ++ [e]) ++ R := by simp
      rw [hAe] at hL hE hn
      obtain ⟨τ, t1, t2, t3⟩ := ih (A ++ [e]) V σ hC hL hE hn (by omega)
      rw [prN_last] at t1
      refine ⟨τ, t1, ?_, ?_⟩
      · rw [List.filter_cons, hr, Bool.not_false, if_pos rfl]
        rw [List.append_assoc] at t2
        exact t2
      · rw [hAe]; exact t3
    -- it goes
    have go : riv D f d e = true → ∃ τ, x_X8_dropRivals_50 U 389 (x_X8_dropRivals_L8 U 389 K (some h) (ad c (some f)) V) K (some h) (ad c (some f)) (prN none A) (some (eA e)) 1 σ = K τ ∧ LN τ (A ++ (e :: R).filter (fun e => !riv D f d e)) (sP τ h 2) ∧ fP (fun b k => (b = h ∧ k = 2) ∨ (k = 1 ∧ ∃ x ∈ A ++ e :: R, b = eA x)) σ τ := by
      intro hr
      unfold x_X8_dropRivals_50 x_X8_dropRivals_88
      rw [if_neg (by decide)]
      have next : ∀ (υ : SG), CS υ c T D → LN υ (A ++ R) (sP υ h 2) → (∀ x ∈ A ++ R, EF υ c D x) → sP υ (eA e) 1 = sP σ (eA e) 1 → fP (fun b k => (b = h ∧ k = 2) ∨ (k = 1 ∧ ∃ x ∈ A ++ e :: R, b = eA x)) σ υ → ∃ τ, (ck 4 (some (eA e)) fun q10 => x_X8_dropRivals_L8 U 389 K (some h) (ad c (some f)) V (prN none A) (sP υ q10 1) υ) = K τ ∧ LN τ (A ++ (e :: R).filter (fun e => !riv D f d e)) (sP τ h 2) ∧ fP (fun b k => (b = h ∧ k = 2) ∨ (k = 1 ∧ ∃ x ∈ A ++ e :: R, b = eA x)) σ τ := by
        intro υ cυ lυ eυ n1 fυ
        rw [ck_eq (nd_sh e1 (by omega)), n1, hnx]
        have hn' : ((A ++ R).map eA).Nodup := by
          rw [List.map_append, List.map_cons] at hn
          rw [List.map_append]
          exact hn.sublist (List.Sublist.append_left (List.sublist_cons_self _ _) _)
        obtain ⟨τ, t1, t2, t3⟩ := ih A V υ cυ lυ (fun x hx => ⟨eυ x hx, (hE x (by
          rcases List.mem_append.mp hx with z | z
          · simp [z]
          · simp [z])).2⟩) hn' (by omega)
        refine ⟨τ, t1, ?_, fP_trans fυ (fP_mono t3 (fun b k z => ?_))⟩
        · rw [List.filter_cons, hr, Bool.not_true, if_neg (by decide)]; exact t2
        · rcases z with z | ⟨z, x, hx, y⟩
          · exact Or.inl z
          · refine Or.inr ⟨z, x, ?_, y⟩
            rcases List.mem_append.mp hx with w | w
            · simp [w]
            · simp [w]
      have ef : ∀ (a k : Nat) (v : Option Nat), k ≠ 0 → ∀ x ∈ A ++ R, EF (uP σ a k v) c D x := fun a k v hk x hx => by
        obtain ⟨⟨x1, x2, x3, x4⟩, _⟩ := hE x (by
          rcases List.mem_append.mp hx with w | w
          · simp [w]
          · simp [w])
        exact ⟨x1, x2, by rw [sP_o (Or.inr (fun z => hk z.symm))]; exact x3, x4⟩
      have cs : ∀ (a k : Nat) (v : Option Nat), 391 ≤ a → CS (uP σ a k v) c T D := fun a k v ha => by
        have hc : c = 5 ∨ c = 197 := hcb
        have g : ∀ b, b < 391 → sm σ (uP σ a k v) b := fun b hb => sm_uP (by omega)
        obtain ⟨k1, k2, k3, k4⟩ := hC
        refine ⟨k1.sm (g _ (by omega)) (g _ (by omega)), ⟨k2.1, k2.2.1, fun i d hd => ?_⟩, fun i d hd => ?_, k4⟩
        · have hi := (List.getElem?_eq_some_iff.mp hd).1
          exact IS_PJ (k2.2.2 i d hd) (fun j _ => g _ (by omega) j)
        · have hi := (List.getElem?_eq_some_iff.mp hd).1
          obtain ⟨j1, j2, j3⟩ := k3 i d hd
          have gi := g (c + 5 + i) (by omega)
          refine ⟨fun z => ?_, fun z => ?_, ?_⟩
          · rw [(gi 8).1, (gi 10).2.2, (gi 12).1, (gi 16).2.2]; exact j1 z
          · rw [(gi 8).1, (gi 10).2.2, (gi 12).1]; exact j2 z
          · rw [(gi 15).2.2]; exact LK_keep _ _ j3 (fun i' hi' => (g (c + 5 + i') (by have := (chD_lt hi').2; omega) 16).2.2)
      rcases listE_last (L := A) with hA | ⟨A', b, hA⟩
      · subst hA
        rw [if_pos (show prN none [] = none from rfl), ck_eq (nd_sh e1 (by omega)), ck_eq (nd_sh hh hh'), sb_eq]
        refine next _ (cs _ _ _ hh) ?_ (ef _ _ _ (by decide)) (sP_o (Or.inr (by decide))) (fun b' j hj => ⟨rfl, rfl, sP_o (ne2 (fun zy => hj (Or.inl zy)))⟩)
        rw [sP_s]
        exact LN_keep _ _ (LN_mid [] _ hL) (fun x hx => sP_o (Or.inr (by decide)))
      · subst hA
        obtain ⟨⟨x1, x2, x3, x4⟩, x5⟩ := hE b (by simp)
        have hbe : eA b ≠ eA e := by
          rw [List.map_append, List.map_append] at hn
          obtain ⟨_, _, n3⟩ := List.nodup_append.mp hn
          exact n3 (eA b) (by simp) (eA e) (by simp)
        rw [prN_last, if_neg (by intro z; cases z), ck_eq (nd_sh e1 (by omega)), ck_eq (nd_sh x1 (by omega)), sb_eq, ← prN_last none A' b]
        refine next _ (cs _ _ _ x1) ?_ (ef _ _ _ (by decide)) (sP_o (Or.inl (fun z => hbe z.symm))) (fun b' j hj => ⟨rfl, rfl, sP_o (ne2 (fun zy => hj (Or.inr ⟨zy.2, b, by simp, zy.1⟩)))⟩)
        rw [sP_o (Or.inr (by decide))]
        rw [List.append_assoc] at hL
        have hn2 : ((A' ++ b :: e :: R).map eA).Nodup := by rw [List.append_assoc] at hn; exact hn
        rw [List.map_append, List.map_cons] at hn2
        obtain ⟨m1, m2, m3⟩ := List.nodup_append.mp hn2
        obtain ⟨m4, m5⟩ := List.nodup_cons.mp m2
        rw [List.append_assoc]
        refine LN_cut (σ := σ) (B := e :: R) ?_ A' _ hL (fun x hx => sP_o (Or.inl (m3 _ (List.mem_map_of_mem hx) _ (List.mem_cons_self ..))))
        rw [sP_s]
        have hLe : LN σ R (sP σ (eA e) 1) := (LN_mid A' _ hL).2
        exact LN_keep _ _ hLe (fun x hx => sP_o (Or.inl (fun z => m4 (by rw [← z]; simp only [List.map_cons, List.mem_cons]; exact Or.inr (List.mem_map_of_mem hx)))))
    cases hF : eF e with
    | none =>
      rw [if_pos (show ad c none = none from rfl)]
      exact stay (by unfold riv; rw [hF])
    | some g =>
      obtain ⟨x, hx, hx2⟩ := e4 g hF
      have hgl := (List.getElem?_eq_some_iff.mp hx).1
      have hrv : riv D f d e = decide (g ≠ f ∧ dO x = dO d) := by unfold riv; rw [hF]; simp only; rw [hx]
      rw [if_neg (show ¬ ad c (some g) = none by intro z; cases z)]
      by_cases q : g = f
      · subst q
        rw [if_pos rfl]
        exact stay (by rw [hrv]; exact decide_eq_false (fun z => z.1 rfl))
      · rw [if_neg (fun z => q (by have := ad_inj.mp z; exact Option.some.inj this)), ad_some, ad_some, ck_eq (it_sh hcb (by omega)), ck_eq (it_sh hcb (by omega)), (hC.it hx).1.2.2.2.1, (hC.it hd).1.2.2.2.1, ifd ad_inj]
        by_cases q2 : dO x = dO d
        · rw [if_pos q2]; exact go (by rw [hrv]; exact decide_eq_true ⟨q, q2⟩)
        · rw [if_neg q2]; exact stay (by rw [hrv]; exact decide_eq_false (fun z => q2 z.2))
