/-! ===== the law's steps: the other calls ===== -/
theorem st_place {A : LST} {σ : SG} {r : mm_R} (h : INV A σ) : After (x_X12_place 1101) (fun _ => 0) False r σ :=
  step_of (A' := A) h h.1 h.2.1 (fCl_refl σ) (fun ω hR => ⟨_, _, rfl, f5_fRf (f5_u ω 0), sI_s _ _ _ _, fun z => z.elim, IR_f5 hR h.1 (f5_u ω 0)⟩)
theorem st_out {U : Nat} {A : LST} {σ : SG} {k : Int32} (hU : 4000 < U) (h : INV A σ) : ∃ r, ((∃ w, r = .inl (some (.long w))) ∨ r = .inr IOB) ∧ x_X11_out U 0 k σ = some (r, σ) ∧ ∀ ω, (∀ b, b ≠ 1185 → sm σ ω b) → ∃ v υ, x_X12_out U 1101 k ω = some (v, υ) ∧ fRf ω υ ∧ sI υ 1101 5 = otC r ∧ (∀ w, r = .inl (some (.long w)) → v = w) ∧ ∃ A', INV A' υ := by
  obtain ⟨zc, hO⟩ := h.2.1.2.1
  refine ⟨_, ?_, X11_out (U := U) (k := k) hU hO, fun ω hω => ?_⟩
  · unfold otS
    split
    · exact Or.inr rfl
    · split
      · exact Or.inl ⟨_, rfl⟩
      · exact Or.inr rfl
  have hRω : IR A ω := IR_sm h.2.2 h.1 (fun b h1 h2 => hω b (by omega))
  have hCω : IC A ω := IC_sm h.2.1 h.1 (fun b hb => hω b (by omega))
  obtain ⟨zr, hOr⟩ := hRω.2.1
  obtain ⟨v, υ, d1, d2, d3, d4⟩ := X12_out (U := U) (k := k) hU hOr
  refine ⟨v, υ, d1, f5_fRf d2, d3, fun w hw => ?_, A, h.1, IC_sm hCω h.1 (fun b hb => d2.1 b (by omega)), IR_f5 hRω h.1 d2⟩
  rcases d4 with z | ⟨E, z⟩
  · rw [z] at hw; cases hw; rfl
  · rw [z] at hw; cases hw
theorem nI_d {n : Nat} {w : Int32} (h : (.inl (some (.int (nI n))) : mm_R) = .inl (some (.int w))) : nI n = w := by
  injection h with h
  injection h with h
  injection h
theorem svV_c (B : SV) : svV B = none ∨ ∃ s V, svV B = some (s, V) := by
  cases h : svV B with
  | none => exact Or.inl rfl
  | some q => exact Or.inr ⟨q.1, q.2, rfl⟩
theorem st_encode {U : Nat} {A : LST} {σ : SG} (hU : 210000 < U) (h : INV A σ) : ∃ r τ, okR [ISE] r ∧ x_X11_encode U 0 σ = some (r, τ) ∧ fCl σ τ ∧ After (x_X12_encode U 1101) thS True r τ := by
  have hP : ∀ b k, Penc b k → 1101 ≤ b ∧ b ≤ 1184 := fun b k z => by unfold Penc PEs at z; omega
  have hK : ∀ b k, (b = 1101 ∧ k = 1) ∨ b = 1102 ∨ KpR b k → ¬ Penc b k := fun b k z y => by unfold KpR at z; unfold Penc PEs at y; omega
  rcases svV_c (stB A) with hV | ⟨s, V, hV⟩
  · obtain ⟨τ, c1, c2, c3⟩ := C_encode_no (U := U) (h.2.1.2.2.2.2.1 hV)
    refine ⟨_, τ, ok_1, c1, fun b hb => c3 b (by omega) (by omega), step_of (A' := (A.1, [], A.2.2)) h h.1 (IC_out h.2.1 h.1 c2 (fun b h1 h2 _ => c3 b h1 h2)) (fun b hb => c3 b (by omega) (by omega)) (fun ω hR => ?_)⟩
    obtain ⟨υ, d1, d2, d3, d4⟩ := N_encode_no (U := U) (hR.2.2.2.1 hV)
    exact ⟨0, υ, d1, fRf_P d4 hP, d3, fun _ w hw => (by cases hw), IR_out hR h.1 d2 (fun b k hb => ⟨(d4 b k (hK b k hb)).1, (d4 b k (hK b k hb)).2.1⟩)⟩
  · obtain ⟨hs, ⟨z, hz⟩, hAK, hn⟩ := h.1.2 s V hV
    have hg := h.1.1 s hs
    have hl := e_len hg hAK.2.2 hz hn hAK.2.1
    obtain ⟨m, hVC⟩ := h.2.1.2.2.2.2.2 s V hV
    obtain ⟨τ, c1, c2, c3⟩ := C_encode (U := U) (by omega) cA_cb hg (h.2.1.2.2.1 s hs) hVC hz (by omega)
    refine ⟨_, τ, ok_i, c1, fun b hb => c3 b (by omega) (by omega), step_of (A' := (A.1, eMf (svT (stB A) s) (svD (stB A) s) V z 0, A.2.2)) h h.1 (IC_out h.2.1 h.1 c2 (fun b h1 h2 _ => c3 b h1 h2)) (fun b hb => c3 b (by omega) (by omega)) (fun ω hR => ?_)⟩
    obtain ⟨h79, H, hVS⟩ := hR.2.2.2.2 s V hV
    have hc := e_cost hg hz hVS.2.2.2.2.1.2.2.1 hn
    obtain ⟨υ, d1, d2, d3, _, _, d4⟩ := N_encode (U := U) (by omega) hs hg h79 (hR.2.2.1 s hs) hVS hz hAK hl (by omega)
    exact ⟨_, υ, d1, fRf_P d4 hP, d3, fun _ w hw => nI_d hw, IR_out hR h.1 d2 (fun b k hb => ⟨(d4 b k (hK b k hb)).1, (d4 b k (hK b k hb)).2.1⟩)⟩
/-- the reference's code of what a print throws -/
def prC (r : mm_R) : Int32 := match r with
  | .inl _ => 0
  | .inr E => if E = ISE then 1 else 2
theorem st_print {U : Nat} {A : LST} {σ : SG} (hU : 210000 < U) (h : INV A σ) : ∃ r τ, okR [ISE, UOE] r ∧ x_X11_print U 0 σ = some (r, τ) ∧ fCl σ τ ∧ After (x_X12_print U 1101) prC True r τ := by
  have hP : ∀ b k, Pprn b k → 1101 ≤ b ∧ b ≤ 1184 := fun b k z => by unfold Pprn PPr at z; omega
  have hK : ∀ b k, (b = 1101 ∧ k = 1) ∨ b = 1102 ∨ KpR b k → ¬ Pprn b k := fun b k z y => by unfold KpR at z; unfold Pprn PPr at y; omega
  rcases svV_c (stB A) with hV | ⟨s, V, hV⟩
  · obtain ⟨τ, c1, c2, c3⟩ := C_print_no (U := U) (h.2.1.2.2.2.2.1 hV)
    refine ⟨_, τ, ok_1, c1, fun b hb => c3 b (by omega) (by omega) (by omega), step_of (A' := (A.1, [], A.2.2)) h h.1 (IC_out h.2.1 h.1 c2 (fun b h1 h2 h3 => c3 b h1 h2 (by omega))) (fun b hb => c3 b (by omega) (by omega) (by omega)) (fun ω hR => ?_)⟩
    obtain ⟨υ, d1, d2, d3, d4⟩ := N_print_no (U := U) (hR.2.2.2.1 hV)
    exact ⟨0, υ, d1, fRf_P d4 hP, d3, fun _ w hw => (by cases hw), IR_out hR h.1 d2 (fun b k hb => ⟨(d4 b k (hK b k hb)).1, (d4 b k (hK b k hb)).2.1⟩)⟩
  · obtain ⟨hs, ⟨z, hz⟩, hAK, hn⟩ := h.1.2 s V hV
    have hg := h.1.1 s hs
    obtain ⟨m, hVC⟩ := h.2.1.2.2.2.2.2 s V hV
    obtain ⟨τ, c1, c2, c3⟩ := C_print (U := U) (by omega) cA_cb hg (h.2.1.2.2.1 s hs) hVC hz
    refine ⟨_, τ, ok_prA, c1, fun b hb => c3 b (by omega) (by omega) (by omega), step_of (A' := (A.1, prO (pMf (svT (stB A) s) (svD (stB A) s) V z 0), A.2.2)) h h.1 (IC_out h.2.1 h.1 c2 (fun b h1 h2 h3 => c3 b h1 h2 (by omega))) (fun b hb => c3 b (by omega) (by omega) (by omega)) (fun ω hR => ?_)⟩
    obtain ⟨h79, H, hVS⟩ := hR.2.2.2.2 s V hV
    have hc := p_cost hg hz hVS.2.2.2.2.1.2.2.1 hn
    obtain ⟨υ, d1, d2, d3, _, _, d4⟩ := N_print (U := U) (by omega) hs hg h79 (hR.2.2.1 s hs) hVS hz hAK (by omega)
    refine ⟨_, υ, d1, fRf_P d4 hP, d3.trans ?_, fun _ w hw => ?_, IR_out hR h.1 d2 (fun b k hb => ⟨(d4 b k (hK b k hb)).1, (d4 b k (hK b k hb)).2.1⟩)⟩
    · unfold prA
      split <;> rfl
    · unfold prA at hw
      unfold prO
      split at hw
      · rename_i q
        rw [if_pos q]
        exact nI_d hw
      · cases hw
theorem st_check {U : Nat} {A : LST} {σ : SG} {x y : Int32} (hU : 210000 < U) (h : INV A σ) : ∃ r τ, okR [IAE] r ∧ x_X11_check U 0 x y σ = some (r, τ) ∧ fCl σ τ ∧ After (x_X12_check U 1101 x y) fdC True r τ := by
  have hP : ∀ b k, PchK b k → 1101 ≤ b ∧ b ≤ 1184 := fun b k z => by unfold PchK PCk at z; omega
  have hK : ∀ b k, (b = 1101 ∧ k = 1) ∨ b = 1102 ∨ KpR b k → ¬ PchK b k := fun b k z y => by unfold KpR at z; unfold PchK PCk at y; omega
  have g0 := h.1.1 0 (by decide)
  have g1 := h.1.1 1 (by decide)
  obtain ⟨τ, c1, c2, c3⟩ := C_check (U := U) (x := x) (y := y) hU g0 g1 (h.2.1.2.2.1 0 (by decide)) (h.2.1.2.2.1 1 (by decide))
  refine ⟨_, τ, ok_chS, c1, fun b hb => c3 b (by omega) (by omega) (by omega) (by omega) (by omega) (by omega), step_of (A' := (A.1, (chS (svT (stB A) 0) (svT (stB A) 1) (svD (stB A) 0) (svD (stB A) 1) x y).2, A.2.2)) h h.1 (IC_out h.2.1 h.1 c2 (fun b h1 h2 h3 => c3 b h1 h2 (by omega) (by omega) (by omega) (by omega))) (fun b hb => c3 b (by omega) (by omega) (by omega) (by omega) (by omega) (by omega)) (fun ω hR => ?_)⟩
  obtain ⟨v, υ, d1, d2, d3, d4, d5⟩ := N_check (U := U) (x := x) (y := y) hU g0 g1 (hR.2.2.1 0 (by decide)) (hR.2.2.1 1 (by decide))
  exact ⟨v, υ, d1, fRf_P d5 hP, d3, fun _ w hw => d4 w hw, IR_out hR h.1 d2 (fun b k hb => ⟨(d5 b k (hK b k hb)).1, (d5 b k (hK b k hb)).2.1⟩)⟩
/-- the schema that a compile leaves -/
def cmp1 (S : List Nat) : List Nat × List Dc := match scm S with
  | none => ([], [])
  | some D => (S, D)
def cmpB (B : SV) (s : Nat) (S : List Nat) : SV := (fun t => if t = s then cmp1 S else B.1 t, none)
theorem cmpB_s (B : SV) (s : Nat) (S : List Nat) : svT (cmpB B s S) s = (cmp1 S).1 ∧ svD (cmpB B s S) s = (cmp1 S).2 := by
  have e : (if s = s then cmp1 S else B.1 s) = cmp1 S := if_pos rfl
  exact ⟨congrArg Prod.fst e, congrArg Prod.snd e⟩
theorem cmpB_n (B : SV) {s t : Nat} (S : List Nat) (h : t ≠ s) : svT (cmpB B s S) t = svT B t ∧ svD (cmpB B s S) t = svD B t := by
  have e : (if t = s then cmp1 S else B.1 t) = B.1 t := if_neg h
  exact ⟨congrArg Prod.fst e, congrArg Prod.snd e⟩
theorem cmp1_g {S : List Nat} (h8 : ok8 S) (hl : S.length ≤ 700) : GSc (cmp1 S).1 (cmp1 S).2 := by
  unfold cmp1
  cases h : scm S with
  | none => exact GSc_nil
  | some D => exact GSc_scm h8 hl h
theorem st_compile {U : Nat} {A : LST} {σ : SG} {p : Int32} (hU : 4000 < U) (h : INV A σ) : ∃ r τ, okR [IAE] r ∧ x_X11_compile U 0 p σ = some (r, τ) ∧ fCl σ τ ∧ After (x_X12_compile U 1101 p) fdC False r τ := by
  rcases sch2 p with hp | ⟨s, hs, rfl⟩
  · exact ⟨_, σ, ok_1, C_compile_no hp, fCl_refl σ, step_of (A' := A) h h.1 h.2.1 (fCl_refl σ) (fun ω hR => ⟨0, _, N_compile_no hp, f5_fRf (f5_u ω 1), by rw [sI_s]; rfl, fun z => z.elim, IR_f5 hR h.1 (f5_u ω 1)⟩)⟩
  · have hs2 : s = 0 ∨ s = 1 := by omega
    have h8 := h.2.1.ok
    have hl := h.2.1.len
    have hcs := cA_2 hs
    obtain ⟨v, τ, c1, c2, c3, c4, c5, c6⟩ := X11_compile (U := U) hU hs h.2.1.1
    have hF : fCl σ τ := fun b hb => c2 b (by omega) (by omega) (by omega) (by omega) (by omega) (by omega)
    have hG : IG (cmpB (stB A) s (stS A)) := by
      refine ⟨fun t ht => ?_, fun t V z => by cases z⟩
      by_cases q : t = s
      · subst q
        rw [(cmpB_s _ _ _).1, (cmpB_s _ _ _).2]
        exact cmp1_g h8 hl
      · rw [(cmpB_n _ _ q).1, (cmpB_n _ _ q).2]
        exact h.1.1 t ht
    have hC' : IC ([], A.2.1, cmpB (stB A) s (stS A)) τ := by
      obtain ⟨z, hO⟩ := h.2.1.2.1
      refine ⟨c3, ⟨z, hO.sm (c2 3 (by omega) (by omega) (by omega) (by omega) (by omega) (by omega)) (c2 4 (by omega) (by omega) (by omega) (by omega) (by omega) (by omega))⟩, fun t ht => ?_, c4.2.2.2.2.1, fun _ => c4, fun t V z => by cases z⟩
      by_cases q : t = s
      · subst q
        show CS τ (cA t) (svT (cmpB (stB A) t (stS A)) t) (svD (cmpB (stB A) t (stS A)) t)
        rw [(cmpB_s _ _ _).1, (cmpB_s _ _ _).2]
        unfold cmp1
        cases hm : scm (stS A) with
        | none => exact c5 hm
        | some D => exact c6 D hm
      · show CS τ (cA t) (svT (cmpB (stB A) s (stS A)) t) (svD (cmpB (stB A) s (stS A)) t)
        rw [(cmpB_n _ _ q).1, (cmpB_n _ _ q).2]
        have e : ∀ b, cA t ≤ b → b ≤ cA t + 191 → b ≠ 0 ∧ b ≠ 1 ∧ (b < cA s ∨ cA s + 191 < b) ∧ b ≠ 389 ∧ b ≠ 1091 ∧ b ≠ 1092 := by
          have : t = 0 ∨ t = 1 := by omega
          intro b g1 g2
          rcases hs2 with z | z <;> rcases this with y | y
          · exact absurd (y.trans z.symm) q
          · subst z; subst y
            have e0 : cA 0 = 5 := rfl
            have e1 : cA 1 = 197 := rfl
            omega
          · subst z; subst y
            have e0 : cA 0 = 5 := rfl
            have e1 : cA 1 = 197 := rfl
            omega
          · exact absurd (y.trans z.symm) q
        exact CS_sm (h.2.1.2.2.1 t ht) (fun b g1 g2 => by obtain ⟨e1, e2, e3, e4, e5, e6⟩ := e b g1 g2; exact c2 b e1 e2 e3 e4 e5 e6)
    refine ⟨_, τ, ok_i, c1, hF, step_of (A' := ([], A.2.1, cmpB (stB A) s (stS A))) h hG hC' hF (fun ω hR => ?_)⟩
    obtain ⟨v', υ, d1, d2, d3, d4, d5, d6, d7⟩ := N_compile (U := U) hU hs hR.1 h8 hl
    refine ⟨v', υ, d1, fRf_P d2 (fun b k z => by unfold Pcm PKP at z; omega), d4, fun z => z.elim, d3, ?_, fun t ht => ?_, fun _ => d5, fun t V z => by cases z⟩
    · obtain ⟨z, g1, g2, g3, g4⟩ := hR.2.1
      have e3 : ¬ Pcm s 1101 3 := by unfold Pcm PKP; intro y; rcases y with y | y; exact absurd y.2 (by decide); omega
      have e4 : ¬ Pcm s 1101 4 := by unfold Pcm PKP; intro y; rcases y with y | y; exact absurd y.2 (by decide); omega
      exact ⟨z, (d2 1101 3 e3).1.trans g1, (d2 1101 4 e4).1.trans g2, fun i c hi => (d2 1103 i (by unfold Pcm PKP; omega)).1.trans (g3 i c hi), g4⟩
    · by_cases q : t = s
      · subst q
        show RS υ t (svT (cmpB (stB A) t (stS A)) t) (svD (cmpB (stB A) t (stS A)) t)
        rw [(cmpB_s _ _ _).1, (cmpB_s _ _ _).2]
        unfold cmp1
        cases hm : scm (stS A) with
        | none => exact d6 hm
        | some D => exact d7 D hm
      · show RS υ t (svT (cmpB (stB A) s (stS A)) t) (svD (cmpB (stB A) s (stS A)) t)
        rw [(cmpB_n _ _ q).1, (cmpB_n _ _ q).2]
        exact RS_keep (hR.2.2.1 t ht) (fun b k hb => (d2 b k (by unfold PKP at hb; unfold Pcm PKP; omega)).1)
theorem seR_some {T : List Nat} {D : List Dc} {o : Option AV} {V : AV} (h : (seR T D o).2 = some V) : o = some V ∧ nV T D V ≤ 200 := by
  unfold seR at h
  cases o with
  | none => cases h
  | some A =>
    simp only at h
    split at h
    · cases h
    · rename_i q
      cases h
      exact ⟨rfl, by omega⟩
theorem st_rd {s : Nat} {A : LST} {σ : SG} {x y : Int32} {rd : Nat → Nat → Option AV} {cx : SG → Option (mm_R × SG)} {nx : SG → Option (Int32 × SG)} (h : INV A σ) (hs : s < 2)
    (hW : ∀ V, rdV (svD (stB A) s) rd x y = some V → (∃ z, AW (svT (stB A) s) (svD (stB A) s) V z) ∧ AK (svT (stB A) s) (svD (stB A) s) V)
    (hc : ∃ τ, cx σ = some ((seR (svT (stB A) s) (svD (stB A) s) (rdV (svD (stB A) s) rd x y)).1, τ) ∧ fCd σ τ ∧ RB τ 1 [] 0 ∧ ((seR (svT (stB A) s) (svD (stB A) s) (rdV (svD (stB A) s) rd x y)).2 = none → VCn τ) ∧ ∀ V, (seR (svT (stB A) s) (svD (stB A) s) (rdV (svD (stB A) s) rd x y)).2 = some V → ∃ m, msg (svD (stB A) s) x = some m ∧ VCs τ (cA s) (svT (stB A) s) (svD (stB A) s) m V)
    (hn : ∀ ω, IR A ω → ∃ v υ, nx ω = some (v, υ) ∧ fP Pdf ω υ ∧ sI υ 1101 1 = 0 ∧ sI υ 1101 5 = fdC (seR (svT (stB A) s) (svD (stB A) s) (rdV (svD (stB A) s) rd x y)).1 ∧ (∀ w, (seR (svT (stB A) s) (svD (stB A) s) (rdV (svD (stB A) s) rd x y)).1 = .inl (some (.int w)) → v = w) ∧ VRo υ s (svT (stB A) s) (svD (stB A) s) (seR (svT (stB A) s) (svD (stB A) s) (rdV (svD (stB A) s) rd x y)).2) : ∃ r τ, okR [IAE, ISE] r ∧ cx σ = some (r, τ) ∧ fCl σ τ ∧ After nx fdC True r τ := by
  obtain ⟨τ, c1, c2, c3, c4, c5⟩ := hc
  have hF : fCl σ τ := fun b hb => c2 b (by omega) (by omega)
  generalize hR9 : seR (svT (stB A) s) (svD (stB A) s) (rdV (svD (stB A) s) rd x y) = q9 at *
  have hG : IG ((stB A).1, q9.2.map (fun V => (s, V))) := by
    refine ⟨h.1.1, fun t V z => ?_⟩
    have z' : q9.2.map (fun V => (s, V)) = some (t, V) := z
    cases h9 : q9.2 with
    | none => rw [h9] at z'; cases z'
    | some V9 =>
      rw [h9] at z'
      cases z'
      obtain ⟨e1, e2⟩ := seR_some (T := svT (stB A) s) (D := svD (stB A) s) (o := rdV (svD (stB A) s) rd x y) (V := V) (by rw [hR9, h9])
      exact ⟨hs, (hW V e1).1, (hW V e1).2, e2⟩
  have hC' : IC ([], A.2.1, ((stB A).1, q9.2.map (fun V => (s, V)))) τ := by
    obtain ⟨z, hO⟩ := h.2.1.2.1
    refine ⟨c3, ⟨z, hO.sm (c2 3 (by omega) (by omega)) (c2 4 (by omega) (by omega))⟩, fun t ht => ?_, ?_, fun z => ?_, fun t V z => ?_⟩
    · have hc := cA_2 ht
      exact CS_sm (h.2.1.2.2.1 t ht) (fun b g1 g2 => c2 b (by omega) (by omega))
    · cases h9 : q9.2 with
      | none => exact (c4 h9).2.2.2.2.1
      | some V =>
        obtain ⟨m, _, ⟨G, g1, _⟩, _⟩ := c5 V h9
        exact g1.2.2.1.2.1
    · have z' : q9.2.map (fun V => (s, V)) = none := z
      cases h9 : q9.2 with
      | none => exact c4 h9
      | some V => rw [h9] at z'; cases z'
    · have z' : q9.2.map (fun V => (s, V)) = some (t, V) := z
      cases h9 : q9.2 with
      | none => rw [h9] at z'; cases z'
      | some V9 =>
        rw [h9] at z'
        cases z'
        obtain ⟨m, _, hm⟩ := c5 V h9
        exact ⟨m, hm⟩
  refine ⟨_, τ, by rw [← hR9]; exact ok_seR, c1, hF, step_of (A' := ([], A.2.1, ((stB A).1, q9.2.map (fun V => (s, V))))) h hG hC' hF (fun ω hR => ?_)⟩
  obtain ⟨v, υ, d1, d2, d3, d4, d5, d6⟩ := hn ω hR
  refine ⟨v, υ, d1, fRf_P d2 (fun b k z => by unfold Pdf Pdec PDc PDn Pfin at z; omega), d4, fun _ w hw => d5 w hw, RTr_nil d3, ?_, fun t ht => ?_, fun z => ?_, fun t V z => ?_⟩
  · obtain ⟨z, g1, g2, g3, g4⟩ := hR.2.1
    have e : ∀ b k, (b = 1101 ∧ (k = 3 ∨ k = 4)) ∨ b = 1103 → ¬ Pdf b k := fun b k z y => by unfold Pdf Pdec PDc PDn Pfin at y; omega
    exact ⟨z, (d2 1101 3 (e _ _ (by omega))).1.trans g1, (d2 1101 4 (e _ _ (by omega))).1.trans g2, fun i c hi => (d2 1103 i (e _ _ (by omega))).1.trans (g3 i c hi), g4⟩
  · exact RS_keep (hR.2.2.1 t ht) (fun b k hb => (d2 b k (by unfold PKP at hb; unfold Pdf Pdec PDc PDn Pfin; omega)).1)
  · have z' : q9.2.map (fun V => (s, V)) = none := z
    cases h9 : q9.2 with
    | none => rw [h9] at d6; exact d6
    | some V => rw [h9] at z'; cases z'
  · have z' : q9.2.map (fun V => (s, V)) = some (t, V) := z
    cases h9 : q9.2 with
    | none => rw [h9] at z'; cases z'
    | some V9 =>
      rw [h9] at z' d6
      cases z'
      exact d6
theorem st_no {A : LST} {σ : SG} {cx : SG → Option (mm_R × SG)} {nx : SG → Option (Int32 × SG)} (h : INV A σ) (hc : ∃ τ, cx σ = some (.inr IAE, τ) ∧ fCd σ τ ∧ RB τ 1 [] 0 ∧ VCn τ) (hn : ∀ ω, ∃ τ, nx ω = some (0, τ) ∧ fP Pbn ω τ ∧ sI τ 1101 1 = 0 ∧ sI τ 1101 79 = 0 ∧ sI τ 1101 5 = 1) : ∃ r τ, okR [IAE, ISE] r ∧ cx σ = some (r, τ) ∧ fCl σ τ ∧ After nx fdC True r τ := by
  obtain ⟨τ, c1, c2, c3, c4⟩ := hc
  have hF : fCl σ τ := fun b hb => c2 b (by omega) (by omega)
  have hG : IG ((stB A).1, none) := ⟨h.1.1, fun t V z => by cases z⟩
  have hC' : IC ([], A.2.1, ((stB A).1, none)) τ := by
    obtain ⟨z, hO⟩ := h.2.1.2.1
    refine ⟨c3, ⟨z, hO.sm (c2 3 (by omega) (by omega)) (c2 4 (by omega) (by omega))⟩, fun t ht => ?_, c4.2.2.2.2.1, fun _ => c4, fun t V z => by cases z⟩
    have hc := cA_2 ht
    exact CS_sm (h.2.1.2.2.1 t ht) (fun b g1 g2 => c2 b (by omega) (by omega))
  refine ⟨_, τ, ok_1, c1, hF, step_of (A' := ([], A.2.1, ((stB A).1, none))) h hG hC' hF (fun ω hR => ?_)⟩
  obtain ⟨υ, d1, d2, d3, d4, d5⟩ := hn ω
  refine ⟨0, υ, d1, fRf_P d2 (fun b k z => by unfold Pbn at z; omega), d5, fun _ w hw => (by cases hw), RTr_nil d3, ?_, fun t ht => ?_, fun _ => d4, fun t V z => by cases z⟩
  · obtain ⟨z, g1, g2, g3, g4⟩ := hR.2.1
    exact ⟨z, (d2 1101 3 (by unfold Pbn; omega)).1.trans g1, (d2 1101 4 (by unfold Pbn; omega)).1.trans g2, fun i c hi => (d2 1103 i (by unfold Pbn; omega)).1.trans (g3 i c hi), g4⟩
  · exact RS_keep (hR.2.2.1 t ht) (fun b k hb => (d2 b k (by unfold PKP at hb; unfold Pbn; omega)).1)
theorem st_decode {U : Nat} {A : LST} {σ : SG} {p x y : Int32} (hU : 4000 < U) (h : INV A σ) : ∃ r τ, okR [IAE, ISE] r ∧ x_X11_decode U 0 p x y σ = some (r, τ) ∧ fCl σ τ ∧ After (x_X12_decode U 1101 p x y) fdC True r τ := by
  rcases sch2 p with hp | ⟨s, hs, rfl⟩
  · exact st_no h (C_decode_no hU hp h.2.1.2.2.2.1) (fun ω => N_decode_no hp)
  · have hg := h.1.1 s hs
    have hC := h.2.1.2.2.1 s hs
    have hS := h.2.2.2.2.1 s hs
    have hw := dc_AW (U := U) (x := x) (y := y) hU hs hg hC h.2.1.1 hS h.2.2.1
    have hk := dc_AK (U := U) (x := x) (y := y) hU hs hg hS h.2.2.1 h.2.1.ok h.2.1.len
    refine st_rd h hs (fun V hV => ⟨hw V hV, hk V hV⟩) (C_decode (U := U) hU hs hg hC h.2.1.1 h.2.1.2.2.2.1 hw) (fun ω hR => ?_)
    obtain ⟨v, υ, d1, d2, d3, d4, d5, d6, _⟩ := N_decode (U := U) (x := x) (y := y) hU hs hg (hR.2.2.1 s hs) hR.1 h.2.1.ok h.2.1.len
    exact ⟨v, υ, d1, d2, d3, d4, d5, d6⟩
theorem st_parse {U : Nat} {A : LST} {σ : SG} {p x y : Int32} (hU : 4000 < U) (h : INV A σ) : ∃ r τ, okR [IAE, ISE] r ∧ x_X11_parse U 0 p x y σ = some (r, τ) ∧ fCl σ τ ∧ After (x_X12_parse U 1101 p x y) fdC True r τ := by
  rcases sch2 p with hp | ⟨s, hs, rfl⟩
  · exact st_no h (C_parse_no hU hp h.2.1.2.2.2.1) (fun ω => N_parse_no hp)
  · have hg := h.1.1 s hs
    have hC := h.2.1.2.2.1 s hs
    have hS := h.2.2.2.2.1 s hs
    have hw := pc_AW (U := U) (x := x) (y := y) hU hs hg hC h.2.1.1 hS h.2.2.1
    refine st_rd h hs hw (C_parse (U := U) hU hs hg hC h.2.1.1 h.2.1.2.2.2.1 (fun V hV => (hw V hV).1)) (fun ω hR => ?_)
    obtain ⟨v, υ, d1, d2, d3, d4, d5, d6, _⟩ := N_parse (U := U) (x := x) (y := y) hU hs hg (hR.2.2.1 s hs) hR.1 h.2.1.ok h.2.1.len
    exact ⟨v, υ, d1, d2, d3, d4, d5, d6⟩
