/-! ===== the reference opens a message ===== -/
theorem ff_filter {α : Type} {p : α → Bool} : ∀ (L : List α) (k i : Nat), ff p L k = some i → ∃ d K, L[i - k]? = some d ∧ L.filter p = d :: K := by
  intro L
  induction L with
  | nil => intro k i h; cases h
  | cons a L ih =>
    intro k i h
    rw [ff] at h
    cases e : p a with
    | true =>
      rw [e, if_pos rfl] at h
      cases h
      exact ⟨a, L.filter p, by rw [Nat.sub_self]; rfl, by rw [List.filter_cons, e, if_pos rfl]⟩
    | false =>
      rw [e, if_neg (by decide)] at h
      obtain ⟨d, K, h1, h2⟩ := ih (k + 1) i h
      obtain ⟨_, _, _, h3, _⟩ := ff_some _ _ _ h
      exact ⟨d, K, by rw [show i - k = (i - (k + 1)) + 1 by omega]; exact h1, by rw [List.filter_cons, e, if_neg (by decide)]; exact h2⟩
theorem V_msg {U s n f t lm : Nat} {σ : SG} {T : List Nat} {D : List Dc} {A : AV} {H : Rh} {d : Dc} (hU4 : 4000 < U) (hs : s < 2) (hg : GSc T D) (hS : RS σ s T D) (h : VR σ s T D A H) (hdp : DPk T D lm A H) (hlm : lm ≤ 20) (h85 : sI σ 1101 85 = nI lm) (hn : n < aC A) (hF : isF D (aN A n) f d) (h13 : fty T D d = 13) (ht : ftg T D d = some t) (hl : (zR H).length < 700) (hc : aC A < 351) (h107 : sI σ 1101 107 = 0) :
    ∃ τ H', x_X12_putMessage U 1101 (nI n) (nI (fx D s f)) σ = some (nI (aMsg D A n f d t).2, τ) ∧ VR τ s T D (aMsg D A n f d t).1 H' ∧ fP PV σ τ ∧ (sI τ 1101 107 = 0 ↔ zD H n + 1 ≤ lm) ∧ (zD H n + 1 ≤ lm → DPk T D lm (aMsg D A n f d t).1 H' ∧ zD H' (aMsg D A n f d t).2 = zD H n + 1 ∧ zD H' n = zD H n) ∧ (zR H').length ≤ (zR H).length + 1 ∧ zU H' = zU H ∧ zP H' = zP H ∧ aC (aMsg D A n f d t).1 ≤ aC A + 1 ∧ (aMsg D A n f d t).2 < aC (aMsg D A n f d t).1 ∧ (∀ m, m < aC A → zD H' m = zD H m) ∧ zT H' = zT H := by
  have hn4 : n < 400 := by omega
  have hl9 := hg.2.1
  obtain ⟨new, old⟩ := N_rowFor hU4 hs hg hF.1 hF.2.1 hn4 h.n400 hS h.2.1 hl
  have hro : dR d = true → dO d = none := (hg.fld hF.1 hF.2.1).2.2.2.2.2
  obtain ⟨_, hMt⟩ := (show ∃ t', ftg T D d = some t' ∧ isM D t' from (ftg_msg hg hF.1 hF.2.1).1 h13)
  have hMt : isM D t := by
    obtain ⟨t', e1, e2⟩ := (ftg_msg hg hF.1 hF.2.1).1 h13
    rw [ht] at e1
    cases e1
    exact e2
  have H0 := h
  obtain ⟨g1, g2, g3, g4, g5, g6, g7⟩ := h
  have it13 : ∀ r, itR T D d r = (0, [], rK r) := fun r => by unfold itR; rw [if_pos h13]
  unfold x_X12_putMessage x_X12_putMessage_42
  cases ho : oldR T D n f d (zR H) with
  | some i =>
    obtain ⟨υ, u1, u2, u3⟩ := old i ho
    have hRf : dR d = false := by
      unfold oldR at ho
      cases hR : dR d with
      | true => rw [hR] at ho; cases ho
      | false => rfl
    have ho' := ho
    unfold oldR at ho'
    rw [hRf, if_neg (show ¬ false = true by decide)] at ho'
    obtain ⟨r, K, r1, r2⟩ := ff_filter _ _ _ ho'
    rw [Nat.sub_zero] at r1
    have ekR : kR T D n f d (zR H) = killR T D n f d (zR H) := by unfold kR; rw [hRf]; rfl
    have hil := (List.getElem?_eq_some_iff.mp r1).1
    rw [killR_len] at hil
    have hpr : pRw n f r = true := by
      have : r ∈ (killR T D n f d (zR H)).filter (pRw n f) := by rw [r2]; exact List.mem_cons_self ..
      exact (List.mem_filter.mp this).2
    obtain ⟨hrn, hrf⟩ := pRw_of hpr
    have hEf : aE A n f = (0, [], rK r) :: K.map (itR T D d) := by
      have hk := fil_kR (T := T) (D := D) (n := n) (f := f) (n' := n) (g := f) (d := d) (R := zR H) hro
      rw [if_pos rfl, if_pos rfl, hRf, if_neg (show ¬ false = true by decide), if_pos h13, ekR, r2] at hk
      rw [← (g7 n hn).1 f d hF, ← hk, List.map_cons, it13]
    have hm : aMsg D A n f d t = (aOld D A n f d, rK r) := by unfold aMsg; rw [hRf, hEf]
    rw [ekR] at u2
    have hrow := (u2.2.2 i r r1).1
    obtain ⟨_, _, _, _, d', hd', hd2', h70⟩ := hrow
    rw [hrf, hF.1] at hd'
    cases hd'
    rw [if_pos h13] at h70
    have hmem : r ∈ killR T D n f d (zR H) := List.mem_of_getElem? r1
    have hok := RwOk_kR (T := T) (D := D) (n := n) (f := f) (d := d) g6 r (by rw [ekR]; exact hmem)
    obtain ⟨o1, d2, o2, o3⟩ := hok
    have : d2 = d := by have := o2.1; rw [hrf, hF.1] at this; exact (Option.some.inj this).symm
    subst this
    obtain ⟨o4, o5, o6⟩ := o3 h13
    have hkb : rK r < 2 ^ 31 := by omega
    rw [u1, b2_eq, ix_in (by omega) (by decide), h70, if_neg (show ¬ nI (rK r) = -1 from fun z => nI_neg hkb (by rw [z]; decide)), ix_in (by omega) (by decide), h70, hm]
    have c107 : sI υ 1101 107 = 0 := ((u3 1101 107 (by omega)).1).trans h107
    have hdr : zD H (rK r) = zD H n + 1 := by
      obtain ⟨x, hx, e1, e2, _, _, e5⟩ := kR_mem (T := T) (D := D) (n := n) (f := f) (d := d2) (R := zR H) (r := r) (by rw [ekR]; exact hmem)
      have := hdp.2.1 x hx d2 (by rw [← e2, hrf]; exact hF.1) h13
      rw [e5, ← hrn, e1]; exact this
    have hle : zD H n + 1 ≤ lm := by rw [← hdr]; exact hdp.1 _ o5
    refine ⟨υ, (killR T D n f d2 (zR H), zU H, zP H, zW H, zD H), rfl, ?_, rf_pv u3, ⟨fun _ => hle, fun _ => c107⟩, fun _ => ⟨⟨hdp.1, fun x hx y hy hy13 => ?_, (by have := BK_kR (n := n) (f := f) (d := d2) hdp.2.2; rw [ekR] at this; exact this)⟩, hdr, rfl⟩, by show (killR T D n f d2 (zR H)).length ≤ _; rw [killR_len]; omega, rfl, rfl, Nat.le_succ _, o5, fun _ _ => rfl, by show ((killR T D n f d2 (zR H)).map (fun r => (rT r).length)).sum + _ = zT H; rw [← ekR, kR_T]; rfl⟩
    · refine ⟨((u3 1101 80 (by omega)).1).trans g1, u2, ⟨((u3 1101 84 (by omega)).1).trans g3.1, fun i c hi => ((u3 1175 i (by omega)).1).trans (g3.2.1 i c hi), g3.2.2⟩, ⟨((u3 1101 83 (by omega)).1).trans g4.1, g4.2.1, fun i u hu => ?_⟩, ⟨((u3 1101 81 (by omega)).1).trans g5.1, g5.2.1, g5.2.2.1, fun m hm => ?_⟩, fun x hx => ?_, fun m hm => ⟨fun g x hx => ?_, (g7 m hm).2⟩⟩
      · obtain ⟨w1, w2, a, w3, w4, w5⟩ := g4.2.2 i u hu
        exact ⟨w1, ((u3 1172 i (by omega)).1).trans w2, a, ((u3 1173 i (by omega)).1).trans w3, ((u3 1174 i (by omega)).1).trans w4, w5⟩
      · obtain ⟨n1, n2, n3, n4, n5⟩ := g5.2.2.2 m hm
        refine ⟨n1, ((u3 1160 m (by omega)).1).trans n2, ((u3 1161 m (by omega)).1).trans n3, ((u3 1162 m (by omega)).1).trans n4, fun z => ?_⟩
        obtain ⟨y, d', y1, y2, y3, y4, y5⟩ := n5 z
        obtain ⟨w, w1, w2, w3, w4⟩ := kR_get (T := T) (D := D) (n := n) (f := f) (d := d2) y1
        rw [ekR] at w1
        exact ⟨w, d', w1, by rw [w3]; exact y2, y3, w4.trans y4, by rw [w2]; exact y5⟩
      · exact RwOk_kR (T := T) (D := D) (n := n) (f := f) (d := d2) g6 x (by rw [ekR]; exact hx)
      · have hk := fil_kR (T := T) (D := D) (n := n) (f := f) (n' := m) (g := g) (d := d2) (R := zR H) hro
        rw [ekR] at hk
        show ((killR T D n f d2 (zR H)).filter (pRw m g)).map (itR T D x) = up (aE A) n _ m g
        rw [hk]
        by_cases q : m = n
        · subst q
          rw [if_pos rfl, up_s]
          show _ = (if g ≠ f ∧ rivB D f d2 g then [] else aE A m g)
          by_cases q2 : g = f
          · subst q2
            rw [if_pos rfl, hRf, if_neg (show ¬ false = true by decide), if_pos h13, if_neg (fun z => z.1 rfl)]
            exact (g7 m hm).1 g x hx
          · rw [if_neg q2]
            cases hb : rivB D f d2 g with
            | true => rw [if_pos rfl, if_pos ⟨q2, rfl⟩]; rfl
            | false => rw [if_neg (show ¬ false = true by decide), if_neg (fun z => by cases z.2)]; exact (g7 m hm).1 g x hx
        · rw [if_neg q, up_o q]
          exact (g7 m hm).1 g x hx
    · obtain ⟨z, hz, e1, e2, _, _, e5⟩ := kR_mem (T := T) (D := D) (n := n) (f := f) (d := d2) (R := zR H) (r := x) (by rw [ekR]; exact hx)
      show zD H (rK x) = zD H (rN x) + 1
      rw [e5, e1]
      exact hdp.2.1 z hz y (by rw [← e2]; exact hy) hy13
  | none =>
    obtain ⟨υ, u1, u2, u3, u4, u5⟩ := new ho
    have w := u4
    obtain ⟨w1, w2, w3, w4, w5, w6, w7⟩ := w
    -- the field opens a new message
    have hm : aMsg D A n f d t = (aNew D A n f d t, aC A) := by
      unfold aMsg
      cases hR : dR d with
      | true => rfl
      | false =>
        have ho' := ho
        unfold oldR at ho'
        rw [hR, if_neg (show ¬ false = true by decide)] at ho'
        have ekR : kR T D n f d (zR H) = killR T D n f d (zR H) := by unfold kR; rw [hR]; rfl
        have hk := fil_kR (T := T) (D := D) (n := n) (f := f) (n' := n) (g := f) (d := d) (R := zR H) hro
        rw [if_pos rfl, if_pos rfl, hR, if_neg (show ¬ false = true by decide), if_pos h13, ekR] at hk
        have h0 : aE A n f = [] := by
          rw [← (g7 n hn).1 f d hF, ← hk, List.filter_eq_nil_iff.mpr]
          · rfl
          · intro r hr
            rw [ff_none _ _ ho' r hr]; decide
        rw [h0]
    obtain ⟨f1, _, _, _, f5, _, _, _⟩ := hS.f hF.1 hF.2.1
    have hpv := rf_pv u5
    have e19 : sI υ 1119 (fx D s f) = nI (cnt (D.take t) 0) := by
      rw [(u5 1119 _ (by omega)).1, f5, ht]
      unfold refI
      simp only
      obtain ⟨x, hx, hx0⟩ := hMt
      rw [knd_some hx, hx0]
    have e62 : sI υ 1162 n = nI (zD H n) := ((u5 1162 n (by omega)).1).trans (g5.2.2.2 n hn).2.2.2.1
    have e81 : sI υ 1101 81 = nI (aC A) := ((u5 1101 81 (by omega)).1).trans g5.1
    have hdn := hdp.1 n hn
    rw [u1, b2_eq, ix_in (by omega) (by decide), w6, if_pos rfl, ix_in (by omega) (by decide), ix_in hn4 (by decide), e19, e62, nI_1]
    unfold x_X12_addNode
    rw [e81, nI_1, sb_eq, ix_in (by omega) (by decide), sb_eq, ix_in (by omega) (by decide), sb_eq, ix_in (by omega) (by decide), sb_eq]
    have F1 : fP (fun b k => (b = 1101 ∧ k = 81) ∨ (1160 ≤ b ∧ b ≤ 1162 ∧ k = aC A)) υ (uI (uI (uI (uI υ 1101 81 (nI (aC A + 1))) 1160 (aC A) (nI (cnt (D.take t) 0))) 1161 (aC A) (nI (zR H).length)) 1162 (aC A) (nI (zD H n + 1))) := by
      refine fP_trans (fP_trans (fP_trans (fP_u ?_) (fP_u ?_)) (fP_u ?_)) (fP_u ?_)
      · exact Or.inl ⟨rfl, rfl⟩
      all_goals exact Or.inr ⟨by decide, by decide, rfl⟩
    have c81 : sI (uI (uI (uI (uI υ 1101 81 (nI (aC A + 1))) 1160 (aC A) (nI (cnt (D.take t) 0))) 1161 (aC A) (nI (zR H).length)) 1162 (aC A) (nI (zD H n + 1))) 1101 81 = nI (aC A + 1) := by rw [sI_o (Or.inl (by decide)), sI_o (Or.inl (by decide)), sI_o (Or.inl (by decide)), sI_s]
    have c60 : sI (uI (uI (uI (uI υ 1101 81 (nI (aC A + 1))) 1160 (aC A) (nI (cnt (D.take t) 0))) 1161 (aC A) (nI (zR H).length)) 1162 (aC A) (nI (zD H n + 1))) 1160 (aC A) = nI (cnt (D.take t) 0) := by rw [sI_o (Or.inl (by decide)), sI_o (Or.inl (by decide)), sI_s]
    have c61 : sI (uI (uI (uI (uI υ 1101 81 (nI (aC A + 1))) 1160 (aC A) (nI (cnt (D.take t) 0))) 1161 (aC A) (nI (zR H).length)) 1162 (aC A) (nI (zD H n + 1))) 1161 (aC A) = nI (zR H).length := by rw [sI_o (Or.inl (by decide)), sI_s]
    have c62 : sI (uI (uI (uI (uI υ 1101 81 (nI (aC A + 1))) 1160 (aC A) (nI (cnt (D.take t) 0))) 1161 (aC A) (nI (zR H).length)) 1162 (aC A) (nI (zD H n + 1))) 1162 (aC A) = nI (zD H n + 1) := sI_s _ _ _ _
    generalize (uI (uI (uI (uI υ 1101 81 (nI (aC A + 1))) 1160 (aC A) (nI (cnt (D.take t) 0))) 1161 (aC A) (nI (zR H).length)) 1162 (aC A) (nI (zD H n + 1))) = ω at *
    have c85 : sI ω 1101 85 = nI lm := ((F1 1101 85 (by omega)).1).trans (((u5 1101 85 (by omega)).1).trans h85)
    have c107 : sI ω 1101 107 = 0 := ((F1 1101 107 (by omega)).1).trans (((u5 1101 107 (by omega)).1).trans h107)
    rw [c85, ifd (ltI (by omega) (by omega)), hm]
    -- the end, whichever the flag
    have fin : ∀ (ψ : SG), fP (fun b k => b = 1101 ∧ k = 107) ω ψ → (sI ψ 1101 107 = 0 ↔ zD H n + 1 ≤ lm) → ∃ τ H', (ix (nI (zR H).length) 800 fun j20 => sb (uI ψ 1170 j20 (nI (aC A))) fun σ24 => ix (nI (zR H).length) 800 fun j25 => some (sI σ24 1170 j25, σ24)) = some (nI (aC A), τ) ∧ VR τ s T D (aNew D A n f d t) H' ∧ fP PV σ τ ∧ (sI τ 1101 107 = 0 ↔ zD H n + 1 ≤ lm) ∧ (zD H n + 1 ≤ lm → DPk T D lm (aNew D A n f d t) H' ∧ zD H' (aC A) = zD H n + 1 ∧ zD H' n = zD H n) ∧ (zR H').length ≤ (zR H).length + 1 ∧ zU H' = zU H ∧ zP H' = zP H ∧ aC (aNew D A n f d t) ≤ aC A + 1 ∧ aC A < aC (aNew D A n f d t) ∧ (∀ m, m < aC A → zD H' m = zD H m) ∧ zT H' = zT H := by
      intro ψ fψ hψ
      rw [ix_in (by omega) (by decide), sb_eq, ix_in (by omega) (by decide), sI_s]
      have ci : ∀ b k, (b = 1101 → k ≠ 81 ∧ k ≠ 82 ∧ k ≠ 107) → ¬ (1160 ≤ b ∧ b ≤ 1162 ∧ k = aC A) → ¬ (1165 ≤ b ∧ b ≤ 1171) → sI (uI ψ 1170 (zR H).length (nI (aC A))) b k = sI σ b k := fun b k h1 h2 h3 => by
        rw [sI_o (by omega), (fψ b k (by omega)).1, (F1 b k (by omega)).1, (u5 b k (by omega)).1]
      have cu : ∀ b k, 1165 ≤ b → b ≤ 1171 → (b ≠ 1170 ∨ k ≠ (zR H).length) → sI (uI ψ 1170 (zR H).length (nI (aC A))) b k = sI υ b k ∧ sL (uI ψ 1170 (zR H).length (nI (aC A))) b k = sL υ b k := fun b k h1 h2 h3 => by
        refine ⟨?_, ?_⟩
        · rw [sI_o (by omega), (fψ b k (by omega)).1, (F1 b k (by omega)).1]
        · show sL ψ b k = _
          rw [(fψ b k (by omega)).2.1, (F1 b k (by omega)).2.1]
      have cw : ∀ b k, b = 1101 ∧ k = 81 ∨ (1160 ≤ b ∧ b ≤ 1162) → sI (uI ψ 1170 (zR H).length (nI (aC A))) b k = sI ω b k := fun b k h1 => by rw [sI_o (by omega), (fψ b k (by omega)).1]
      have hlen : (kR T D n f d (zR H) ++ [(n, f, 0, [], aC A, true)]).length = (zR H).length + 1 := by rw [List.length_append, kR_len]; rfl
      refine ⟨_, (kR T D n f d (zR H) ++ [(n, f, 0, [], aC A, true)], zU H, zP H, up (zW H) (aC A) (zR H).length, up (zD H) (aC A) (zD H n + 1)), rfl, ?_, ?_, by rw [sI_o (Or.inl (by decide))]; exact hψ, fun hle => ⟨⟨fun m hm' => ?_, fun r hr y hy hy13 => ?_, fun i r y hi hy hy13 => ?_⟩, up_s _ _ _, up_o (by omega)⟩, by show (kR T D n f d (zR H) ++ _).length ≤ _; rw [hlen]; omega, rfl, rfl, Nat.le_refl _, Nat.lt_succ_self _, fun m hm' => up_o (by omega), by rw [zT_put]; rfl⟩
      · refine ⟨(ci 1101 80 (by decide) (by omega) (by decide)).trans g1, ⟨?_, by show (kR T D n f d (zR H) ++ _).length ≤ 700; rw [hlen]; omega, fun i r hi => ?_⟩, ⟨(ci 1101 84 (by decide) (by omega) (by decide)).trans g3.1, fun i c hi => (ci 1175 i (by omega) (by omega) (by decide)).trans (g3.2.1 i c hi), g3.2.2⟩, ⟨(ci 1101 83 (by decide) (by omega) (by decide)).trans g4.1, g4.2.1, fun i u hu => ?_⟩, ⟨?_, Nat.succ_pos _, by show aC A + 1 ≤ 351; omega, fun m hm' => ?_⟩, fun r hr => ?_, fun m hm' => ?_⟩
        · show _ = nI (kR T D n f d (zR H) ++ _).length
          rw [hlen, sI_o (Or.inl (by decide)), (fψ 1101 82 (by omega)).1, (F1 1101 82 (by omega)).1]; exact u3
        · have hi' : (kR T D n f d (zR H) ++ [(n, f, 0, [], aC A, true)])[i]? = some r := hi
          by_cases z : i = (zR H).length
          · subst z
            rw [List.getElem?_append_right (by rw [kR_len]; exact Nat.le_refl _), kR_len, Nat.sub_self] at hi'
            simp at hi'
            subst hi'
            refine ⟨⟨(cu 1165 _ (by decide) (by decide) (Or.inl (by decide))).1.trans w1, (cu 1166 _ (by decide) (by decide) (Or.inl (by decide))).1.trans w2, (cu 1167 _ (by decide) (by decide) (Or.inl (by decide))).2.trans w3, ⟨0, (cu 1168 _ (by decide) (by decide) (Or.inl (by decide))).1.trans w4, (cu 1169 _ (by decide) (by decide) (Or.inl (by decide))).1.trans w5, Nat.zero_le _, rfl⟩, d, hF.1, hF.2.1, ?_⟩, (cu 1171 _ (by decide) (by decide) (Or.inl (by decide))).1.trans w7⟩
            rw [if_pos h13, sI_s]; rfl
          · have hil := (List.getElem?_eq_some_iff.mp hi').1
            rw [hlen] at hil
            rw [List.getElem?_append_left (by rw [kR_len]; omega)] at hi'
            obtain ⟨y1, y2⟩ := u2.2 i r hi'
            exact ⟨RWs_sm y1 (fun b h1 h2 => cu b i h1 (by omega) (Or.inr z)), (cu 1171 i (by decide) (by decide) (Or.inr z)).1.trans y2⟩
        · obtain ⟨v1, v2, a, v3, v4, v5⟩ := g4.2.2 i u hu
          exact ⟨Nat.lt_succ_of_lt v1, (ci 1172 i (by omega) (by omega) (by omega)).trans v2, a, (ci 1173 i (by omega) (by omega) (by omega)).trans v3, (ci 1174 i (by omega) (by omega) (by omega)).trans v4, v5⟩
        · rw [cw 1101 81 (Or.inl ⟨rfl, rfl⟩)]; exact c81
        · by_cases z : m = aC A
          · subst z
            refine ⟨?_, ?_, ?_, ?_, fun _ => ⟨(n, f, 0, [], aC A, true), d, ?_, hF.1, h13, rfl, hn⟩⟩
            · show isM D (up (aN A) (aC A) t (aC A)); rw [up_s]; exact hMt
            · show _ = nI (cnt (D.take (up (aN A) (aC A) t (aC A))) 0); rw [up_s, cw 1160 _ (Or.inr (by decide))]; exact c60
            · rw [cw 1161 _ (Or.inr (by decide)), c61, if_neg (by omega)]
              show _ = nI (up (zW H) (aC A) (zR H).length (aC A)); rw [up_s]
            · rw [cw 1162 _ (Or.inr (by decide)), c62]
              show _ = nI (up (zD H) (aC A) (zD H n + 1) (aC A)); rw [up_s]
            · show (kR T D n f d (zR H) ++ [(n, f, 0, [], aC A, true)])[up (zW H) (aC A) (zR H).length (aC A)]? = _
              rw [up_s, List.getElem?_append_right (by rw [kR_len]; exact Nat.le_refl _), kR_len, Nat.sub_self]; rfl
          · have hm2 : m < aC A := by have : m < aC A + 1 := hm'; omega
            obtain ⟨n1, n2, n3, n4, n5⟩ := g5.2.2.2 m hm2
            refine ⟨?_, ?_, ?_, ?_, fun z0 => ?_⟩
            · show isM D (up (aN A) (aC A) t m); rw [up_o z]; exact n1
            · show _ = nI (cnt (D.take (up (aN A) (aC A) t m)) 0); rw [up_o z]; exact (ci 1160 m (by omega) (by omega) (by omega)).trans n2
            · show _ = (if m = 0 then -1 else nI (up (zW H) (aC A) (zR H).length m)); rw [up_o z]; exact (ci 1161 m (by omega) (by omega) (by omega)).trans n3
            · show _ = nI (up (zD H) (aC A) (zD H n + 1) m); rw [up_o z]; exact (ci 1162 m (by omega) (by omega) (by omega)).trans n4
            · obtain ⟨y, d', y1, y2, y3, y4, y5⟩ := n5 z0
              obtain ⟨x, x1, x2, x3, x4⟩ := kR_get (T := T) (D := D) (n := n) (f := f) (d := d) y1
              refine ⟨x, d', ?_, by rw [x3]; exact y2, y3, x4.trans y4, by rw [x2]; exact y5⟩
              show (kR T D n f d (zR H) ++ _)[up (zW H) (aC A) (zR H).length m]? = some x
              rw [up_o z, List.getElem?_append_left (List.getElem?_eq_some_iff.mp x1).1]; exact x1
        · have hr' : r ∈ kR T D n f d (zR H) ++ [(n, f, 0, [], aC A, true)] := hr
          rcases List.mem_append.mp hr' with z | z
          · obtain ⟨o1, y, o2, o3⟩ := RwOk_kR g6 r z
            refine ⟨Nat.lt_succ_of_lt o1, y, ?_, fun y13 => ?_⟩
            · show isF D (up (aN A) (aC A) t (rN r)) (rF r) y; rw [up_o (by omega)]; exact o2
            · obtain ⟨p1, p2, p3⟩ := o3 y13
              refine ⟨p1, Nat.lt_succ_of_lt p2, ?_⟩
              show _ = some (up (aN A) (aC A) t (rK r)); rw [up_o (by omega)]; exact p3
          · rw [List.mem_singleton.mp z]
            refine ⟨Nat.lt_succ_of_lt hn, d, ?_, fun _ => ⟨hn, Nat.lt_succ_self _, ?_⟩⟩
            · show isF D (up (aN A) (aC A) t n) f d; rw [up_o (by omega)]; exact hF
            · show _ = some (up (aN A) (aC A) t (aC A)); rw [up_s]; exact ht
        · have last : ∀ g, [((n, f, 0, [], aC A, true) : Rg)].filter (pRw m g) = if m = n ∧ g = f then [(n, f, 0, [], aC A, true)] else [] := fun g => by
            rw [List.filter_cons, List.filter_nil]
            have e : pRw m g (n, f, 0, [], aC A, true) = true ↔ (m = n ∧ g = f) := by
              unfold pRw rN rF rA
              rw [Bool.and_true, Bool.and_eq_true, decide_eq_true_iff, decide_eq_true_iff]
              exact ⟨fun z => ⟨z.1.symm, z.2.symm⟩, fun z => ⟨z.1.symm, z.2.symm⟩⟩
            exact ifd e
          by_cases z : m = aC A
          · subst z
            refine ⟨fun g x hx => ?_, ?_⟩
            · show ((kR T D n f d (zR H) ++ [(n, f, 0, [], aC A, true)]).filter (pRw (aC A) g)).map (itR T D x) = up _ (aC A) (fun _ => []) (aC A) g
              rw [up_s, List.filter_append, last, if_neg (fun y => by omega), List.filter_eq_nil_iff.mpr]
              · rfl
              · intro r hr hp
                have := (RwOk_kR g6 r hr).1
                have := (pRw_of hp).1
                omega
            · show _ = up (aU A) (aC A) [] (aC A)
              rw [up_s, List.filter_eq_nil_iff.mpr]
              · rfl
              · intro u hu hp
                obtain ⟨i, hi⟩ := List.getElem?_of_mem hu
                have := (g4.2.2 i u hi).1
                have := of_decide_eq_true hp
                omega
          · have hm2 : m < aC A := by have : m < aC A + 1 := hm'; omega
            obtain ⟨k1, k2⟩ := g7 m hm2
            refine ⟨fun g x hx => ?_, ?_⟩
            · have hx' : isF D (aN A m) g x := by
                have : isF D (up (aN A) (aC A) t m) g x := hx
                rw [up_o z] at this; exact this
              show ((kR T D n f d (zR H) ++ [(n, f, 0, [], aC A, true)]).filter (pRw m g)).map (itR T D x) = up (up (aE A) n _) (aC A) (fun _ => []) m g
              rw [up_o z, List.filter_append, List.map_append, fil_kR hro, last]
              by_cases q : m = n
              · subst q
                rw [if_pos rfl, up_s]
                show _ = (if g = f then aE A m f ++ [(0, [], aC A)] else if rivB D f d g then [] else aE A m g)
                by_cases q2 : g = f
                · subst q2
                  have : x = d := by have := hx'.1; rw [hF.1] at this; exact (Option.some.inj this).symm
                  subst this
                  have e : (if dR x then (zR H).filter (pRw m g) else if fty T D x = 13 then (zR H).filter (pRw m g) else []) = (zR H).filter (pRw m g) := by
                    cases dR x
                    · rw [if_neg (show ¬ false = true by decide), if_pos h13]
                    · rw [if_pos rfl]
                  rw [if_pos rfl, if_pos rfl, e, if_pos ⟨rfl, rfl⟩, k1 g x hx']
                  show _ ++ [itR T D x _] = _
                  rw [it13]; rfl
                · rw [if_neg q2, if_neg q2, if_neg (show ¬ (m = m ∧ g = f) from fun y => q2 y.2)]
                  cases hb : rivB D f d g with
                  | true => rfl
                  | false =>
                    rw [if_neg (show ¬ false = true by decide), if_neg (show ¬ false = true by decide), k1 g x hx']
                    show aE A m g ++ [] = _
                    rw [List.append_nil]
              · rw [if_neg q, up_o q, if_neg (fun y => q y.1), k1 g x hx']
                show aE A m g ++ [] = _
                rw [List.append_nil]
            · show _ = up (aU A) (aC A) [] m
              rw [up_o z]; exact k2
      · refine fP_trans hpv (fP_trans (fP_mono F1 (fun b k z => by unfold PV; omega)) (fP_trans (fP_mono fψ (fun b k z => by unfold PV; omega)) (fP_u (Or.inr ⟨by decide, by decide⟩))))
      · show up (zD H) (aC A) (zD H n + 1) m ≤ lm
        by_cases z : m = aC A
        · rw [z, up_s]; exact hle
        · rw [up_o z]; exact hdp.1 m (by have : m < aC A + 1 := hm'; omega)
      · show up (zD H) (aC A) (zD H n + 1) (rK r) = up (zD H) (aC A) (zD H n + 1) (rN r) + 1
        have hr' : r ∈ kR T D n f d (zR H) ++ [(n, f, 0, [], aC A, true)] := hr
        rcases List.mem_append.mp hr' with z | z
        · obtain ⟨o1, y', o2, o3⟩ := RwOk_kR g6 r z
          have : y' = y := by have := o2.1; rw [hy] at this; exact (Option.some.inj this).symm
          subst this
          obtain ⟨p1, p2, p3⟩ := o3 hy13
          rw [up_o (by omega), up_o (by omega)]
          obtain ⟨x, hx, e1, e2, _, _, e5⟩ := kR_mem z
          rw [e5, e1]
          exact hdp.2.1 x hx y' (by rw [← e2]; exact hy) hy13
        · rw [List.mem_singleton.mp z]
          show up (zD H) (aC A) (zD H n + 1) (aC A) = up (zD H) (aC A) (zD H n + 1) n + 1
          rw [up_s, up_o (by omega)]
      · have hi' : (kR T D n f d (zR H) ++ [(n, f, 0, [], aC A, true)])[i]? = some r := hi
        show up (zW H) (aC A) (zR H).length (rK r) = i
        by_cases q : i < (kR T D n f d (zR H)).length
        · rw [List.getElem?_append_left q] at hi'
          obtain ⟨o1, y', o2, o3⟩ := RwOk_kR g6 r (List.mem_of_getElem? hi')
          have : y' = y := by have := o2.1; rw [hy] at this; exact (Option.some.inj this).symm
          subst this
          rw [up_o (by have := (o3 hy13).2.1; omega)]
          exact BK_kR hdp.2.2 i r y' hi' hy hy13
        · have hil := (List.getElem?_eq_some_iff.mp hi').1
          rw [hlen] at hil
          rw [kR_len] at q
          rw [List.getElem?_append_right (by rw [kR_len]; omega)] at hi'
          have : r ∈ [((n, f, 0, [], aC A, true) : Rg)] := List.mem_of_getElem? hi'
          rw [List.mem_singleton.mp this]
          show up (zW H) (aC A) (zR H).length (aC A) = i
          rw [up_s]; omega
    by_cases q : lm < zD H n + 1
    · rw [if_pos q, sb_eq, b2_eq]
      exact fin _ (fP_u ⟨rfl, rfl⟩) ⟨fun z => by rw [sI_s] at z; exact absurd z (by decide), fun z => by omega⟩
    · rw [if_neg q, b2_eq]
      exact fin _ (fP_refl _ _) ⟨fun _ => by omega, fun _ => c107⟩
