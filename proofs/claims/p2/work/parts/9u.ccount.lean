/-! ===== the class counts ===== -/
theorem X4_isNothing {σ : SG} {c n f : Nat} {T : List Nat} {D : List Dc} {G : Gh} {e : Eg} {d : Dc} (hcb : cb c) (hg : GSc T D) (hC : CS σ c T D) (hV : VG σ c T D G) (hn : n < gC G) (he : e ∈ gL G n) (hf : eF e = some f) (hd : isF D (gN G n) f d) : x_X4_isNothing (eA e) σ = some (zI (noth T D d (eV e) (eT e))) := by
  obtain ⟨e1, e2, e3, e4, ⟨a, b, e5, e6, e7, e8, e9⟩, e10, e11⟩ := hV.e hn he
  have hl := hg.2.1
  have hfl := (List.getElem?_eq_some_iff.mp hd.1).1
  have hft : fty T D d ≤ 14 := dTy_lt (hg.fld hd.1 hd.2.1).2.2.2.1
  have hgl : (gP G).length ≤ 1000 := hV.2.2.1.2.2.1
  obtain ⟨i1, i2, _⟩ := hC.it hd.1
  have i2' : sI σ (c + 5 + f) 8 = nI (fty T D d) := i2
  unfold x_X4_isNothing
  rw [e3, hf, if_neg (show ¬ ad c (some f) = none by intro z; cases z), ad_some, ck_eq (it_sh hcb (by omega)), i1.2.2.2.2.2.2.2.2.1, i1.2.2.2.1, i2', X11_isNumeric (by omega), b1_eq, ifz, ifz, ifd ad_none, e5, e6, e4]
  have e13 : nI (fty T D d) = 13 ↔ fty T D d = 13 := nI_eq (b := 13) (by omega) (by decide)
  have hab : nI a = nI b ↔ eT e = [] := by
    rw [nI_eq (by omega) (by omega), ← e9]
    constructor
    · intro z; exact slc_nil (by omega)
    · intro z
      have := slc_len e7 e8
      rw [z] at this
      have : 0 = b - a := this
      omega
  rw [ifd e13, ifd hab]
  unfold noth
  cases hR : dR d with
  | true => rw [if_pos (show true = true from rfl)]; rfl
  | false =>
    rw [if_neg (show ¬ false = true by decide)]
    by_cases q : dO d = none
    · rw [if_pos q, decide_eq_true q]
      by_cases q13 : fty T D d = 13
      · rw [if_pos q13, decide_eq_false (fun z => z q13)]; rfl
      · rw [if_neg q13, decide_eq_true q13]
        cases hnm : nmr (fty T D d) with
        | true =>
          rw [if_pos (show true = true from rfl), if_pos (show true = true from rfl)]
          by_cases q0 : eV e = 0
          · rw [if_pos q0, decide_eq_true q0]; rfl
          · rw [if_neg q0, decide_eq_false q0]; rfl
        | false =>
          rw [if_neg (show ¬ false = true by decide), if_neg (show ¬ false = true by decide)]
          by_cases q0 : eT e = []
          · rw [if_pos q0, decide_eq_true q0]; rfl
          · rw [if_neg q0, decide_eq_false q0]; rfl
    · rw [if_neg q, decide_eq_false q]; rfl
/-- what one entry counts for -/
def ceE (T : List Nat) (D : List Dc) (h : Nat → Nat) (e : Eg) : Nat := match eF e with
  | none => 0
  | some f => match D[f]? with
    | none => 0
    | some d => if live T D d e then 1 + (if isT T D f then h (eK e) else 0) else 0
theorem ce_sum {σ : SG} {c n : Nat} {T : List Nat} {D : List Dc} {G : Gh} {A : AV} {h : Nat → Nat} (hg : GSc T D) (hV : VG σ c T D G) (hE : VE T D G A) (hn : n < gC G) : ((gL G n).map (ceE T D h)).sum = (its D A n).length + ((chN T D A n).map h).sum := by
  have hM : isM D (gN G n) := hV.2.2.2.2.2.2.2.1 n hn
  rw [sum_its, ← hE.2.1 n hn]
  rw [sum_part (F := chF D (gN G n)) (chD_nodup _) (fun e _ hn' => by unfold ceE; rw [hn']) (fun e he f hf => ?_)]
  · congr 1
    apply List.map_congr_left
    intro f hf
    obtain ⟨d, hd⟩ := (chF_mem hg hM).mp hf
    rw [← (hE.2.2 n hn).1 f d hd, List.map_map]
    have key : ∀ (L : List Eg), (∀ e ∈ L, eF e = some f) → (L.map (ceE T D h)).sum = ((L.filter (live T D d)).map ((fun it => 1 + if isT T D f then h it.2.2 else 0) ∘ itm T D d)).sum := by
      intro L
      induction L with
      | nil => intro _; rfl
      | cons e L ih =>
        intro hL
        have hef := hL e (List.mem_cons_self ..)
        rw [List.map_cons, List.sum_cons, ih (fun x hx => hL x (List.mem_cons_of_mem _ hx)), List.filter_cons]
        have e1 : ceE T D h e = if live T D d e then 1 + (if isT T D f then h (eK e) else 0) else 0 := by
          unfold ceE
          rw [hef]
          simp only
          rw [hd.1]
        rw [e1]
        cases hl : live T D d e with
        | true =>
          rw [if_pos (show true = true from rfl), if_pos (show true = true from rfl), List.map_cons, List.sum_cons]
          congr 1
          show _ = 1 + if isT T D f then h (itm T D d e).2.2 else 0
          have hT : isT T D f = decide (fty T D d = 13) := by unfold isT; rw [hd.1]
          by_cases q : fty T D d = 13
          · have : itm T D d e = (0, [], eK e) := by unfold itm; rw [if_pos q]
            rw [this]
          · rw [hT, decide_eq_false q, if_neg (show ¬ false = true by decide), if_neg (show ¬ false = true by decide)]
        | false =>
          rw [if_neg (show ¬ false = true by decide), if_neg (show ¬ false = true by decide), Nat.zero_add]
    exact key _ (fun e he => (flo_mem.mp he).2)
  · obtain ⟨d, hd, _⟩ := (hV.e hn he).2.2.2.2.2.2 f hf
    exact (chF_mem hg hM).mpr ⟨d, hd⟩
theorem C_cnt_L {U c n dp : Nat} {σ : SG} {T : List Nat} {D : List Dc} {G : Gh} {h : Nat → Nat} {rc : Option Nat → Int32 → SG → Option Int32} (hcb : cb c) (hg : GSc T D) (hC : CS σ c T D) (hV : VG σ c T D G) (hn : n < gC G) (hdp : dp ≤ 20)
    (hrc : ∀ k, k < gC G → (∃ e ∈ gL G n, ∃ f d, eF e = some f ∧ isF D (gN G n) f d ∧ fty T D d = 13 ∧ eK e = k) → rc (some (gH G k)) (nI (dp + 1)) σ = some (nI (h k)))
    (h0 : ∀ k, k < gC G → gL G k = [] → h k = 0) : ∀ (L : List Eg) (p : Option Nat) (v U1 : Nat), LN σ L p → (∀ e ∈ L, e ∈ gL G n) → L.length < U1 → x_X8_countIn_L8 U rc 389 (nI dp) σ U1 (nI v) p = some (nI (v + (L.map (ceE T D h)).sum)) := by
  intro L
  induction L with
  | nil =>
    intro p v U1 hp _ hu
    obtain ⟨V, rfl⟩ : ∃ V, U1 = V + 1 := ⟨U1 - 1, by omega⟩
    have hp' : p = none := hp
    rw [x_X8_countIn_L8, if_pos hp']
    rfl
  | cons e L ih =>
    intro p v U1 hp hL hu
    have hul := hV.2.1
    obtain ⟨V, rfl⟩ : ∃ V, U1 = V + 1 := ⟨U1 - 1, by omega⟩
    have he := hL e (List.mem_cons_self ..)
    obtain ⟨e1, e2, e3, e4, e5, e10, e11⟩ := hV.e hn he
    have hsh : sh (eA e) = 4 := nd_sh e1 (by omega)
    rw [x_X8_countIn_L8, hp.1, if_neg (show ¬ some (eA e) = none by intro z; cases z), ck_eq hsh, e3, List.map_cons, List.sum_cons]
    have next : ∀ w, x_X8_countIn_58 U rc 389 (x_X8_countIn_L8 U rc 389 (nI dp) σ V) (nI dp) (nI w) (some (eA e)) σ = some (nI (w + (L.map (ceE T D h)).sum)) := fun w => by
      unfold x_X8_countIn_58
      rw [ck_eq hsh]
      exact ih _ w V hp.2 (fun x hx => hL x (List.mem_cons_of_mem _ hx)) (by rw [List.length_cons] at hu; omega)
    have hdn : ¬ (20 : Int32) < nI dp := fun z => by have := (ltI (a := 20) (by decide) (by omega)).mp z; omega
    cases hf : eF e with
    | none =>
      have hce : ceE T D h e = 0 := by unfold ceE; rw [hf]
      rw [if_pos (show ad c none = none from rfl)]
      unfold x_X8_countIn_32
      rw [ck_eq hsh, if_pos (e10 hf).1, next, hce, Nat.zero_add]
    | some f =>
      obtain ⟨d, hd, g1, g2⟩ := e11 f hf
      rw [if_neg (show ¬ ad c (some f) = none by intro z; cases z), X4_isNothing hcb hg hC hV hn he hf hd, b1_eq, ifz]
      have hT : isT T D f = decide (fty T D d = 13) := by unfold isT; rw [hd.1]
      have hce : ceE T D h e = if live T D d e then 1 + (if isT T D f then h (eK e) else 0) else 0 := by
        unfold ceE
        rw [hf]
        simp only
        rw [hd.1]
      have hlv : live T D d e = !noth T D d (eV e) (eT e) := rfl
      unfold x_X8_countIn_32
      rw [ck_eq hsh, ck_eq hsh]
      by_cases q13 : fty T D d = 13
      · have hno : noth T D d (eV e) (eT e) = false := by unfold noth; rw [decide_eq_false (show ¬ fty T D d ≠ 13 from fun z => z q13), Bool.and_false, Bool.false_and]
        obtain ⟨k1, k2, k3, k4⟩ := g2 q13
        rw [hno, if_neg (show ¬ false = true by decide), nI_1, hce, hlv, hno, hT, decide_eq_true q13, if_pos (show (!false) = true from rfl), if_pos (show true = true from rfl)]
        have hVk := (hV.2.2.2.2.2.2.2.2.2 (eK e) k2).1
        rw [k3] at hVk
        cases hgl : gL G (eK e) with
        | nil =>
          rw [hgl] at hVk
          have : sP σ (eA e) 2 = none := hVk
          rw [if_pos this, next, h0 _ k2 hgl]
          congr 2
          omega
        | cons x X =>
          rw [hgl] at hVk
          have : sP σ (eA e) 2 = some (eA x) := hVk.1
          have hr := hrc (eK e) k2 ⟨e, he, f, d, hf, hd, q13, rfl⟩
          rw [k3] at hr
          rw [if_neg (show ¬ sP σ (eA e) 2 = none by rw [this]; intro z; cases z), if_neg hdn, nI_1, hr, b1_eq, nI_add, next]
          congr 2
          omega
      · have hp2 := (g1 q13).1
        rw [if_pos hp2, if_pos hp2, nI_1, next, next, hce, hlv, hT, decide_eq_false q13, if_neg (show ¬ false = true by decide)]
        cases noth T D d (eV e) (eT e) with
        | true =>
          rw [if_pos (show true = true from rfl), if_neg (show ¬ (!true) = true by decide), Nat.zero_add]
        | false =>
          rw [if_neg (show ¬ false = true by decide), if_pos (show (!false) = true from rfl)]
          congr 2
          omega
theorem chN_e {σ : SG} {c n k : Nat} {T : List Nat} {D : List Dc} {G : Gh} {A : AV} (hg : GSc T D) (hV : VG σ c T D G) (hE : VE T D G A) (hn : n < gC G) : k ∈ chN T D A n ↔ ∃ e ∈ gL G n, ∃ f d, eF e = some f ∧ isF D (gN G n) f d ∧ fty T D d = 13 ∧ eK e = k := by
  have hM : isM D (gN G n) := hV.2.2.2.2.2.2.2.1 n hn
  rw [chN_mem, ← hE.2.1 n hn]
  constructor
  · rintro ⟨f, hf, hT, it, hit, rfl⟩
    obtain ⟨d, hd⟩ := (chF_mem hg hM).mp hf
    have q13 : fty T D d = 13 := by unfold isT at hT; rw [hd.1] at hT; exact of_decide_eq_true hT
    rw [← (hE.2.2 n hn).1 f d hd] at hit
    obtain ⟨e, he, rfl⟩ := List.mem_map.mp hit
    obtain ⟨e1, e2⟩ := flo_mem.mp (List.mem_filter.mp he).1
    exact ⟨e, e1, f, d, e2, hd, q13, by unfold itm; rw [if_pos q13]⟩
  · rintro ⟨e, he, f, d, hf, hd, q13, rfl⟩
    refine ⟨f, (chF_mem hg hM).mpr ⟨d, hd⟩, by unfold isT; rw [hd.1]; exact decide_eq_true q13, itm T D d e, ?_, by unfold itm; rw [if_pos q13]⟩
    rw [← (hE.2.2 n hn).1 f d hd]
    refine List.mem_map.mpr ⟨e, List.mem_filter.mpr ⟨flo_mem.mpr ⟨he, hf⟩, ?_⟩, rfl⟩
    unfold live noth
    rw [decide_eq_false (show ¬ fty T D d ≠ 13 from fun z => z q13), Bool.and_false, Bool.false_and]
    rfl
theorem C_cnt {U c : Nat} {σ : SG} {T : List Nat} {D : List Dc} {G : Gh} {A : AV} {z : Nat → Nat} (hU4 : 4000 < U) (hcb : cb c) (hg : GSc T D) (hC : CS σ c T D) (hV : VG σ c T D G) (hE : VE T D G A) (hW : AW T D A z) : ∀ (j dp n : Nat), j + dp = 25 → n < gC G → z n = dp → x_X8_countIn U 389 j (some (gH G n)) (nI dp) σ = some (nI (tcf T D A z n)) := by
  intro j
  induction j with
  | zero =>
    intro dp n hj hn hz
    have := (hW.2.2.1 n (by rw [← hE.1]; exact hn)).1
    omega
  | succ j ih =>
    intro dp n hj hn hz
    obtain ⟨z1, z2⟩ := hW.2.2.1 n (by rw [← hE.1]; exact hn)
    obtain ⟨h1, h2, h3⟩ := hV.h hn
    rw [x_X8_countIn]
    unfold x_X8_countIn_b
    rw [ck_eq (nd_sh h1 h2)]
    have := C_cnt_L (U := U) (h := tcf T D A z) (rc := x_X8_countIn U 389 j) hcb hg hC hV hn (by omega) (fun k hk hke => ih (dp + 1) k (by omega) hk (by rw [(z2 k ((chN_e hg hV hE hn).mpr hke)).2.2, hz])) (fun k hk hgl => by
      rw [tcf_eq hW (by rw [← hE.1]; exact hk), ← ce_sum hg hV hE hk, hgl]; rfl) (gL G n) _ 0 U (hV.2.2.2.2.2.2.2.2.2 n hn).1 (fun e he => he) (by have := hV.len hn; omega)
    have e0 : x_X8_countIn_L8 U (x_X8_countIn U 389 j) 389 (nI dp) σ U 0 (sP σ (gH G n) 2) = some (nI (0 + ((gL G n).map (ceE T D (tcf T D A z))).sum)) := this
    rw [e0, Nat.zero_add, ce_sum hg hV hE hn, ← tcf_eq hW (by rw [← hE.1]; exact hn)]
theorem C_count {U c : Nat} {σ : SG} {T : List Nat} {D : List Dc} {G : Gh} {A : AV} {z : Nat → Nat} (hU4 : 4000 < U) (hcb : cb c) (hg : GSc T D) (hC : CS σ c T D) (hV : VG σ c T D G) (hE : VE T D G A) (hW : AW T D A z) : x_X8_count U 389 σ = some (nI (nV T D A)) := by
  unfold x_X8_count
  have := C_cnt hU4 hcb hg hC hV hE hW 24 1 0 (by omega) hV.2.2.2.1 hW.2.1
  rw [hV.2.2.2.2.1] at this
  have h' : x_X8_countIn U 389 24 (some 1091) 1 σ = some (nI (tcf T D A z 0)) := this
  rw [h', b1_eq, nV_tc hW]
theorem nd_fm {α : Type} {f : Nat → List α} : ∀ (L : List Nat), L.Nodup → (∀ x ∈ L, (f x).Nodup) → (∀ x ∈ L, ∀ y ∈ L, x ≠ y → ∀ c ∈ f x, c ∉ f y) → (L.flatMap f).Nodup := by
  intro L
  induction L with
  | nil => intro _ _ _; exact List.nodup_nil
  | cons a L ih =>
    intro h1 h2 h3
    obtain ⟨n1, n2⟩ := List.nodup_cons.mp h1
    rw [List.flatMap_cons, List.nodup_append]
    refine ⟨h2 a (List.mem_cons_self ..), ih n2 (fun x hx => h2 x (List.mem_cons_of_mem _ hx)) (fun x hx y hy => h3 x (List.mem_cons_of_mem _ hx) y (List.mem_cons_of_mem _ hy)), fun c hc b hb hcb => ?_⟩
    obtain ⟨y, hy, hy'⟩ := List.mem_flatMap.mp hb
    exact h3 a (List.mem_cons_self ..) y (List.mem_cons_of_mem _ hy) (fun q => n1 (by rw [q]; exact hy)) c hc (by rw [hcb]; exact hy')
theorem chN_fm {T : List Nat} {D : List Dc} {A : AV} {n : Nat} : chN T D A n = (chF D (aN A n)).flatMap (fun f => if isT T D f then (aE A n f).map (fun it => it.2.2) else []) := by
  unfold chN its
  generalize chF D (aN A n) = F
  induction F with
  | nil => rfl
  | cons f F ih =>
    rw [List.flatMap_cons, List.filter_append, List.map_append, ih, List.flatMap_cons]
    congr 1
    cases hT : isT T D f with
    | true =>
      rw [if_pos (show true = true from rfl), List.filter_eq_self.mpr]
      · rw [List.map_map]; rfl
      · intro y hy
        obtain ⟨it, _, rfl⟩ := List.mem_map.mp hy
        exact hT
    | false =>
      rw [if_neg (show ¬ false = true by decide), List.filter_eq_nil_iff.mpr]
      · rfl
      · intro y hy
        obtain ⟨it, _, rfl⟩ := List.mem_map.mp hy
        rw [show isT T D (f, it).1 = isT T D f from rfl, hT]; decide
/-- the class's nodes are a forest -/
theorem C_forest {σ : SG} {c : Nat} {T : List Nat} {D : List Dc} {G : Gh} {A : AV} (hg : GSc T D) (hV : VG σ c T D G) (hE : VE T D G A) : (∀ n, n < aC A → ∀ k ∈ chN T D A n, n < k ∧ k < aC A) ∧ ((List.range (aC A)).flatMap (chN T D A)).Nodup := by
  rw [← hE.1]
  have ent : ∀ n, n < gC G → ∀ k ∈ chN T D A n, ∃ e ∈ gL G n, eK e = k ∧ eA e = gH G k ∧ n < k ∧ k < gC G := by
    intro n hn k hk
    obtain ⟨e, he, f, d, hf, hd, q13, rfl⟩ := (chN_e hg hV hE hn).mp hk
    obtain ⟨d', hd', _, g2⟩ := (hV.e hn he).2.2.2.2.2.2 f hf
    have : d' = d := by have := hd'.1; rw [hd.1] at this; exact (Option.some.inj this).symm
    subst this
    obtain ⟨k1, k2, k3, k4⟩ := g2 q13
    exact ⟨e, he, rfl, k3.symm, k1, k2⟩
  refine ⟨fun n hn k hk => ?_, nd_fm _ List.nodup_range (fun n hn => ?_) (fun n hn n' hn' hne k hk hk' => ?_)⟩
  · obtain ⟨e, _, _, _, h1, h2⟩ := ent n hn k hk
    exact ⟨h1, h2⟩
  · have hn := List.mem_range.mp hn
    have hM : isM D (gN G n) := hV.2.2.2.2.2.2.2.1 n hn
    have hnd := (hV.2.2.2.2.2.2.2.2.2 n hn).2.2.2.1
    rw [chN_fm, ← hE.2.1 n hn]
    have fld : ∀ f ∈ chF D (gN G n), ∀ k ∈ (if isT T D f then (aE A n f).map (fun it => it.2.2) else []), ∃ e ∈ gL G n, eF e = some f ∧ eA e = gH G k := by
      intro f hf k hk
      obtain ⟨d, hd⟩ := (chF_mem hg hM).mp hf
      cases hT : isT T D f with
      | false => rw [hT, if_neg (show ¬ false = true by decide)] at hk; cases hk
      | true =>
        rw [hT, if_pos (show true = true from rfl)] at hk
        have q13 : fty T D d = 13 := by unfold isT at hT; rw [hd.1] at hT; exact of_decide_eq_true hT
        obtain ⟨it, hit, rfl⟩ := List.mem_map.mp hk
        rw [← (hE.2.2 n hn).1 f d hd] at hit
        obtain ⟨e, he, rfl⟩ := List.mem_map.mp hit
        obtain ⟨e1, e2⟩ := flo_mem.mp (List.mem_filter.mp he).1
        obtain ⟨d', hd', _, g2⟩ := (hV.e hn e1).2.2.2.2.2.2 f e2
        have : d' = d := by have := hd'.1; rw [hd.1] at this; exact (Option.some.inj this).symm
        subst this
        obtain ⟨k1, k2, k3, k4⟩ := g2 q13
        refine ⟨e, e1, e2, ?_⟩
        show eA e = gH G (itm T D d' e).2.2
        unfold itm
        rw [if_pos q13]
        exact k3.symm
    refine nd_fm _ (chD_nodup _) (fun f hf => ?_) (fun f hf f' hf' hne k hk hk' => ?_)
    · obtain ⟨d, hd⟩ := (chF_mem hg hM).mp hf
      cases hT : isT T D f with
      | false => rw [if_neg (show ¬ false = true by decide)]; exact List.nodup_nil
      | true =>
        rw [if_pos (show true = true from rfl)]
        have q13 : fty T D d = 13 := by unfold isT at hT; rw [hd.1] at hT; exact of_decide_eq_true hT
        rw [← (hE.2.2 n hn).1 f d hd, List.map_map]
        have hS : ((flo (some f) (gL G n)).filter (live T D d)).Sublist (gL G n) := List.Sublist.trans List.filter_sublist List.filter_sublist
        have hA := List.Nodup.sublist (hS.map eA) hnd
        have hmap : ((flo (some f) (gL G n)).filter (live T D d)).map eA = (((flo (some f) (gL G n)).filter (live T D d)).map ((fun it : It => it.2.2) ∘ itm T D d)).map (gH G) := by
          rw [List.map_map]
          apply List.map_congr_left
          intro e he
          obtain ⟨e1, e2⟩ := flo_mem.mp (List.mem_filter.mp he).1
          obtain ⟨d', hd', _, g2⟩ := (hV.e hn e1).2.2.2.2.2.2 f e2
          have : d' = d := by have := hd'.1; rw [hd.1] at this; exact (Option.some.inj this).symm
          subst this
          show eA e = gH G (itm T D d' e).2.2
          unfold itm
          rw [if_pos q13]
          exact (g2 q13).2.2.1.symm
        rw [hmap] at hA
        exact (List.pairwise_map.mp hA).imp (fun h q => h (by rw [q]))
    · obtain ⟨e, he, h1, h2⟩ := fld f hf k hk
      obtain ⟨e', he', h1', h2'⟩ := fld f' hf' k hk'
      have : e = e' := by
        have hi : ∀ (L : List Eg), (L.map eA).Nodup → ∀ a ∈ L, ∀ b ∈ L, eA a = eA b → a = b := by
          intro L
          induction L with
          | nil => intro _ a ha; cases ha
          | cons x L ih =>
            intro hx a ha b hb hab
            rw [List.map_cons] at hx
            obtain ⟨x1, x2⟩ := List.nodup_cons.mp hx
            rcases List.mem_cons.mp ha with p | p <;> rcases List.mem_cons.mp hb with q | q
            · rw [p, q]
            · exact absurd (List.mem_map.mpr ⟨b, q, by rw [← hab, p]⟩) x1
            · exact absurd (List.mem_map.mpr ⟨a, p, by rw [hab, q]⟩) x1
            · exact ih x2 a p b q hab
        exact hi _ hnd e he e' he' (by rw [h2, h2'])
      subst this
      rw [h1] at h1'
      exact hne (Option.some.inj h1')
  · have hn := List.mem_range.mp hn
    have hn' := List.mem_range.mp hn'
    obtain ⟨e, he, _, h1, _⟩ := ent n hn k hk
    obtain ⟨e', he', _, h1', _⟩ := ent n' hn' k hk'
    exact hV.2.2.2.2.2.2.2.2.1 n n' hn hn' hne e he e' he' (by rw [h1, h1'])
