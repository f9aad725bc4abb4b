/-! ===== UTF-8: the reference ===== -/
theorem and63 {c : Nat} (h : c < 256) : nI c &&& 63 = nI (c % 64) := pk_andN (by omega) 6 (by decide)
/-- the code of a character, from its first byte's bits on -/
def cdU (S : List Nat) (p : Nat) : Nat → Nat → Nat → Nat
  | 0, _, x => x
  | j + 1, k, x => cdU S p j (k + 1) (64 * x + byt S (p + k) % 64)
theorem N_u8_in {U m : Nat} {σ : SG} {P : List Nat} {p : Nat} {K : Int32 → Option Int32} {v1 v2 : Int32} (hP : RI σ 1175 P) (h8 : ok8 P) (hl : P.length ≤ 700) (hpm : p + m < P.length) : ∀ (j k U1 x : Nat), k + j = m + 1 → j < U1 → j ≤ 3 → x < 2 ^ (30 - 6 * j) →
    ((∀ i, k ≤ i → i ≤ m → cnB (byt P (p + i)) = true) → x_X12_isUtf8_L133 U 1101 K v1 v2 (nI p) (nI m) σ U1 (nI x) (nI k) = K (nI (cdU P p j k x))) ∧ (¬ (∀ i, k ≤ i → i ≤ m → cnB (byt P (p + i)) = true) → x_X12_isUtf8_L133 U 1101 K v1 v2 (nI p) (nI m) σ U1 (nI x) (nI k) = some 0) := by
  intro j
  induction j with
  | zero =>
    intro k U1 x hk hu h3 hx
    obtain ⟨V, rfl⟩ : ∃ V, U1 = V + 1 := ⟨U1 - 1, by omega⟩
    rw [x_X12_isUtf8_L133, if_pos ((ltI (by omega) (by omega)).mpr (by omega))]
    exact ⟨fun _ => rfl, fun z => absurd (fun i h1 h3 => by omega) z⟩
  | succ j ih =>
    intro k U1 x hk hu h3 hx
    obtain ⟨V, rfl⟩ : ∃ V, U1 = V + 1 := ⟨U1 - 1, by omega⟩
    have hpk : p + k < P.length := by omega
    have hb := byt_lt h8 hpk
    have hcell : sI σ 1175 (p + k) = nI (byt P (p + k)) := by
      unfold byt
      rw [hP _ _ (List.getElem?_eq_getElem hpk), List.getD_eq_getElem?_getD, List.getElem?_eq_getElem hpk]
      rfl
    rw [x_X12_isUtf8_L133, if_neg (fun q => by have := (ltI (by omega) (by omega)).mp q; omega), nI_add, ix_in (by omega) (by decide), ix_in (by omega) (by decide), hcell, ifd (and192 _ hb), and63 hb, show (64 : Int32) = nI 64 from rfl, pk_mul, nI_add, nI_1]
    by_cases w : cnB (byt P (p + k)) = true
    · rw [if_pos w]
      have hx' : 64 * x + byt P (p + k) % 64 < 2 ^ (30 - 6 * j) := by
        have e1 : 2 ^ (30 - 6 * j) = 2 ^ (30 - 6 * (j + 1)) * 64 := by
          rw [show 30 - 6 * j = (30 - 6 * (j + 1)) + 6 by omega, Nat.pow_add]
        have := Nat.mod_lt (byt P (p + k)) (show 0 < 64 by decide)
        omega
      obtain ⟨i1, i2⟩ := ih (k + 1) V (64 * x + byt P (p + k) % 64) (by omega) (by omega) (by omega) hx'
      refine ⟨fun h => ?_, fun h => i2 (fun z => h (fun i h1 h3 => ?_))⟩
      · rw [i1 (fun i h1 h3 => h i (by omega) h3), cdU]
      · by_cases y : i = k
        · rw [y]; exact w
        · exact z i (by omega) h3
    · rw [if_neg w]
      exact ⟨fun h => absurd (h k (Nat.le_refl _) (by omega)) w, fun _ => rfl⟩
/-- which codes are characters, by the first two bytes -/
theorem code2 {b c e : Nat} (hb : 224 ≤ b ∧ b ≤ 239) (hc : 128 ≤ c ∧ c ≤ 191) (he : 128 ≤ e ∧ e ≤ 191) : (¬ 64 * (64 * (b % 16) + c % 64) + e % 64 < 2048 ∧ (64 * (64 * (b % 16) + c % 64) + e % 64 < 55296 ∨ 57343 < 64 * (64 * (b % 16) + c % 64) + e % 64)) ↔ lw2 b ≤ c ∧ c ≤ hg2 b := by
  unfold lw2 hg2
  split
  · rw [if_neg (by omega), if_neg (by omega)]; omega
  · rw [if_neg (by omega)]
    split
    · omega
    · rw [if_neg (by omega)]; omega
theorem code3 {b c e g : Nat} (hb : 240 ≤ b ∧ b ≤ 244) (hc : 128 ≤ c ∧ c ≤ 191) (he : 128 ≤ e ∧ e ≤ 191) (hg : 128 ≤ g ∧ g ≤ 191) : (¬ 64 * (64 * (64 * (b % 8) + c % 64) + e % 64) + g % 64 < 65536 ∧ ¬ 1114111 < 64 * (64 * (64 * (b % 8) + c % 64) + e % 64) + g % 64) ↔ lw2 b ≤ c ∧ c ≤ hg2 b := by
  unfold lw2 hg2
  rw [if_neg (by omega)]
  split
  · rw [if_neg (by omega), if_neg (by omega)]; omega
  · rw [if_neg (by omega)]
    split
    · omega
    · omega
theorem cnB_of {c : Nat} (h : cnB c = true) : 128 ≤ c ∧ c ≤ 191 := by
  have := of_decide_eq_true h
  omega
theorem of_cnB {c : Nat} (h : 128 ≤ c ∧ c ≤ 191) : cnB c = true := decide_eq_true (by omega)
theorem lw_hg {b c : Nat} (h1 : lw2 b ≤ c) (h2 : c ≤ hg2 b) : 128 ≤ c ∧ c ≤ 191 := by
  unfold lw2 at h1
  unfold hg2 at h2
  split at h1 <;> split at h2 <;> (try split at h1) <;> (try split at h2) <;> omega
theorem N_u8_L {U f q : Nat} {σ : SG} {P : List Nat} (hU4 : 4000 < U) (hP : RI σ 1175 P) (h8 : ok8 P) (hl : P.length ≤ 700) (hf : f ≤ q) (hq : q ≤ P.length) : ∀ (j p U1 : Nat), q ≤ p + j → j < U1 → p ≤ q + 4 → x_X12_isUtf8_L2 U 1101 (nI f) (nI (q - f)) σ U1 (nI p) = some (zI (u8S P q j p)) := by
  intro j
  induction j with
  | zero =>
    intro p U1 hp hu hpq
    obtain ⟨V, rfl⟩ : ∃ V, U1 = V + 1 := ⟨U1 - 1, by omega⟩
    rw [x_X12_isUtf8_L2, nI_add, show f + (q - f) = q by omega, if_neg (fun q => by have := (ltI (by omega) (by omega)).mp q; omega)]
    rfl
  | succ j ih =>
    intro p U1 hp hu hpq
    obtain ⟨V, rfl⟩ : ∃ V, U1 = V + 1 := ⟨U1 - 1, by omega⟩
    rw [x_X12_isUtf8_L2, nI_add, show f + (q - f) = q by omega, ifd (ltI (by omega) (by omega)), u8S]
    by_cases hlt : p < q
    · have hpS : p < P.length := by omega
      have hb := byt_lt h8 hpS
      have hcell : sI σ 1175 p = nI (byt P p) := by
        unfold byt
        rw [hP _ _ (List.getElem?_eq_getElem hpS), List.getD_eq_getElem?_getD, List.getElem?_eq_getElem hpS]
        rfl
      have l1 : ∀ k, k < 256 → (nI (byt P p) < nI k ↔ byt P p < k) := fun k hk => ltI (by omega) (by omega)
      have l2 : ∀ k, k < 256 → (nI k < nI (byt P p) ↔ k < byt P p) := fun k hk => ltI (by omega) (by omega)
      rw [if_pos hlt, if_pos hlt, ix_in (by omega) (by decide), hcell]
      -- a character of m more bytes
      have go : ∀ m x0, m ≤ 3 → x0 < 128 → (nI p + nI m < nI f + nI (q - f) ↔ p + m < q) → ((p + m < q) → ((∀ i, 1 ≤ i → i ≤ m → cnB (byt P (p + i)) = true) → x_X12_isUtf8_128 U 1101 (x_X12_isUtf8_L2 U 1101 (nI f) (nI (q - f)) σ V) (nI f) (nI (q - f)) (nI p) (nI m) (nI x0) σ = (if m < 2 then (x_X12_isUtf8_213 U 1101 (x_X12_isUtf8_L2 U 1101 (nI f) (nI (q - f)) σ V) (nI f) (nI (q - f)) (nI p) (nI m) (nI (cdU P p m 1 x0)) σ) else if m = 2 then (x_X12_isUtf8_210 U 1101 (x_X12_isUtf8_L2 U 1101 (nI f) (nI (q - f)) σ V) (nI f) (nI (q - f)) (nI p) (nI m) (nI (cdU P p m 1 x0)) 2048 (nI (cdU P p m 1 x0)) σ) else (x_X12_isUtf8_210 U 1101 (x_X12_isUtf8_L2 U 1101 (nI f) (nI (q - f)) σ V) (nI f) (nI (q - f)) (nI p) (nI m) (nI (cdU P p m 1 x0)) 65536 (nI (cdU P p m 1 x0)) σ))) ∧ (¬ (∀ i, 1 ≤ i → i ≤ m → cnB (byt P (p + i)) = true) → x_X12_isUtf8_128 U 1101 (x_X12_isUtf8_L2 U 1101 (nI f) (nI (q - f)) σ V) (nI f) (nI (q - f)) (nI p) (nI m) (nI x0) σ = some 0)) := by
        intro m x0 hm hx0 _ hpm
        unfold x_X12_isUtf8_128
        obtain ⟨i1, i2⟩ := N_u8_in (U := U) (K := fun w20 => if nI m < 2 then (x_X12_isUtf8_213 U 1101 (x_X12_isUtf8_L2 U 1101 (nI f) (nI (q - f)) σ V) (nI f) (nI (q - f)) (nI p) (nI m) w20 σ) else (if nI m = 2 then (x_X12_isUtf8_210 U 1101 (x_X12_isUtf8_L2 U 1101 (nI f) (nI (q - f)) σ V) (nI f) (nI (q - f)) (nI p) (nI m) w20 2048 w20 σ) else (x_X12_isUtf8_210 U 1101 (x_X12_isUtf8_L2 U 1101 (nI f) (nI (q - f)) σ V) (nI f) (nI (q - f)) (nI p) (nI m) w20 65536 w20 σ))) (v1 := nI f) (v2 := nI (q - f)) hP h8 hl (show p + m < P.length by omega) m 1 U x0 (by omega) (by omega) hm (by
          have : 2 ^ 12 ≤ 2 ^ (30 - 6 * m) := Nat.pow_le_pow_right (by decide) (by omega)
          omega)
        have m2 : nI m < 2 ↔ m < 2 := ltI (b := 2) (by omega) (by decide)
        have e2 : nI m = 2 ↔ m = 2 := nI_eq (b := 2) (by omega) (by decide)
        refine ⟨fun h => ?_, fun h => ?_⟩
        · have := i1 h
          rw [ifd m2, ifd e2] at this
          exact this
        · exact i2 h
      -- the last tests
      have k2 : ∀ m, m ≤ 3 → x_X12_isUtf8_L2 U 1101 (nI f) (nI (q - f)) σ V (nI p + (nI m + 1)) = x_X12_isUtf8_L2 U 1101 (nI f) (nI (q - f)) σ V (nI (p + m + 1)) := fun m hm => by rw [nI_1, nI_add, show p + (m + 1) = p + m + 1 by omega]
      have t241 : ∀ m x, m ≤ 3 → x < 2 ^ 31 → x_X12_isUtf8_241 U 1101 (x_X12_isUtf8_L2 U 1101 (nI f) (nI (q - f)) σ V) (nI f) (nI (q - f)) (nI p) (nI m) (nI x) σ = if 1114111 < x then some 0 else x_X12_isUtf8_L2 U 1101 (nI f) (nI (q - f)) σ V (nI (p + m + 1)) := fun m x hm hx => by
        unfold x_X12_isUtf8_241
        rw [ifd (show (1114111 : Int32) < nI x ↔ 1114111 < x from ltI (a := 1114111) (by decide) hx), k2 m hm]
      have t213 : ∀ m x, m ≤ 3 → x < 2 ^ 31 → x_X12_isUtf8_213 U 1101 (x_X12_isUtf8_L2 U 1101 (nI f) (nI (q - f)) σ V) (nI f) (nI (q - f)) (nI p) (nI m) (nI x) σ = if (x < 55296 ∨ 57343 < x) ∧ ¬ 1114111 < x then x_X12_isUtf8_L2 U 1101 (nI f) (nI (q - f)) σ V (nI (p + m + 1)) else some 0 := fun m x hm hx => by
        unfold x_X12_isUtf8_213 x_X12_isUtf8_218
        rw [if_neg (show ¬ (1 : Int32) = 0 by decide), t241 m x hm hx, ifd (show nI x < 55296 ↔ x < 55296 from ltI (b := 55296) hx (by decide)), ifd (show (57343 : Int32) < nI x ↔ 57343 < x from ltI (a := 57343) (by decide) hx)]
        by_cases q1 : x < 55296
        · rw [if_pos q1, if_neg (by omega), if_pos (by omega)]
        · rw [if_neg q1]
          by_cases q2 : 57343 < x
          · rw [if_pos q2]
            by_cases q3 : 1114111 < x
            · rw [if_pos q3, if_neg (fun z => z.2 q3)]
            · rw [if_neg q3, if_pos ⟨Or.inr q2, q3⟩]
          · rw [if_neg q2, if_neg (by omega)]
      have t210 : ∀ m x lo, m ≤ 3 → x < 2 ^ 31 → lo < 2 ^ 31 → x_X12_isUtf8_210 U 1101 (x_X12_isUtf8_L2 U 1101 (nI f) (nI (q - f)) σ V) (nI f) (nI (q - f)) (nI p) (nI m) (nI x) (nI lo) (nI x) σ = if ¬ x < lo ∧ (x < 55296 ∨ 57343 < x) ∧ ¬ 1114111 < x then x_X12_isUtf8_L2 U 1101 (nI f) (nI (q - f)) σ V (nI (p + m + 1)) else some 0 := fun m x lo hm hx hlo => by
        unfold x_X12_isUtf8_210
        rw [ifd (ltI hx hlo)]
        by_cases q1 : x < lo
        · rw [if_pos q1, if_neg (fun z => z.1 q1)]
          unfold x_X12_isUtf8_218
          rw [if_pos rfl]
        · rw [if_neg q1, t213 m x hm hx]
          exact ifd ⟨fun z => ⟨q1, z⟩, fun z => z.2⟩
      have more : ∀ m, 1 ≤ m → m ≤ 3 → mor (byt P p) = m → x_X12_isUtf8_90 U 1101 (x_X12_isUtf8_L2 U 1101 (nI f) (nI (q - f)) σ V) (nI f) (nI (q - f)) (nI p) (nI (byt P p)) (nI m) σ = some (zI (if chr8 P q p then u8S P q j (p + mor (byt P p) + 1) else false)) := by
        intro m h1 h3 hm
        unfold x_X12_isUtf8_90
        have hsm : nI p + nI m < nI f + nI (q - f) ↔ p + m < q := by rw [nI_add, nI_add, show f + (q - f) = q by omega]; exact ltI (by omega) (by omega)
        rw [if_neg (show ¬ nI m = -1 from fun z => nI_neg (a := m) (by omega) (by rw [z]; decide)), ifd hsm, if_neg (show ¬ nI m = 0 from fun z => by have := (nI_eq (b := 0) (by omega) (by decide)).mp z; omega)]
        by_cases hpm : p + m < q
        · rw [if_pos hpm]
          have hp1 : p + 1 < P.length := by omega
          have hxm : nI (byt P p) &&& ishr9 63 (nI m) = nI (byt P p % 2 ^ (6 - m)) := by
            have : m = 1 ∨ m = 2 ∨ m = 3 := by omega
            rcases this with z | z | z <;> subst z
            · exact pk_andN (by omega) 5 (by decide)
            · exact pk_andN (by omega) 4 (by decide)
            · exact pk_andN (by omega) 3 (by decide)
          have hx0 : byt P p % 2 ^ (6 - m) < 128 := by
            have : m = 1 ∨ m = 2 ∨ m = 3 := by omega
            rcases this with z | z | z <;> subst z <;> (have := Nat.mod_lt (byt P p) (show 0 < 32 by decide); have := Nat.mod_lt (byt P p) (show 0 < 16 by decide); have := Nat.mod_lt (byt P p) (show 0 < 8 by decide); omega)
          rw [hxm]
          obtain ⟨g1, g2⟩ := go m (byt P p % 2 ^ (6 - m)) h3 hx0 hsm hpm
          have nx := ih (p + m + 1) V (by omega) (by omega) (by omega)
          have hm' := hm
          unfold mor at hm'
          by_cases hall : ∀ i, 1 ≤ i → i ≤ m → cnB (byt P (p + i)) = true
          · rw [g1 hall]
            have c1 := cnB_of (hall 1 (Nat.le_refl _) h1)
            have : m = 1 ∨ m = 2 ∨ m = 3 := by omega
            rcases this with z | z | z
            · subst z
              have hr : 194 ≤ byt P p ∧ byt P p ≤ 223 := by
                split at hm'
                · assumption
                · split at hm'
                  · omega
                  · split at hm' <;> omega
              have hcx : cdU P p 1 1 (byt P p % 32) = 64 * (byt P p % 32) + byt P (p + 1) % 64 := rfl
              have hlt1 := Nat.mod_lt (byt P p) (show 0 < 32 by decide)
              have hlt2 := Nat.mod_lt (byt P (p + 1)) (show 0 < 64 by decide)
              have hch : chr8 P q p = true := by
                unfold chr8
                rw [decide_eq_true_iff, hm]
                refine ⟨by decide, hpm, ?_, ?_, fun z => by omega, fun z => by omega⟩
                · unfold lw2; rw [if_neg (by omega), if_neg (by omega)]; omega
                · unfold hg2; rw [if_neg (by omega), if_neg (by omega)]; omega
              rw [if_pos (by decide), show (2 : Nat) ^ (6 - 1) = 32 from rfl, hcx, t213 1 _ (by decide) (by omega), if_pos (by omega), nx, hch, hm]; rfl
            · subst z
              have hr : 224 ≤ byt P p ∧ byt P p ≤ 239 := by
                split at hm'
                · omega
                · split at hm'
                  · assumption
                  · split at hm' <;> omega
              have c2 := cnB_of (hall 2 (by decide) (Nat.le_refl _))
              have hcx : cdU P p 2 1 (byt P p % 16) = 64 * (64 * (byt P p % 16) + byt P (p + 1) % 64) + byt P (p + 2) % 64 := rfl
              have hlt1 := Nat.mod_lt (byt P p) (show 0 < 16 by decide)
              have hlt2 := Nat.mod_lt (byt P (p + 1)) (show 0 < 64 by decide)
              have hlt3 := Nat.mod_lt (byt P (p + 2)) (show 0 < 64 by decide)
              have hcode := code2 hr c1 c2
              have e48 : (2048 : Int32) = nI 2048 := rfl
              rw [if_neg (by decide), if_pos rfl, show (2 : Nat) ^ (6 - 2) = 16 from rfl, hcx, e48, t210 2 _ 2048 (by decide) (by omega) (by decide), nx]
              have hch : chr8 P q p = true ↔ (¬ 64 * (64 * (byt P p % 16) + byt P (p + 1) % 64) + byt P (p + 2) % 64 < 2048 ∧ (64 * (64 * (byt P p % 16) + byt P (p + 1) % 64) + byt P (p + 2) % 64 < 55296 ∨ 57343 < 64 * (64 * (byt P p % 16) + byt P (p + 1) % 64) + byt P (p + 2) % 64) ∧ ¬ 1114111 < 64 * (64 * (byt P p % 16) + byt P (p + 1) % 64) + byt P (p + 2) % 64) := by
                unfold chr8
                rw [decide_eq_true_iff, hm]
                constructor
                · rintro ⟨_, _, w1, w2, _, _⟩
                  have := hcode.mpr ⟨w1, w2⟩
                  exact ⟨this.1, this.2, by omega⟩
                · rintro ⟨w1, w2, _⟩
                  have := hcode.mp ⟨w1, w2⟩
                  exact ⟨by decide, hpm, this.1, this.2, fun _ => hall 2 (by decide) (Nat.le_refl _), fun z => by omega⟩
              rw [← ifd hch, hm]
              by_cases y : chr8 P q p = true
              · rw [if_pos y, if_pos y]
              · rw [if_neg y, if_neg y]; rfl
            · subst z
              have hr : 240 ≤ byt P p ∧ byt P p ≤ 244 := by
                split at hm'
                · omega
                · split at hm'
                  · omega
                  · split at hm'
                    · assumption
                    · omega
              have c2 := cnB_of (hall 2 (by decide) (by decide))
              have c3 := cnB_of (hall 3 (by decide) (Nat.le_refl _))
              have hcx : cdU P p 3 1 (byt P p % 8) = 64 * (64 * (64 * (byt P p % 8) + byt P (p + 1) % 64) + byt P (p + 2) % 64) + byt P (p + 3) % 64 := rfl
              have hlt1 := Nat.mod_lt (byt P p) (show 0 < 8 by decide)
              have hlt2 := Nat.mod_lt (byt P (p + 1)) (show 0 < 64 by decide)
              have hlt3 := Nat.mod_lt (byt P (p + 2)) (show 0 < 64 by decide)
              have hlt4 := Nat.mod_lt (byt P (p + 3)) (show 0 < 64 by decide)
              have hcode := code3 hr c1 c2 c3
              have e65 : (65536 : Int32) = nI 65536 := rfl
              rw [if_neg (by decide), if_neg (by decide), show (2 : Nat) ^ (6 - 3) = 8 from rfl, hcx, e65, t210 3 _ 65536 (by decide) (by omega) (by decide), nx]
              have hch : chr8 P q p = true ↔ (¬ 64 * (64 * (64 * (byt P p % 8) + byt P (p + 1) % 64) + byt P (p + 2) % 64) + byt P (p + 3) % 64 < 65536 ∧ (64 * (64 * (64 * (byt P p % 8) + byt P (p + 1) % 64) + byt P (p + 2) % 64) + byt P (p + 3) % 64 < 55296 ∨ 57343 < 64 * (64 * (64 * (byt P p % 8) + byt P (p + 1) % 64) + byt P (p + 2) % 64) + byt P (p + 3) % 64) ∧ ¬ 1114111 < 64 * (64 * (64 * (byt P p % 8) + byt P (p + 1) % 64) + byt P (p + 2) % 64) + byt P (p + 3) % 64) := by
                unfold chr8
                rw [decide_eq_true_iff, hm]
                constructor
                · rintro ⟨_, _, w1, w2, _, _⟩
                  have := hcode.mpr ⟨w1, w2⟩
                  exact ⟨this.1, Or.inr (by omega), this.2⟩
                · rintro ⟨w1, _, w3⟩
                  have := hcode.mp ⟨w1, w3⟩
                  exact ⟨by decide, hpm, this.1, this.2, fun _ => hall 2 (by decide) (by decide), fun _ => hall 3 (by decide) (Nat.le_refl _)⟩
              rw [← ifd hch, hm]
              by_cases y : chr8 P q p = true
              · rw [if_pos y, if_pos y]
              · rw [if_neg y, if_neg y]; rfl
          · rw [g2 hall, if_neg (show ¬ chr8 P q p = true from fun z => hall (fun i i1 i2 => ?_))]
            · rfl
            · have zz := of_decide_eq_true z
              rw [hm] at zz
              obtain ⟨_, _, z1, z2, z3, z4⟩ := zz
              have : i = 1 ∨ i = 2 ∨ i = 3 := by omega
              rcases this with y | y | y <;> subst y
              · exact of_cnB (lw_hg z1 z2)
              · exact z3 (by omega)
              · exact z4 (by omega)
        · rw [if_neg hpm, if_neg (show ¬ chr8 P q p = true from fun z => by have := (of_decide_eq_true z).2.1; omega)]; rfl
      have no : mor (byt P p) = 0 → x_X12_isUtf8_89 U 1101 (x_X12_isUtf8_L2 U 1101 (nI f) (nI (q - f)) σ V) (nI f) (nI (q - f)) (nI p) (nI (byt P p)) σ = some (zI (if chr8 P q p then u8S P q j (p + mor (byt P p) + 1) else false)) := by
        intro hm
        unfold x_X12_isUtf8_89 x_X12_isUtf8_90
        rw [if_pos rfl, if_neg (show ¬ chr8 P q p = true from fun z => (of_decide_eq_true z).1 hm)]; rfl
      by_cases w : byt P p < 128
      · rw [if_pos (show nI (byt P p) < 128 from (l1 128 (by decide)).mpr w), if_pos w]
        unfold x_X12_isUtf8_90
        have hsm : nI p + nI 0 < nI f + nI (q - f) ↔ p + 0 < q := by rw [nI_add, nI_add, show f + (q - f) = q by omega]; exact ltI (by omega) (by omega)
        obtain ⟨g1, _⟩ := go 0 (byt P p) (by decide) w hsm (by omega)
        have hsm0 : nI p + 0 < nI f + nI (q - f) := hsm.mpr (by omega)
        have g1' := g1 (fun i h1 h2 => by omega)
        rw [if_pos (by decide), t213 0 _ (by decide) (show cdU P p 0 1 (byt P p) < 2 ^ 31 from Nat.lt_trans w (by decide)), if_pos (show (cdU P p 0 1 (byt P p) < 55296 ∨ 57343 < cdU P p 0 1 (byt P p)) ∧ ¬ 1114111 < cdU P p 0 1 (byt P p) from ⟨Or.inl (Nat.lt_trans w (by decide)), fun z => by have : 1114111 < byt P p := z; omega⟩)] at g1'
        have g1'' : x_X12_isUtf8_128 U 1101 (x_X12_isUtf8_L2 U 1101 (nI f) (nI (q - f)) σ V) (nI f) (nI (q - f)) (nI p) 0 (nI (byt P p)) σ = x_X12_isUtf8_L2 U 1101 (nI f) (nI (q - f)) σ V (nI (p + 1)) := g1'
        rw [if_neg (by decide), if_pos hsm0, if_pos rfl, g1'']
        exact ih (p + 1) V (by omega) (by omega) (by omega)
      · rw [if_neg (show ¬ nI (byt P p) < 128 from fun z => w ((l1 128 (by decide)).mp z)), if_neg w]
        unfold x_X12_isUtf8_49 x_X12_isUtf8_69
        have c1 : nI (byt P p) < 194 ↔ byt P p < 194 := l1 194 (by decide)
        have c2 : (223 : Int32) < nI (byt P p) ↔ 223 < byt P p := l2 223 (by decide)
        have c3 : nI (byt P p) < 224 ↔ byt P p < 224 := l1 224 (by decide)
        have c4 : (239 : Int32) < nI (byt P p) ↔ 239 < byt P p := l2 239 (by decide)
        have c5 : nI (byt P p) < 240 ↔ byt P p < 240 := l1 240 (by decide)
        have c6 : (244 : Int32) < nI (byt P p) ↔ 244 < byt P p := l2 244 (by decide)
        by_cases d1 : byt P p < 194
        · rw [if_pos (c1.mpr d1), if_pos (c3.mpr (by omega)), if_pos (c5.mpr (by omega))]
          exact no (by unfold mor; rw [if_neg (by omega), if_neg (by omega), if_neg (by omega)])
        rw [if_neg (fun z => d1 (c1.mp z))]
        by_cases d2 : 223 < byt P p
        · rw [if_pos (c2.mpr d2), if_neg (fun z => by have := c3.mp z; omega)]
          by_cases d3 : 239 < byt P p
          · rw [if_pos (c4.mpr d3), if_neg (fun z => by have := c5.mp z; omega)]
            by_cases d4 : 244 < byt P p
            · rw [if_pos (c6.mpr d4)]; exact no (by unfold mor; rw [if_neg (by omega), if_neg (by omega), if_neg (by omega)])
            · rw [if_neg (fun z => d4 (c6.mp z))]; exact more 3 (by decide) (by decide) (by unfold mor; rw [if_neg (by omega), if_neg (by omega), if_pos (by omega)])
          · rw [if_neg (fun z => d3 (c4.mp z))]; exact more 2 (by decide) (by decide) (by unfold mor; rw [if_neg (by omega), if_pos (by omega)])
        · rw [if_neg (fun z => d2 (c2.mp z))]; exact more 1 (by decide) (by decide) (by unfold mor; rw [if_pos (by omega)])
    · rw [if_neg hlt, if_neg hlt]; rfl
theorem N_isUtf8 {U f q : Nat} {σ : SG} {P : List Nat} (hU4 : 4000 < U) (hP : RI σ 1175 P) (h8 : ok8 P) (hl : P.length ≤ 700) (hf : f ≤ q) (hq : q ≤ P.length) : x_X12_isUtf8 U 1101 (nI f) (nI (q - f)) σ = some (zI (u8T P f q)) := by
  unfold x_X12_isUtf8 u8T
  exact N_u8_L hU4 hP h8 hl hf hq (q - f) f U (by omega) (by omega) (by omega)
