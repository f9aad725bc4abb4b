noncomputable def x_X0_add_43 (a : Nat) (σ : SG) : Option (SG) := sb (uI σ a 2 1) fun σ2 => some σ2
noncomputable def x_X0_add (a : Nat) (p0 : Int32) (σ : SG) : Option (SG) := 
  if sI σ a 1 < 0 then (x_X0_add_43 a σ) else (
  if sI σ a 1 < nI (ln (a + 1)) then (ix (sI σ a 1) (ln (a + 1)) fun j4 => sb (uI σ (a + 1) j4 (vp_nar .byte (i2b p0))) fun σ8 => sb (uI σ8 a 1 ((sI σ8 a 1) + 1)) fun σ9 => some σ9) else (x_X0_add_43 a σ))
noncomputable def x_X0_at (a : Nat) (p0 : Int32) (σ : SG) : Option (Int32) := 
  if p0 < 0 then (some (-1)) else (
  if p0 < sI σ a 1 then (
  if p0 < nI (ln (a + 1)) then (ix p0 (ln (a + 1)) fun j4 => some ((sI σ (a + 1) j4) &&& 255)) else (some (-1))) else (some (-1)))
noncomputable def x_X0_addAll_L3 (U : Nat) (a : Nat) (v1_ : Option Nat) (v3_ : Int32) : Nat → Int32 → SG → Option (SG)
  | 0, _, _ => none
  | U1 + 1, v4_, σ => 
  if v4_ < v3_ then (ck 0 v1_ fun q2 => b1 (x_X0_at q2 v4_ σ) fun v6 => b1 (x_X0_add a v6 σ) fun σ8 => x_X0_addAll_L3 U a v1_ v3_ U1 (v4_ + 1) σ8) else (some σ)
noncomputable def x_X0_addAll (U : Nat) (a : Nat) (p0 : Option Nat) (p1 : Int32) (p2 : Int32) (σ : SG) : Option (SG) := x_X0_addAll_L3 U a p0 p2 U p1 σ
noncomputable def x_X0_addFixed_L3 (U : Nat) (a : Nat) (v1_ : Int64) (v3_ : Int32) : Nat → Int32 → SG → Option (SG)
  | 0, _, _ => none
  | U1 + 1, v4_, σ => 
  if v4_ < v3_ then (b1 (x_X0_add a (Int64.toInt32 (lush v1_ (8 * v4_))) σ) fun σ3 => x_X0_addFixed_L3 U a v1_ v3_ U1 (v4_ + 1) σ3) else (some σ)
noncomputable def x_X0_addFixed (U : Nat) (a : Nat) (p0 : Int64) (p1 : Int32) (σ : SG) : Option (SG) := x_X0_addFixed_L3 U a p0 p1 U 0 σ
noncomputable def x_X0_addText_L2 (U : Nat) (a : Nat) (v1_ : Nat) : Nat → Int32 → SG → Option (SG)
  | 0, _, _ => none
  | U1 + 1, v2_, σ => 
  if v2_ < nI (tlen v1_) then (ix v2_ (tlen v1_) fun j2 => b1 (x_X0_add a (tchr v1_ j2) σ) fun σ7 => x_X0_addText_L2 U a v1_ U1 (v2_ + 1) σ7) else (some σ)
noncomputable def x_X0_addText (U : Nat) (a : Nat) (p0 : Nat) (σ : SG) : Option (SG) := x_X0_addText_L2 U a p0 U 0 σ
noncomputable def x_X0_addVarint_L5 (U : Nat) (a : Nat) (k46 : Int64 → SG → Option (SG)) : Nat → Int64 → Int32 → SG → Option (SG)
  | 0, _, _, _ => none
  | U1 + 1, v3_, v5_, σ => 
  if v5_ < 9 then (
  if lush v3_ 7 = 0 then (k46 v3_ σ) else (b1 (x_X0_add a ((Int64.toInt32 (v3_ &&& 127)) ||| 128) σ) fun σ4 => x_X0_addVarint_L5 U a k46 U1 (lush v3_ 7) (v5_ + 1) σ4)) else (k46 v3_ σ)
noncomputable def x_X0_addVarint_46 (U : Nat) (a : Nat) (v3_ : Int64) (σ : SG) : Option (SG) := b1 (x_X0_add a (Int64.toInt32 v3_) σ) fun σ8 => some σ8
noncomputable def x_X0_addVarint (U : Nat) (a : Nat) (p0 : Int64) (σ : SG) : Option (SG) := x_X0_addVarint_L5 U a (fun w5 σ6 => x_X0_addVarint_46 U a w5 σ6) U p0 0 σ
noncomputable def x_X0_clear (a : Nat) (σ : SG) : Option (SG) := sb (uI σ a 1 0) fun σ1 => sb (uI σ1 a 2 0) fun σ2 => some σ2
noncomputable def x_X0_insertLength_49 (U : Nat) (a : Nat) (σ : SG) : Option (SG) := sb (uI σ a 2 1) fun σ3 => some σ3
noncomputable def x_X0_insertLength_19 (U : Nat) (a : Nat) (v1_ : Int32) (v2_ : Int32) (s0_ : Int32) (σ : SG) : Option (SG) := 
  if v1_ < 0 then (x_X0_insertLength_49 U a σ) else (
  if v2_ < 0 then (x_X0_insertLength_49 U a σ) else (
  if v2_ < 16384 then (
  if nI (ln (a + 1)) < (sI σ a 1) + s0_ then (x_X0_insertLength_49 U a σ) else (acopy σ (a + 1) v1_ (v1_ + s0_) v2_ fun σ7 => sb (uI σ7 a 1 v1_) fun σ8 => b1 (x_X0_addVarint U a (Int32.toInt64 v2_) σ8) fun σ10 => sb (uI σ10 a 1 ((v1_ + s0_) + v2_)) fun σ11 => some σ11)) else (x_X0_insertLength_49 U a σ)))
noncomputable def x_X0_insertLength (U : Nat) (a : Nat) (p0 : Int32) (σ : SG) : Option (SG) := 
  if (sI σ a 1) - p0 < 128 then (x_X0_insertLength_19 U a p0 ((sI σ a 1) - p0) 1 σ) else (x_X0_insertLength_19 U a p0 ((sI σ a 1) - p0) 2 σ)
noncomputable def x_X0_isSame_L32 (U : Nat) (a : Nat) (v1_ : Int32) (v2_ : Option Nat) (v3_ : Int32) (v4_ : Int32) (σ : SG) : Nat → Int32 → Option (Int32)
  | 0, _ => none
  | U1 + 1, v5_ => 
  if v5_ < v4_ then (
  if (v1_ + v5_) - v3_ < sI σ a 1 then (
  if (v1_ + v5_) - v3_ < nI (ln (a + 1)) then (ix ((v1_ + v5_) - v3_) (ln (a + 1)) fun j11 => ck 0 v2_ fun q15 => ix v5_ (ln (q15 + 1)) fun j18 => 
  if sI σ (a + 1) j11 = sI σ (q15 + 1) j18 then (x_X0_isSame_L32 U a v1_ v2_ v3_ v4_ σ U1 (v5_ + 1)) else (some 0)) else (some 0)) else (some 0)) else (some 1)
noncomputable def x_X0_isSame (U : Nat) (a : Nat) (p0 : Int32) (p1 : Option Nat) (p2 : Int32) (p3 : Int32) (σ : SG) : Option (Int32) := 
  if p0 < 0 then (some 0) else (
  if p2 < 0 then (some 0) else (ck 0 p1 fun q3 => 
  if sI σ q3 1 < p3 then (some 0) else (
  if nI (ln (q3 + 1)) < p3 then (some 0) else (x_X0_isSame_L32 U a p0 p1 p2 p3 σ U p2))))
noncomputable def x_X0_isSpilt (a : Nat) (σ : SG) : Option (Int32) := zb (sI σ a 2) <| some (sI σ a 2)
noncomputable def x_X0_isUtf8_L201 (U : Nat) (a : Nat) (k234 : Option (Int32)) (v2_ : Int32) (v3_ : Int32) (v5_ : Int32) (σ : SG) : Nat → Int32 → Option (Int32)
  | 0, _ => none
  | U1 + 1, v8_ => 
  if v5_ < v8_ then (k234) else (b1 (x_X0_at a (v3_ + v8_) σ) fun v20 => 
  if v20 &&& 192 = 128 then (x_X0_isUtf8_L201 U a k234 v2_ v3_ v5_ σ U1 (v8_ + 1)) else (some 0))
noncomputable def x_X0_isUtf8_239 (U : Nat) (a : Nat) (k2 : Int32 → Option (Int32)) (v2_ : Int32) (v3_ : Int32) (σ : SG) : Option (Int32) := k2 (v3_ + 1)
noncomputable def x_X0_isUtf8_157 (U : Nat) (a : Nat) (k2 : Int32 → Option (Int32)) (v2_ : Int32) (v3_ : Int32) (v5_ : Int32) (v6_ : Int32) (s0_ : Int32) (σ : SG) : Option (Int32) := 
  if v5_ = 0 then (some 0) else (
  if v3_ + v5_ < v2_ then (b1 (x_X0_at a (v3_ + 1) σ) fun v13 => 
  if v13 < v6_ then (some 0) else (b1 (x_X0_at a (v3_ + 1) σ) fun v16 => 
  if s0_ < v16 then (some 0) else (x_X0_isUtf8_L201 U a (x_X0_isUtf8_239 U a k2 v2_ (v3_ + v5_) σ) v2_ v3_ v5_ σ U 2))) else (some 0))
noncomputable def x_X0_isUtf8_124 (U : Nat) (a : Nat) (k2 : Int32 → Option (Int32)) (v2_ : Int32) (v3_ : Int32) (v4_ : Int32) (v5_ : Int32) (s0_ : Int32) (σ : SG) : Option (Int32) := 
  if v4_ = 237 then (x_X0_isUtf8_157 U a k2 v2_ v3_ v5_ s0_ 159 σ) else (
  if v4_ = 244 then (x_X0_isUtf8_157 U a k2 v2_ v3_ v5_ s0_ 143 σ) else (x_X0_isUtf8_157 U a k2 v2_ v3_ v5_ s0_ 191 σ))
noncomputable def x_X0_isUtf8_91 (U : Nat) (a : Nat) (k2 : Int32 → Option (Int32)) (v2_ : Int32) (v3_ : Int32) (v4_ : Int32) (s0_ : Int32) (σ : SG) : Option (Int32) := 
  if v4_ = 224 then (x_X0_isUtf8_124 U a k2 v2_ v3_ v4_ s0_ 160 σ) else (
  if v4_ = 240 then (x_X0_isUtf8_124 U a k2 v2_ v3_ v4_ s0_ 144 σ) else (x_X0_isUtf8_124 U a k2 v2_ v3_ v4_ s0_ 128 σ))
noncomputable def x_X0_isUtf8_90 (U : Nat) (a : Nat) (k2 : Int32 → Option (Int32)) (v2_ : Int32) (v3_ : Int32) (v4_ : Int32) (σ : SG) : Option (Int32) := x_X0_isUtf8_91 U a k2 v2_ v3_ v4_ 0 σ
noncomputable def x_X0_isUtf8_70 (U : Nat) (a : Nat) (k2 : Int32 → Option (Int32)) (v2_ : Int32) (v3_ : Int32) (v4_ : Int32) (σ : SG) : Option (Int32) := 
  if v4_ < 240 then (x_X0_isUtf8_90 U a k2 v2_ v3_ v4_ σ) else (
  if 244 < v4_ then (x_X0_isUtf8_90 U a k2 v2_ v3_ v4_ σ) else (x_X0_isUtf8_91 U a k2 v2_ v3_ v4_ 3 σ))
noncomputable def x_X0_isUtf8_50 (U : Nat) (a : Nat) (k2 : Int32 → Option (Int32)) (v2_ : Int32) (v3_ : Int32) (v4_ : Int32) (σ : SG) : Option (Int32) := 
  if v4_ < 224 then (x_X0_isUtf8_70 U a k2 v2_ v3_ v4_ σ) else (
  if 239 < v4_ then (x_X0_isUtf8_70 U a k2 v2_ v3_ v4_ σ) else (x_X0_isUtf8_91 U a k2 v2_ v3_ v4_ 2 σ))
noncomputable def x_X0_isUtf8_30 (U : Nat) (a : Nat) (k2 : Int32 → Option (Int32)) (v2_ : Int32) (v3_ : Int32) (v4_ : Int32) (σ : SG) : Option (Int32) := 
  if v4_ < 194 then (x_X0_isUtf8_50 U a k2 v2_ v3_ v4_ σ) else (
  if 223 < v4_ then (x_X0_isUtf8_50 U a k2 v2_ v3_ v4_ σ) else (x_X0_isUtf8_91 U a k2 v2_ v3_ v4_ 1 σ))
noncomputable def x_X0_isUtf8_L2 (U : Nat) (a : Nat) (v2_ : Int32) (σ : SG) : Nat → Int32 → Option (Int32)
  | 0, _ => none
  | U1 + 1, v3_ => 
  if v3_ < v2_ then (b1 (x_X0_at a v3_ σ) fun v3 => 
  if v3 < 0 then (x_X0_isUtf8_30 U a (x_X0_isUtf8_L2 U a v2_ σ U1) v2_ v3_ v3 σ) else (
  if v3 < 128 then (x_X0_isUtf8_239 U a (x_X0_isUtf8_L2 U a v2_ σ U1) v2_ v3_ σ) else (x_X0_isUtf8_30 U a (x_X0_isUtf8_L2 U a v2_ σ U1) v2_ v3_ v3 σ))) else (some 1)
noncomputable def x_X0_isUtf8 (U : Nat) (a : Nat) (p0 : Int32) (p1 : Int32) (σ : SG) : Option (Int32) := x_X0_isUtf8_L2 U a p1 σ U p0
noncomputable def x_X0_size (a : Nat) (σ : SG) : Option (Int32) := some (sI σ a 1)
noncomputable def x_X0_wordIn_108 (U : Nat) (a : Nat) (k12 : Int32 → Int32 → Int32 → Int32 → Option (Int32)) (v1_ : Nat) (v2_ : Int32) (v3_ : Int32) (v4_ : Int32) (v5_ : Int32) (v6_ : Int32) (v7_ : Int32) (σ : SG) : Option (Int32) := k12 v4_ v5_ v6_ (v7_ + 1)
noncomputable def x_X0_wordIn_99 (U : Nat) (a : Nat) (k12 : Int32 → Int32 → Int32 → Int32 → Option (Int32)) (v1_ : Nat) (v2_ : Int32) (v3_ : Int32) (v4_ : Int32) (v7_ : Int32) (σ : SG) : Option (Int32) := x_X0_wordIn_108 U a k12 v1_ v2_ v3_ (v4_ + 1) v2_ 1 v7_ σ
noncomputable def x_X0_wordIn_77 (U : Nat) (a : Nat) (k12 : Int32 → Int32 → Int32 → Int32 → Option (Int32)) (v1_ : Nat) (v2_ : Int32) (v3_ : Int32) (v4_ : Int32) (v5_ : Int32) (v7_ : Int32) (s0_ : Int32) (σ : SG) : Option (Int32) := x_X0_wordIn_108 U a k12 v1_ v2_ v3_ v4_ (v5_ + 1) s0_ v7_ σ
noncomputable def x_X0_wordIn_76 (U : Nat) (a : Nat) (k12 : Int32 → Int32 → Int32 → Int32 → Option (Int32)) (v1_ : Nat) (v2_ : Int32) (v3_ : Int32) (v4_ : Int32) (v5_ : Int32) (v7_ : Int32) (σ : SG) : Option (Int32) := x_X0_wordIn_77 U a k12 v1_ v2_ v3_ v4_ v5_ v7_ 0 σ
noncomputable def x_X0_wordIn_41 (U : Nat) (a : Nat) (k12 : Int32 → Int32 → Int32 → Int32 → Option (Int32)) (v1_ : Nat) (v2_ : Int32) (v3_ : Int32) (v4_ : Int32) (v5_ : Int32) (v6_ : Int32) (v7_ : Int32) (s0_ : Int32) (σ : SG) : Option (Int32) := 
  if s0_ = 32 then (
  if v6_ = 0 then (x_X0_wordIn_99 U a k12 v1_ v2_ v3_ v4_ v7_ σ) else (
  if v5_ = v3_ then (some v4_) else (x_X0_wordIn_99 U a k12 v1_ v2_ v3_ v4_ v7_ σ))) else (
  if v6_ = 0 then (x_X0_wordIn_76 U a k12 v1_ v2_ v3_ v4_ v5_ v7_ σ) else (
  if v5_ < v3_ then (b1 (x_X0_at a v5_ σ) fun v13 => 
  if v13 = s0_ then (x_X0_wordIn_77 U a k12 v1_ v2_ v3_ v4_ v5_ v7_ 1 σ) else (x_X0_wordIn_76 U a k12 v1_ v2_ v3_ v4_ v5_ v7_ σ)) else (x_X0_wordIn_76 U a k12 v1_ v2_ v3_ v4_ v5_ v7_ σ)))
noncomputable def x_X0_wordIn_L12 (U : Nat) (a : Nat) (v1_ : Nat) (v2_ : Int32) (v3_ : Int32) (σ : SG) : Nat → Int32 → Int32 → Int32 → Int32 → Option (Int32)
  | 0, _, _, _, _ => none
  | U1 + 1, v4_, v5_, v6_, v7_ => 
  if nI (tlen v1_) < v7_ then (some (-1)) else (
  if v7_ < nI (tlen v1_) then (ix v7_ (tlen v1_) fun j3 => x_X0_wordIn_41 U a (x_X0_wordIn_L12 U a v1_ v2_ v3_ σ U1) v1_ v2_ v3_ v4_ v5_ v6_ v7_ (tchr v1_ j3) σ) else (x_X0_wordIn_41 U a (x_X0_wordIn_L12 U a v1_ v2_ v3_ σ U1) v1_ v2_ v3_ v4_ v5_ v6_ v7_ 32 σ))
noncomputable def x_X0_wordIn (U : Nat) (a : Nat) (p0 : Nat) (p1 : Int32) (p2 : Int32) (σ : SG) : Option (Int32) := x_X0_wordIn_L12 U a p0 p1 p2 σ U 0 p1 1 0
noncomputable def x_X10_digit_52 (a : Nat) (v2_ : Int32) (v3_ : Int32) (σ : SG) : Option (Int32) := 
  if v2_ = 16 then (
  if v3_ < 65 then (some (-1)) else (
  if 70 < v3_ then (some (-1)) else (some ((v3_ - 65) + 10)))) else (some (-1))
noncomputable def x_X10_digit_26 (a : Nat) (v2_ : Int32) (v3_ : Int32) (σ : SG) : Option (Int32) := 
  if v2_ = 16 then (
  if v3_ < 97 then (x_X10_digit_52 a v2_ v3_ σ) else (
  if 102 < v3_ then (x_X10_digit_52 a v2_ v3_ σ) else (some ((v3_ - 97) + 10)))) else (x_X10_digit_52 a v2_ v3_ σ)
noncomputable def x_X10_digit (a : Nat) (p0 : Int32) (p1 : Int32) (σ : SG) : Option (Int32) := b1 (x_X0_at (a - 184) p0 σ) fun v2 => 
  if v2 < 48 then (x_X10_digit_26 a p1 v2 σ) else (
  if 57 < v2 then (x_X10_digit_26 a p1 v2 σ) else (some (v2 - 48)))
noncomputable def x_X11_isWordByte_36 (v0_ : Int32) (σ : SG) : Option (Int32) := 
  if v0_ = 95 then (some 1) else (some 0)
noncomputable def x_X11_isWordByte_24 (v0_ : Int32) (σ : SG) : Option (Int32) := 
  if v0_ < 48 then (x_X11_isWordByte_36 v0_ σ) else (
  if 57 < v0_ then (x_X11_isWordByte_36 v0_ σ) else (some 1))
noncomputable def x_X11_isWordByte_12 (v0_ : Int32) (σ : SG) : Option (Int32) := 
  if v0_ < 65 then (x_X11_isWordByte_24 v0_ σ) else (
  if 90 < v0_ then (x_X11_isWordByte_24 v0_ σ) else (some 1))
noncomputable def x_X11_isWordByte (p0 : Int32) (σ : SG) : Option (Int32) := 
  if p0 < 97 then (x_X11_isWordByte_12 p0 σ) else (
  if 122 < p0 then (x_X11_isWordByte_12 p0 σ) else (some 1))
noncomputable def x_X10_push (a : Nat) (p0 : Int32) (p1 : Int32) (p2 : Int32) (p3 : Int64) (σ : SG) : Option (Int32 × SG) := 
  if sI σ a 5 < 0 then (some (p1, σ)) else (
  if sI σ a 5 < 701 then (
  if sI σ a 5 < 701 then (
  if sI σ a 5 < 701 then (
  if sI σ a 5 < 701 then (ix (sI σ a 5) 701 fun j6 => sb (uI σ (a + 1) j6 p0) fun σ10 => ix (sI σ10 a 5) 701 fun j11 => sb (uI σ10 (a + 2) j11 p1) fun σ15 => ix (sI σ15 a 5) 701 fun j16 => sb (uI σ15 (a + 3) j16 p2) fun σ20 => ix (sI σ20 a 5) 701 fun j21 => sb (uL σ20 (a + 4) j21 p3) fun σ25 => sb (uI σ25 a 5 ((sI σ25 a 5) + 1)) fun σ26 => 
  if p0 = 5 then (some (p1, σ26)) else (some (p2, σ26))) else (some (p1, σ))) else (some (p1, σ))) else (some (p1, σ))) else (some (p1, σ)))
noncomputable def x_X10_addNumber_L65 (U : Nat) (a : Nat) (k115 : Int64 → Int32 → Option (Int32 × SG)) (v1_ : Int32) (v2_ : Int32) (v3_ : Int32) (v4_ : Int32) (σ : SG) : Nat → Int64 → Int32 → Option (Int32 × SG)
  | 0, _, _ => none
  | U1 + 1, v5_, v7_ => 
  if v7_ < sI σ a 6 then (b1 (x_X10_digit a v7_ v4_ σ) fun v11 => 
  if v11 < 0 then (k115 v5_ v7_) else (b1 (x_X10_digit a v7_ v4_ σ) fun v14 => x_X10_addNumber_L65 U a k115 v1_ v2_ v3_ v4_ σ U1 (lmin ((v5_ * (Int32.toInt64 v4_)) + (Int32.toInt64 v14)) 1099511627776) (v7_ + 1))) else (k115 v5_ v7_)
noncomputable def x_X10_addNumber_191 (U : Nat) (a : Nat) (v1_ : Int32) (v5_ : Int64) (v7_ : Int32) (s0_ : Int32) (σ : SG) : Option (Int32 × SG) := b2 (x_X10_push a s0_ v1_ v7_ v5_ σ) fun v31 σ32 => some (v31, σ32)
noncomputable def x_X10_addNumber_178 (U : Nat) (a : Nat) (v1_ : Int32) (v5_ : Int64) (v7_ : Int32) (s0_ : Int32) (σ : SG) : Option (Int32 × SG) := 
  if s0_ = 0 then (x_X10_addNumber_191 U a v1_ v5_ v7_ 5 σ) else (x_X10_addNumber_191 U a v1_ v5_ v7_ 2 σ)
noncomputable def x_X10_addNumber_177 (U : Nat) (a : Nat) (v1_ : Int32) (v5_ : Int64) (v7_ : Int32) (σ : SG) : Option (Int32 × SG) := x_X10_addNumber_178 U a v1_ v5_ v7_ 0 σ
noncomputable def x_X10_addNumber_145 (U : Nat) (a : Nat) (v1_ : Int32) (v3_ : Int32) (v5_ : Int64) (v7_ : Int32) (s0_ : Int32) (σ : SG) : Option (Int32 × SG) := 
  if v3_ < v7_ then (
  if s0_ = 0 then (b1 (x_X0_at (a - 184) v7_ σ) fun v25 => b1 (x_X11_isWordByte v25 σ) fun v27 => 
  if v27 = 0 then (x_X10_addNumber_178 U a v1_ v5_ v7_ 1 σ) else (x_X10_addNumber_177 U a v1_ v5_ v7_ σ)) else (x_X10_addNumber_177 U a v1_ v5_ v7_ σ)) else (x_X10_addNumber_177 U a v1_ v5_ v7_ σ)
noncomputable def x_X10_addNumber_144 (U : Nat) (a : Nat) (v1_ : Int32) (v3_ : Int32) (v5_ : Int64) (v7_ : Int32) (σ : SG) : Option (Int32 × SG) := x_X10_addNumber_145 U a v1_ v3_ v5_ v7_ 0 σ
noncomputable def x_X10_addNumber_115 (U : Nat) (a : Nat) (v1_ : Int32) (v2_ : Int32) (v3_ : Int32) (v5_ : Int64) (v7_ : Int32) (σ : SG) : Option (Int32 × SG) := 
  if v2_ = 0 then (b1 (x_X0_at (a - 184) v1_ σ) fun v19 => 
  if v19 = 48 then (
  if v1_ + 1 < v7_ then (x_X10_addNumber_145 U a v1_ v3_ v5_ v7_ 1 σ) else (x_X10_addNumber_144 U a v1_ v3_ v5_ v7_ σ)) else (x_X10_addNumber_144 U a v1_ v3_ v5_ v7_ σ)) else (x_X10_addNumber_144 U a v1_ v3_ v5_ v7_ σ)
noncomputable def x_X10_addNumber_57 (U : Nat) (a : Nat) (v1_ : Int32) (v2_ : Int32) (v3_ : Int32) (s0_ : Int32) (σ : SG) : Option (Int32 × SG) := x_X10_addNumber_L65 U a (fun w15 w16 => x_X10_addNumber_115 U a v1_ v2_ v3_ w15 w16 σ) v1_ v2_ v3_ s0_ σ U 0 v3_
noncomputable def x_X10_addNumber_45 (U : Nat) (a : Nat) (v1_ : Int32) (v2_ : Int32) (s0_ : Int32) (σ : SG) : Option (Int32 × SG) := 
  if v2_ = 0 then (x_X10_addNumber_57 U a v1_ v2_ s0_ 10 σ) else (x_X10_addNumber_57 U a v1_ v2_ s0_ 16 σ)
noncomputable def x_X10_addNumber_33 (U : Nat) (a : Nat) (v1_ : Int32) (s0_ : Int32) (σ : SG) : Option (Int32 × SG) := 
  if s0_ = 0 then (x_X10_addNumber_45 U a v1_ s0_ v1_ σ) else (x_X10_addNumber_45 U a v1_ s0_ (v1_ + 2) σ)
noncomputable def x_X10_addNumber_32 (U : Nat) (a : Nat) (v1_ : Int32) (σ : SG) : Option (Int32 × SG) := x_X10_addNumber_33 U a v1_ 0 σ
noncomputable def x_X10_addNumber (U : Nat) (a : Nat) (p0 : Int32) (σ : SG) : Option (Int32 × SG) := b1 (x_X0_at (a - 184) p0 σ) fun v2 => 
  if v2 = 48 then (b1 (x_X0_at (a - 184) (p0 + 1) σ) fun v5 => 
  if v5 = 120 then (x_X10_addNumber_33 U a p0 1 σ) else (x_X10_addNumber_32 U a p0 σ)) else (x_X10_addNumber_32 U a p0 σ)
noncomputable def x_X10_codeBetween (U : Nat) (a : Nat) (p0 : Int32) (p1 : Int32) (σ : SG) : Option (Int32) := b1 (x_X0_wordIn U (a - 184) 3 p0 p1 σ) fun v2 => 
  if v2 < 0 then (b1 (x_X0_wordIn U (a - 184) 4 p0 p1 σ) fun v5 => 
  if v5 < 0 then (b1 (x_X0_wordIn U (a - 184) 5 p0 p1 σ) fun v8 => 
  if v8 < 0 then (some (-1)) else (some 40)) else (some (20 + v5))) else (some v2)
noncomputable def x_X10_addText_L4 (U : Nat) (a : Nat) (k27 : Int32 → Option (Int32 × SG)) (k64 : Option (Int32 × SG)) (k73 : Option (Int32 × SG)) (v1_ : Int32) (σ : SG) : Nat → Int32 → Option (Int32 × SG)
  | 0, _ => none
  | U1 + 1, v2_ => 
  if v2_ < sI σ a 6 then (b1 (x_X0_at (a - 184) v2_ σ) fun v3 => 
  if v3 = 34 then (k27 v2_) else (
  if v3 < 32 then (k73) else (
  if 126 < v3 then (k73) else (
  if v3 = 92 then (k64) else (x_X10_addText_L4 U a k27 k64 k73 v1_ σ U1 (v2_ + 1)))))) else (k73)
noncomputable def x_X10_addText_73 (U : Nat) (a : Nat) (v1_ : Int32) (σ : SG) : Option (Int32 × SG) := b2 (x_X10_push a 5 v1_ v1_ (-1) σ) fun v15 σ16 => some (v15, σ16)
noncomputable def x_X10_addText (U : Nat) (a : Nat) (p0 : Int32) (σ : SG) : Option (Int32 × SG) := x_X10_addText_L4 U a (fun w8 => b1 (x_X10_codeBetween U a (p0 + 1) w8 σ) fun v10 => b2 (x_X10_push a 3 p0 (w8 + 1) (Int32.toInt64 v10) σ) fun v12 σ13 => some (v12, σ13)) (x_X10_addText_73 U a p0 σ) (x_X10_addText_73 U a p0 σ) p0 σ U (p0 + 1)
noncomputable def x_X11_isLetter_12 (v0_ : Int32) (σ : SG) : Option (Int32) := 
  if v0_ < 65 then (some 0) else (
  if 90 < v0_ then (some 0) else (some 1))
noncomputable def x_X11_isLetter (p0 : Int32) (σ : SG) : Option (Int32) := 
  if p0 < 97 then (x_X11_isLetter_12 p0 σ) else (
  if 122 < p0 then (x_X11_isLetter_12 p0 σ) else (some 1))
noncomputable def x_X10_nameEnd_L2 (U : Nat) (a : Nat) (σ : SG) : Nat → Int32 → Option (Int32)
  | 0, _ => none
  | U1 + 1, v2_ => 
  if v2_ < sI σ a 6 then (b1 (x_X0_at (a - 184) v2_ σ) fun v3 => b1 (x_X11_isWordByte v3 σ) fun v5 => 
  if v5 = 0 then (some v2_) else (x_X10_nameEnd_L2 U a σ U1 (v2_ + 1))) else (some v2_)
noncomputable def x_X10_nameEnd (U : Nat) (a : Nat) (p0 : Int32) (σ : SG) : Option (Int32) := x_X10_nameEnd_L2 U a σ U p0
noncomputable def x_X10_addWord_26 (U : Nat) (a : Nat) (v1_ : Int32) (s0_ : Int32) (σ : SG) : Option (Int32 × SG) := b2 (x_X10_push a s0_ v1_ v1_ (-1) σ) fun v6 σ7 => some (v6, σ7)
noncomputable def x_X10_addWord_81 (U : Nat) (a : Nat) (v1_ : Int32) (v2_ : Int32) (σ : SG) : Option (Int32 × SG) := 
  if v2_ = 34 then (b2 (x_X10_addText U a v1_ σ) fun v14 σ15 => some (v14, σ15)) else (b2 (x_X10_push a 4 v1_ (v1_ + 1) (Int32.toInt64 v2_) σ) fun v17 σ18 => some (v17, σ18))
noncomputable def x_X10_addWord (U : Nat) (a : Nat) (p0 : Int32) (σ : SG) : Option (Int32 × SG) := b1 (x_X0_at (a - 184) p0 σ) fun v2 => 
  if v2 < 0 then (
  if sI σ a 7 = 0 then (x_X10_addWord_26 U a p0 0 σ) else (x_X10_addWord_26 U a p0 5 σ)) else (b1 (x_X11_isLetter v2 σ) fun v9 => 
  if v9 = 0 then (
  if v2 < 48 then (x_X10_addWord_81 U a p0 v2 σ) else (
  if 57 < v2 then (x_X10_addWord_81 U a p0 v2 σ) else (b2 (x_X10_addNumber U a p0 σ) fun v21 σ22 => some (v21, σ22)))) else (b1 (x_X10_nameEnd U a p0 σ) fun v24 => b1 (x_X10_codeBetween U a p0 v24 σ) fun v26 => b2 (x_X10_push a 1 p0 v24 (Int32.toInt64 v26) σ) fun v28 σ29 => some (v28, σ29)))
noncomputable def x_X10_lineEnd_L2 (U : Nat) (a : Nat) (σ : SG) : Nat → Int32 → Option (Int32)
  | 0, _ => none
  | U1 + 1, v2_ => 
  if v2_ < sI σ a 6 then (b1 (x_X0_at (a - 184) v2_ σ) fun v3 => 
  if v3 = 10 then (some v2_) else (x_X10_lineEnd_L2 U a σ U1 (v2_ + 1))) else (some v2_)
noncomputable def x_X10_lineEnd (U : Nat) (a : Nat) (p0 : Int32) (σ : SG) : Option (Int32) := x_X10_lineEnd_L2 U a σ U p0
noncomputable def x_X10_commentEnd_42 (U : Nat) (a : Nat) (k2 : Int32 → Option (Int32 × SG)) (k48 : Option (Int32 × SG)) (v2_ : Int32) (σ : SG) : Option (Int32 × SG) := k2 (v2_ + 1)
noncomputable def x_X10_commentEnd_L2 (U : Nat) (a : Nat) (k48 : Option (Int32 × SG)) (σ : SG) : Nat → Int32 → Option (Int32 × SG)
  | 0, _ => none
  | U1 + 1, v2_ => 
  if v2_ < sI σ a 6 then (b1 (x_X0_at (a - 184) v2_ σ) fun v3 => 
  if v3 = 42 then (b1 (x_X0_at (a - 184) (v2_ + 1) σ) fun v6 => 
  if v6 = 47 then (some (v2_ + 1, σ)) else (x_X10_commentEnd_42 U a (x_X10_commentEnd_L2 U a k48 σ U1) k48 v2_ σ)) else (x_X10_commentEnd_42 U a (x_X10_commentEnd_L2 U a k48 σ U1) k48 v2_ σ)) else (k48)
noncomputable def x_X10_commentEnd (U : Nat) (a : Nat) (p0 : Int32) (σ : SG) : Option (Int32 × SG) := x_X10_commentEnd_L2 U a (sb (uI σ a 7 1) fun σ8 => some (sI σ8 a 6, σ8)) σ U p0
noncomputable def x_X11_isBlank (p0 : Int32) : Option (Int32) := 
  if p0 = 32 then (some 1) else (
  if p0 = 9 then (some 1) else (
  if p0 = 10 then (some 1) else (
  if p0 = 13 then (some 1) else (some 0))))
noncomputable def x_X10_behindBlanks_86 (U : Nat) (a : Nat) (k2 : Int32 → SG → Option (Int32 × SG)) (v2_ : Int32) (σ : SG) : Option (Int32 × SG) := k2 (v2_ + 1) σ
noncomputable def x_X10_behindBlanks_39 (U : Nat) (a : Nat) (k2 : Int32 → SG → Option (Int32 × SG)) (v2_ : Int32) (v3_ : Int32) (s0_ : Int32) (σ : SG) : Option (Int32 × SG) := 
  if s0_ = 47 then (b1 (x_X10_lineEnd U a (v2_ + 2) σ) fun v9 => x_X10_behindBlanks_86 U a k2 v9 σ) else (
  if s0_ = 42 then (b2 (x_X10_commentEnd U a (v2_ + 2) σ) fun v12 σ13 => x_X10_behindBlanks_86 U a k2 v12 σ13) else (b1 (x_X11_isBlank v3_) fun v15 => 
  if v15 = 0 then (some (v2_, σ)) else (x_X10_behindBlanks_86 U a k2 v2_ σ)))
noncomputable def x_X10_behindBlanks_L2 (U : Nat) (a : Nat) : Nat → Int32 → SG → Option (Int32 × SG)
  | 0, _, _ => none
  | U1 + 1, v2_, σ => 
  if v2_ < sI σ a 6 then (b1 (x_X0_at (a - 184) v2_ σ) fun v3 => 
  if v3 = 47 then (b1 (x_X0_at (a - 184) (v2_ + 1) σ) fun v6 => x_X10_behindBlanks_39 U a (x_X10_behindBlanks_L2 U a U1) v2_ v3 v6 σ) else (x_X10_behindBlanks_39 U a (x_X10_behindBlanks_L2 U a U1) v2_ v3 (-1) σ)) else (some (sI σ a 6, σ))
noncomputable def x_X10_behindBlanks (U : Nat) (a : Nat) (p0 : Int32) (σ : SG) : Option (Int32 × SG) := x_X10_behindBlanks_L2 U a U p0 σ
noncomputable def x_X10_codeOf_45 (a : Nat) (v1_ : Int32) (s0_ : Int32) (σ : SG) : Option (Int32) := 
  if s0_ = 0 then (some (-1)) else (ix v1_ 701 fun j3 => some (Int64.toInt32 (sL σ (a + 4) j3)))
noncomputable def x_X10_codeOf_44 (a : Nat) (v1_ : Int32) (σ : SG) : Option (Int32) := x_X10_codeOf_45 a v1_ 0 σ
noncomputable def x_X10_codeOf (a : Nat) (p0 : Int32) (σ : SG) : Option (Int32) := 
  if p0 < 0 then (x_X10_codeOf_44 a p0 σ) else (
  if p0 < sI σ a 5 then (
  if p0 < 701 then (
  if p0 < 701 then (ix p0 701 fun j10 => 
  if sI σ (a + 1) j10 = 1 then (x_X10_codeOf_45 a p0 1 σ) else (x_X10_codeOf_44 a p0 σ)) else (x_X10_codeOf_44 a p0 σ)) else (x_X10_codeOf_44 a p0 σ)) else (x_X10_codeOf_44 a p0 σ))
noncomputable def x_X10_count (a : Nat) (σ : SG) : Option (Int32) := some (sI σ a 5)
noncomputable def x_X10_endOf (a : Nat) (p0 : Int32) (σ : SG) : Option (Int32) := 
  if p0 < 0 then (some (sI σ a 6)) else (
  if p0 < sI σ a 5 then (
  if p0 < 701 then (ix p0 701 fun j4 => some (sI σ (a + 3) j4)) else (some (sI σ a 6))) else (some (sI σ a 6)))
noncomputable def x_X10_isSign (a : Nat) (p0 : Int32) (p1 : Int32) (σ : SG) : Option (Int32) := 
  if p0 < 0 then (some 0) else (
  if p0 < sI σ a 5 then (
  if p0 < 701 then (
  if p0 < 701 then (ix p0 701 fun j5 => 
  if sI σ (a + 1) j5 = 4 then (ix p0 701 fun j10 => 
  if sL σ (a + 4) j10 = Int32.toInt64 p1 then (some 1) else (some 0)) else (some 0)) else (some 0)) else (some 0)) else (some 0))
noncomputable def x_X10_kindOf (a : Nat) (p0 : Int32) (σ : SG) : Option (Int32) := 
  if p0 < 0 then (some 0) else (
  if p0 < sI σ a 5 then (
  if p0 < 701 then (ix p0 701 fun j4 => some (sI σ (a + 1) j4)) else (some 0)) else (some 0))
noncomputable def x_X10_split_L25 (U : Nat) (a : Nat) : Nat → Int32 → Int32 → SG → Option (SG)
  | 0, _, _, _ => none
  | U1 + 1, v1_, v2_, σ => 
  if 700 < v2_ then (some σ) else (b2 (x_X10_behindBlanks U a v1_ σ) fun v8 σ9 => b2 (x_X10_addWord U a v8 σ9) fun v11 σ12 => 
  if v8 < v11 then (x_X10_split_L25 U a U1 v11 (v2_ + 1) σ12) else (some σ12))
noncomputable def x_X10_split (U : Nat) (a : Nat) (σ : SG) : Option (SG) := sb (uI σ a 5 0) fun σ1 => b1 (x_X0_size (a - 184) σ1) fun v3 => sb (uI σ1 a 6 v3) fun σ4 => sb (uI σ4 a 7 0) fun σ5 => x_X10_split_L25 U a U 0 0 σ5
noncomputable def x_X10_startOf (a : Nat) (p0 : Int32) (σ : SG) : Option (Int32) := 
  if p0 < 0 then (some (sI σ a 6)) else (
  if p0 < sI σ a 5 then (
  if p0 < 701 then (ix p0 701 fun j4 => some (sI σ (a + 2) j4)) else (some (sI σ a 6))) else (some (sI σ a 6)))
noncomputable def x_X10_valueOf (a : Nat) (p0 : Int32) (σ : SG) : Option (Int64) := 
  if p0 < 0 then (some (-1)) else (
  if p0 < sI σ a 5 then (
  if p0 < 701 then (ix p0 701 fun j4 => some (sL σ (a + 4) j4)) else (some (-1))) else (some (-1)))
noncomputable def x_X2_schema (a : Nat) (σ : SG) : Option (Option Nat) := some (some (a + 1))
noncomputable def x_X6_item (a : Nat) (p0 : Int32) (σ : SG) : Option (Option Nat) := 
  if p0 < 0 then (some none) else (
  if p0 < sI σ a 3 then (
  if p0 < 180 then (ix p0 180 fun j4 => some (some (a + 4 + j4))) else (some none)) else (some none))
noncomputable def x_X6_message_37 (U : Nat) (a : Nat) (k2 : Int32 → Option (Option Nat)) (v1_ : Int32) (v2_ : Int32) (σ : SG) : Option (Option Nat) := k2 (v2_ + 1)
noncomputable def x_X6_message_L2 (U : Nat) (a : Nat) (v1_ : Int32) (σ : SG) : Nat → Int32 → Option (Option Nat)
  | 0, _ => none
  | U1 + 1, v2_ => 
  if v2_ < sI σ a 3 then (b1 (x_X6_item a v2_ σ) fun v3 => 
  if v3 = none then (x_X6_message_37 U a (x_X6_message_L2 U a v1_ σ U1) v1_ v2_ σ) else (ck 3 v3 fun q5 => 
  if sI σ q5 0 = 0 then (
  if sI σ q5 1 = v1_ then (some v3) else (x_X6_message_37 U a (x_X6_message_L2 U a v1_ σ U1) v1_ v2_ σ)) else (x_X6_message_37 U a (x_X6_message_L2 U a v1_ σ U1) v1_ v2_ σ))) else (some none)
noncomputable def x_X6_message (U : Nat) (a : Nat) (p0 : Int32) (σ : SG) : Option (Option Nat) := x_X6_message_L2 U a p0 σ U 0
noncomputable def x_X1_enter (a : Nat) (p0 : Option Nat) (p1 : Option Nat) (σ : SG) : Option (Int32 × SG) := 
  if p0 = none then (some (0, σ)) else (
  if p1 = none then (some (0, σ)) else (
  if sI σ a 4 < 0 then (some (0, σ)) else (
  if sI σ a 4 < 256 then (
  if sI σ a 4 < 256 then (ck 3 p0 fun q6 => ck 3 p1 fun q9 => 
  if ((sI σ q6 1) * 16) + (sI σ q9 1) < 0 then (some (0, σ)) else (
  if ((sI σ q6 1) * 16) + (sI σ q9 1) < 256 then (ix (((sI σ q6 1) * 16) + (sI σ q9 1)) 256 fun j14 => 
  if sI σ 1100 j14 = 0 then (ix (((sI σ q6 1) * 16) + (sI σ q9 1)) 256 fun j19 => sb (uI σ 1100 j19 (vp_nar .boolean 1)) fun σ23 => ix (sI σ23 a 4) 256 fun j24 => ckN 3 (sP σ23 q6 15) <| sb (uP σ23 1098 j24 (sP σ23 q6 15)) fun σ28 => ix (sI σ28 a 4) 256 fun j30 => ckN 3 p1 <| sb (uP σ28 1099 j30 p1) fun σ34 => sb (uI σ34 a 4 ((sI σ34 a 4) + 1)) fun σ36 => some (1, σ36)) else (some (0, σ))) else (some (0, σ)))) else (some (0, σ))) else (some (0, σ)))))
noncomputable def x_X3_memberNumbered_L5 (U : Nat) (a : Nat) (v1_ : Int64) (σ : SG) : Nat → Option Nat → Option (Option Nat)
  | 0, _ => none
  | U1 + 1, v3_ => 
  if v3_ = none then (some v3_) else (ck 3 v3_ fun q2 => 
  if sL σ q2 6 = v1_ then (some v3_) else (x_X3_memberNumbered_L5 U a v1_ σ U1 (sP σ q2 16)))
noncomputable def x_X3_memberNumbered (U : Nat) (a : Nat) (p0 : Int64) (σ : SG) : Option (Option Nat) := x_X3_memberNumbered_L5 U a p0 σ U (sP σ a 15)
noncomputable def x_X1_isUnderstood (p0 : Int32) (p1 : Int32) : Option (Int32) := 
  if p0 = p1 then (some 1) else (
  if p0 = 0 then (
  if p1 = 1 then (some 1) else (
  if p1 = 14 then (some 1) else (some 0))) else (
  if p0 = 1 then (some 0) else (
  if p0 = 2 then (
  if p1 = 3 then (some 1) else (
  if p1 = 1 then (some 1) else (some 0))) else (
  if p0 = 3 then (some 0) else (
  if p0 = 4 then (
  if p1 = 5 then (some 1) else (some 0)) else (
  if p0 = 5 then (some 0) else (
  if p0 = 6 then (some 0) else (
  if p0 = 7 then (some 0) else (
  if p0 = 8 then (some 0) else (
  if p0 = 9 then (some 0) else (
  if p0 = 10 then (
  if p1 = 0 then (some 1) else (
  if p1 = 1 then (some 1) else (
  if p1 = 2 then (some 1) else (
  if p1 = 3 then (some 1) else (
  if p1 = 14 then (some 1) else (some 0)))))) else (
  if p0 = 11 then (
  if p1 = 12 then (some 1) else (some 0)) else (
  if p0 = 12 then (some 0) else (
  if p0 = 13 then (some 0) else (
  if p0 = 14 then (
  if p1 = 0 then (some 1) else (
  if p1 = 1 then (some 1) else (some 0))) else (some 0))))))))))))))))
noncomputable def x_X1_isTornApart_96 (U : Nat) (k28 : Option Nat → Option (Int32)) (v0_ : Option Nat) (v1_ : Option Nat) (v2_ : Option Nat) (v3_ : Option Nat) (σ : SG) : Option (Int32) := ck 3 v3_ fun q25 => k28 (sP σ q25 16)
noncomputable def x_X1_isTornApart_70 (U : Nat) (k28 : Option Nat → Option (Int32)) (v0_ : Option Nat) (v1_ : Option Nat) (v2_ : Option Nat) (v3_ : Option Nat) (v4_ : Option Nat) (s0_ : Int32) (σ : SG) : Option (Int32) := 
  if v4_ = none then (x_X1_isTornApart_96 U k28 v0_ v1_ v2_ v3_ σ) else (ck 3 v4_ fun q28 => ck 3 v1_ fun q31 => 
  if sP σ q28 3 = sP σ q31 3 then (
  if s0_ = 0 then (some 1) else (x_X1_isTornApart_96 U k28 v0_ v1_ v2_ v3_ σ)) else (x_X1_isTornApart_96 U k28 v0_ v1_ v2_ v3_ σ))
noncomputable def x_X1_isTornApart_69 (U : Nat) (k28 : Option Nat → Option (Int32)) (v0_ : Option Nat) (v1_ : Option Nat) (v2_ : Option Nat) (v3_ : Option Nat) (v4_ : Option Nat) (σ : SG) : Option (Int32) := x_X1_isTornApart_70 U k28 v0_ v1_ v2_ v3_ v4_ 0 σ
noncomputable def x_X1_isTornApart_L28 (U : Nat) (v0_ : Option Nat) (v1_ : Option Nat) (v2_ : Option Nat) (σ : SG) : Nat → Option Nat → Option (Int32)
  | 0, _ => none
  | U1 + 1, v3_ => 
  if v3_ = none then (some 0) else (
  if v3_ = v0_ then (some 0) else (ck 3 v3_ fun q15 => ck 3 v2_ fun q18 => b1 (x_X3_memberNumbered U q18 (sL σ q15 6) σ) fun v22 => 
  if (sP σ q15 3) = none then (x_X1_isTornApart_69 U (x_X1_isTornApart_L28 U v0_ v1_ v2_ σ U1) v0_ v1_ v2_ v3_ v22 σ) else (ck 3 v0_ fun q36 => 
  if sP σ q15 3 = sP σ q36 3 then (x_X1_isTornApart_70 U (x_X1_isTornApart_L28 U v0_ v1_ v2_ σ U1) v0_ v1_ v2_ v3_ v22 1 σ) else (x_X1_isTornApart_69 U (x_X1_isTornApart_L28 U v0_ v1_ v2_ σ U1) v0_ v1_ v2_ v3_ v22 σ))))
noncomputable def x_X1_isTornApart (U : Nat) (p0 : Option Nat) (p1 : Option Nat) (p2 : Option Nat) (σ : SG) : Option (Int32) := ck 3 p1 fun q1 => 
  if (sP σ q1 3) = none then (some 0) else (ck 3 p0 fun q5 => 
  if (sP σ q5 2) = none then (some 0) else (
  if p2 = none then (some 0) else (ck 3 (sP σ q5 2) fun q10 => x_X1_isTornApart_L28 U p0 p1 p2 σ U (sP σ q10 15))))
noncomputable def x_X1_look_152 (U : Nat) (a : Nat) (v1_ : Int32) (v2_ : Option Nat) (v3_ : Option Nat) (σ : SG) : Option (Int32 × SG) := ix v1_ 256 fun j40 => b1 (x_X1_isTornApart U v2_ v3_ (sP σ 1099 j40) σ) fun v45 => 
  if v45 = 0 then (ck 3 v2_ fun q47 => ix v1_ 256 fun j50 => ckN 3 (sP σ q47 16) <| sb (uP σ 1098 j50 (sP σ q47 16)) fun σ54 => some (0, σ54)) else (some (3, σ))
noncomputable def x_X1_look_80 (U : Nat) (a : Nat) (v1_ : Int32) (v2_ : Option Nat) (s0_ : Option Nat) (σ : SG) : Option (Int32 × SG) := 
  if s0_ = none then (ck 3 v2_ fun q16 => ix v1_ 256 fun j19 => ckN 3 (sP σ q16 16) <| sb (uP σ 1098 j19 (sP σ q16 16)) fun σ23 => some (0, σ23)) else (ck 3 v2_ fun q25 => ck 3 s0_ fun q28 => 
  if sI σ q25 11 = sI σ q28 11 then (b1 (x_X1_isUnderstood (sI σ q25 8) (sI σ q28 8)) fun v33 => 
  if v33 = 0 then (some (2, σ)) else (
  if sI σ q25 8 = 13 then (b2 (x_X1_enter a (sP σ q25 10) (sP σ q28 10) σ) fun v37 σ38 => 
  if v37 = 0 then (x_X1_look_152 U a v1_ v2_ s0_ σ38) else (some (0, σ38))) else (x_X1_look_152 U a v1_ v2_ s0_ σ))) else (some (1, σ)))
noncomputable def x_X1_look (U : Nat) (a : Nat) (σ : SG) : Option (Int32 × SG) := 
  if (sI σ a 4) - 1 < 0 then (some (0, σ)) else (
  if (sI σ a 4) - 1 < 256 then (
  if (sI σ a 4) - 1 < 256 then (ix ((sI σ a 4) - 1) 256 fun j4 => 
  if (sP σ 1098 j4) = none then (sb (uI σ a 4 ((sI σ a 4) - 1)) fun σ9 => some (0, σ9)) else (ix ((sI σ a 4) - 1) 256 fun j10 => 
  if (sP σ 1099 j10) = none then (x_X1_look_80 U a ((sI σ a 4) - 1) (sP σ 1098 j4) none σ) else (ix ((sI σ a 4) - 1) 256 fun j56 => ck 3 (sP σ 1098 j4) fun q60 => ck 3 (sP σ 1099 j56) fun q63 => b1 (x_X3_memberNumbered U q63 (sL σ q60 6) σ) fun v67 => x_X1_look_80 U a ((sI σ a 4) - 1) (sP σ 1098 j4) v67 σ))) else (some (0, σ))) else (some (0, σ)))
noncomputable def x_X1_tellWay_44 (U : Nat) (a : Nat) (k2 : Int32 → SG → Option (SG)) (v1_ : Int32) (σ : SG) : Option (SG) := k2 (v1_ + 1) σ
noncomputable def x_X1_tellWay_L2 (U : Nat) (a : Nat) : Nat → Int32 → SG → Option (SG)
  | 0, _, _ => none
  | U1 + 1, v1_, σ => 
  if v1_ < sI σ a 4 then (
  if v1_ < 256 then (ix v1_ 256 fun j3 => 
  if (sP σ 1098 j3) = none then (x_X1_tellWay_44 U a (x_X1_tellWay_L2 U a U1) v1_ σ) else (ix v1_ 256 fun j8 => ck 3 (sP σ 1098 j8) fun q12 => b1 (x_X0_addVarint U 3 (sL σ q12 6) σ) fun σ16 => x_X1_tellWay_44 U a (x_X1_tellWay_L2 U a U1) v1_ σ16)) else (some σ)) else (some σ)
noncomputable def x_X1_tellWay (U : Nat) (a : Nat) (σ : SG) : Option (SG) := x_X1_tellWay_L2 U a U 0 σ
noncomputable def x_X1_compare_L2 (U : Nat) (a : Nat) (k24 : SG → Option (Int32 × SG)) (v1_ : Option Nat) (v2_ : Option Nat) : Nat → Int32 → SG → Option (Int32 × SG)
  | 0, _, _ => none
  | U1 + 1, v3_, σ => 
  if v3_ < 256 then (ix v3_ 256 fun j2 => sb (uI σ 1100 j2 (vp_nar .boolean 0)) fun σ6 => x_X1_compare_L2 U a k24 v1_ v2_ U1 (v3_ + 1) σ6) else (k24 σ)
noncomputable def x_X1_compare_L38 (U : Nat) (a : Nat) (k62 : Int32 → SG → Option (Int32 × SG)) : Nat → Int32 → SG → Option (Int32 × SG)
  | 0, _, _ => none
  | U1 + 1, v3_, σ => 
  if v3_ < 1000000 then (
  if 0 < sI σ a 4 then (b2 (x_X1_look U a σ) fun v15 σ16 => 
  if v15 = 0 then (x_X1_compare_L38 U a k62 U1 (v3_ + 1) σ16) else (k62 v15 σ16)) else (some (0, σ))) else (some (0, σ))
noncomputable def x_X1_compare (U : Nat) (a : Nat) (p0 : Option Nat) (p1 : Option Nat) (σ : SG) : Option (Int32 × SG) := x_X1_compare_L2 U a (fun σ7 => sb (uI σ7 a 4 0) fun σ8 => b2 (x_X1_enter a p0 p1 σ8) fun v10 σ11 => x_X1_compare_L38 U a (fun w18 σ19 => b1 (x_X1_tellWay U a σ19) fun σ21 => some (w18, σ21)) U 0 σ11) p0 p1 U 0 σ
noncomputable def x_X11_check_41 (U : Nat) (a : Nat) (σ : SG) : Option (mm_R × SG) := some (.inr "java/lang/IllegalArgumentException", σ)
noncomputable def x_X11_check (U : Nat) (a : Nat) (p0 : Int32) (p1 : Int32) (σ : SG) : Option (mm_R × SG) := b1 (x_X0_clear 3 σ) fun σ2 => b1 (x_X2_schema 5 σ2) fun v4 => ck 6 v4 fun q5 => b1 (x_X6_message U q5 p0 σ2) fun v9 => b1 (x_X2_schema 197 σ2) fun v11 => ck 6 v11 fun q12 => b1 (x_X6_message U q12 p1 σ2) fun v16 => 
  if v9 = none then (x_X11_check_41 U a σ2) else (
  if v16 = none then (x_X11_check_41 U a σ2) else (b2 (x_X1_compare U 1097 v9 v16 σ2) fun v20 σ21 => some (.inl (some (.int v20)), σ21)))
noncomputable def x_X11_compilerOf (a : Nat) (p0 : Int32) (σ : SG) : Option (Option Nat) := 
  if p0 = 0 then (some (some 5)) else (
  if p0 = 1 then (some (some 197)) else (some none))
noncomputable def x_X4_begin (a : Nat) (p0 : Option Nat) (σ : SG) : Option (SG) := sb (uP σ a 0 p0) fun σ1 => sb (uP σ1 a 1 none) fun σ2 => sb (uP σ2 a 2 none) fun σ3 => sb (uP σ3 a 3 none) fun σ4 => sb (uL σ4 a 4 0) fun σ5 => sb (uI σ5 a 5 0) fun σ6 => sb (uI σ6 a 6 0) fun σ7 => some σ7
noncomputable def x_X8_drop (a : Nat) (σ : SG) : Option (SG) := sb (uP σ a 4 none) fun σ1 => sb (uP σ1 a 5 none) fun σ2 => b1 (x_X0_clear 1092 σ2) fun σ4 => sb (uI σ4 a 3 0) fun σ5 => b1 (x_X4_begin 1091 none σ5) fun σ7 => some σ7
noncomputable def x_X6_clear_L19 (U : Nat) (a : Nat) : Nat → Int32 → SG → Option (SG)
  | 0, _, _ => none
  | U1 + 1, v1_, σ => 
  if v1_ < 5 then (ix v1_ 5 fun j6 => sb (uI σ (a + 184) j6 0) fun σ10 => x_X6_clear_L19 U a U1 (v1_ + 1) σ10) else (some σ)
noncomputable def x_X6_clear (U : Nat) (a : Nat) (σ : SG) : Option (SG) := b1 (x_X0_clear (a + 1) σ) fun σ2 => sb (uI σ2 a 3 0) fun σ3 => sb (uI σ3 a 4 0) fun σ4 => x_X6_clear_L19 U a U 0 σ4
noncomputable def x_X6_text (a : Nat) (σ : SG) : Option (Option Nat) := some (some (a + 1))
noncomputable def x_X5_takesWord (a : Nat) (p0 : Int32) (σ : SG) : Option (Int32 × SG) := b1 (x_X10_codeOf (a - 5) (sI σ a 6) σ) fun v2 => 
  if v2 = p0 then (sb (uI σ a 6 ((sI σ a 6) + 1)) fun σ4 => some (1, σ4)) else (some (0, σ))
noncomputable def x_X5_takes (a : Nat) (p0 : Int32) (σ : SG) : Option (Int32 × SG) := b1 (x_X10_isSign (a - 5) (sI σ a 6) p0 σ) fun v2 => 
  if v2 = 0 then (some (0, σ)) else (sb (uI σ a 6 ((sI σ a 6) + 1)) fun σ4 => some (1, σ4))
noncomputable def x_X5_readSyntax (a : Nat) (σ : SG) : Option (Int32 × SG) := b2 (x_X5_takesWord a 24 σ) fun v2 σ3 => 
  if v2 = 0 then (some (0, σ3)) else (b2 (x_X5_takes a 61 σ3) fun v6 σ7 => 
  if v6 = 0 then (some (0, σ7)) else (b1 (x_X10_kindOf (a - 5) (sI σ7 a 6) σ7) fun v10 => 
  if v10 = 3 then (b1 (x_X10_valueOf (a - 5) (sI σ7 a 6) σ7) fun v13 => 
  if v13 = 28 then (sb (uI σ7 a 6 ((sI σ7 a 6) + 1)) fun σ15 => b2 (x_X5_takes a 59 σ15) fun v17 σ18 => zb v17 <| some (v17, σ18)) else (some (0, σ7))) else (some (0, σ7))))
noncomputable def x_X5_isAtEnd (a : Nat) (σ : SG) : Option (Int32) := b1 (x_X10_kindOf (a - 5) (sI σ a 6) σ) fun v2 => 
  if v2 = 0 then (
  if (sP σ a 2) = none then (
  if (sP σ a 3) = none then (
  if (sP σ a 4) = none then (some 1) else (some 0)) else (some 0)) else (some 0)) else (some 0)
noncomputable def x_X5_isForbidden (a : Nat) (σ : SG) : Option (Int32 × SG) := b1 (x_X10_codeOf (a - 5) (sI σ a 6) σ) fun v2 => 
  if v2 = 40 then (sb (uI σ a 7 2) fun σ4 => some (1, σ4)) else (some (0, σ))
noncomputable def x_X3_begin (a : Nat) (p0 : Int32) (p1 : Int32) (p2 : Option Nat) (p3 : Option Nat) (p4 : Int32) (p5 : Int32) (σ : SG) : Option (SG) := sb (uI σ a 0 p0) fun σ1 => sb (uI σ1 a 1 p1) fun σ2 => sb (uP σ2 a 2 p2) fun σ3 => sb (uP σ3 a 3 p3) fun σ4 => sb (uI σ4 a 4 p4) fun σ5 => sb (uI σ5 a 5 p5) fun σ6 => sb (uL σ6 a 6 0) fun σ7 => sb (uI σ7 a 7 0) fun σ8 => sb (uI σ8 a 8 0) fun σ9 => sb (uI σ9 a 9 (-1)) fun σ10 => sb (uP σ10 a 10 none) fun σ11 => sb (uI σ11 a 11 0) fun σ12 => sb (uI σ12 a 12 0) fun σ13 => sb (uI σ13 a 13 0) fun σ14 => sb (uI σ14 a 14 (-1)) fun σ15 => sb (uP σ15 a 15 none) fun σ16 => sb (uP σ16 a 16 none) fun σ17 => some σ17
noncomputable def x_X6_declare (a : Nat) (p0 : Int32) (p1 : Option Nat) (p2 : Option Nat) (p3 : Int32) (p4 : Int32) (σ : SG) : Option (Option Nat × SG) := 
  if sI σ a 3 < 0 then (some (none, σ)) else (
  if sI σ a 3 < 180 then (
  if p0 < 0 then (some (none, σ)) else (
  if p0 < 5 then (ix (sI σ a 3) 180 fun j5 => ix p0 5 fun j10 => b1 (x_X3_begin (a + 4 + j5) p0 (sI σ (a + 184) j10) p1 p2 p3 p4 σ) fun σ15 => sb (uI σ15 a 3 ((sI σ15 a 3) + 1)) fun σ16 => ix p0 5 fun j17 => ix p0 5 fun j21 => sb (uI σ16 (a + 184) j21 ((sI σ16 (a + 184) j17) + 1)) fun σ25 => sb (uI σ25 a 4 ((sI σ25 a 4) + (p4 - p3))) fun σ26 => some (some (a + 4 + j5), σ26)) else (some (none, σ)))) else (some (none, σ)))
noncomputable def x_X5_readName_42 (a : Nat) (v1_ : Int32) (s0_ : Option Nat) (σ : SG) : Option (Option Nat × SG) := b1 (x_X10_startOf (a - 5) (sI σ a 6) σ) fun v6 => b1 (x_X10_endOf (a - 5) (sI σ a 6) σ) fun v8 => b2 (x_X6_declare (a - 190) v1_ (sP σ a 2) s0_ v6 v8 σ) fun v10 σ11 => sb (uI σ11 a 6 ((sI σ11 a 6) + 1)) fun σ12 => some (v10, σ12)
noncomputable def x_X5_readName (a : Nat) (p0 : Int32) (σ : SG) : Option (Option Nat × SG) := b1 (x_X10_kindOf (a - 5) (sI σ a 6) σ) fun v2 => 
  if v2 = 1 then (
  if p0 = 3 then (x_X5_readName_42 a p0 (sP σ a 4) σ) else (
  if p0 = 2 then (x_X5_readName_42 a p0 (sP σ a 3) σ) else (x_X5_readName_42 a p0 none σ))) else (some (none, σ))
noncomputable def x_X5_readNumber_82 (a : Nat) (s0_ : Int64) (s1_ : Option Nat) (σ : SG) : Option (Int32 × SG) := ck 3 s1_ fun q14 => sb (uL σ q14 6 s0_) fun σ17 => sb (uI σ17 a 6 ((sI σ17 a 6) + 1)) fun σ18 => some (1, σ18)
noncomputable def x_X5_readNumber_33 (a : Nat) (v1_ : Option Nat) (s0_ : Int32) (σ : SG) : Option (Int32 × SG) := b1 (x_X10_kindOf (a - 5) (sI σ a 6) σ) fun v9 => 
  if v9 = 2 then (
  if s0_ = 0 then (b1 (x_X10_valueOf (a - 5) (sI σ a 6) σ) fun v13 => x_X5_readNumber_82 a v13 v1_ σ) else (b1 (x_X10_valueOf (a - 5) (sI σ a 6) σ) fun v20 => x_X5_readNumber_82 a (-v20) v1_ σ)) else (some (0, σ))
noncomputable def x_X5_readNumber_32 (a : Nat) (v1_ : Option Nat) (σ : SG) : Option (Int32 × SG) := x_X5_readNumber_33 a v1_ 0 σ
noncomputable def x_X5_readNumber (a : Nat) (p0 : Option Nat) (p1 : Int32) (σ : SG) : Option (Int32 × SG) := b1 (x_X10_startOf (a - 5) (sI σ a 6) σ) fun v2 => ck 3 p0 fun q3 => sb (uI σ q3 7 v2) fun σ6 => 
  if p1 = 0 then (x_X5_readNumber_32 a p0 σ6) else (b2 (x_X5_takes a 45 σ6) fun v22 σ23 => 
  if v22 = 0 then (x_X5_readNumber_32 a p0 σ23) else (x_X5_readNumber_33 a p0 1 σ23))
noncomputable def x_X5_readValue_23 (a : Nat) (σ : SG) : Option (Int32 × SG) := b2 (x_X5_isForbidden a σ) fun v7 σ8 => 
  if v7 = 0 then (sb (uI σ8 a 5 0) fun σ10 => b2 (x_X5_readName a 3 σ10) fun v12 σ13 => 
  if v12 = none then (some (0, σ13)) else (b2 (x_X5_takes a 61 σ13) fun v16 σ17 => 
  if v16 = 0 then (some (0, σ17)) else (b2 (x_X5_readNumber a v12 1 σ17) fun v20 σ21 => 
  if v20 = 0 then (some (0, σ21)) else (b2 (x_X5_takes a 59 σ21) fun v24 σ25 => 
  if v24 = 0 then (some (0, σ25)) else (some (1, σ25)))))) else (some (0, σ8))
noncomputable def x_X5_readValue (a : Nat) (σ : SG) : Option (Int32 × SG) := 
  if sI σ a 5 = 0 then (b2 (x_X5_takes a 125 σ) fun v3 σ4 => 
  if v3 = 0 then (x_X5_readValue_23 a σ4) else (sb (uP σ4 a 4 none) fun σ27 => some (1, σ27))) else (x_X5_readValue_23 a σ)
noncomputable def x_X5_readTypeName_L37 (U : Nat) (a : Nat) : Nat → Int32 → SG → Option (Int32 × SG)
  | 0, _, _ => none
  | U1 + 1, v2_, σ => b1 (x_X10_count (a - 5) σ) fun v9 => 
  if v2_ < v9 then (b1 (x_X10_kindOf (a - 5) (sI σ a 6) σ) fun v12 => 
  if v12 = 1 then (sb (uI σ a 6 ((sI σ a 6) + 1)) fun σ14 => b2 (x_X5_takes a 46 σ14) fun v16 σ17 => 
  if v16 = 0 then (some (1, σ17)) else (x_X5_readTypeName_L37 U a U1 (v2_ + 1) σ17)) else (some (0, σ))) else (some (0, σ))
noncomputable def x_X5_readTypeName_35 (U : Nat) (a : Nat) (σ : SG) : Option (Int32 × SG) := x_X5_readTypeName_L37 U a U 0 σ
noncomputable def x_X5_readTypeName (U : Nat) (a : Nat) (σ : SG) : Option (Int32 × SG) := b1 (x_X10_codeOf (a - 5) (sI σ a 6) σ) fun v2 => b2 (x_X5_takes a 46 σ) fun v4 σ5 => 
  if v4 = 0 then (
  if v2 < 20 then (x_X5_readTypeName_35 U a σ5) else (
  if 23 < v2 then (x_X5_readTypeName_35 U a σ5) else (some (0, σ5)))) else (x_X5_readTypeName_35 U a σ5)
noncomputable def x_X5_readPacked_89 (a : Nat) (σ : SG) : Option (Int32 × SG) := b2 (x_X5_takes a 93 σ) fun v36 σ37 => 
  if v36 = 0 then (some (0, σ37)) else (some (1, σ37))
noncomputable def x_X5_readPacked_68 (a : Nat) (s0_ : Int32) (s1_ : Option Nat) (σ : SG) : Option (Int32 × SG) := ck 3 s1_ fun q22 => zb s0_ <| sb (uI σ q22 13 s0_) fun σ26 => b2 (x_X5_takesWord a 26 σ26) fun v28 σ29 => 
  if v28 = 0 then (b2 (x_X5_takesWord a 27 σ29) fun v32 σ33 => 
  if v32 = 0 then (some (0, σ33)) else (x_X5_readPacked_89 a σ33)) else (x_X5_readPacked_89 a σ29)
noncomputable def x_X5_readPacked (a : Nat) (p0 : Option Nat) (σ : SG) : Option (Int32 × SG) := b2 (x_X5_takes a 91 σ) fun v2 σ3 => 
  if v2 = 0 then (some (1, σ3)) else (b1 (x_X10_startOf (a - 5) (sI σ3 a 6) σ3) fun v6 => ck 3 p0 fun q7 => sb (uI σ3 q7 14 v6) fun σ10 => b2 (x_X5_takesWord a 25 σ10) fun v12 σ13 => 
  if v12 = 0 then (some (0, σ13)) else (b2 (x_X5_takes a 61 σ13) fun v16 σ17 => 
  if v16 = 0 then (some (0, σ17)) else (b1 (x_X10_codeOf (a - 5) (sI σ17 a 6) σ17) fun v20 => 
  if v20 = 27 then (x_X5_readPacked_68 a 1 p0 σ17) else (x_X5_readPacked_68 a 0 p0 σ17))))
noncomputable def x_X5_readField_116 (U : Nat) (a : Nat) (v2_ : Int32) (v5_ : Option Nat) (s0_ : Int32) (s1_ : Option Nat) (σ : SG) : Option (Int32 × SG) := ck 3 s1_ fun q24 => sb (uI σ q24 8 s0_) fun σ27 => ck 3 v5_ fun q28 => sb (uI σ27 q28 9 v2_) fun σ31 => b2 (x_X5_takes a 61 σ31) fun v33 σ34 => 
  if v33 = 0 then (some (0, σ34)) else (b2 (x_X5_readNumber a v5_ 0 σ34) fun v37 σ38 => 
  if v37 = 0 then (some (0, σ38)) else (b2 (x_X5_readPacked a v5_ σ38) fun v41 σ42 => 
  if v41 = 0 then (some (0, σ42)) else (b2 (x_X5_takes a 59 σ42) fun v45 σ46 => 
  if v45 = 0 then (some (0, σ46)) else (some (1, σ46)))))
noncomputable def x_X5_readField_83 (U : Nat) (a : Nat) (v1_ : Int32) (v2_ : Int32) (v3_ : Int32) (v4_ : Int32) (σ : SG) : Option (Int32 × SG) := b2 (x_X5_readName a 2 σ) fun v15 σ16 => 
  if v15 = none then (some (0, σ16)) else (ck 3 v15 fun q18 => zb v1_ <| sb (uI σ16 q18 11 v1_) fun σ22 => 
  if v4_ = 0 then (x_X5_readField_116 U a v2_ v15 13 v15 σ22) else (x_X5_readField_116 U a v2_ v15 v3_ v15 σ22))
noncomputable def x_X5_readField_54 (U : Nat) (a : Nat) (v1_ : Int32) (v2_ : Int32) (v3_ : Int32) (s0_ : Int32) (σ : SG) : Option (Int32 × SG) := 
  if s0_ = 0 then (b2 (x_X5_readTypeName U a σ) fun v11 σ12 => 
  if v11 = 0 then (some (0, σ12)) else (x_X5_readField_83 U a v1_ v2_ v3_ s0_ σ12)) else (sb (uI σ a 6 ((sI σ a 6) + 1)) fun σ48 => x_X5_readField_83 U a v1_ v2_ v3_ s0_ σ48)
noncomputable def x_X5_readField_53 (U : Nat) (a : Nat) (v1_ : Int32) (v2_ : Int32) (v3_ : Int32) (σ : SG) : Option (Int32 × SG) := x_X5_readField_54 U a v1_ v2_ v3_ 0 σ
noncomputable def x_X5_readField_21 (U : Nat) (a : Nat) (s0_ : Int32) (σ : SG) : Option (Int32 × SG) := b1 (x_X10_codeOf (a - 5) (sI σ a 6) σ) fun v7 => 
  if v7 < 0 then (x_X5_readField_53 U a s0_ (sI σ a 6) v7 σ) else (
  if 12 < v7 then (x_X5_readField_53 U a s0_ (sI σ a 6) v7 σ) else (x_X5_readField_54 U a s0_ (sI σ a 6) v7 1 σ))
noncomputable def x_X5_readField_20 (U : Nat) (a : Nat) (σ : SG) : Option (Int32 × SG) := x_X5_readField_21 U a 0 σ
noncomputable def x_X5_readField (U : Nat) (a : Nat) (σ : SG) : Option (Int32 × SG) := 
  if (sP σ a 3) = none then (b2 (x_X5_takesWord a 23 σ) fun v3 σ4 => 
  if v3 = 0 then (x_X5_readField_20 U a σ4) else (x_X5_readField_21 U a 1 σ4)) else (x_X5_readField_20 U a σ)
noncomputable def x_X5_readChoice_23 (U : Nat) (a : Nat) (σ : SG) : Option (Int32 × SG) := b2 (x_X5_isForbidden a σ) fun v7 σ8 => 
  if v7 = 0 then (sb (uI σ8 a 5 0) fun σ10 => b2 (x_X5_readField U a σ10) fun v12 σ13 => zb v12 <| some (v12, σ13)) else (some (0, σ8))
noncomputable def x_X5_readChoice (U : Nat) (a : Nat) (σ : SG) : Option (Int32 × SG) := 
  if sI σ a 5 = 0 then (b2 (x_X5_takes a 125 σ) fun v3 σ4 => 
  if v3 = 0 then (x_X5_readChoice_23 U a σ4) else (sb (uP σ4 a 3 none) fun σ15 => some (1, σ15))) else (x_X5_readChoice_23 U a σ)
noncomputable def x_X5_begin_51 (a : Nat) (σ : SG) : Option (Int32 × SG) := sb (uI σ a 5 1) fun σ11 => some (1, σ11)
noncomputable def x_X5_begin (a : Nat) (p0 : Int32) (σ : SG) : Option (Int32 × SG) := b2 (x_X5_readName a p0 σ) fun v2 σ3 => 
  if v2 = none then (some (0, σ3)) else (b2 (x_X5_takes a 123 σ3) fun v6 σ7 => 
  if v6 = 0 then (some (0, σ7)) else (
  if p0 = 0 then (sb (uP σ7 a 2 v2) fun σ10 => x_X5_begin_51 a σ10) else (
  if p0 = 1 then (sb (uP σ7 a 4 v2) fun σ13 => x_X5_begin_51 a σ13) else (sb (uP σ7 a 3 v2) fun σ14 => x_X5_begin_51 a σ14))))
noncomputable def x_X5_readMember (U : Nat) (a : Nat) (σ : SG) : Option (Int32 × SG) := b2 (x_X5_isForbidden a σ) fun v2 σ3 => 
  if v2 = 0 then (b2 (x_X5_takesWord a 20 σ3) fun v6 σ7 => 
  if v6 = 0 then (b2 (x_X5_takesWord a 21 σ7) fun v10 σ11 => 
  if v10 = 0 then (
  if (sP σ11 a 2) = none then (some (0, σ11)) else (b2 (x_X5_takes a 59 σ11) fun v15 σ16 => 
  if v15 = 0 then (b2 (x_X5_takes a 125 σ16) fun v19 σ20 => 
  if v19 = 0 then (b2 (x_X5_takesWord a 22 σ20) fun v23 σ24 => 
  if v23 = 0 then (b2 (x_X5_readField U a σ24) fun v27 σ28 => zb v27 <| some (v27, σ28)) else (b2 (x_X5_begin a 4 σ24) fun v31 σ32 => zb v31 <| some (v31, σ32))) else (ck 3 (sP σ20 a 2) fun q34 => sb (uP σ20 a 2 (sP σ20 q34 2)) fun σ37 => some (1, σ37))) else (some (1, σ16)))) else (b2 (x_X5_begin a 1 σ11) fun v39 σ40 => zb v39 <| some (v39, σ40))) else (b2 (x_X5_begin a 0 σ7) fun v43 σ44 => zb v43 <| some (v43, σ44))) else (some (0, σ3))
noncomputable def x_X5_read_86 (U : Nat) (a : Nat) (k32 : Int32 → Int32 → SG → Option (Int32 × SG)) (k93 : Int32 → SG → Option (Int32 × SG)) (v2_ : Int32) (s0_ : Int32) (σ : SG) : Option (Int32 × SG) := k32 s0_ (v2_ + 1) σ
noncomputable def x_X5_read_L32 (U : Nat) (a : Nat) (k93 : Int32 → SG → Option (Int32 × SG)) : Nat → Int32 → Int32 → SG → Option (Int32 × SG)
  | 0, _, _, _ => none
  | U1 + 1, v1_, v2_, σ => b1 (x_X10_count (a - 5) σ) fun v10 => 
  if v2_ < v10 then (
  if v1_ = 0 then (k93 v1_ σ) else (b1 (x_X5_isAtEnd a σ) fun v14 => 
  if v14 = 0 then (
  if (sP σ a 4) = none then (
  if (sP σ a 3) = none then (b2 (x_X5_readMember U a σ) fun v19 σ20 => x_X5_read_86 U a (x_X5_read_L32 U a k93 U1) k93 v2_ v19 σ20) else (b2 (x_X5_readChoice U a σ) fun v22 σ23 => x_X5_read_86 U a (x_X5_read_L32 U a k93 U1) k93 v2_ v22 σ23)) else (b2 (x_X5_readValue a σ) fun v25 σ26 => x_X5_read_86 U a (x_X5_read_L32 U a k93 U1) k93 v2_ v25 σ26)) else (k93 v1_ σ))) else (k93 v1_ σ)
noncomputable def x_X5_read_93 (U : Nat) (a : Nat) (v1_ : Int32) (σ : SG) : Option (Int32 × SG) := 
  if v1_ = 0 then (some (sI σ a 7, σ)) else (b1 (x_X5_isAtEnd a σ) fun v31 => 
  if v31 = 0 then (some (sI σ a 7, σ)) else (some (0, σ)))
noncomputable def x_X5_read (U : Nat) (a : Nat) (σ : SG) : Option (Int32 × SG) := sb (uP σ a 2 none) fun σ1 => sb (uP σ1 a 3 none) fun σ2 => sb (uP σ2 a 4 none) fun σ3 => sb (uI σ3 a 6 0) fun σ4 => sb (uI σ4 a 7 1) fun σ5 => b2 (x_X5_readSyntax a σ5) fun v7 σ8 => x_X5_read_L32 U a (fun w27 σ28 => x_X5_read_93 U a w27 σ28) U v7 0 σ8
noncomputable def x_X5_endPlace (a : Nat) (σ : SG) : Option (Int32) := b1 (x_X10_startOf (a - 5) (sI σ a 6) σ) fun v2 => some v2
noncomputable def x_X6_used (a : Nat) (σ : SG) : Option (Int32) := some (sI σ a 3)
noncomputable def x_X3_isType (a : Nat) (σ : SG) : Option (Int32) := 
  if sI σ a 0 = 0 then (some 1) else (
  if sI σ a 0 = 1 then (some 1) else (some 0))
noncomputable def x_X6_isCalled (U : Nat) (a : Nat) (p0 : Option Nat) (p1 : Option Nat) (p2 : Int32) (p3 : Int32) (σ : SG) : Option (Int32) := ck 3 p0 fun q1 => 
  if (sI σ q1 5) - (sI σ q1 4) = p3 - p2 then (b1 (x_X0_isSame U (a + 1) (sI σ q1 4) p1 p2 p3 σ) fun v6 => 
  if v6 = 0 then (some 0) else (some 1)) else (some 0)
noncomputable def x_X6_typeIn_60 (U : Nat) (a : Nat) (k3 : Int32 → Option (Option Nat)) (v1_ : Option Nat) (v2_ : Int32) (v3_ : Int32) (v4_ : Int32) (σ : SG) : Option (Option Nat) := k3 (v4_ + 1)
noncomputable def x_X6_typeIn_L3 (U : Nat) (a : Nat) (v1_ : Option Nat) (v2_ : Int32) (v3_ : Int32) (σ : SG) : Nat → Int32 → Option (Option Nat)
  | 0, _ => none
  | U1 + 1, v4_ => 
  if v4_ < sI σ a 3 then (b1 (x_X6_item a v4_ σ) fun v3 => 
  if v3 = none then (x_X6_typeIn_60 U a (x_X6_typeIn_L3 U a v1_ v2_ v3_ σ U1) v1_ v2_ v3_ v4_ σ) else (ck 3 v3 fun q5 => 
  if sP σ q5 2 = v1_ then (b1 (x_X3_isType q5 σ) fun v10 => 
  if v10 = 0 then (x_X6_typeIn_60 U a (x_X6_typeIn_L3 U a v1_ v2_ v3_ σ U1) v1_ v2_ v3_ v4_ σ) else (b1 (x_X6_isCalled U a v3 (some (a + 1)) v2_ v3_ σ) fun v13 => 
  if v13 = 0 then (x_X6_typeIn_60 U a (x_X6_typeIn_L3 U a v1_ v2_ v3_ σ U1) v1_ v2_ v3_ v4_ σ) else (some v3))) else (x_X6_typeIn_60 U a (x_X6_typeIn_L3 U a v1_ v2_ v3_ σ U1) v1_ v2_ v3_ v4_ σ))) else (some none)
noncomputable def x_X6_typeIn (U : Nat) (a : Nat) (p0 : Option Nat) (p1 : Int32) (p2 : Int32) (σ : SG) : Option (Option Nat) := x_X6_typeIn_L3 U a p0 p1 p2 σ U 0
noncomputable def x_X2_typeAround_L22 (U : Nat) (a : Nat) (k59 : Option (Option Nat)) (v3_ : Int32) (v4_ : Int32) (σ : SG) : Nat → Option Nat → Option (Option Nat)
  | 0, _ => none
  | U1 + 1, v5_ => 
  if v5_ = none then (k59) else (b1 (x_X6_typeIn U (a + 1) v5_ v3_ v4_ σ) fun v7 => 
  if v7 = none then (ck 3 v5_ fun q9 => x_X2_typeAround_L22 U a k59 v3_ v4_ σ U1 (sP σ q9 2)) else (some v7))
noncomputable def x_X2_typeAround (U : Nat) (a : Nat) (p0 : Option Nat) (p1 : Int32) (σ : SG) : Option (Option Nat) := b1 (x_X10_startOf (a + 186) p1 σ) fun v2 => b1 (x_X10_endOf (a + 186) p1 σ) fun v4 => x_X2_typeAround_L22 U a (b1 (x_X6_typeIn U (a + 1) none v2 v4 σ) fun v13 => some v13) v2 v4 σ U p0
noncomputable def x_X2_findsType_L65 (U : Nat) (a : Nat) (k129 : Option Nat → Option (Int32 × SG)) (v1_ : Option Nat) (σ : SG) : Nat → Int32 → Option Nat → Option (Int32 × SG)
  | 0, _, _ => none
  | U1 + 1, v2_, v4_ => 
  if v4_ = none then (k129 v4_) else (b1 (x_X10_isSign (a + 186) (v2_ + 1) 46 σ) fun v15 => 
  if v15 = 0 then (k129 v4_) else (b1 (x_X10_count (a + 186) σ) fun v18 => 
  if v2_ < v18 then (b1 (x_X10_startOf (a + 186) (v2_ + 2) σ) fun v21 => b1 (x_X10_endOf (a + 186) (v2_ + 2) σ) fun v23 => b1 (x_X6_typeIn U (a + 1) v4_ v21 v23 σ) fun v25 => x_X2_findsType_L65 U a k129 v1_ σ U1 (v2_ + 2) v25) else (k129 v4_)))
noncomputable def x_X2_findsType_158 (U : Nat) (a : Nat) (s0_ : Int32) (s1_ : Option Nat) (σ : SG) : Option (Int32 × SG) := ck 3 s1_ fun q36 => sb (uI σ q36 8 s0_) fun σ39 => some (1, σ39)
noncomputable def x_X2_findsType_129 (U : Nat) (a : Nat) (v1_ : Option Nat) (v4_ : Option Nat) (σ : SG) : Option (Int32 × SG) := 
  if v4_ = none then (some (0, σ)) else (ck 3 v1_ fun q28 => sb (uP σ q28 10 v4_) fun σ31 => ck 3 v4_ fun q32 => 
  if sI σ31 q32 0 = 0 then (x_X2_findsType_158 U a 13 v1_ σ31) else (x_X2_findsType_158 U a 14 v1_ σ31))
noncomputable def x_X2_findsType_63 (U : Nat) (a : Nat) (v1_ : Option Nat) (v2_ : Int32) (s0_ : Option Nat) (σ : SG) : Option (Int32 × SG) := x_X2_findsType_L65 U a (fun w26 => x_X2_findsType_129 U a v1_ w26 σ) v1_ σ U v2_ s0_
noncomputable def x_X2_findsType_23 (U : Nat) (a : Nat) (v1_ : Option Nat) (v2_ : Int32) (v3_ : Int32) (σ : SG) : Option (Int32 × SG) := 
  if v3_ = 0 then (ck 3 v1_ fun q8 => b1 (x_X2_typeAround U a (sP σ q8 2) v2_ σ) fun v12 => x_X2_findsType_63 U a v1_ v2_ v12 σ) else (b1 (x_X10_startOf (a + 186) v2_ σ) fun v41 => b1 (x_X10_endOf (a + 186) v2_ σ) fun v43 => b1 (x_X6_typeIn U (a + 1) none v41 v43 σ) fun v45 => x_X2_findsType_63 U a v1_ v2_ v45 σ)
noncomputable def x_X2_findsType (U : Nat) (a : Nat) (p0 : Option Nat) (σ : SG) : Option (Int32 × SG) := ck 3 p0 fun q1 => b1 (x_X10_isSign (a + 186) (sI σ q1 9) 46 σ) fun v5 => 
  if v5 = 0 then (x_X2_findsType_23 U a p0 (sI σ q1 9) v5 σ) else (x_X2_findsType_23 U a p0 ((sI σ q1 9) + 1) v5 σ)
noncomputable def x_X2_fail (a : Nat) (p0 : Int32) (p1 : Int32) (σ : SG) : Option (SG) := sb (uI σ a 3 p0) fun σ1 => sb (uI σ1 a 4 p1) fun σ2 => some σ2
noncomputable def x_X2_isTaken_63 (U : Nat) (a : Nat) (k2 : Int32 → Option (Int32)) (v1_ : Option Nat) (v2_ : Int32) (v3_ : Int32) (σ : SG) : Option (Int32) := k2 (v3_ + 1)
noncomputable def x_X2_isTaken_L2 (U : Nat) (a : Nat) (v1_ : Option Nat) (v2_ : Int32) (σ : SG) : Nat → Int32 → Option (Int32)
  | 0, _ => none
  | U1 + 1, v3_ => 
  if v3_ < v2_ then (b1 (x_X6_item (a + 1) v3_ σ) fun v3 => 
  if v3 = none then (x_X2_isTaken_63 U a (x_X2_isTaken_L2 U a v1_ v2_ σ U1) v1_ v2_ v3_ σ) else (ck 3 v3 fun q5 => ck 3 v1_ fun q8 => 
  if sP σ q5 2 = sP σ q8 2 then (b1 (x_X6_text (a + 1) σ) fun v13 => b1 (x_X6_isCalled U (a + 1) v3 v13 (sI σ q8 4) (sI σ q8 5) σ) fun v15 => 
  if v15 = 0 then (x_X2_isTaken_63 U a (x_X2_isTaken_L2 U a v1_ v2_ σ U1) v1_ v2_ v3_ σ) else (some 1)) else (x_X2_isTaken_63 U a (x_X2_isTaken_L2 U a v1_ v2_ σ U1) v1_ v2_ v3_ σ))) else (some 0)
noncomputable def x_X2_isTaken (U : Nat) (a : Nat) (p0 : Option Nat) (p1 : Int32) (σ : SG) : Option (Int32) := x_X2_isTaken_L2 U a p0 p1 σ U 0
noncomputable def x_X3_insert_L7 (U : Nat) (a : Nat) (k33 : Option Nat → Option (SG)) (v1_ : Option Nat) (σ : SG) : Nat → Option Nat → Option Nat → Option (SG)
  | 0, _, _ => none
  | U1 + 1, v2_, v3_ => 
  if v3_ = none then (k33 v2_) else (ck 3 v3_ fun q2 => ck 3 v1_ fun q5 => 
  if sL σ q2 6 < sL σ q5 6 then (x_X3_insert_L7 U a k33 v1_ σ U1 v3_ (sP σ q2 16)) else (k33 v2_))
noncomputable def x_X3_insert_33 (U : Nat) (a : Nat) (v1_ : Option Nat) (v2_ : Option Nat) (σ : SG) : Option (SG) := 
  if v2_ = none then (ck 3 v1_ fun q11 => sb (uP σ q11 16 (sP σ a 15)) fun σ14 => sb (uP σ14 a 15 v1_) fun σ15 => some σ15) else (ck 3 v2_ fun q16 => ck 3 v1_ fun q19 => sb (uP σ q19 16 (sP σ q16 16)) fun σ22 => sb (uP σ22 q16 16 v1_) fun σ23 => some σ23)
noncomputable def x_X3_insert (U : Nat) (a : Nat) (p0 : Option Nat) (σ : SG) : Option (SG) := x_X3_insert_L7 U a (fun w9 => x_X3_insert_33 U a p0 w9 σ) p0 σ U none (sP σ a 15)
noncomputable def x_X11_isNumeric (p0 : Int32) : Option (Int32) := 
  if 10 < p0 then (
  if p0 = 14 then (some 1) else (some 0)) else (some 1)
noncomputable def x_X2_judgeField_67 (U : Nat) (a : Nat) (v1_ : Option Nat) (σ : SG) : Option (SG) := ck 3 v1_ fun q10 => b1 (x_X2_fail a 4 (sI σ q10 7) σ) fun σ14 => some σ14
noncomputable def x_X2_judgeField_125 (U : Nat) (a : Nat) (v1_ : Option Nat) (v6_ : Int32) (s0_ : Int32) (s1_ : Option Nat) (σ : SG) : Option (SG) := ck 3 s1_ fun q25 => zb s0_ <| sb (uI σ q25 12 s0_) fun σ29 => ck 3 v1_ fun q30 => 
  if sI σ29 q30 14 < 0 then (some σ29) else (
  if v6_ = 0 then (b1 (x_X2_fail a 6 (sI σ29 q30 14) σ29) fun σ36 => some σ36) else (some σ29))
noncomputable def x_X2_judgeField_124 (U : Nat) (a : Nat) (v1_ : Option Nat) (v6_ : Int32) (s0_ : Option Nat) (σ : SG) : Option (SG) := x_X2_judgeField_125 U a v1_ v6_ 0 s0_ σ
noncomputable def x_X2_judgeField_105 (U : Nat) (a : Nat) (v1_ : Option Nat) (s0_ : Int32) (σ : SG) : Option (SG) := 
  if s0_ = 0 then (x_X2_judgeField_124 U a v1_ s0_ v1_ σ) else (ck 3 v1_ fun q37 => 
  if sI σ q37 13 = 0 then (x_X2_judgeField_125 U a v1_ s0_ 1 v1_ σ) else (x_X2_judgeField_124 U a v1_ s0_ v1_ σ))
noncomputable def x_X2_judgeField_104 (U : Nat) (a : Nat) (v1_ : Option Nat) (σ : SG) : Option (SG) := x_X2_judgeField_105 U a v1_ 0 σ
noncomputable def x_X2_judgeField_40 (U : Nat) (a : Nat) (v1_ : Option Nat) (v2_ : Int64) (s0_ : Int32) (σ : SG) : Option (SG) := ck 3 v1_ fun q5 => 
  if s0_ = 0 then (
  if (sP σ q5 2) = none then (x_X2_judgeField_67 U a v1_ σ) else (ck 3 (sP σ q5 2) fun q15 => b1 (x_X3_memberNumbered U q15 v2_ σ) fun v19 => 
  if v19 = none then (b1 (x_X3_insert U q15 v1_ σ) fun σ22 => 
  if sI σ22 q5 11 = 0 then (x_X2_judgeField_104 U a v1_ σ22) else (b1 (x_X11_isNumeric (sI σ22 q5 8)) fun v42 => 
  if v42 = 0 then (x_X2_judgeField_104 U a v1_ σ22) else (x_X2_judgeField_105 U a v1_ 1 σ22))) else (x_X2_judgeField_67 U a v1_ σ))) else (x_X2_judgeField_67 U a v1_ σ)
noncomputable def x_X2_judgeField_35 (U : Nat) (a : Nat) (v1_ : Option Nat) (v2_ : Int64) (σ : SG) : Option (SG) := x_X2_judgeField_40 U a v1_ v2_ 1 σ
noncomputable def x_X2_judgeField_39 (U : Nat) (a : Nat) (v1_ : Option Nat) (v2_ : Int64) (σ : SG) : Option (SG) := x_X2_judgeField_40 U a v1_ v2_ 0 σ
noncomputable def x_X2_judgeField (U : Nat) (a : Nat) (p0 : Option Nat) (σ : SG) : Option (SG) := ck 3 p0 fun q1 => 
  if sL σ q1 6 < 1 then (x_X2_judgeField_35 U a p0 (sL σ q1 6) σ) else (
  if 536870911 < sL σ q1 6 then (x_X2_judgeField_35 U a p0 (sL σ q1 6) σ) else (
  if sL σ q1 6 < 19000 then (x_X2_judgeField_39 U a p0 (sL σ q1 6) σ) else (
  if 19999 < sL σ q1 6 then (x_X2_judgeField_39 U a p0 (sL σ q1 6) σ) else (x_X2_judgeField_35 U a p0 (sL σ q1 6) σ))))
noncomputable def x_X3_append_L5 (U : Nat) (a : Nat) (k24 : Option Nat → Option (SG)) (v1_ : Option Nat) (σ : SG) : Nat → Option Nat → Option (SG)
  | 0, _ => none
  | U1 + 1, v2_ => 
  if v2_ = none then (k24 v2_) else (ck 3 v2_ fun q2 => 
  if (sP σ q2 16) = none then (k24 v2_) else (x_X3_append_L5 U a k24 v1_ σ U1 (sP σ q2 16)))
noncomputable def x_X3_append_24 (U : Nat) (a : Nat) (v1_ : Option Nat) (v2_ : Option Nat) (σ : SG) : Option (SG) := 
  if v2_ = none then (sb (uP σ a 15 v1_) fun σ8 => some σ8) else (ck 3 v2_ fun q9 => sb (uP σ q9 16 v1_) fun σ12 => some σ12)
noncomputable def x_X3_append (U : Nat) (a : Nat) (p0 : Option Nat) (σ : SG) : Option (SG) := x_X3_append_L5 U a (fun w6 => x_X3_append_24 U a p0 w6 σ) p0 σ U (sP σ a 15)
noncomputable def x_X2_judgeValue_57 (U : Nat) (a : Nat) (v1_ : Option Nat) (σ : SG) : Option (SG) := ck 3 v1_ fun q7 => b1 (x_X2_fail a 6 (sI σ q7 7) σ) fun σ11 => some σ11
noncomputable def x_X2_judgeValue_68 (U : Nat) (a : Nat) (v1_ : Option Nat) (v2_ : Option Nat) (σ : SG) : Option (SG) := ck 3 v2_ fun q20 => b1 (x_X3_append U q20 v1_ σ) fun σ24 => some σ24
noncomputable def x_X2_judgeValue_32 (U : Nat) (a : Nat) (v1_ : Option Nat) (v2_ : Option Nat) (s0_ : Int32) (σ : SG) : Option (SG) := 
  if s0_ = 0 then (
  if v2_ = none then (x_X2_judgeValue_57 U a v1_ σ) else (ck 3 v2_ fun q12 => 
  if (sP σ q12 15) = none then (ck 3 v1_ fun q16 => 
  if sL σ q16 6 = 0 then (x_X2_judgeValue_68 U a v1_ v2_ σ) else (x_X2_judgeValue_57 U a v1_ σ)) else (x_X2_judgeValue_68 U a v1_ v2_ σ))) else (x_X2_judgeValue_57 U a v1_ σ)
noncomputable def x_X2_judgeValue_27 (U : Nat) (a : Nat) (v1_ : Option Nat) (v2_ : Option Nat) (σ : SG) : Option (SG) := x_X2_judgeValue_32 U a v1_ v2_ 1 σ
noncomputable def x_X2_judgeValue (U : Nat) (a : Nat) (p0 : Option Nat) (σ : SG) : Option (SG) := ck 3 p0 fun q1 => 
  if sL σ q1 6 < (-2147483648) then (x_X2_judgeValue_27 U a p0 (sP σ q1 3) σ) else (
  if 2147483647 < sL σ q1 6 then (x_X2_judgeValue_27 U a p0 (sP σ q1 3) σ) else (x_X2_judgeValue_32 U a p0 (sP σ q1 3) 0 σ))
noncomputable def x_X2_judge_59 (U : Nat) (a : Nat) (v1_ : Option Nat) (v2_ : Int32) (v3_ : Int32) (σ : SG) : Option (SG) := b1 (x_X2_isTaken U a v1_ v2_ σ) fun v8 => 
  if v8 = 0 then (
  if v3_ = 0 then (ck 3 v1_ fun q11 => 
  if sI σ q11 0 = 3 then (b1 (x_X2_judgeValue U a v1_ σ) fun σ16 => some σ16) else (some σ)) else (b1 (x_X2_judgeField U a v1_ σ) fun σ18 => some σ18)) else (ck 3 v1_ fun q19 => b1 (x_X2_fail a 3 (sI σ q19 4) σ) fun σ23 => some σ23)
noncomputable def x_X2_judge_18 (U : Nat) (a : Nat) (v1_ : Option Nat) (v2_ : Int32) (s0_ : Int32) (σ : SG) : Option (SG) := 
  if s0_ = 0 then (x_X2_judge_59 U a v1_ v2_ s0_ σ) else (ck 3 v1_ fun q24 => 
  if sI σ q24 8 = 13 then (b2 (x_X2_findsType U a v1_ σ) fun v29 σ30 => 
  if v29 = 0 then (b1 (x_X10_startOf (a + 186) (sI σ30 q24 9) σ30) fun v33 => b1 (x_X2_fail a 5 v33 σ30) fun σ35 => some σ35) else (x_X2_judge_59 U a v1_ v2_ s0_ σ30)) else (x_X2_judge_59 U a v1_ v2_ s0_ σ))
noncomputable def x_X2_judge (U : Nat) (a : Nat) (p0 : Option Nat) (p1 : Int32) (σ : SG) : Option (SG) := 
  if p0 = none then (some σ) else (ck 3 p0 fun q2 => 
  if sI σ q2 0 = 2 then (x_X2_judge_18 U a p0 p1 1 σ) else (x_X2_judge_18 U a p0 p1 0 σ))
noncomputable def x_X6_count (a : Nat) (p0 : Int32) (σ : SG) : Option (Int32) := 
  if p0 < 0 then (some 0) else (
  if p0 < 5 then (ix p0 5 fun j3 => some (sI σ (a + 184) j3)) else (some 0))
noncomputable def x_X6_nameBytes (a : Nat) (σ : SG) : Option (Int32) := some (sI σ a 4)
noncomputable def x_X2_isTooMuch (a : Nat) (σ : SG) : Option (Int32) := b1 (x_X6_count (a + 1) 0 σ) fun v2 => 
  if 16 < v2 then (some 1) else (b1 (x_X6_count (a + 1) 1 σ) fun v5 => 
  if 8 < v5 then (some 1) else (b1 (x_X6_count (a + 1) 2 σ) fun v8 => 
  if 60 < v8 then (some 1) else (b1 (x_X6_count (a + 1) 3 σ) fun v11 => 
  if 40 < v11 then (some 1) else (b1 (x_X6_count (a + 1) 4 σ) fun v14 => 
  if 16 < v14 then (some 1) else (b1 (x_X6_nameBytes (a + 1) σ) fun v17 => 
  if 600 < v17 then (some 1) else (some 0))))))
noncomputable def x_X2_run_L65 (U : Nat) (a : Nat) (k102 : SG → Option (Int32 × SG)) (v1_ : Option Nat) : Nat → Int32 → SG → Option (Int32 × SG)
  | 0, _, _ => none
  | U1 + 1, v2_, σ => b1 (x_X6_used (a + 1) σ) fun v24 => 
  if v2_ < v24 then (
  if sI σ a 3 = 0 then (b1 (x_X6_item (a + 1) v2_ σ) fun v28 => b1 (x_X2_judge U a v28 v2_ σ) fun σ30 => x_X2_run_L65 U a k102 v1_ U1 (v2_ + 1) σ30) else (k102 σ)) else (k102 σ)
noncomputable def x_X2_run_126 (U : Nat) (a : Nat) (σ : SG) : Option (Int32 × SG) := 
  if sI σ a 3 = 0 then (some (sI σ a 3, σ)) else (b1 (x_X6_clear U (a + 1) σ) fun σ38 => some (sI σ38 a 3, σ38))
noncomputable def x_X2_run_102 (U : Nat) (a : Nat) (v1_ : Option Nat) (σ : SG) : Option (Int32 × SG) := 
  if sI σ a 3 = 0 then (b1 (x_X2_isTooMuch a σ) fun v34 => 
  if v34 = 0 then (x_X2_run_126 U a σ) else (ck 0 v1_ fun q39 => b1 (x_X0_size q39 σ) fun v43 => b1 (x_X2_fail a 7 v43 σ) fun σ45 => x_X2_run_126 U a σ45)) else (x_X2_run_126 U a σ)
noncomputable def x_X2_run_60 (U : Nat) (a : Nat) (v1_ : Option Nat) (s0_ : Int32) (σ : SG) : Option (Int32 × SG) := sb (uI σ a 4 s0_) fun σ22 => x_X2_run_L65 U a (fun σ31 => x_X2_run_102 U a v1_ σ31) v1_ U 0 σ22
noncomputable def x_X2_run (U : Nat) (a : Nat) (p0 : Option Nat) (σ : SG) : Option (Int32 × SG) := b1 (x_X6_clear U (a + 1) σ) fun σ2 => b1 (x_X6_text (a + 1) σ2) fun v4 => ck 0 p0 fun q5 => b1 (x_X0_size q5 σ2) fun v9 => ck 0 v4 fun q10 => b1 (x_X0_addAll U q10 p0 0 v9 σ2) fun σ14 => b1 (x_X10_split U (a + 186) σ14) fun σ16 => b2 (x_X5_read U (a + 191) σ16) fun v18 σ19 => sb (uI σ19 a 3 v18) fun σ20 => 
  if sI σ20 a 3 = 0 then (x_X2_run_60 U a p0 (-1) σ20) else (b1 (x_X5_endPlace (a + 191) σ20) fun v47 => x_X2_run_60 U a p0 v47 σ20)
noncomputable def x_X2_faultAt (a : Nat) (σ : SG) : Option (Int32) := some (sI σ a 4)
noncomputable def x_X11_compile (U : Nat) (a : Nat) (p0 : Int32) (σ : SG) : Option (mm_R × SG) := b1 (x_X11_compilerOf a p0 σ) fun v2 => 
  if v2 = none then (some (.inr "java/lang/IllegalArgumentException", σ)) else (b1 (x_X8_drop 389 σ) fun σ5 => ck 2 v2 fun q6 => b2 (x_X2_run U q6 (some 1) σ5) fun v10 σ11 => b1 (x_X0_clear 1 σ11) fun σ13 => b1 (x_X2_faultAt q6 σ13) fun v15 => sb (uI σ13 a 8 v15) fun σ16 => some (.inl (some (.int v10)), σ16))
noncomputable def x_X11_messageOf (U : Nat) (a : Nat) (p0 : Int32) (p1 : Int32) (σ : SG) : Option (Option Nat) := b1 (x_X11_compilerOf a p0 σ) fun v2 => 
  if v2 = none then (some none) else (ck 2 v2 fun q4 => b1 (x_X2_schema q4 σ) fun v8 => ck 6 v8 fun q9 => b1 (x_X6_message U q9 p1 σ) fun v13 => some v13)
noncomputable def x_X8_begin (a : Nat) (p0 : Option Nat) (p1 : Option Nat) (σ : SG) : Option (SG) := b1 (x_X8_drop a σ) fun σ2 => sb (uP σ2 a 4 p0) fun σ3 => sb (uP σ3 a 5 p1) fun σ4 => some σ4
noncomputable def x_X11_opens (U : Nat) (a : Nat) (p0 : Int32) (p1 : Int32) (p2 : Int32) (σ : SG) : Option (Int32 × SG) := b1 (x_X11_compilerOf a p0 σ) fun v2 => b1 (x_X11_messageOf U a p0 p1 σ) fun v4 => 
  if v2 = none then (some (0, σ)) else (
  if v4 = none then (some (0, σ)) else (
  if p2 < 1 then (some (0, σ)) else (
  if 20 < p2 then (some (0, σ)) else (ck 2 v2 fun q9 => b1 (x_X2_schema q9 σ) fun v13 => b1 (x_X8_begin 389 v13 v4 σ) fun σ15 => some (1, σ15)))))
noncomputable def x_X9_readNumber_146 (U : Nat) (a : Nat) (k51 : Int32 → SG → Option (Int32 × SG)) (v1_ : Int32) (v2_ : Int32) (v3_ : Int32) (v4_ : Int32) (v5_ : Int32) (σ : SG) : Option (Int32 × SG) := k51 (v5_ + 1) σ
noncomputable def x_X9_readNumber_110 (U : Nat) (a : Nat) (k51 : Int32 → SG → Option (Int32 × SG)) (v1_ : Int32) (v2_ : Int32) (v3_ : Int32) (v4_ : Int32) (v5_ : Int32) (v6_ : Int64) (s0_ : Int64) (s1_ : Int64) (σ : SG) : Option (Int32 × SG) := sb (uL σ a 4 (s1_ ||| (lshl9 s0_ (v3_ * v5_)))) fun σ10 => 
  if v1_ = 0 then (
  if v6_ < 128 then (some (1, σ10)) else (x_X9_readNumber_146 U a k51 v1_ v2_ v3_ v4_ v5_ σ10)) else (
  if v5_ = v4_ - 1 then (some (1, σ10)) else (x_X9_readNumber_146 U a k51 v1_ v2_ v3_ v4_ v5_ σ10))
noncomputable def x_X9_readNumber_L51 (U : Nat) (a : Nat) (v1_ : Int32) (v2_ : Int32) (v3_ : Int32) (v4_ : Int32) : Nat → Int32 → SG → Option (Int32 × SG)
  | 0, _, _ => none
  | U1 + 1, v5_, σ => 
  if v5_ < v4_ then (
  if sI σ a 3 < v2_ then (b1 (x_X0_at 1 (sI σ a 3) σ) fun v7 => sb (uI σ a 3 ((sI σ a 3) + 1)) fun σ8 => 
  if v1_ = 0 then (x_X9_readNumber_110 U a (x_X9_readNumber_L51 U a v1_ v2_ v3_ v4_ U1) v1_ v2_ v3_ v4_ v5_ (Int32.toInt64 v7) ((Int32.toInt64 v7) &&& 127) (sL σ8 a 4) σ8) else (x_X9_readNumber_110 U a (x_X9_readNumber_L51 U a v1_ v2_ v3_ v4_ U1) v1_ v2_ v3_ v4_ v5_ (Int32.toInt64 v7) (Int32.toInt64 v7) (sL σ8 a 4) σ8)) else (some (0, σ))) else (some (0, σ))
noncomputable def x_X9_readNumber_41 (U : Nat) (a : Nat) (v1_ : Int32) (v2_ : Int32) (v3_ : Int32) (s0_ : Int32) (σ : SG) : Option (Int32 × SG) := sb (uL σ a 4 0) fun σ3 => x_X9_readNumber_L51 U a v1_ v2_ v3_ s0_ U 0 σ3
noncomputable def x_X9_readNumber_11 (U : Nat) (a : Nat) (v1_ : Int32) (v2_ : Int32) (s0_ : Int32) (σ : SG) : Option (Int32 × SG) := 
  if v1_ = 0 then (x_X9_readNumber_41 U a v1_ v2_ s0_ 10 σ) else (
  if v1_ = 1 then (x_X9_readNumber_41 U a v1_ v2_ s0_ 8 σ) else (
  if v1_ = 5 then (x_X9_readNumber_41 U a v1_ v2_ s0_ 4 σ) else (x_X9_readNumber_41 U a v1_ v2_ s0_ 0 σ)))
noncomputable def x_X9_readNumber (U : Nat) (a : Nat) (p0 : Int32) (p1 : Int32) (σ : SG) : Option (Int32 × SG) := 
  if p0 = 0 then (x_X9_readNumber_11 U a p0 p1 7 σ) else (x_X9_readNumber_11 U a p0 p1 8 σ)
noncomputable def x_X9_kindOf (p0 : Int32) : Option (Int32) := 
  if p0 = 6 then (some 5) else (
  if p0 = 7 then (some 1) else (
  if p0 = 8 then (some 5) else (
  if p0 = 9 then (some 1) else (
  if p0 = 10 then (some 0) else (
  if p0 = 11 then (some 2) else (
  if p0 = 12 then (some 2) else (
  if p0 = 13 then (some 2) else (some 0))))))))
noncomputable def x_X8_dropRivals_88 (U : Nat) (a : Nat) (k8 : Option Nat → Option Nat → SG → Option (SG)) (k98 : SG → Option (SG)) (v1_ : Option Nat) (v2_ : Option Nat) (v3_ : Option Nat) (v4_ : Option Nat) (σ : SG) : Option (SG) := ck 4 v4_ fun q10 => k8 v3_ (sP σ q10 1) σ
noncomputable def x_X8_dropRivals_50 (U : Nat) (a : Nat) (k8 : Option Nat → Option Nat → SG → Option (SG)) (k98 : SG → Option (SG)) (v1_ : Option Nat) (v2_ : Option Nat) (v3_ : Option Nat) (v4_ : Option Nat) (s0_ : Int32) (σ : SG) : Option (SG) := 
  if s0_ = 0 then (x_X8_dropRivals_88 U a k8 k98 v1_ v2_ v4_ v4_ σ) else (
  if v3_ = none then (ck 4 v4_ fun q14 => ck 4 v1_ fun q17 => sb (uP σ q17 2 (sP σ q14 1)) fun σ20 => x_X8_dropRivals_88 U a k8 k98 v1_ v2_ v3_ v4_ σ20) else (ck 4 v4_ fun q21 => ck 4 v3_ fun q24 => sb (uP σ q24 1 (sP σ q21 1)) fun σ27 => x_X8_dropRivals_88 U a k8 k98 v1_ v2_ v3_ v4_ σ27))
noncomputable def x_X8_dropRivals_49 (U : Nat) (a : Nat) (k8 : Option Nat → Option Nat → SG → Option (SG)) (k98 : SG → Option (SG)) (v1_ : Option Nat) (v2_ : Option Nat) (v3_ : Option Nat) (v4_ : Option Nat) (σ : SG) : Option (SG) := x_X8_dropRivals_50 U a k8 k98 v1_ v2_ v3_ v4_ 0 σ
noncomputable def x_X8_dropRivals_L8 (U : Nat) (a : Nat) (k98 : SG → Option (SG)) (v1_ : Option Nat) (v2_ : Option Nat) : Nat → Option Nat → Option Nat → SG → Option (SG)
  | 0, _, _, _ => none
  | U1 + 1, v3_, v4_, σ => 
  if v4_ = none then (k98 σ) else (ck 4 v4_ fun q5 => 
  if (sP σ q5 0) = none then (x_X8_dropRivals_49 U a (x_X8_dropRivals_L8 U a k98 v1_ v2_ U1) k98 v1_ v2_ v3_ v4_ σ) else (
  if sP σ q5 0 = v2_ then (x_X8_dropRivals_49 U a (x_X8_dropRivals_L8 U a k98 v1_ v2_ U1) k98 v1_ v2_ v3_ v4_ σ) else (ck 3 (sP σ q5 0) fun q29 => ck 3 v2_ fun q32 => 
  if sP σ q29 3 = sP σ q32 3 then (x_X8_dropRivals_50 U a (x_X8_dropRivals_L8 U a k98 v1_ v2_ U1) k98 v1_ v2_ v3_ v4_ 1 σ) else (x_X8_dropRivals_49 U a (x_X8_dropRivals_L8 U a k98 v1_ v2_ U1) k98 v1_ v2_ v3_ v4_ σ))))
noncomputable def x_X8_dropRivals (U : Nat) (a : Nat) (p0 : Option Nat) (p1 : Option Nat) (σ : SG) : Option (SG) := ck 4 p0 fun q1 => x_X8_dropRivals_L8 U a (fun σ36 => sb (uP σ36 q1 3 none) fun σ37 => some σ37) p0 p1 U none (sP σ q1 2) σ
noncomputable def x_X8_lastUpTo_87 (U : Nat) (a : Nat) (k60 : Option Nat → Option Nat → Option (Option Nat)) (v2_ : Int64) (v4_ : Option Nat) (v5_ : Option Nat) (s0_ : Int64) (σ : SG) : Option (Option Nat) := 
  if v2_ < s0_ then (some v4_) else (ck 4 v5_ fun q15 => k60 v5_ (sP σ q15 1))
noncomputable def x_X8_lastUpTo_L60 (U : Nat) (a : Nat) (v2_ : Int64) (σ : SG) : Nat → Option Nat → Option Nat → Option (Option Nat)
  | 0, _, _ => none
  | U1 + 1, v4_, v5_ => 
  if v5_ = none then (some v4_) else (ck 4 v5_ fun q10 => 
  if (sP σ q10 0) = none then (x_X8_lastUpTo_87 U a (x_X8_lastUpTo_L60 U a v2_ σ U1) v2_ v4_ v5_ 9223372036854775807 σ) else (ck 3 (sP σ q10 0) fun q18 => x_X8_lastUpTo_87 U a (x_X8_lastUpTo_L60 U a v2_ σ U1) v2_ v4_ v5_ (sL σ q18 6) σ))
noncomputable def x_X8_lastUpTo_58 (U : Nat) (a : Nat) (v2_ : Int64) (v4_ : Option Nat) (s0_ : Option Nat) (σ : SG) : Option (Option Nat) := x_X8_lastUpTo_L60 U a v2_ σ U v4_ s0_
noncomputable def x_X8_lastUpTo_41 (U : Nat) (a : Nat) (v1_ : Option Nat) (v2_ : Int64) (v4_ : Option Nat) (σ : SG) : Option (Option Nat) := 
  if v4_ = none then (ck 4 v1_ fun q6 => x_X8_lastUpTo_58 U a v2_ v4_ (sP σ q6 2) σ) else (ck 4 v4_ fun q21 => x_X8_lastUpTo_58 U a v2_ v4_ (sP σ q21 1) σ)
noncomputable def x_X8_lastUpTo_33 (U : Nat) (a : Nat) (v1_ : Option Nat) (v2_ : Int64) (v4_ : Option Nat) (s0_ : Int64) (σ : SG) : Option (Option Nat) := 
  if v2_ < s0_ then (x_X8_lastUpTo_41 U a v1_ v2_ none σ) else (x_X8_lastUpTo_41 U a v1_ v2_ v4_ σ)
noncomputable def x_X8_lastUpTo (U : Nat) (a : Nat) (p0 : Option Nat) (p1 : Int64) (σ : SG) : Option (Option Nat) := ck 4 p0 fun q1 => 
  if (sP σ q1 3) = none then (x_X8_lastUpTo_41 U a p0 p1 (sP σ q1 3) σ) else (ck 4 (sP σ q1 3) fun q24 => 
  if (sP σ q24 0) = none then (x_X8_lastUpTo_33 U a p0 p1 (sP σ q1 3) 9223372036854775807 σ) else (ck 3 (sP σ q24 0) fun q29 => x_X8_lastUpTo_33 U a p0 p1 (sP σ q1 3) (sL σ q29 6) σ))
noncomputable def x_X8_put_156 (U : Nat) (a : Nat) (v1_ : Option Nat) (v4_ : Option Nat) (σ : SG) : Option (Option Nat × SG) := ck 4 v1_ fun q20 => sb (uP σ q20 3 v4_) fun σ23 => some (v4_, σ23)
noncomputable def x_X8_put_94 (U : Nat) (a : Nat) (v1_ : Option Nat) (v2_ : Option Nat) (v3_ : Option Nat) (s0_ : Option Nat) (σ : SG) : Option (Option Nat × SG) := 
  if s0_ = none then (some (none, σ)) else (sb (uI σ a 3 ((sI σ a 3) + 1)) fun σ8 => ck 4 s0_ fun q9 => b1 (x_X4_begin q9 v2_ σ8) fun σ13 => 
  if v3_ = none then (ck 4 v1_ fun q15 => sb (uP σ13 q9 1 (sP σ13 q15 2)) fun σ18 => sb (uP σ18 q15 2 s0_) fun σ19 => x_X8_put_156 U a v1_ s0_ σ19) else (ck 4 v3_ fun q24 => sb (uP σ13 q9 1 (sP σ13 q24 1)) fun σ27 => sb (uP σ27 q24 1 s0_) fun σ28 => x_X8_put_156 U a v1_ s0_ σ28))
noncomputable def x_X8_put_93 (U : Nat) (a : Nat) (v1_ : Option Nat) (v2_ : Option Nat) (v3_ : Option Nat) (σ : SG) : Option (Option Nat × SG) := x_X8_put_94 U a v1_ v2_ v3_ none σ
noncomputable def x_X8_put_62 (U : Nat) (a : Nat) (v1_ : Option Nat) (v2_ : Option Nat) (v3_ : Option Nat) (σ : SG) : Option (Option Nat × SG) := 
  if sI σ a 3 < 0 then (x_X8_put_93 U a v1_ v2_ v3_ σ) else (
  if sI σ a 3 < 700 then (ix (sI σ a 3) 700 fun j30 => x_X8_put_94 U a v1_ v2_ v3_ (some (391 + j30)) σ) else (x_X8_put_93 U a v1_ v2_ v3_ σ))
noncomputable def x_X8_put_33 (U : Nat) (a : Nat) (v1_ : Option Nat) (v2_ : Option Nat) (s0_ : Int64) (s1_ : Option Nat) (σ : SG) : Option (Option Nat × SG) := b1 (x_X8_lastUpTo U a s1_ s0_ σ) fun v4 => 
  if v4 = none then (x_X8_put_62 U a v1_ v2_ v4 σ) else (
  if v2_ = none then (x_X8_put_62 U a v1_ v2_ v4 σ) else (ck 4 v4 fun q35 => 
  if sP σ q35 0 = v2_ then (ck 3 v2_ fun q39 => 
  if sI σ q39 11 = 0 then (some (v4, σ)) else (x_X8_put_62 U a v1_ v2_ v4 σ)) else (x_X8_put_62 U a v1_ v2_ v4 σ)))
noncomputable def x_X8_put_17 (U : Nat) (a : Nat) (v1_ : Option Nat) (v2_ : Option Nat) (σ : SG) : Option (Option Nat × SG) := 
  if v2_ = none then (x_X8_put_33 U a v1_ v2_ 9223372036854775807 v1_ σ) else (ck 3 v2_ fun q43 => x_X8_put_33 U a v1_ v2_ (sL σ q43 6) v1_ σ)
noncomputable def x_X8_put (U : Nat) (a : Nat) (p0 : Option Nat) (p1 : Option Nat) (σ : SG) : Option (Option Nat × SG) := 
  if p1 = none then (x_X8_put_17 U a p0 p1 σ) else (ck 3 p1 fun q46 => 
  if (sP σ q46 3) = none then (x_X8_put_17 U a p0 p1 σ) else (b1 (x_X8_dropRivals U a p0 p1 σ) fun σ51 => x_X8_put_17 U a p0 p1 σ51))
noncomputable def x_X9_meaning (p0 : Int32) (p1 : Int64) : Option (Int64) := 
  if p0 = 0 then (some (Int32.toInt64 (Int64.toInt32 p1))) else (
  if p0 = 1 then (some p1) else (
  if p0 = 2 then (some (p1 &&& 4294967295)) else (
  if p0 = 3 then (some p1) else (
  if p0 = 4 then (some (Int32.toInt64 ((iush (Int64.toInt32 p1) 1) ^^^ (-((Int64.toInt32 p1) &&& 1))))) else (
  if p0 = 5 then (some ((lush p1 1) ^^^ (-(p1 &&& 1)))) else (
  if p0 = 6 then (some (p1 &&& 4294967295)) else (
  if p0 = 7 then (some p1) else (
  if p0 = 8 then (some (Int32.toInt64 (Int64.toInt32 p1))) else (
  if p0 = 9 then (some p1) else (
  if p0 = 10 then (
  if p1 = 0 then (some 0) else (some 1)) else (
  if p0 = 11 then (some p1) else (
  if p0 = 12 then (some p1) else (
  if p0 = 13 then (some p1) else (
  if p0 = 14 then (some (Int32.toInt64 (Int64.toInt32 p1))) else (some p1)))))))))))))))
noncomputable def x_X9_putNumber (U : Nat) (a : Nat) (p0 : Option Nat) (p1 : Option Nat) (σ : SG) : Option (Int32 × SG) := b2 (x_X8_put U 389 p0 p1 σ) fun v2 σ3 => 
  if v2 = none then (some (0, σ3)) else (ck 3 p1 fun q5 => b1 (x_X9_meaning (sI σ3 q5 8) (sL σ3 a 4)) fun v9 => ck 4 v2 fun q10 => sb (uL σ3 q10 4 v9) fun σ13 => some (1, σ13))
noncomputable def x_X9_takeRow_L3 (U : Nat) (a : Nat) (k51 : SG → Option (Int32 × SG)) (v1_ : Option Nat) (v2_ : Option Nat) (v3_ : Int32) : Nat → Int32 → SG → Option (Int32 × SG)
  | 0, _, _ => none
  | U1 + 1, v4_, σ => 
  if v4_ < 700 then (
  if sI σ a 3 < v3_ then (ck 3 v2_ fun q3 => b1 (x_X9_kindOf (sI σ q3 8)) fun v7 => b2 (x_X9_readNumber U a v7 v3_ σ) fun v9 σ10 => 
  if v9 = 0 then (some (0, σ10)) else (b2 (x_X9_putNumber U a v1_ v2_ σ10) fun v13 σ14 => 
  if v13 = 0 then (some (0, σ14)) else (x_X9_takeRow_L3 U a k51 v1_ v2_ v3_ U1 (v4_ + 1) σ14))) else (k51 σ)) else (k51 σ)
noncomputable def x_X9_takeRow_51 (U : Nat) (a : Nat) (v3_ : Int32) (σ : SG) : Option (Int32 × SG) := 
  if sI σ a 3 = v3_ then (some (1, σ)) else (some (0, σ))
noncomputable def x_X9_takeRow (U : Nat) (a : Nat) (p0 : Option Nat) (p1 : Option Nat) (p2 : Int32) (σ : SG) : Option (Int32 × SG) := x_X9_takeRow_L3 U a (fun σ16 => x_X9_takeRow_51 U a p2 σ16) p0 p1 p2 U 0 σ
noncomputable def x_X9_copy (U : Nat) (a : Nat) (p0 : Option Nat) (p1 : Int32) (p2 : Int32) (σ : SG) : Option (Int32 × SG) := b1 (x_X0_size 1092 σ) fun v2 => ck 4 p0 fun q3 => sb (uI σ q3 5 v2) fun σ6 => b1 (x_X0_addAll U 1092 (some 1) p1 p2 σ6) fun σ8 => b1 (x_X0_size 1092 σ8) fun v10 => sb (uI σ8 q3 6 v10) fun σ11 => sb (uI σ11 a 3 p2) fun σ12 => some (1, σ12)
noncomputable def x_X9_keep (U : Nat) (a : Nat) (p0 : Option Nat) (p1 : Int32) (σ : SG) : Option (Int32 × SG) := b2 (x_X8_put U 389 p0 none σ) fun v2 σ3 => 
  if v2 = none then (some (0, σ3)) else (b2 (x_X9_copy U a v2 p1 (sI σ3 a 3) σ3) fun v6 σ7 => 
  if v6 = 0 then (some (0, σ7)) else (some (1, σ7)))
noncomputable def x_X9_takeLength_105 (U : Nat) (rc : Option Nat → Option Nat → Int32 → Int32 → SG → Option (Int32 × SG)) (a : Nat) (v1_ : Option Nat) (v3_ : Int32) (v6_ : Int32) (σ : SG) : Option (Int32 × SG) := sb (uI σ a 3 v6_) fun σ10 => b2 (x_X9_keep U a v1_ v3_ σ10) fun v12 σ13 => zb v12 <| some (v12, σ13)
noncomputable def x_X9_takeLength_145 (U : Nat) (rc : Option Nat → Option Nat → Int32 → Int32 → SG → Option (Int32 × SG)) (a : Nat) (v1_ : Option Nat) (v2_ : Option Nat) (v5_ : Int32) (v6_ : Int32) (σ : SG) : Option (Int32 × SG) := b2 (x_X8_put U 389 v1_ v2_ σ) fun v26 σ27 => 
  if v26 = none then (some (0, σ27)) else (ck 3 v2_ fun q29 => 
  if sI σ27 q29 8 = 13 then (b2 (rc v26 (sP σ27 q29 10) v6_ (v5_ + 1) σ27) fun v34 σ35 => zb v34 <| some (v34, σ35)) else (b2 (x_X9_copy U a v26 (sI σ27 a 3) v6_ σ27) fun v38 σ39 => zb v38 <| some (v38, σ39)))
noncomputable def x_X9_takeLength_75 (U : Nat) (rc : Option Nat → Option Nat → Int32 → Int32 → SG → Option (Int32 × SG)) (a : Nat) (v1_ : Option Nat) (v2_ : Option Nat) (v3_ : Int32) (v5_ : Int32) (v6_ : Int32) (s0_ : Int32) (σ : SG) : Option (Int32 × SG) := 
  if s0_ = 0 then (
  if v2_ = none then (x_X9_takeLength_105 U rc a v1_ v3_ v6_ σ) else (ck 3 v2_ fun q15 => b1 (x_X11_isNumeric (sI σ q15 8)) fun v19 => 
  if v19 = 0 then (
  if sI σ q15 8 = 11 then (b1 (x_X0_isUtf8 U 1 (sI σ a 3) v6_ σ) fun v23 => 
  if v23 = 0 then (some (0, σ)) else (x_X9_takeLength_145 U rc a v1_ v2_ v5_ v6_ σ)) else (x_X9_takeLength_145 U rc a v1_ v2_ v5_ v6_ σ)) else (x_X9_takeLength_105 U rc a v1_ v3_ v6_ σ))) else (b2 (x_X9_takeRow U a v1_ v2_ v6_ σ) fun v42 σ43 => zb v42 <| some (v42, σ43))
noncomputable def x_X9_takeLength_74 (U : Nat) (rc : Option Nat → Option Nat → Int32 → Int32 → SG → Option (Int32 × SG)) (a : Nat) (v1_ : Option Nat) (v2_ : Option Nat) (v3_ : Int32) (v5_ : Int32) (v6_ : Int32) (σ : SG) : Option (Int32 × SG) := x_X9_takeLength_75 U rc a v1_ v2_ v3_ v5_ v6_ 0 σ
noncomputable def x_X9_takeLength (U : Nat) (rc : Option Nat → Option Nat → Int32 → Int32 → SG → Option (Int32 × SG)) (a : Nat) (p0 : Option Nat) (p1 : Option Nat) (p2 : Int32) (p3 : Int32) (p4 : Int32) (σ : SG) : Option (Int32 × SG) := b2 (x_X9_readNumber U a 0 p3 σ) fun v2 σ3 => 
  if v2 = 0 then (some (0, σ3)) else (
  if sL σ3 a 4 < 0 then (some (0, σ3)) else (
  if Int32.toInt64 (p3 - (sI σ3 a 3)) < sL σ3 a 4 then (some (0, σ3)) else (
  if p1 = none then (x_X9_takeLength_74 U rc a p0 p1 p2 p4 ((sI σ3 a 3) + (Int64.toInt32 (sL σ3 a 4))) σ3) else (ck 3 p1 fun q45 => 
  if sI σ3 q45 11 = 0 then (x_X9_takeLength_74 U rc a p0 p1 p2 p4 ((sI σ3 a 3) + (Int64.toInt32 (sL σ3 a 4))) σ3) else (b1 (x_X11_isNumeric (sI σ3 q45 8)) fun v50 => 
  if v50 = 0 then (x_X9_takeLength_74 U rc a p0 p1 p2 p4 ((sI σ3 a 3) + (Int64.toInt32 (sL σ3 a 4))) σ3) else (x_X9_takeLength_75 U rc a p0 p1 p2 p4 ((sI σ3 a 3) + (Int64.toInt32 (sL σ3 a 4))) 1 σ3))))))
noncomputable def x_X9_takeNumber_36 (U : Nat) (a : Nat) (v1_ : Option Nat) (v4_ : Int32) (σ : SG) : Option (Int32 × SG) := b2 (x_X9_keep U a v1_ v4_ σ) fun v7 σ8 => zb v7 <| some (v7, σ8)
noncomputable def x_X9_takeNumber (U : Nat) (a : Nat) (p0 : Option Nat) (p1 : Option Nat) (p2 : Int32) (p3 : Int32) (p4 : Int32) (σ : SG) : Option (Int32 × SG) := b2 (x_X9_readNumber U a p2 p4 σ) fun v2 σ3 => 
  if v2 = 0 then (some (0, σ3)) else (
  if p1 = none then (x_X9_takeNumber_36 U a p0 p3 σ3) else (ck 3 p1 fun q10 => b1 (x_X9_kindOf (sI σ3 q10 8)) fun v14 => 
  if v14 = p2 then (b2 (x_X9_putNumber U a p0 p1 σ3) fun v17 σ18 => zb v17 <| some (v17, σ18)) else (x_X9_takeNumber_36 U a p0 p3 σ3)))
noncomputable def x_X9_readMessage_130 (U : Nat) (rc : Option Nat → Option Nat → Int32 → Int32 → SG → Option (Int32 × SG)) (a : Nat) (k18 : Int32 → SG → Option (Int32 × SG)) (k145 : SG → Option (Int32 × SG)) (v1_ : Option Nat) (v2_ : Option Nat) (v3_ : Int32) (v4_ : Int32) (v5_ : Int32) (s0_ : Int32) (σ : SG) : Option (Int32 × SG) := 
  if s0_ = 0 then (some (0, σ)) else (k18 (v5_ + 1) σ)
noncomputable def x_X9_readMessage_L18 (U : Nat) (rc : Option Nat → Option Nat → Int32 → Int32 → SG → Option (Int32 × SG)) (a : Nat) (k145 : SG → Option (Int32 × SG)) (v1_ : Option Nat) (v2_ : Option Nat) (v3_ : Int32) (v4_ : Int32) : Nat → Int32 → SG → Option (Int32 × SG)
  | 0, _, _ => none
  | U1 + 1, v5_, σ => 
  if v5_ < 700 then (
  if sI σ a 3 < v3_ then (b2 (x_X9_readNumber U a 0 v3_ σ) fun v6 σ7 => 
  if v6 = 0 then (some (0, σ7)) else (
  if lush (sL σ7 a 4) 32 = 0 then (
  if sL σ7 a 4 < 8 then (some (0, σ7)) else (ck 3 v2_ fun q11 => b1 (x_X3_memberNumbered U q11 (lush (sL σ7 a 4) 3) σ7) fun v15 => 
  if Int64.toInt32 ((sL σ7 a 4) &&& 7) = 2 then (b2 (x_X9_takeLength U rc a v1_ v15 (sI σ a 3) v3_ v4_ σ7) fun v18 σ19 => x_X9_readMessage_130 U rc a (x_X9_readMessage_L18 U rc a k145 v1_ v2_ v3_ v4_ U1) k145 v1_ v2_ v3_ v4_ v5_ v18 σ19) else (b2 (x_X9_takeNumber U a v1_ v15 (Int64.toInt32 ((sL σ7 a 4) &&& 7)) (sI σ a 3) v3_ σ7) fun v22 σ23 => x_X9_readMessage_130 U rc a (x_X9_readMessage_L18 U rc a k145 v1_ v2_ v3_ v4_ U1) k145 v1_ v2_ v3_ v4_ v5_ v22 σ23))) else (some (0, σ7)))) else (k145 σ)) else (k145 σ)
noncomputable def x_X9_readMessage_145 (U : Nat) (rc : Option Nat → Option Nat → Int32 → Int32 → SG → Option (Int32 × SG)) (a : Nat) (v3_ : Int32) (σ : SG) : Option (Int32 × SG) := 
  if sI σ a 3 = v3_ then (some (1, σ)) else (some (0, σ))
noncomputable def x_X9_readMessage_b (U : Nat) (rc : Option Nat → Option Nat → Int32 → Int32 → SG → Option (Int32 × SG)) (a : Nat) (p0 : Option Nat) (p1 : Option Nat) (p2 : Int32) (p3 : Int32) (σ : SG) : Option (Int32 × SG) := 
  if p1 = none then (some (0, σ)) else (
  if sI σ a 5 < p3 then (some (0, σ)) else (x_X9_readMessage_L18 U rc a (fun σ24 => x_X9_readMessage_145 U rc a p2 σ24) p0 p1 p2 p3 U 0 σ))
noncomputable def x_X9_readMessage (U : Nat) (a : Nat) : Nat → Option Nat → Option Nat → Int32 → Int32 → SG → Option (Int32 × SG)
  | 0, _, _, _, _, _ => none
  | D + 1, p0, p1, p2, p3, σ => x_X9_readMessage_b U (x_X9_readMessage U a D) a p0 p1 p2 p3 σ
noncomputable def x_X9_read (U : Nat) (a : Nat) (p0 : Int32) (σ : SG) : Option (Int32 × SG) := sb (uI σ a 3 0) fun σ1 => sb (uI σ1 a 5 p0) fun σ2 => b1 (x_X0_size 1 σ2) fun v4 => b2 (x_X9_readMessage U a 24 (some 1091) (sP σ2 389 5) v4 1 σ2) fun v6 σ7 => zb v6 <| some (v6, σ7)
noncomputable def x_X4_isNothing (a : Nat) (σ : SG) : Option (Int32) := 
  if (sP σ a 0) = none then (some 0) else (ck 3 (sP σ a 0) fun q2 => 
  if sI σ q2 11 = 0 then (
  if (sP σ q2 3) = none then (
  if sI σ q2 8 = 13 then (some 0) else (b1 (x_X11_isNumeric (sI σ q2 8)) fun v9 => 
  if v9 = 0 then (
  if sI σ a 5 = sI σ a 6 then (some 1) else (some 0)) else (
  if sL σ a 4 = 0 then (some 1) else (some 0)))) else (some 0)) else (some 0))
noncomputable def x_X8_countIn_58 (U : Nat) (rc : Option Nat → Int32 → SG → Option (Int32)) (a : Nat) (k8 : Int32 → Option Nat → Option (Int32)) (v2_ : Int32) (v3_ : Int32) (v4_ : Option Nat) (σ : SG) : Option (Int32) := ck 4 v4_ fun q13 => k8 v3_ (sP σ q13 1)
noncomputable def x_X8_countIn_32 (U : Nat) (rc : Option Nat → Int32 → SG → Option (Int32)) (a : Nat) (k8 : Int32 → Option Nat → Option (Int32)) (v2_ : Int32) (v3_ : Int32) (v4_ : Option Nat) (σ : SG) : Option (Int32) := ck 4 v4_ fun q9 => 
  if (sP σ q9 2) = none then (x_X8_countIn_58 U rc a k8 v2_ v3_ v4_ σ) else (
  if 20 < v2_ then (x_X8_countIn_58 U rc a k8 v2_ v3_ v4_ σ) else (b1 (rc v4_ (v2_ + 1) σ) fun v18 => x_X8_countIn_58 U rc a k8 v2_ (v3_ + v18) v4_ σ))
noncomputable def x_X8_countIn_L8 (U : Nat) (rc : Option Nat → Int32 → SG → Option (Int32)) (a : Nat) (v2_ : Int32) (σ : SG) : Nat → Int32 → Option Nat → Option (Int32)
  | 0, _, _ => none
  | U1 + 1, v3_, v4_ => 
  if v4_ = none then (some v3_) else (ck 4 v4_ fun q5 => 
  if (sP σ q5 0) = none then (x_X8_countIn_32 U rc a (x_X8_countIn_L8 U rc a v2_ σ U1) v2_ v3_ v4_ σ) else (b1 (x_X4_isNothing q5 σ) fun v20 => 
  if v20 = 0 then (x_X8_countIn_32 U rc a (x_X8_countIn_L8 U rc a v2_ σ U1) v2_ (v3_ + 1) v4_ σ) else (x_X8_countIn_32 U rc a (x_X8_countIn_L8 U rc a v2_ σ U1) v2_ v3_ v4_ σ)))
noncomputable def x_X8_countIn_b (U : Nat) (rc : Option Nat → Int32 → SG → Option (Int32)) (a : Nat) (p0 : Option Nat) (p1 : Int32) (σ : SG) : Option (Int32) := ck 4 p0 fun q1 => x_X8_countIn_L8 U rc a p1 σ U 0 (sP σ q1 2)
noncomputable def x_X8_countIn (U : Nat) (a : Nat) : Nat → Option Nat → Int32 → SG → Option (Int32)
  | 0, _, _, _ => none
  | D + 1, p0, p1, σ => x_X8_countIn_b U (x_X8_countIn U a D) a p0 p1 σ
noncomputable def x_X8_count (U : Nat) (a : Nat) (σ : SG) : Option (Int32) := b1 (x_X8_countIn U a 24 (some 1091) 1 σ) fun v2 => some v2
noncomputable def x_X8_isSpilt (a : Nat) (σ : SG) : Option (Int32) := b1 (x_X0_isSpilt 1092 σ) fun v2 => zb v2 <| some v2
noncomputable def x_X11_settle_61 (U : Nat) (a : Nat) (v1_ : Int32) (v2_ : Int32) (v3_ : Int32) (σ : SG) : Option (mm_R × SG) := 
  if v1_ = 0 then (some (.inr "java/lang/IllegalArgumentException", σ)) else (
  if v3_ = 0 then (some (.inl (some (.int v2_)), σ)) else (some (.inr "java/lang/IllegalStateException", σ)))
noncomputable def x_X11_settle_54 (U : Nat) (a : Nat) (v1_ : Int32) (v2_ : Int32) (v3_ : Int32) (σ : SG) : Option (mm_R × SG) := b1 (x_X8_drop 389 σ) fun σ7 => x_X11_settle_61 U a v1_ v2_ v3_ σ7
noncomputable def x_X11_settle_45 (U : Nat) (a : Nat) (v1_ : Int32) (v2_ : Int32) (s0_ : Int32) (σ : SG) : Option (mm_R × SG) := 
  if v1_ = 0 then (x_X11_settle_54 U a v1_ v2_ s0_ σ) else (
  if s0_ = 0 then (x_X11_settle_61 U a v1_ v2_ s0_ σ) else (x_X11_settle_54 U a v1_ v2_ s0_ σ))
noncomputable def x_X11_settle_40 (U : Nat) (a : Nat) (v1_ : Int32) (v2_ : Int32) (σ : SG) : Option (mm_R × SG) := x_X11_settle_45 U a v1_ v2_ 1 σ
noncomputable def x_X11_settle_22 (U : Nat) (a : Nat) (v1_ : Int32) (s0_ : Int32) (σ : SG) : Option (mm_R × SG) := 
  if 200 < s0_ then (x_X11_settle_40 U a v1_ s0_ σ) else (b1 (x_X8_isSpilt 389 σ) fun v12 => 
  if v12 = 0 then (x_X11_settle_45 U a v1_ s0_ 0 σ) else (x_X11_settle_40 U a v1_ s0_ σ))
noncomputable def x_X11_settle (U : Nat) (a : Nat) (p0 : Int32) (σ : SG) : Option (mm_R × SG) := b1 (x_X0_clear 1 σ) fun σ2 => 
  if p0 = 0 then (x_X11_settle_22 U a p0 0 σ2) else (b1 (x_X8_count U 389 σ2) fun v15 => x_X11_settle_22 U a p0 v15 σ2)
noncomputable def x_X11_decode_27 (U : Nat) (a : Nat) (s0_ : Int32) (σ : SG) : Option (mm_R × SG) := tcI (x_X11_settle U a s0_ σ)
noncomputable def x_X11_decode_26 (U : Nat) (a : Nat) (σ : SG) : Option (mm_R × SG) := x_X11_decode_27 U a 0 σ
noncomputable def x_X11_decode (U : Nat) (a : Nat) (p0 : Int32) (p1 : Int32) (p2 : Int32) (σ : SG) : Option (mm_R × SG) := b2 (x_X11_opens U a p0 p1 p2 σ) fun v2 σ3 => 
  if v2 = 0 then (x_X11_decode_26 U a σ3) else (b2 (x_X9_read U 1094 p2 σ3) fun v8 σ9 => 
  if v8 = 0 then (x_X11_decode_26 U a σ9) else (x_X11_decode_27 U a 1 σ9))
noncomputable def x_X8_isThere (a : Nat) (σ : SG) : Option (Int32) := 
  if (sP σ a 5) = none then (some 0) else (
  if (sP σ a 4) = none then (some 0) else (some 1))
noncomputable def x_X9_writeNumber_53 (U : Nat) (a : Nat) (v2_ : Int64) (σ : SG) : Option (SG) := b1 (x_X0_addVarint U 3 ((lshl9 v2_ 1) ^^^ (lshr9 v2_ 63)) σ) fun σ11 => some σ11
noncomputable def x_X9_writeNumber (U : Nat) (a : Nat) (p0 : Int32) (p1 : Int64) (σ : SG) : Option (SG) := b1 (x_X9_kindOf p0) fun v2 => 
  if v2 = 1 then (b1 (x_X0_addFixed U 3 p1 8 σ) fun σ5 => some σ5) else (
  if v2 = 5 then (b1 (x_X0_addFixed U 3 p1 4 σ) fun σ8 => some σ8) else (
  if p0 = 4 then (x_X9_writeNumber_53 U a p1 σ) else (
  if p0 = 5 then (x_X9_writeNumber_53 U a p1 σ) else (b1 (x_X0_addVarint U 3 p1 σ) fun σ14 => some σ14))))
noncomputable def x_X9_writeRow_L31 (U : Nat) (a : Nat) (k72 : Option Nat → SG → Option (Option Nat × SG)) (v2_ : Option Nat) (v3_ : Int32) : Nat → Option Nat → Option Nat → SG → Option (Option Nat × SG)
  | 0, _, _, _ => none
  | U1 + 1, v4_, v5_, σ => 
  if v5_ = none then (k72 v4_ σ) else (ck 4 v5_ fun q9 => 
  if sP σ q9 0 = v2_ then (ck 3 v2_ fun q13 => b1 (x_X9_writeNumber U a (sI σ q13 8) (sL σ q9 4) σ) fun σ17 => x_X9_writeRow_L31 U a k72 v2_ v3_ U1 v5_ (sP σ17 q9 1) σ17) else (k72 v4_ σ))
noncomputable def x_X9_writeRow_72 (U : Nat) (a : Nat) (v3_ : Int32) (v4_ : Option Nat) (σ : SG) : Option (Option Nat × SG) := b1 (x_X0_insertLength U 3 v3_ σ) fun σ21 => some (v4_, σ21)
noncomputable def x_X9_writeRow (U : Nat) (a : Nat) (p0 : Option Nat) (p1 : Option Nat) (σ : SG) : Option (Option Nat × SG) := ck 3 p1 fun q1 => b1 (x_X0_addVarint U 3 ((lshl9 (sL σ q1 6) 3) ||| 2) σ) fun σ5 => b1 (x_X0_size 3 σ5) fun v7 => x_X9_writeRow_L31 U a (fun w18 σ19 => x_X9_writeRow_72 U a v7 w18 σ19) p1 v7 U p0 p0 σ5
noncomputable def x_X9_writeField_96 (U : Nat) (rc : Option Nat → Int32 → SG → Option (SG)) (a : Nat) (v5_ : Int32) (σ : SG) : Option (SG) := b1 (x_X0_insertLength U 3 v5_ σ) fun σ15 => some σ15
noncomputable def x_X9_writeField (U : Nat) (rc : Option Nat → Int32 → SG → Option (SG)) (a : Nat) (p0 : Option Nat) (p1 : Option Nat) (p2 : Int32) (σ : SG) : Option (SG) := ck 3 p1 fun q1 => b1 (x_X9_kindOf (sI σ q1 8)) fun v5 => b1 (x_X0_addVarint U 3 ((lshl9 (sL σ q1 6) 3) ||| (Int32.toInt64 v5)) σ) fun σ7 => 
  if v5 = 2 then (b1 (x_X0_size 3 σ7) fun v10 => 
  if sI σ7 q1 8 = 13 then (b1 (rc p0 (p2 + 1) σ7) fun σ13 => x_X9_writeField_96 U rc a v10 σ13) else (ck 4 p0 fun q16 => b1 (x_X0_addAll U 3 (some 1092) (sI σ7 q16 5) (sI σ7 q16 6) σ7) fun σ20 => x_X9_writeField_96 U rc a v10 σ20)) else (ck 4 p0 fun q21 => b1 (x_X9_writeNumber U a (sI σ7 q1 8) (sL σ7 q21 4) σ7) fun σ25 => some σ25)
noncomputable def x_X9_writeMessage_91 (U : Nat) (rc : Option Nat → Int32 → SG → Option (SG)) (a : Nat) (k5 : Option Nat → SG → Option (SG)) (v2_ : Int32) (v4_ : Option Nat) (σ : SG) : Option (SG) := ck 4 v4_ fun q12 => k5 (sP σ q12 1) σ
noncomputable def x_X9_writeMessage_L5 (U : Nat) (rc : Option Nat → Int32 → SG → Option (SG)) (a : Nat) (v2_ : Int32) : Nat → Option Nat → SG → Option (SG)
  | 0, _, _ => none
  | U1 + 1, v3_, σ => 
  if v3_ = none then (some σ) else (
  if 20 < v2_ then (some σ) else (ck 4 v3_ fun q6 => 
  if (sP σ q6 0) = none then (b1 (x_X0_addAll U 3 (some 1092) (sI σ q6 5) (sI σ q6 6) σ) fun σ11 => x_X9_writeMessage_91 U rc a (x_X9_writeMessage_L5 U rc a v2_ U1) v2_ v3_ σ11) else (ck 3 (sP σ q6 0) fun q15 => 
  if sI σ q15 12 = 0 then (b1 (x_X4_isNothing q6 σ) fun v20 => 
  if v20 = 0 then (b1 (x_X9_writeField U rc a v3_ (sP σ q6 0) v2_ σ) fun σ23 => x_X9_writeMessage_91 U rc a (x_X9_writeMessage_L5 U rc a v2_ U1) v2_ v3_ σ23) else (x_X9_writeMessage_91 U rc a (x_X9_writeMessage_L5 U rc a v2_ U1) v2_ v3_ σ)) else (b2 (x_X9_writeRow U a v3_ (sP σ q6 0) σ) fun v25 σ26 => x_X9_writeMessage_91 U rc a (x_X9_writeMessage_L5 U rc a v2_ U1) v2_ v25 σ26))))
noncomputable def x_X9_writeMessage_b (U : Nat) (rc : Option Nat → Int32 → SG → Option (SG)) (a : Nat) (p0 : Option Nat) (p1 : Int32) (σ : SG) : Option (SG) := ck 4 p0 fun q1 => x_X9_writeMessage_L5 U rc a p1 U (sP σ q1 2) σ
noncomputable def x_X9_writeMessage (U : Nat) (a : Nat) : Nat → Option Nat → Int32 → SG → Option (SG)
  | 0, _, _, _ => none
  | D + 1, p0, p1, σ => x_X9_writeMessage_b U (x_X9_writeMessage U a D) a p0 p1 σ
noncomputable def x_X9_write (U : Nat) (a : Nat) (σ : SG) : Option (SG) := b1 (x_X9_writeMessage U a 24 (some 1091) 1 σ) fun σ2 => some σ2
noncomputable def x_X11_encode (U : Nat) (a : Nat) (σ : SG) : Option (mm_R × SG) := b1 (x_X0_clear 3 σ) fun σ2 => b1 (x_X8_isThere 389 σ2) fun v4 => 
  if v4 = 0 then (some (.inr "java/lang/IllegalStateException", σ2)) else (b1 (x_X9_write U 1094 σ2) fun σ7 => b1 (x_X0_size 3 σ7) fun v9 => some (.inl (some (.int v9)), σ7))
noncomputable def x_X11_feed_11 (U : Nat) (a : Nat) (σ : SG) : Option (mm_R × SG) := some (.inr "java/lang/IllegalArgumentException", σ)
noncomputable def x_X11_feed_L51 (U : Nat) (a : Nat) (k77 : SG → Option (mm_R × SG)) (v1_ : Int64) : Nat → Int32 → SG → Option (mm_R × SG)
  | 0, _, _ => none
  | U1 + 1, v4_, σ => 
  if v4_ < 0 then (k77 σ) else (b1 (x_X0_add 1 (Int64.toInt32 (lush v1_ (8 * v4_))) σ) fun σ8 => x_X11_feed_L51 U a k77 v1_ U1 (v4_ - 1) σ8)
noncomputable def x_X11_feed (U : Nat) (a : Nat) (p0 : Int64) (p1 : Int32) (σ : SG) : Option (mm_R × SG) := 
  if p1 < 1 then (x_X11_feed_11 U a σ) else (
  if 8 < p1 then (x_X11_feed_11 U a σ) else (b1 (x_X0_size 1 σ) fun v4 => 
  if 700 < v4 + p1 then (some (.inr "java/lang/IllegalStateException", σ)) else (x_X11_feed_L51 U a (fun σ9 => b1 (x_X0_size 1 σ9) fun v11 => some (.inl (some (.int v11)), σ9)) p0 U (p1 - 1) σ)))
noncomputable def x_X3_memberAt_L15 (U : Nat) (a : Nat) (v1_ : Int32) (σ : SG) : Nat → Option Nat → Int32 → Option (Option Nat)
  | 0, _, _ => none
  | U1 + 1, v2_, v3_ => 
  if v3_ < v1_ then (
  if v2_ = none then (some v2_) else (ck 3 v2_ fun q4 => x_X3_memberAt_L15 U a v1_ σ U1 (sP σ q4 16) (v3_ + 1))) else (some v2_)
noncomputable def x_X3_memberAt_12 (U : Nat) (a : Nat) (v1_ : Int32) (s0_ : Option Nat) (σ : SG) : Option (Option Nat) := x_X3_memberAt_L15 U a v1_ σ U s0_ 0
noncomputable def x_X3_memberAt (U : Nat) (a : Nat) (p0 : Int32) (σ : SG) : Option (Option Nat) := 
  if p0 < 0 then (x_X3_memberAt_12 U a p0 none σ) else (x_X3_memberAt_12 U a p0 (sP σ a 15) σ)
noncomputable def x_X11_field_41 (U : Nat) (a : Nat) (σ : SG) : Option (mm_R × SG) := some (.inr "java/lang/IllegalArgumentException", σ)
noncomputable def x_X11_field_23 (U : Nat) (a : Nat) (v4_ : Int32) (s0_ : Option Nat) (σ : SG) : Option (mm_R × SG) := 
  if s0_ = none then (x_X11_field_41 U a σ) else (
  if v4_ < 0 then (x_X11_field_41 U a σ) else (
  if 5 < v4_ then (x_X11_field_41 U a σ) else (
  if v4_ = 0 then (ck 3 s0_ fun q8 => some (.inl (some (.int (Int64.toInt32 (sL σ q8 6)))), σ)) else (
  if v4_ = 1 then (ck 3 s0_ fun q12 => some (.inl (some (.int (sI σ q12 8))), σ)) else (
  if v4_ = 2 then (ck 3 s0_ fun q16 => 
  if (sP σ q16 10) = none then (some (.inl (some (.int (-1))), σ)) else (ck 3 (sP σ q16 10) fun q20 => some (.inl (some (.int (sI σ q20 1))), σ))) else (
  if v4_ = 3 then (ck 3 s0_ fun q24 => 
  if sI σ q24 12 = 0 then (
  if sI σ q24 11 = 0 then (some (.inl (some (.int 0)), σ)) else (some (.inl (some (.int 1)), σ))) else (some (.inl (some (.int 2)), σ))) else (
  if v4_ = 4 then (ck 3 s0_ fun q30 => 
  if (sP σ q30 3) = none then (some (.inl (some (.int (-1))), σ)) else (ck 3 (sP σ q30 3) fun q34 => some (.inl (some (.int (sI σ q34 1))), σ))) else (ck 3 s0_ fun q37 => some (.inl (some (.int ((sI σ q37 5) - (sI σ q37 4)))), σ)))))))))
noncomputable def x_X11_field (U : Nat) (a : Nat) (p0 : Int32) (p1 : Int32) (p2 : Int32) (p3 : Int32) (σ : SG) : Option (mm_R × SG) := b1 (x_X11_messageOf U a p0 p1 σ) fun v2 => 
  if v2 = none then (x_X11_field_23 U a p3 none σ) else (ck 3 v2 fun q40 => b1 (x_X3_memberAt U q40 p2 σ) fun v44 => x_X11_field_23 U a p3 v44 σ)
noncomputable def x_X6_isFullName_L8 (U : Nat) (a : Nat) (k66 : Int32 → Option (Int32)) (v2_ : Option Nat) (σ : SG) : Nat → Int32 → Option Nat → Option (Int32)
  | 0, _, _ => none
  | U1 + 1, v3_, v4_ => 
  if v4_ = none then (some 0) else (ck 3 v4_ fun q7 => 
  if v3_ - ((sI σ q7 5) - (sI σ q7 4)) < 0 then (some 0) else (ck 0 v2_ fun q11 => b1 (x_X0_isSame U q11 (v3_ - ((sI σ q7 5) - (sI σ q7 4))) (some (a + 1)) (sI σ q7 4) (sI σ q7 5) σ) fun v15 => 
  if v15 = 0 then (some 0) else (
  if (sP σ q7 2) = none then (k66 (v3_ - ((sI σ q7 5) - (sI σ q7 4)))) else (b1 (x_X0_at q11 ((v3_ - ((sI σ q7 5) - (sI σ q7 4))) - 1) σ) fun v19 => 
  if v19 = 46 then (x_X6_isFullName_L8 U a k66 v2_ σ U1 ((v3_ - ((sI σ q7 5) - (sI σ q7 4))) - 1) (sP σ q7 2)) else (some 0)))))
noncomputable def x_X6_isFullName (U : Nat) (a : Nat) (p0 : Option Nat) (p1 : Option Nat) (σ : SG) : Option (Int32) := ck 0 p1 fun q1 => b1 (x_X0_size q1 σ) fun v5 => x_X6_isFullName_L8 U a (fun w21 => 
  if w21 = 0 then (some 1) else (some 0)) p1 σ U v5 p0
noncomputable def x_X6_numberOf_61 (U : Nat) (a : Nat) (k2 : Int32 → Option (Int32)) (k36 : Option Nat → Option (Int32)) (v1_ : Option Nat) (v2_ : Int32) (σ : SG) : Option (Int32) := k2 (v2_ + 1)
noncomputable def x_X6_numberOf_L2 (U : Nat) (a : Nat) (k36 : Option Nat → Option (Int32)) (v1_ : Option Nat) (σ : SG) : Nat → Int32 → Option (Int32)
  | 0, _ => none
  | U1 + 1, v2_ => 
  if v2_ < sI σ a 3 then (b1 (x_X6_item a v2_ σ) fun v3 => 
  if v3 = none then (x_X6_numberOf_61 U a (x_X6_numberOf_L2 U a k36 v1_ σ U1) k36 v1_ v2_ σ) else (ck 3 v3 fun q5 => b1 (x_X3_isType q5 σ) fun v9 => 
  if v9 = 0 then (x_X6_numberOf_61 U a (x_X6_numberOf_L2 U a k36 v1_ σ U1) k36 v1_ v2_ σ) else (b1 (x_X6_isFullName U a v3 v1_ σ) fun v12 => 
  if v12 = 0 then (x_X6_numberOf_61 U a (x_X6_numberOf_L2 U a k36 v1_ σ U1) k36 v1_ v2_ σ) else (k36 v3)))) else (some (-1))
noncomputable def x_X6_numberOf (U : Nat) (a : Nat) (p0 : Option Nat) (σ : SG) : Option (Int32) := x_X6_numberOf_L2 U a (fun w14 => ck 3 w14 fun q15 => 
  if sI σ q15 0 = 0 then (some (sI σ q15 1)) else (b1 (x_X6_count a 0 σ) fun v20 => some (v20 + (sI σ q15 1)))) p0 σ U 0
noncomputable def x_X11_find_25 (U : Nat) (a : Nat) (v2_ : Option Nat) (s0_ : Int32) (σ : SG) : Option (mm_R × SG) := b1 (x_X0_clear 1 σ) fun σ5 => 
  if v2_ = none then (some (.inr "java/lang/IllegalArgumentException", σ5)) else (some (.inl (some (.int s0_)), σ5))
noncomputable def x_X11_find (U : Nat) (a : Nat) (p0 : Int32) (σ : SG) : Option (mm_R × SG) := b1 (x_X11_compilerOf a p0 σ) fun v2 => 
  if v2 = none then (x_X11_find_25 U a v2 (-1) σ) else (ck 2 v2 fun q7 => b1 (x_X2_schema q7 σ) fun v11 => ck 6 v11 fun q12 => b1 (x_X6_numberOf U q12 (some 1) σ) fun v16 => x_X11_find_25 U a v2 v16 σ)
noncomputable def x_X11_many_19 (a : Nat) (σ : SG) : Option (mm_R × SG) := some (.inr "java/lang/IllegalArgumentException", σ)
noncomputable def x_X11_many_47 (a : Nat) (v3_ : Option Nat) (s0_ : Int32) (σ : SG) : Option (mm_R × SG) := ck 2 v3_ fun q7 => b1 (x_X2_schema q7 σ) fun v11 => ck 6 v11 fun q12 => b1 (x_X6_count q12 s0_ σ) fun v16 => some (.inl (some (.int v16)), σ)
noncomputable def x_X11_many (a : Nat) (p0 : Int32) (p1 : Int32) (σ : SG) : Option (mm_R × SG) := b1 (x_X11_compilerOf a p0 σ) fun v2 => 
  if v2 = none then (x_X11_many_19 a σ) else (
  if p1 < 0 then (x_X11_many_19 a σ) else (
  if 2 < p1 then (x_X11_many_19 a σ) else (
  if p1 = 0 then (x_X11_many_47 a v2 0 σ) else (
  if p1 = 1 then (x_X11_many_47 a v2 1 σ) else (x_X11_many_47 a v2 2 σ)))))
noncomputable def x_X11_out_15 (U : Nat) (a : Nat) (σ : SG) : Option (mm_R × SG) := some (.inr "java/lang/IndexOutOfBoundsException", σ)
noncomputable def x_X11_out_L30 (U : Nat) (a : Nat) (v1_ : Int32) (σ : SG) : Nat → Int64 → Int32 → Option (mm_R × SG)
  | 0, _, _ => none
  | U1 + 1, v2_, v4_ => 
  if v4_ < v1_ + 8 then (b1 (x_X0_at 3 v4_ σ) fun v7 => x_X11_out_L30 U a v1_ σ U1 ((lshl9 v2_ 8) ||| (Int32.toInt64 (if v7 < 0 then 0 else v7))) (v4_ + 1)) else (some (.inl (some (.long v2_)), σ))
noncomputable def x_X11_out (U : Nat) (a : Nat) (p0 : Int32) (σ : SG) : Option (mm_R × SG) := 
  if p0 < 0 then (x_X11_out_15 U a σ) else (b1 (x_X0_size 3 σ) fun v3 => 
  if p0 < v3 then (x_X11_out_L30 U a p0 σ U 0 p0) else (x_X11_out_15 U a σ))
noncomputable def x_X7_skipBlanks_67 (U : Nat) (a : Nat) (k2 : Int32 → SG → Option (SG)) (s0_ : Int32) (σ : SG) : Option (SG) := sb (uI σ a 4 ((sI σ a 4) + 1)) fun σ12 => k2 s0_ σ12
noncomputable def x_X7_skipBlanks_66 (U : Nat) (a : Nat) (k2 : Int32 → SG → Option (SG)) (σ : SG) : Option (SG) := x_X7_skipBlanks_67 U a k2 0 σ
noncomputable def x_X7_skipBlanks_62 (U : Nat) (a : Nat) (k2 : Int32 → SG → Option (SG)) (σ : SG) : Option (SG) := x_X7_skipBlanks_67 U a k2 1 σ
noncomputable def x_X7_skipBlanks_46 (U : Nat) (a : Nat) (k2 : Int32 → SG → Option (SG)) (v1_ : Int32) (v2_ : Int32) (σ : SG) : Option (SG) := 
  if v2_ = 10 then (x_X7_skipBlanks_66 U a k2 σ) else (
  if v1_ = 0 then (
  if v2_ = 35 then (x_X7_skipBlanks_62 U a k2 σ) else (x_X7_skipBlanks_66 U a k2 σ)) else (x_X7_skipBlanks_62 U a k2 σ))
noncomputable def x_X7_skipBlanks_L2 (U : Nat) (a : Nat) : Nat → Int32 → SG → Option (SG)
  | 0, _, _ => none
  | U1 + 1, v1_, σ => b1 (x_X0_size 1 σ) fun v2 => 
  if sI σ a 4 < v2 then (b1 (x_X0_at 1 (sI σ a 4) σ) fun v5 => 
  if v1_ = 0 then (b1 (x_X11_isBlank v5) fun v8 => 
  if v8 = 0 then (
  if v5 = 35 then (x_X7_skipBlanks_46 U a (x_X7_skipBlanks_L2 U a U1) v1_ v5 σ) else (some σ)) else (x_X7_skipBlanks_46 U a (x_X7_skipBlanks_L2 U a U1) v1_ v5 σ)) else (x_X7_skipBlanks_46 U a (x_X7_skipBlanks_L2 U a U1) v1_ v5 σ)) else (some σ)
noncomputable def x_X7_skipBlanks (U : Nat) (a : Nat) (σ : SG) : Option (SG) := x_X7_skipBlanks_L2 U a U 0 σ
noncomputable def x_X7_skipWord_L0 (U : Nat) (a : Nat) : Nat → SG → Option (SG)
  | 0, _ => none
  | U1 + 1, σ => b1 (x_X0_size 1 σ) fun v2 => 
  if sI σ a 4 < v2 then (b1 (x_X0_at 1 (sI σ a 4) σ) fun v5 => b1 (x_X11_isWordByte v5 σ) fun v7 => 
  if v7 = 0 then (some σ) else (sb (uI σ a 4 ((sI σ a 4) + 1)) fun σ9 => x_X7_skipWord_L0 U a U1 σ9)) else (some σ)
noncomputable def x_X7_skipWord (U : Nat) (a : Nat) (σ : SG) : Option (SG) := x_X7_skipWord_L0 U a U σ
noncomputable def x_X6_memberCalled_48 (U : Nat) (a : Nat) (k6 : Option Nat → Option (Option Nat)) (v2_ : Option Nat) (v3_ : Int32) (v4_ : Int32) (v5_ : Option Nat) (σ : SG) : Option (Option Nat) := ck 3 v5_ fun q12 => k6 (sP σ q12 16)
noncomputable def x_X6_memberCalled_L6 (U : Nat) (a : Nat) (v2_ : Option Nat) (v3_ : Int32) (v4_ : Int32) (σ : SG) : Nat → Option Nat → Option (Option Nat)
  | 0, _ => none
  | U1 + 1, v5_ => 
  if v5_ = none then (some v5_) else (ck 3 v5_ fun q5 => 
  if (sI σ q5 5) - (sI σ q5 4) = v4_ - v3_ then (b1 (x_X0_isSame U (a + 1) (sI σ q5 4) v2_ v3_ v4_ σ) fun v10 => 
  if v10 = 0 then (x_X6_memberCalled_48 U a (x_X6_memberCalled_L6 U a v2_ v3_ v4_ σ U1) v2_ v3_ v4_ v5_ σ) else (some v5_)) else (x_X6_memberCalled_48 U a (x_X6_memberCalled_L6 U a v2_ v3_ v4_ σ U1) v2_ v3_ v4_ v5_ σ))
noncomputable def x_X6_memberCalled (U : Nat) (a : Nat) (p0 : Option Nat) (p1 : Option Nat) (p2 : Int32) (p3 : Int32) (σ : SG) : Option (Option Nat) := ck 3 p0 fun q1 => x_X6_memberCalled_L6 U a p1 p2 p3 σ U (sP σ q1 15)
noncomputable def x_X8_isTaken_51 (U : Nat) (a : Nat) (k14 : Option Nat → Option (Int32)) (v2_ : Option Nat) (v3_ : Option Nat) (s0_ : Int32) (σ : SG) : Option (Int32) := ck 4 v3_ fun q13 => 
  if sP σ q13 0 = v2_ then (some 1) else (
  if s0_ = 0 then (k14 (sP σ q13 1)) else (some 1))
noncomputable def x_X8_isTaken_50 (U : Nat) (a : Nat) (k14 : Option Nat → Option (Int32)) (v2_ : Option Nat) (v3_ : Option Nat) (σ : SG) : Option (Int32) := x_X8_isTaken_51 U a k14 v2_ v3_ 0 σ
noncomputable def x_X8_isTaken_L14 (U : Nat) (a : Nat) (v2_ : Option Nat) (σ : SG) : Nat → Option Nat → Option (Int32)
  | 0, _ => none
  | U1 + 1, v3_ => 
  if v3_ = none then (some 0) else (ck 4 v3_ fun q9 => 
  if (sP σ q9 0) = none then (x_X8_isTaken_50 U a (x_X8_isTaken_L14 U a v2_ σ U1) v2_ v3_ σ) else (ck 3 v2_ fun q18 => 
  if (sP σ q18 3) = none then (x_X8_isTaken_50 U a (x_X8_isTaken_L14 U a v2_ σ U1) v2_ v3_ σ) else (ck 3 (sP σ q9 0) fun q22 => 
  if sP σ q22 3 = sP σ q18 3 then (x_X8_isTaken_51 U a (x_X8_isTaken_L14 U a v2_ σ U1) v2_ v3_ 1 σ) else (x_X8_isTaken_50 U a (x_X8_isTaken_L14 U a v2_ σ U1) v2_ v3_ σ))))
noncomputable def x_X8_isTaken (U : Nat) (a : Nat) (p0 : Option Nat) (p1 : Option Nat) (σ : SG) : Option (Int32) := ck 3 p1 fun q1 => 
  if sI σ q1 11 = 0 then (ck 4 p0 fun q5 => x_X8_isTaken_L14 U a p1 σ U (sP σ q5 2)) else (some 0)
noncomputable def x_X7_readEscape_L14 (U : Nat) (a : Nat) (k42 : Int32 → Option (Int32 × SG)) (k65 : Option (Int32 × SG)) (v1_ : Int32) (σ : SG) : Nat → Int32 → Option (Int32 × SG)
  | 0, _ => none
  | U1 + 1, v2_ => 
  if v2_ < nI (tlen 10) then (
  if v2_ < nI (tlen 11) then (ix v2_ (tlen 10) fun j5 => 
  if tchr 10 j5 = v1_ then (k42 v2_) else (x_X7_readEscape_L14 U a k42 k65 v1_ σ U1 (v2_ + 1))) else (k65)) else (k65)
noncomputable def x_X7_readEscape_L69 (U : Nat) (a : Nat) (k128 : Int32 → SG → Option (Int32 × SG)) : Nat → Int32 → Int32 → SG → Option (Int32 × SG)
  | 0, _, _, _ => none
  | U1 + 1, v2_, v3_, σ => 
  if v3_ < 3 then (b1 (x_X0_at 1 (sI σ a 4) σ) fun v18 => 
  if v18 - 48 < 0 then (some ((-1), σ)) else (
  if 7 < v18 - 48 then (some ((-1), σ)) else (sb (uI σ a 4 ((sI σ a 4) + 1)) fun σ21 => x_X7_readEscape_L69 U a k128 U1 ((v2_ * 8) + (v18 - 48)) (v3_ + 1) σ21))) else (k128 v2_ σ)
noncomputable def x_X7_readEscape_65 (U : Nat) (a : Nat) (σ : SG) : Option (Int32 × SG) := x_X7_readEscape_L69 U a (fun w22 σ23 => 
  if 255 < w22 then (some ((-1), σ23)) else (some (w22, σ23))) U 0 0 σ
noncomputable def x_X7_readEscape (U : Nat) (a : Nat) (σ : SG) : Option (Int32 × SG) := b1 (x_X0_at 1 (sI σ a 4) σ) fun v2 => x_X7_readEscape_L14 U a (fun w10 => sb (uI σ a 4 ((sI σ a 4) + 1)) fun σ11 => ix w10 (tlen 11) fun j12 => some (tchr 11 j12, σ11)) (x_X7_readEscape_65 U a σ) v2 σ U 0
noncomputable def x_X7_readText_136 (U : Nat) (a : Nat) (k50 : SG → Option (Int32 × SG)) (k160 : SG → Option (Int32 × SG)) (v1_ : Option Nat) (v2_ : Int32) (v3_ : Int32) (s0_ : Int32) (σ : SG) : Option (Int32 × SG) := 
  if s0_ < 0 then (some (0, σ)) else (b1 (x_X0_add 1092 s0_ σ) fun σ26 => k50 σ26)
noncomputable def x_X7_readText_135 (U : Nat) (a : Nat) (k50 : SG → Option (Int32 × SG)) (k160 : SG → Option (Int32 × SG)) (v1_ : Option Nat) (v2_ : Int32) (v3_ : Int32) (σ : SG) : Option (Int32 × SG) := x_X7_readText_136 U a k50 k160 v1_ v2_ v3_ (-1) σ
noncomputable def x_X7_readText_L50 (U : Nat) (a : Nat) (k160 : SG → Option (Int32 × SG)) (v1_ : Option Nat) (v2_ : Int32) (v3_ : Int32) : Nat → SG → Option (Int32 × SG)
  | 0, _ => none
  | U1 + 1, σ => b1 (x_X0_size 1 σ) fun v12 => 
  if sI σ a 4 < v12 then (b1 (x_X0_at 1 (sI σ a 4) σ) fun v15 => 
  if v15 = v3_ then (k160 σ) else (b1 (x_X0_at 1 (sI σ a 4) σ) fun v18 => sb (uI σ a 4 ((sI σ a 4) + 1)) fun σ19 => 
  if v18 = 92 then (b2 (x_X7_readEscape U a σ19) fun v22 σ23 => x_X7_readText_136 U a (x_X7_readText_L50 U a k160 v1_ v2_ v3_ U1) k160 v1_ v2_ v3_ v22 σ23) else (
  if v18 < 32 then (x_X7_readText_135 U a (x_X7_readText_L50 U a k160 v1_ v2_ v3_ U1) k160 v1_ v2_ v3_ σ19) else (
  if 126 < v18 then (x_X7_readText_135 U a (x_X7_readText_L50 U a k160 v1_ v2_ v3_ U1) k160 v1_ v2_ v3_ σ19) else (x_X7_readText_136 U a (x_X7_readText_L50 U a k160 v1_ v2_ v3_ U1) k160 v1_ v2_ v3_ v18 σ19))))) else (k160 σ)
noncomputable def x_X7_readText_193 (U : Nat) (a : Nat) (v1_ : Option Nat) (v2_ : Int32) (s0_ : Int32) (σ : SG) : Option (Int32 × SG) := sb (uI σ a 4 ((sI σ a 4) + 1)) fun σ39 => 
  if s0_ = 0 then (some (0, σ39)) else (
  if v2_ = 11 then (ck 4 v1_ fun q42 => b1 (x_X0_isUtf8 U 1092 (sI σ39 q42 5) (sI σ39 q42 6) σ39) fun v46 => 
  if v46 = 0 then (some (0, σ39)) else (some (1, σ39))) else (some (1, σ39)))
noncomputable def x_X7_readText_160 (U : Nat) (a : Nat) (v1_ : Option Nat) (v2_ : Int32) (σ : SG) : Option (Int32 × SG) := b1 (x_X0_size 1092 σ) fun v31 => ck 4 v1_ fun q32 => sb (uI σ q32 6 v31) fun σ35 => b1 (x_X0_size 1 σ35) fun v37 => 
  if sI σ35 a 4 < v37 then (x_X7_readText_193 U a v1_ v2_ 1 σ35) else (x_X7_readText_193 U a v1_ v2_ 0 σ35)
noncomputable def x_X7_readText_26 (U : Nat) (a : Nat) (v1_ : Option Nat) (v2_ : Int32) (v3_ : Int32) (σ : SG) : Option (Int32 × SG) := sb (uI σ a 4 ((sI σ a 4) + 1)) fun σ4 => b1 (x_X0_size 1092 σ4) fun v6 => ck 4 v1_ fun q7 => sb (uI σ4 q7 5 v6) fun σ10 => x_X7_readText_L50 U a (fun σ29 => x_X7_readText_160 U a v1_ v2_ σ29) v1_ v2_ v3_ U σ10
noncomputable def x_X7_readText (U : Nat) (a : Nat) (p0 : Option Nat) (p1 : Int32) (σ : SG) : Option (Int32 × SG) := b1 (x_X0_at 1 (sI σ a 4) σ) fun v2 => 
  if v2 = 34 then (x_X7_readText_26 U a p0 p1 v2 σ) else (
  if v2 = 39 then (x_X7_readText_26 U a p0 p1 v2 σ) else (some (0, σ)))
noncomputable def x_X7_readBool (U : Nat) (a : Nat) (σ : SG) : Option (Int32 × SG) := b1 (x_X7_skipWord U a σ) fun σ2 => b1 (x_X0_wordIn U 1 12 (sI σ a 4) (sI σ2 a 4) σ2) fun v4 => sb (uL σ2 a 6 (Int32.toInt64 v4)) fun σ5 => 
  if sL σ5 a 6 < 0 then (some (0, σ5)) else (some (1, σ5))
noncomputable def x_X7_readEnumName (U : Nat) (a : Nat) (p0 : Option Nat) (σ : SG) : Option (Int32 × SG) := b1 (x_X7_skipWord U a σ) fun σ2 => 
  if p0 = none then (some (0, σ2)) else (
  if (sP σ2 389 4) = none then (some (0, σ2)) else (ck 6 (sP σ2 389 4) fun q5 => b1 (x_X6_memberCalled U q5 p0 (some 1) (sI σ a 4) (sI σ2 a 4) σ2) fun v9 => 
  if v9 = none then (some (0, σ2)) else (ck 3 v9 fun q11 => sb (uL σ2 a 6 (sL σ2 q11 6)) fun σ14 => some (1, σ14))))
noncomputable def x_X7_isInRange_97 (s0_ : Int64) (s1_ : Int64) (σ : SG) : Option (Int32) := 
  if s0_ < s1_ then (some 0) else (some 1)
noncomputable def x_X7_isInRange_149 (s0_ : Int64) (s1_ : Int64) (σ : SG) : Option (Int32) := 
  if s0_ < s1_ then (some 0) else (some 1)
noncomputable def x_X7_isInRange_11 (v0_ : Int32) (v1_ : Int32) (v2_ : Int64) (s0_ : Int32) (σ : SG) : Option (Int32) := 
  if v0_ = 1 then (
  if s0_ = 0 then (
  if v1_ = 0 then (some 0) else (
  if v2_ = (-9223372036854775808) then (some 1) else (some 0))) else (some 1)) else (
  if v0_ = 2 then (
  if s0_ = 0 then (some 0) else (
  if v1_ = 0 then (x_X7_isInRange_97 4294967295 v2_ σ) else (x_X7_isInRange_97 0 v2_ σ))) else (
  if v0_ = 3 then (
  if v1_ = 0 then (some 1) else (
  if v2_ = 0 then (some 1) else (some 0))) else (
  if v0_ = 4 then (
  if s0_ = 0 then (some 0) else (
  if v1_ = 0 then (x_X7_isInRange_149 2147483647 v2_ σ) else (x_X7_isInRange_149 2147483648 v2_ σ))) else (
  if v0_ = 5 then (
  if s0_ = 0 then (
  if v1_ = 0 then (some 0) else (
  if v2_ = (-9223372036854775808) then (some 1) else (some 0))) else (some 1)) else (
  if v0_ = 6 then (
  if s0_ = 0 then (some 0) else (
  if v1_ = 0 then (x_X7_isInRange_97 4294967295 v2_ σ) else (x_X7_isInRange_97 0 v2_ σ))) else (
  if v0_ = 7 then (
  if v1_ = 0 then (some 1) else (
  if v2_ = 0 then (some 1) else (some 0))) else (
  if v0_ = 8 then (
  if s0_ = 0 then (some 0) else (
  if v1_ = 0 then (x_X7_isInRange_149 2147483647 v2_ σ) else (x_X7_isInRange_149 2147483648 v2_ σ))) else (
  if v0_ = 9 then (
  if s0_ = 0 then (
  if v1_ = 0 then (some 0) else (
  if v2_ = (-9223372036854775808) then (some 1) else (some 0))) else (some 1)) else (
  if s0_ = 0 then (some 0) else (
  if v1_ = 0 then (x_X7_isInRange_149 2147483647 v2_ σ) else (x_X7_isInRange_149 2147483648 v2_ σ)))))))))))
noncomputable def x_X7_isInRange (p0 : Int32) (p1 : Int32) (p2 : Int64) (σ : SG) : Option (Int32) := 
  if p2 < 0 then (x_X7_isInRange_11 p0 p1 p2 0 σ) else (x_X7_isInRange_11 p0 p1 p2 1 σ)
noncomputable def x_X7_readNumber_139 (U : Nat) (a : Nat) (k44 : Int64 → SG → Option (Int32 × SG)) (k164 : Int64 → SG → Option (Int32 × SG)) (v1_ : Int32) (v2_ : Int32) (v3_ : Int32) (v4_ : Int64) (v6_ : Int32) (σ : SG) : Option (Int32 × SG) := sb (uI σ a 4 ((sI σ a 4) + 1)) fun σ20 => k44 ((v4_ * 10) + (Int32.toInt64 v6_)) σ20
noncomputable def x_X7_readNumber_L44 (U : Nat) (a : Nat) (k164 : Int64 → SG → Option (Int32 × SG)) (v1_ : Int32) (v2_ : Int32) (v3_ : Int32) : Nat → Int64 → SG → Option (Int32 × SG)
  | 0, _, _ => none
  | U1 + 1, v4_, σ => b1 (x_X0_size 1 σ) fun v6 => 
  if sI σ a 4 < v6 then (b1 (x_X0_at 1 (sI σ a 4) σ) fun v9 => 
  if v9 < 48 then (k164 v4_ σ) else (b1 (x_X0_at 1 (sI σ a 4) σ) fun v12 => 
  if 57 < v12 then (k164 v4_ σ) else (b1 (x_X0_at 1 (sI σ a 4) σ) fun v15 => 
  if v4_ < 0 then (some (0, σ)) else (
  if 1844674407370955161 < v4_ then (some (0, σ)) else (
  if v4_ = 1844674407370955161 then (
  if 5 < v15 - 48 then (some (0, σ)) else (x_X7_readNumber_139 U a (x_X7_readNumber_L44 U a k164 v1_ v2_ v3_ U1) k164 v1_ v2_ v3_ v4_ (v15 - 48) σ)) else (x_X7_readNumber_139 U a (x_X7_readNumber_L44 U a k164 v1_ v2_ v3_ U1) k164 v1_ v2_ v3_ v4_ (v15 - 48) σ)))))) else (k164 v4_ σ)
noncomputable def x_X7_readNumber_214 (U : Nat) (a : Nat) (s0_ : Int64) (σ : SG) : Option (Int32 × SG) := sb (uL σ a 6 s0_) fun σ33 => some (1, σ33)
noncomputable def x_X7_readNumber_164 (U : Nat) (a : Nat) (v1_ : Int32) (v2_ : Int32) (v3_ : Int32) (v4_ : Int64) (σ : SG) : Option (Int32 × SG) := 
  if sI σ a 4 = v3_ then (some (0, σ)) else (b1 (x_X0_at 1 (sI σ a 4) σ) fun v25 => b1 (x_X11_isWordByte v25 σ) fun v27 => 
  if v27 = 0 then (b1 (x_X7_isInRange v1_ v2_ v4_ σ) fun v30 => 
  if v30 = 0 then (some (0, σ)) else (
  if v2_ = 0 then (x_X7_readNumber_214 U a v4_ σ) else (x_X7_readNumber_214 U a (-v4_) σ))) else (some (0, σ)))
noncomputable def x_X7_readNumber_36 (U : Nat) (a : Nat) (v1_ : Int32) (v2_ : Int32) (σ : SG) : Option (Int32 × SG) := x_X7_readNumber_L44 U a (fun w21 σ22 => x_X7_readNumber_164 U a v1_ v2_ (sI σ a 4) w21 σ22) v1_ v2_ (sI σ a 4) U 0 σ
noncomputable def x_X7_readNumber_21 (U : Nat) (a : Nat) (v1_ : Int32) (s0_ : Int32) (σ : SG) : Option (Int32 × SG) := 
  if s0_ = 0 then (x_X7_readNumber_36 U a v1_ s0_ σ) else (sb (uI σ a 4 ((sI σ a 4) + 1)) fun σ34 => x_X7_readNumber_36 U a v1_ s0_ σ34)
noncomputable def x_X7_readNumber (U : Nat) (a : Nat) (p0 : Int32) (σ : SG) : Option (Int32 × SG) := b1 (x_X0_at 1 (sI σ a 4) σ) fun v2 => 
  if v2 = 45 then (x_X7_readNumber_21 U a p0 1 σ) else (x_X7_readNumber_21 U a p0 0 σ)
noncomputable def x_X7_readValue_84 (U : Nat) (a : Nat) (v1_ : Option Nat) (v3_ : Int32) (σ : SG) : Option (Int32 × SG) := ck 4 v1_ fun q15 => sb (uL σ q15 4 (sL σ a 6)) fun σ18 => zb v3_ <| some (v3_, σ18)
noncomputable def x_X7_readValue_75 (U : Nat) (a : Nat) (v1_ : Option Nat) (v2_ : Option Nat) (σ : SG) : Option (Int32 × SG) := ck 3 v2_ fun q26 => b2 (x_X7_readNumber U a (sI σ q26 8) σ) fun v30 σ31 => x_X7_readValue_84 U a v1_ v30 σ31
noncomputable def x_X7_readValue (U : Nat) (a : Nat) (p0 : Option Nat) (p1 : Option Nat) (σ : SG) : Option (Int32 × SG) := ck 3 p1 fun q1 => b1 (x_X11_isNumeric (sI σ q1 8)) fun v5 => 
  if v5 = 0 then (b2 (x_X7_readText U a p0 (sI σ q1 8) σ) fun v8 σ9 => zb v8 <| some (v8, σ9)) else (
  if sI σ q1 8 = 10 then (b2 (x_X7_readBool U a σ) fun v13 σ14 => x_X7_readValue_84 U a p0 v13 σ14) else (
  if sI σ q1 8 = 14 then (b1 (x_X0_at 1 (sI σ a 4) σ) fun v22 => b1 (x_X11_isLetter v22 σ) fun v24 => 
  if v24 = 0 then (x_X7_readValue_75 U a p0 p1 σ) else (b2 (x_X7_readEnumName U a (sP σ q1 10) σ) fun v33 σ34 => x_X7_readValue_84 U a p0 v33 σ34)) else (x_X7_readValue_75 U a p0 p1 σ)))
noncomputable def x_X7_readField_99 (U : Nat) (rc : Option Nat → Option Nat → Int32 → SG → Option (Int32 × SG)) (a : Nat) (v1_ : Option Nat) (v3_ : Int32) (v5_ : Option Nat) (s0_ : Int32) (s1_ : Int32) (σ : SG) : Option (Int32 × SG) := 
  if s1_ = s0_ then (sb (uI σ a 4 ((sI σ a 4) + 1)) fun σ17 => b2 (x_X8_put U 389 v1_ v5_ σ17) fun v19 σ20 => 
  if v19 = none then (some (0, σ20)) else (ck 3 v5_ fun q22 => 
  if sI σ20 q22 8 = 13 then (b2 (rc v19 (sP σ20 q22 10) (v3_ + 1) σ20) fun v27 σ28 => zb v27 <| some (v27, σ28)) else (b1 (x_X7_skipBlanks U a σ20) fun σ31 => b2 (x_X7_readValue U a v19 v5_ σ31) fun v33 σ34 => zb v33 <| some (v33, σ34)))) else (some (0, σ))
noncomputable def x_X7_readField_45 (U : Nat) (rc : Option Nat → Option Nat → Int32 → SG → Option (Int32 × SG)) (a : Nat) (v1_ : Option Nat) (v3_ : Int32) (s0_ : Option Nat) (σ : SG) : Option (Int32 × SG) := 
  if s0_ = none then (some (0, σ)) else (b1 (x_X8_isTaken U 389 v1_ s0_ σ) fun v6 => 
  if v6 = 0 then (b1 (x_X7_skipBlanks U a σ) fun σ9 => b1 (x_X0_at 1 (sI σ9 a 4) σ9) fun v11 => ck 3 s0_ fun q12 => 
  if sI σ9 q12 8 = 13 then (x_X7_readField_99 U rc a v1_ v3_ s0_ 123 v11 σ9) else (x_X7_readField_99 U rc a v1_ v3_ s0_ 58 v11 σ9)) else (some (0, σ)))
noncomputable def x_X7_readField (U : Nat) (rc : Option Nat → Option Nat → Int32 → SG → Option (Int32 × SG)) (a : Nat) (p0 : Option Nat) (p1 : Option Nat) (p2 : Int32) (σ : SG) : Option (Int32 × SG) := b1 (x_X7_skipWord U a σ) fun σ2 => 
  if (sP σ2 389 4) = none then (x_X7_readField_45 U rc a p0 p2 none σ2) else (ck 6 (sP σ2 389 4) fun q36 => b1 (x_X6_memberCalled U q36 p1 (some 1) (sI σ a 4) (sI σ2 a 4) σ2) fun v40 => x_X7_readField_45 U rc a p0 p2 v40 σ2)
noncomputable def x_X7_readMessage_L17 (U : Nat) (rc : Option Nat → Option Nat → Int32 → SG → Option (Int32 × SG)) (a : Nat) (k47 : SG → Option (Int32 × SG)) (k65 : SG → Option (Int32 × SG)) (v1_ : Option Nat) (v2_ : Option Nat) (v3_ : Int32) : Nat → Int32 → SG → Option (Int32 × SG)
  | 0, _, _ => none
  | U1 + 1, v4_, σ => 
  if 700 < v4_ then (some (0, σ)) else (b1 (x_X7_skipBlanks U a σ) fun σ5 => b1 (x_X0_at 1 (sI σ5 a 4) σ5) fun v7 => 
  if v7 < 0 then (k47 σ5) else (
  if v7 = 125 then (k65 σ5) else (b2 (x_X7_readField U rc a v1_ v2_ v3_ σ5) fun v11 σ12 => 
  if v11 = 0 then (some (0, σ12)) else (x_X7_readMessage_L17 U rc a k47 k65 v1_ v2_ v3_ U1 (v4_ + 1) σ12))))
noncomputable def x_X7_readMessage_b (U : Nat) (rc : Option Nat → Option Nat → Int32 → SG → Option (Int32 × SG)) (a : Nat) (p0 : Option Nat) (p1 : Option Nat) (p2 : Int32) (σ : SG) : Option (Int32 × SG) := 
  if p1 = none then (some (0, σ)) else (
  if sI σ a 5 < p2 then (some (0, σ)) else (x_X7_readMessage_L17 U rc a (fun σ14 => 
  if p2 = 1 then (some (1, σ14)) else (some (0, σ14))) (fun σ16 => sb (uI σ16 a 4 ((sI σ16 a 4) + 1)) fun σ17 => 
  if 1 < p2 then (some (1, σ17)) else (some (0, σ17))) p0 p1 p2 U 0 σ))
noncomputable def x_X7_readMessage (U : Nat) (a : Nat) : Nat → Option Nat → Option Nat → Int32 → SG → Option (Int32 × SG)
  | 0, _, _, _, _ => none
  | D + 1, p0, p1, p2, σ => x_X7_readMessage_b U (x_X7_readMessage U a D) a p0 p1 p2 σ
noncomputable def x_X7_read (U : Nat) (a : Nat) (p0 : Int32) (σ : SG) : Option (Int32 × SG) := sb (uI σ a 4 0) fun σ1 => sb (uI σ1 a 5 p0) fun σ2 => b2 (x_X7_readMessage U a 24 (some 1091) (sP σ2 389 5) 1 σ2) fun v4 σ5 => zb v4 <| some (v4, σ5)
noncomputable def x_X11_parse_27 (U : Nat) (a : Nat) (s0_ : Int32) (σ : SG) : Option (mm_R × SG) := tcI (x_X11_settle U a s0_ σ)
noncomputable def x_X11_parse_26 (U : Nat) (a : Nat) (σ : SG) : Option (mm_R × SG) := x_X11_parse_27 U a 0 σ
noncomputable def x_X11_parse (U : Nat) (a : Nat) (p0 : Int32) (p1 : Int32) (p2 : Int32) (σ : SG) : Option (mm_R × SG) := b2 (x_X11_opens U a p0 p1 p2 σ) fun v2 σ3 => 
  if v2 = 0 then (x_X11_parse_26 U a σ3) else (b2 (x_X7_read U 1095 p2 σ3) fun v8 σ9 => 
  if v8 = 0 then (x_X11_parse_26 U a σ9) else (x_X11_parse_27 U a 1 σ9))
noncomputable def x_X11_place (a : Nat) (σ : SG) : Option (Int32) := some (sI σ a 8)
noncomputable def x_X7_writeIndent_L2 (U : Nat) (a : Nat) (v1_ : Int32) : Nat → Int32 → SG → Option (SG)
  | 0, _, _ => none
  | U1 + 1, v2_, σ => 
  if v2_ < v1_ then (b1 (x_X0_addText U 3 14 σ) fun σ3 => x_X7_writeIndent_L2 U a v1_ U1 (v2_ + 1) σ3) else (some σ)
noncomputable def x_X7_writeIndent (U : Nat) (a : Nat) (p0 : Int32) (σ : SG) : Option (SG) := x_X7_writeIndent_L2 U a p0 U 1 σ
noncomputable def x_X7_writeDecimal_44 (U : Nat) (a : Nat) (k5 : Int64 → Int32 → SG → Option (SG)) (k63 : Int32 → SG → Option (SG)) (v5_ : Int32) (v6_ : Int64) (σ : SG) : Option (SG) := 
  if v6_ = 0 then (k63 v5_ σ) else (
  if v5_ < 20 then (k5 v6_ v5_ σ) else (k63 v5_ σ))
noncomputable def x_X7_writeDecimal_L5 (U : Nat) (a : Nat) (k63 : Int32 → SG → Option (SG)) : Nat → Int64 → Int32 → SG → Option (SG)
  | 0, _, _, _ => none
  | U1 + 1, v3_, v5_, σ => 
  if v5_ < 20 then (ix v5_ 20 fun j3 => sb (uI σ 1096 j3 (vp_nar .byte (i2b (Int64.toInt32 (v3_ - (((lush v3_ 1) / 5) * 10)))))) fun σ7 => x_X7_writeDecimal_44 U a (x_X7_writeDecimal_L5 U a k63 U1) k63 (v5_ + 1) ((lush v3_ 1) / 5) σ7) else (x_X7_writeDecimal_44 U a (x_X7_writeDecimal_L5 U a k63 U1) k63 v5_ ((lush v3_ 1) / 5) σ)
noncomputable def x_X7_writeDecimal_L69 (U : Nat) (a : Nat) : Nat → Int32 → SG → Option (SG)
  | 0, _, _ => none
  | U1 + 1, v6_, σ => 
  if v6_ < 0 then (some σ) else (
  if v6_ < 20 then (ix v6_ 20 fun j14 => b1 (x_X0_add 3 (48 + (sI σ 1096 j14)) σ) fun σ19 => x_X7_writeDecimal_L69 U a U1 (v6_ - 1) σ19) else (some σ))
noncomputable def x_X7_writeDecimal_63 (U : Nat) (a : Nat) (v5_ : Int32) (σ : SG) : Option (SG) := x_X7_writeDecimal_L69 U a U (v5_ - 1) σ
noncomputable def x_X7_writeDecimal (U : Nat) (a : Nat) (p0 : Int64) (σ : SG) : Option (SG) := x_X7_writeDecimal_L5 U a (fun w10 σ11 => x_X7_writeDecimal_63 U a w10 σ11) U p0 0 σ
noncomputable def x_X7_writeNumber_83 (U : Nat) (a : Nat) (s0_ : Nat) (σ : SG) : Option (SG) := b1 (x_X0_addText U 3 s0_ σ) fun σ13 => some σ13
noncomputable def x_X7_writeNumber_130 (U : Nat) (a : Nat) (v2_ : Int64) (σ : SG) : Option (SG) := b1 (x_X7_writeDecimal U a v2_ σ) fun σ17 => some σ17
noncomputable def x_X7_writeNumber_28 (U : Nat) (a : Nat) (v1_ : Option Nat) (v2_ : Int64) (v4_ : Option Nat) (s0_ : Option Nat) (σ : SG) : Option (SG) := 
  if s0_ = none then (ck 3 v1_ fun q7 => 
  if sI σ q7 8 = 10 then (
  if v2_ = 0 then (x_X7_writeNumber_83 U a 19 σ) else (x_X7_writeNumber_83 U a 18 σ)) else (
  if v2_ < 0 then (
  if sI σ q7 8 = 3 then (x_X7_writeNumber_130 U a v2_ σ) else (
  if sI σ q7 8 = 7 then (x_X7_writeNumber_130 U a v2_ σ) else (b1 (x_X0_add 3 45 σ) fun σ20 => b1 (x_X7_writeDecimal U a (-v2_) σ20) fun σ22 => some σ22))) else (x_X7_writeNumber_130 U a v2_ σ))) else (ck 3 s0_ fun q23 => b1 (x_X0_addAll U 3 v4_ (sI σ q23 4) (sI σ q23 5) σ) fun σ27 => some σ27)
noncomputable def x_X7_writeNumber_27 (U : Nat) (a : Nat) (v1_ : Option Nat) (v2_ : Int64) (v4_ : Option Nat) (σ : SG) : Option (SG) := x_X7_writeNumber_28 U a v1_ v2_ v4_ none σ
noncomputable def x_X7_writeNumber (U : Nat) (a : Nat) (p0 : Option Nat) (p1 : Int64) (p2 : Option Nat) (σ : SG) : Option (SG) := ck 3 p0 fun q1 => 
  if sI σ q1 8 = 14 then (
  if (sP σ q1 10) = none then (x_X7_writeNumber_27 U a p0 p1 p2 σ) else (ck 3 (sP σ q1 10) fun q28 => b1 (x_X3_memberNumbered U q28 p1 σ) fun v32 => x_X7_writeNumber_28 U a p0 p1 p2 v32 σ)) else (x_X7_writeNumber_27 U a p0 p1 p2 σ)
noncomputable def x_X7_writeTextByte_L2 (U : Nat) (a : Nat) (k35 : Int32 → Option (SG)) (k64 : Option (SG)) (v1_ : Int32) (σ : SG) : Nat → Int32 → Option (SG)
  | 0, _ => none
  | U1 + 1, v2_ => 
  if v2_ < 5 then (
  if v2_ < nI (tlen 11) then (
  if v2_ < nI (tlen 10) then (ix v2_ (tlen 11) fun j4 => 
  if tchr 11 j4 = v1_ then (k35 v2_) else (x_X7_writeTextByte_L2 U a k35 k64 v1_ σ U1 (v2_ + 1))) else (k64)) else (k64)) else (k64)
noncomputable def x_X7_writeTextByte_85 (U : Nat) (a : Nat) (v1_ : Int32) (σ : SG) : Option (SG) := b1 (x_X0_add 3 92 σ) fun σ20 => b1 (x_X0_add 3 (48 + ((iush v1_ 6) &&& 7)) σ20) fun σ22 => b1 (x_X0_add 3 (48 + ((iush v1_ 3) &&& 7)) σ22) fun σ24 => b1 (x_X0_add 3 (48 + (v1_ &&& 7)) σ24) fun σ26 => some σ26
noncomputable def x_X7_writeTextByte_64 (U : Nat) (a : Nat) (v1_ : Int32) (σ : SG) : Option (SG) := 
  if v1_ < 32 then (x_X7_writeTextByte_85 U a v1_ σ) else (
  if 126 < v1_ then (x_X7_writeTextByte_85 U a v1_ σ) else (b1 (x_X0_add 3 v1_ σ) fun σ29 => some σ29))
noncomputable def x_X7_writeTextByte (U : Nat) (a : Nat) (p0 : Int32) (σ : SG) : Option (SG) := x_X7_writeTextByte_L2 U a (fun w9 => b1 (x_X0_add 3 92 σ) fun σ11 => ix w9 (tlen 10) fun j12 => b1 (x_X0_add 3 (tchr 10 j12) σ11) fun σ17 => some σ17) (x_X7_writeTextByte_64 U a p0 σ) p0 σ U 0
noncomputable def x_X7_writeText_L14 (U : Nat) (a : Nat) (k43 : SG → Option (SG)) (v1_ : Option Nat) : Nat → Int32 → SG → Option (SG)
  | 0, _, _ => none
  | U1 + 1, v2_, σ => ck 4 v1_ fun q6 => 
  if v2_ < sI σ q6 6 then (b1 (x_X0_at 1092 v2_ σ) fun v11 => b1 (x_X7_writeTextByte U a v11 σ) fun σ13 => x_X7_writeText_L14 U a k43 v1_ U1 (v2_ + 1) σ13) else (k43 σ)
noncomputable def x_X7_writeText (U : Nat) (a : Nat) (p0 : Option Nat) (σ : SG) : Option (SG) := b1 (x_X0_add 3 34 σ) fun σ2 => ck 4 p0 fun q3 => x_X7_writeText_L14 U a (fun σ14 => b1 (x_X0_add 3 34 σ14) fun σ16 => some σ16) p0 U (sI σ2 q3 5) σ2
noncomputable def x_X7_writeField_103 (U : Nat) (rc : Option Nat → Option Nat → Int32 → SG → Option (SG)) (a : Nat) (σ : SG) : Option (SG) := b1 (x_X0_add 3 10 σ) fun σ25 => some σ25
noncomputable def x_X7_writeField (U : Nat) (rc : Option Nat → Option Nat → Int32 → SG → Option (SG)) (a : Nat) (p0 : Option Nat) (p1 : Option Nat) (p2 : Option Nat) (p3 : Int32) (σ : SG) : Option (SG) := b1 (x_X7_writeIndent U a p3 σ) fun σ2 => ck 3 p1 fun q3 => b1 (x_X0_addAll U 3 p2 (sI σ2 q3 4) (sI σ2 q3 5) σ2) fun σ7 => 
  if sI σ7 q3 8 = 13 then (b1 (x_X0_addText U 3 15 σ7) fun σ10 => b1 (rc p0 p2 (p3 + 1) σ10) fun σ12 => b1 (x_X7_writeIndent U a p3 σ12) fun σ14 => b1 (x_X0_addText U 3 16 σ14) fun σ16 => some σ16) else (b1 (x_X0_addText U 3 17 σ7) fun σ18 => b1 (x_X11_isNumeric (sI σ18 q3 8)) fun v20 => 
  if v20 = 0 then (b1 (x_X7_writeText U a p0 σ18) fun σ23 => x_X7_writeField_103 U rc a σ23) else (ck 4 p0 fun q26 => b1 (x_X7_writeNumber U a p1 (sL σ18 q26 4) p2 σ18) fun σ30 => x_X7_writeField_103 U rc a σ30))
noncomputable def x_X7_writeMessage_46 (U : Nat) (rc : Option Nat → Option Nat → Int32 → SG → Option (SG)) (a : Nat) (k6 : Option Nat → SG → Option (SG)) (v2_ : Option Nat) (v3_ : Int32) (v4_ : Option Nat) (σ : SG) : Option (SG) := ck 4 v4_ fun q10 => k6 (sP σ q10 1) σ
noncomputable def x_X7_writeMessage_L6 (U : Nat) (rc : Option Nat → Option Nat → Int32 → SG → Option (SG)) (a : Nat) (v2_ : Option Nat) (v3_ : Int32) : Nat → Option Nat → SG → Option (SG)
  | 0, _, _ => none
  | U1 + 1, v4_, σ => 
  if v4_ = none then (some σ) else (
  if 20 < v3_ then (some σ) else (ck 4 v4_ fun q6 => 
  if (sP σ q6 0) = none then (x_X7_writeMessage_46 U rc a (x_X7_writeMessage_L6 U rc a v2_ v3_ U1) v2_ v3_ v4_ σ) else (b1 (x_X4_isNothing q6 σ) fun v14 => 
  if v14 = 0 then (b1 (x_X7_writeField U rc a v4_ (sP σ q6 0) v2_ v3_ σ) fun σ17 => x_X7_writeMessage_46 U rc a (x_X7_writeMessage_L6 U rc a v2_ v3_ U1) v2_ v3_ v4_ σ17) else (x_X7_writeMessage_46 U rc a (x_X7_writeMessage_L6 U rc a v2_ v3_ U1) v2_ v3_ v4_ σ))))
noncomputable def x_X7_writeMessage_b (U : Nat) (rc : Option Nat → Option Nat → Int32 → SG → Option (SG)) (a : Nat) (p0 : Option Nat) (p1 : Option Nat) (p2 : Int32) (σ : SG) : Option (SG) := ck 4 p0 fun q1 => x_X7_writeMessage_L6 U rc a p1 p2 U (sP σ q1 2) σ
noncomputable def x_X7_writeMessage (U : Nat) (a : Nat) : Nat → Option Nat → Option Nat → Int32 → SG → Option (SG)
  | 0, _, _, _, _ => none
  | D + 1, p0, p1, p2, σ => x_X7_writeMessage_b U (x_X7_writeMessage U a D) a p0 p1 p2 σ
noncomputable def x_X7_write (U : Nat) (a : Nat) (σ : SG) : Option (SG) := 
  if (sP σ 389 4) = none then (some σ) else (ck 6 (sP σ 389 4) fun q2 => b1 (x_X6_text q2 σ) fun v6 => b1 (x_X7_writeMessage U a 24 (some 1091) v6 1 σ) fun σ8 => some σ8)
noncomputable def x_X11_print (U : Nat) (a : Nat) (σ : SG) : Option (mm_R × SG) := b1 (x_X0_clear 3 σ) fun σ2 => b1 (x_X8_isThere 389 σ2) fun v4 => 
  if v4 = 0 then (some (.inr "java/lang/IllegalStateException", σ2)) else (b1 (x_X7_write U 1095 σ2) fun σ7 => b1 (x_X0_isSpilt 3 σ7) fun v9 => 
  if v9 = 0 then (b1 (x_X0_size 3 σ7) fun v12 => some (.inl (some (.int v12)), σ7)) else (b1 (x_X0_clear 3 σ7) fun σ14 => some (.inr "java/lang/UnsupportedOperationException", σ14)))
noncomputable def x_X11_turn (U : Nat) (a : Nat) (σ : SG) : Option (mm_R × SG) := b1 (x_X0_size 3 σ) fun v2 => 
  if 700 < v2 then (some (.inr "java/lang/IllegalStateException", σ)) else (b1 (x_X0_clear 1 σ) fun σ5 => b1 (x_X0_size 3 σ5) fun v7 => b1 (x_X0_addAll U 1 (some 3) 0 v7 σ5) fun σ9 => b1 (x_X0_size 1 σ9) fun v11 => some (.inl (some (.int v11)), σ9))
