noncomputable def x_X12_above_22 (v0_ : Int64) (v2_ : Int64) (s0_ : Int32) (s1_ : Int32) (σ : SG) : Option (Int32) := 
  if s1_ = s0_ then (
  if v2_ < v0_ then (some 1) else (some 0)) else (
  if v0_ < 0 then (some 1) else (some 0))
noncomputable def x_X12_above_11 (v0_ : Int64) (v2_ : Int64) (s0_ : Int32) (σ : SG) : Option (Int32) := 
  if v2_ < 0 then (x_X12_above_22 v0_ v2_ 1 s0_ σ) else (x_X12_above_22 v0_ v2_ 0 s0_ σ)
noncomputable def x_X12_above (p0 : Int64) (p1 : Int64) (σ : SG) : Option (Int32) := 
  if p0 < 0 then (x_X12_above_11 p0 p1 1 σ) else (x_X12_above_11 p0 p1 0 σ)
noncomputable def x_X12_addNode (a : Nat) (p0 : Int32) (p1 : Int32) (p2 : Int32) (σ : SG) : Option (Int32 × SG) := sb (uI σ a 81 ((sI σ a 81) + 1)) fun σ1 => ix (sI σ a 81) 400 fun j2 => sb (uI σ1 1160 j2 p0) fun σ6 => ix (sI σ a 81) 400 fun j7 => sb (uI σ6 1161 j7 p1) fun σ11 => ix (sI σ a 81) 400 fun j12 => sb (uI σ11 1162 j12 p2) fun σ16 => 
  if sI σ16 a 85 < p2 then (sb (uI σ16 a 107 1) fun σ18 => some (sI σ a 81, σ18)) else (some (sI σ a 81, σ16))
noncomputable def x_X12_addRow (a : Nat) (p0 : Int32) (p1 : Int32) (σ : SG) : Option (Int32 × SG) := sb (uI σ a 82 ((sI σ a 82) + 1)) fun σ1 => ix (sI σ a 82) 800 fun j2 => sb (uI σ1 1165 j2 p0) fun σ6 => ix (sI σ a 82) 800 fun j7 => sb (uI σ6 1166 j7 p1) fun σ11 => ix (sI σ a 82) 800 fun j12 => sb (uL σ11 1167 j12 0) fun σ16 => ix (sI σ a 82) 800 fun j17 => sb (uI σ16 1168 j17 0) fun σ21 => ix (sI σ a 82) 800 fun j22 => sb (uI σ21 1169 j22 0) fun σ26 => ix (sI σ a 82) 800 fun j27 => sb (uI σ26 1170 j27 (-1)) fun σ31 => ix (sI σ a 82) 800 fun j32 => sb (uI σ31 1171 j32 (vp_nar .boolean 1)) fun σ36 => some (sI σ a 82, σ36)
noncomputable def x_X12_addUnknown_L48 (U : Nat) (a : Nat) (v3_ : Int32) : Nat → Int32 → SG → Option (SG)
  | 0, _, _ => none
  | U1 + 1, v4_, σ => 
  if v4_ < v3_ then (ix v4_ 700 fun j18 => ix (sI σ a 84) 1500 fun j22 => sb (uI σ 1175 j22 (sI σ 1102 j18)) fun σ26 => sb (uI σ26 a 84 ((sI σ26 a 84) + 1)) fun σ27 => x_X12_addUnknown_L48 U a v3_ U1 (v4_ + 1) σ27) else (some σ)
noncomputable def x_X12_addUnknown (U : Nat) (a : Nat) (p0 : Int32) (p1 : Int32) (p2 : Int32) (σ : SG) : Option (SG) := ix (sI σ a 83) 400 fun j1 => sb (uI σ 1172 j1 p0) fun σ5 => ix (sI σ5 a 83) 400 fun j6 => sb (uI σ5 1173 j6 (sI σ5 a 84)) fun σ10 => ix (sI σ10 a 83) 400 fun j11 => sb (uI σ10 1174 j11 (p2 - p1)) fun σ15 => sb (uI σ15 a 83 ((sI σ15 a 83) + 1)) fun σ16 => x_X12_addUnknown_L48 U a p2 U p1 σ16
noncomputable def x_X12_byteAt (a : Nat) (p0 : Int32) (σ : SG) : Option (Int32) := 
  if p0 < sI σ a 73 then (ix p0 700 fun j2 => some (sI σ 1102 j2)) else (some (-1))
noncomputable def x_X12_isBlank (p0 : Int32) : Option (Int32) := 
  if p0 = 9 then (some 1) else (
  if p0 = 10 then (some 1) else (
  if p0 = 13 then (some 1) else (
  if p0 = 32 then (some 1) else (some 0))))
noncomputable def x_X12_behindComment_L28 (U : Nat) (a : Nat) (σ : SG) : Nat → Int32 → Option (Int32 × SG)
  | 0, _ => none
  | U1 + 1, v2_ => 
  if v2_ < sI σ a 73 then (b1 (x_X12_byteAt a v2_ σ) fun v9 => 
  if v9 = 10 then (some (v2_, σ)) else (x_X12_behindComment_L28 U a σ U1 (v2_ + 1))) else (some (v2_, σ))
noncomputable def x_X12_behindComment_100 (U : Nat) (a : Nat) (k68 : Int32 → Option (Int32 × SG)) (k106 : Int32 → Option (Int32 × SG)) (v2_ : Int32) (σ : SG) : Option (Int32 × SG) := k68 (v2_ + 1)
noncomputable def x_X12_behindComment_L68 (U : Nat) (a : Nat) (k106 : Int32 → Option (Int32 × SG)) (σ : SG) : Nat → Int32 → Option (Int32 × SG)
  | 0, _ => none
  | U1 + 1, v2_ => 
  if v2_ + 1 < sI σ a 73 then (b1 (x_X12_byteAt a v2_ σ) fun v16 => 
  if v16 = 42 then (b1 (x_X12_byteAt a (v2_ + 1) σ) fun v19 => 
  if v19 = 47 then (k106 v2_) else (x_X12_behindComment_100 U a (x_X12_behindComment_L68 U a k106 σ U1) k106 v2_ σ)) else (x_X12_behindComment_100 U a (x_X12_behindComment_L68 U a k106 σ U1) k106 v2_ σ)) else (k106 v2_)
noncomputable def x_X12_behindComment_121 (U : Nat) (a : Nat) (v2_ : Int32) (σ : SG) : Option (Int32 × SG) := 
  if v2_ + 1 < sI σ a 73 then (some (v2_ + 2, σ)) else (some (sI σ a 73, σ))
noncomputable def x_X12_behindComment_106 (U : Nat) (a : Nat) (v2_ : Int32) (σ : SG) : Option (Int32 × SG) := 
  if v2_ + 1 < sI σ a 73 then (x_X12_behindComment_121 U a v2_ σ) else (sb (uI σ a 76 1) fun σ24 => x_X12_behindComment_121 U a v2_ σ24)
noncomputable def x_X12_behindComment (U : Nat) (a : Nat) (p0 : Int32) (σ : SG) : Option (Int32 × SG) := b1 (x_X12_byteAt a p0 σ) fun v2 => 
  if v2 = 47 then (b1 (x_X12_byteAt a (p0 + 1) σ) fun v5 => 
  if v5 = 47 then (x_X12_behindComment_L28 U a σ U (p0 + 2)) else (b1 (x_X12_byteAt a (p0 + 1) σ) fun v12 => 
  if v12 = 42 then (x_X12_behindComment_L68 U a (fun w21 => x_X12_behindComment_106 U a w21 σ) σ U (p0 + 2)) else (some (p0, σ)))) else (some (p0, σ))
noncomputable def x_X12_behindBlanks_43 (U : Nat) (a : Nat) (k4 : Int32 → Int32 → SG → Option (Int32 × SG)) (v4_ : Int32) (s0_ : Int32) (σ : SG) : Option (Int32 × SG) := k4 v4_ s0_ σ
noncomputable def x_X12_behindBlanks_30 (U : Nat) (a : Nat) (k4 : Int32 → Int32 → SG → Option (Int32 × SG)) (v2_ : Int32) (s0_ : Int32) (σ : SG) : Option (Int32 × SG) := 
  if v2_ < s0_ then (x_X12_behindBlanks_43 U a k4 s0_ 1 σ) else (x_X12_behindBlanks_43 U a k4 s0_ 0 σ)
noncomputable def x_X12_behindBlanks_L4 (U : Nat) (a : Nat) : Nat → Int32 → Int32 → SG → Option (Int32 × SG)
  | 0, _, _, _ => none
  | U1 + 1, v2_, v3_, σ => 
  if v3_ = 0 then (some (v2_, σ)) else (b1 (x_X12_byteAt a v2_ σ) fun v3 => b1 (x_X12_isBlank v3) fun v5 => 
  if v5 = 0 then (b2 (x_X12_behindComment U a v2_ σ) fun v8 σ9 => x_X12_behindBlanks_30 U a (x_X12_behindBlanks_L4 U a U1) v2_ v8 σ9) else (x_X12_behindBlanks_30 U a (x_X12_behindBlanks_L4 U a U1) v2_ (v2_ + 1) σ))
noncomputable def x_X12_behindBlanks (U : Nat) (a : Nat) (p0 : Int32) (σ : SG) : Option (Int32 × SG) := x_X12_behindBlanks_L4 U a U p0 1 σ
noncomputable def x_X12_isLetter_12 (v0_ : Int32) (σ : SG) : Option (Int32) := 
  if v0_ < 65 then (some 0) else (
  if 90 < v0_ then (some 0) else (some 1))
noncomputable def x_X12_isLetter (p0 : Int32) (σ : SG) : Option (Int32) := 
  if p0 < 97 then (x_X12_isLetter_12 p0 σ) else (
  if 122 < p0 then (x_X12_isLetter_12 p0 σ) else (some 1))
noncomputable def x_X12_isDigit (p0 : Int32) : Option (Int32) := 
  if p0 < 48 then (some 0) else (
  if 57 < p0 then (some 0) else (some 1))
noncomputable def x_X12_isPart (p0 : Int32) (σ : SG) : Option (Int32) := b1 (x_X12_isLetter p0 σ) fun v2 => 
  if v2 = 0 then (b1 (x_X12_isDigit p0) fun v5 => 
  if v5 = 0 then (
  if p0 = 95 then (some 1) else (some 0)) else (some 1)) else (some 1)
noncomputable def x_X12_sixteenth_36 (v0_ : Int32) (σ : SG) : Option (Int32) := 
  if v0_ < 65 then (some (-1)) else (
  if 70 < v0_ then (some (-1)) else (some ((v0_ - 65) + 10)))
noncomputable def x_X12_sixteenth (p0 : Int32) (σ : SG) : Option (Int32) := b1 (x_X12_isDigit p0) fun v2 => 
  if v2 = 0 then (
  if p0 < 97 then (x_X12_sixteenth_36 p0 σ) else (
  if 102 < p0 then (x_X12_sixteenth_36 p0 σ) else (some ((p0 - 97) + 10)))) else (some (p0 - 48))
noncomputable def x_X12_readNumber_123 (U : Nat) (a : Nat) (k52 : Int32 → SG → Option (SG)) (k129 : Int32 → SG → Option (SG)) (v1_ : Int32) (v2_ : Int32) (v3_ : Int32) (σ : SG) : Option (SG) := k52 (v1_ + 1) σ
noncomputable def x_X12_readNumber_108 (U : Nat) (a : Nat) (k52 : Int32 → SG → Option (SG)) (k129 : Int32 → SG → Option (SG)) (v1_ : Int32) (v2_ : Int32) (v3_ : Int32) (s0_ : Int32) (s1_ : Int64) (s2_ : Option Nat) (σ : SG) : Option (SG) := b1 (x_X12_byteAt a v1_ σ) fun v19 => b1 (x_X12_sixteenth v19 σ) fun v21 => ck 12 s2_ fun b22 => sb (uL σ b22 77 ((s1_ * (Int32.toInt64 s0_)) + (Int32.toInt64 v21))) fun σ25 => x_X12_readNumber_123 U a k52 k129 v1_ v2_ v3_ σ25
noncomputable def x_X12_readNumber_81 (U : Nat) (a : Nat) (k52 : Int32 → SG → Option (SG)) (k129 : Int32 → SG → Option (SG)) (v1_ : Int32) (v2_ : Int32) (v3_ : Int32) (σ : SG) : Option (SG) := 
  if sL σ a 77 < 1000000000000000 then (
  if v2_ = 0 then (x_X12_readNumber_108 U a k52 k129 v1_ v2_ v3_ 10 (sL σ a 77) (some a) σ) else (x_X12_readNumber_108 U a k52 k129 v1_ v2_ v3_ 16 (sL σ a 77) (some a) σ)) else (x_X12_readNumber_123 U a k52 k129 v1_ v2_ v3_ σ)
noncomputable def x_X12_readNumber_L52 (U : Nat) (a : Nat) (k129 : Int32 → SG → Option (SG)) (v2_ : Int32) (v3_ : Int32) : Nat → Int32 → SG → Option (SG)
  | 0, _, _ => none
  | U1 + 1, v1_, σ => 
  if v2_ = 0 then (b1 (x_X12_byteAt a v1_ σ) fun v12 => b1 (x_X12_isDigit v12) fun v14 => 
  if v14 = 0 then (k129 v1_ σ) else (x_X12_readNumber_81 U a (x_X12_readNumber_L52 U a k129 v2_ v3_ U1) k129 v1_ v2_ v3_ σ)) else (b1 (x_X12_byteAt a v1_ σ) fun v27 => b1 (x_X12_sixteenth v27 σ) fun v29 => 
  if v29 < 0 then (k129 v1_ σ) else (x_X12_readNumber_81 U a (x_X12_readNumber_L52 U a k129 v2_ v3_ U1) k129 v1_ v2_ v3_ σ))
noncomputable def x_X12_readNumber_177 (U : Nat) (a : Nat) (v1_ : Int32) (σ : SG) : Option (SG) := sb (uI σ a 72 v1_) fun σ35 => some σ35
noncomputable def x_X12_readNumber_172 (U : Nat) (a : Nat) (v1_ : Int32) (σ : SG) : Option (SG) := sb (uI σ a 70 5) fun σ34 => x_X12_readNumber_177 U a v1_ σ34
noncomputable def x_X12_readNumber_129 (U : Nat) (a : Nat) (v1_ : Int32) (v2_ : Int32) (v3_ : Int32) (σ : SG) : Option (SG) := 
  if v1_ = v3_ then (x_X12_readNumber_172 U a v1_ σ) else (b1 (x_X12_byteAt a v1_ σ) fun v37 => b1 (x_X12_isPart v37 σ) fun v39 => 
  if v39 = 0 then (
  if v2_ = 0 then (b1 (x_X12_byteAt a (sI σ a 71) σ) fun v43 => 
  if v43 = 48 then (
  if (sI σ a 71) + 1 < v1_ then (x_X12_readNumber_172 U a v1_ σ) else (x_X12_readNumber_177 U a v1_ σ)) else (x_X12_readNumber_177 U a v1_ σ)) else (x_X12_readNumber_177 U a v1_ σ)) else (x_X12_readNumber_172 U a v1_ σ))
noncomputable def x_X12_readNumber_50 (U : Nat) (a : Nat) (v1_ : Int32) (v2_ : Int32) (σ : SG) : Option (SG) := x_X12_readNumber_L52 U a (fun w31 σ32 => x_X12_readNumber_129 U a w31 v2_ v1_ σ32) v2_ v1_ U v1_ σ
noncomputable def x_X12_readNumber_42 (U : Nat) (a : Nat) (v1_ : Int32) (s0_ : Int32) (σ : SG) : Option (SG) := 
  if s0_ = 0 then (x_X12_readNumber_50 U a v1_ s0_ σ) else (x_X12_readNumber_50 U a (v1_ + 2) s0_ σ)
noncomputable def x_X12_readNumber_41 (U : Nat) (a : Nat) (v1_ : Int32) (σ : SG) : Option (SG) := x_X12_readNumber_42 U a v1_ 0 σ
noncomputable def x_X12_readNumber (U : Nat) (a : Nat) (σ : SG) : Option (SG) := sb (uI σ a 70 2) fun σ1 => sb (uL σ1 a 77 0) fun σ2 => b1 (x_X12_byteAt a (sI σ2 a 71) σ2) fun v4 => 
  if v4 = 48 then (b1 (x_X12_byteAt a ((sI σ2 a 71) + 1) σ2) fun v7 => 
  if v7 = 120 then (x_X12_readNumber_42 U a (sI σ2 a 71) 1 σ2) else (x_X12_readNumber_41 U a (sI σ2 a 71) σ2)) else (x_X12_readNumber_41 U a (sI σ2 a 71) σ2)
noncomputable def x_X12_readText_L7 (U : Nat) (a : Nat) (k53 : Int32 → Option (SG)) (σ : SG) : Nat → Int32 → Option (SG)
  | 0, _ => none
  | U1 + 1, v1_ => b1 (x_X12_byteAt a v1_ σ) fun v2 => 
  if v2 < 32 then (k53 v1_) else (b1 (x_X12_byteAt a v1_ σ) fun v5 => 
  if 126 < v5 then (k53 v1_) else (b1 (x_X12_byteAt a v1_ σ) fun v8 => 
  if v8 = 34 then (k53 v1_) else (b1 (x_X12_byteAt a v1_ σ) fun v11 => 
  if v11 = 92 then (k53 v1_) else (x_X12_readText_L7 U a k53 σ U1 (v1_ + 1)))))
noncomputable def x_X12_readText_69 (U : Nat) (a : Nat) (v1_ : Int32) (s0_ : Int32) (s1_ : Option Nat) (σ : SG) : Option (SG) := ck 12 s1_ fun b17 => sb (uI σ b17 70 s0_) fun σ20 => sb (uI σ20 a 72 (v1_ + 1)) fun σ21 => some σ21
noncomputable def x_X12_readText_53 (U : Nat) (a : Nat) (v1_ : Int32) (σ : SG) : Option (SG) := b1 (x_X12_byteAt a v1_ σ) fun v15 => 
  if v15 = 34 then (x_X12_readText_69 U a v1_ 3 (some a) σ) else (x_X12_readText_69 U a v1_ 5 (some a) σ)
noncomputable def x_X12_readText (U : Nat) (a : Nat) (σ : SG) : Option (SG) := x_X12_readText_L7 U a (fun w13 => x_X12_readText_53 U a w13 σ) σ U ((sI σ a 71) + 1)
noncomputable def x_X12_look_L65 (U : Nat) (a : Nat) : Nat → SG → Option (SG)
  | 0, _ => none
  | U1 + 1, σ => b1 (x_X12_byteAt a (sI σ a 72) σ) fun v27 => b1 (x_X12_isPart v27 σ) fun v29 => 
  if v29 = 0 then (some σ) else (sb (uI σ a 72 ((sI σ a 72) + 1)) fun σ31 => x_X12_look_L65 U a U1 σ31)
noncomputable def x_X12_look_50 (U : Nat) (a : Nat) (v2_ : Int32) (s0_ : Int32) (s1_ : Option Nat) (σ : SG) : Option (SG) := ck 12 s1_ fun b10 => sb (uI σ b10 70 s0_) fun σ13 => b1 (x_X12_isLetter v2_ σ13) fun v15 => 
  if v15 = 0 then (b1 (x_X12_isDigit v2_) fun v18 => 
  if v18 = 0 then (
  if v2_ = 34 then (b1 (x_X12_readText U a σ13) fun σ22 => some σ22) else (some σ13)) else (b1 (x_X12_readNumber U a σ13) fun σ24 => some σ24)) else (sb (uI σ13 a 70 1) fun σ25 => x_X12_look_L65 U a U σ25)
noncomputable def x_X12_look (U : Nat) (a : Nat) (p0 : Int32) (σ : SG) : Option (SG) := b2 (x_X12_behindBlanks U a p0 σ) fun v2 σ3 => sb (uI σ3 a 71 v2) fun σ4 => b1 (x_X12_byteAt a (sI σ4 a 71) σ4) fun v6 => sb (uI σ4 a 72 ((sI σ4 a 71) + 1)) fun σ7 => 
  if v6 = (-1) then (
  if sI σ7 a 76 = 0 then (x_X12_look_50 U a v6 0 (some a) σ7) else (x_X12_look_50 U a v6 5 (some a) σ7)) else (x_X12_look_50 U a v6 4 (some a) σ7)
noncomputable def x_X12_next (U : Nat) (a : Nat) (σ : SG) : Option (SG) := b1 (x_X12_look U a (sI σ a 72) σ) fun σ2 => some σ2
noncomputable def x_X12_fail (a : Nat) (p0 : Int32) (p1 : Int32) (σ : SG) : Option (SG) := 
  if sI σ a 74 = 0 then (sb (uI σ a 74 p0) fun σ2 => sb (uI σ2 a 75 p1) fun σ3 => some σ3) else (some σ)
noncomputable def x_X12_declare (U : Nat) (a : Nat) (p0 : Int32) (σ : SG) : Option (SG) := 
  if sI σ a 74 = 0 then (
  if sI σ a 70 = 1 then (ix (sI σ a 38) 400 fun j3 => sb (uI σ 1156 j3 p0) fun σ7 => ix (sI σ7 a 38) 400 fun j8 => sb (uI σ7 1157 j8 (sI σ7 a 71)) fun σ12 => ix (sI σ12 a 38) 400 fun j13 => sb (uI σ12 1158 j13 ((sI σ12 a 72) - (sI σ12 a 71))) fun σ17 => sb (uI σ17 a 38 ((sI σ17 a 38) + 1)) fun σ18 => b1 (x_X12_next U a σ18) fun σ20 => some σ20) else (b1 (x_X12_fail a 1 (sI σ a 71) σ) fun σ22 => some σ22)) else (some σ)
noncomputable def x_X12_lastAt (a : Nat) (σ : SG) : Option (Int32) := 
  if sI σ a 38 = 0 then (some 0) else (ix ((sI σ a 38) - 1) 400 fun j2 => some (sI σ 1157 j2))
noncomputable def x_X12_lastLong (a : Nat) (σ : SG) : Option (Int32) := 
  if sI σ a 38 = 0 then (some 0) else (ix ((sI σ a 38) - 1) 400 fun j2 => some (sI σ 1158 j2))
