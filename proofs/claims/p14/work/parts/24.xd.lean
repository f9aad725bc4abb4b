noncomputable def x_X12_above_22 (v0_ : Int64) (v2_ : Int64) (s0_ : Int32) (s1_ : Int32) (σ : SG) : Option (Int32) := 
  if s1_ = s0_ then (
  if v2_ < v0_ then (some 1) else (some 0)) else (
  if v0_ < 0 then (some 1) else (some 0))
noncomputable def x_X12_above_11 (v0_ : Int64) (v2_ : Int64) (s0_ : Int32) (σ : SG) : Option (Int32) := 
  if v2_ < 0 then (x_X12_above_22 v0_ v2_ 1 s0_ σ) else (x_X12_above_22 v0_ v2_ 0 s0_ σ)
noncomputable def x_X12_above (p0 : Int64) (p1 : Int64) (σ : SG) : Option (Int32) := 
  if p0 < 0 then (x_X12_above_11 p0 p1 1 σ) else (x_X12_above_11 p0 p1 0 σ)
noncomputable def x_X12_addNode (a : Nat) (p0 : Int32) (p1 : Int32) (p2 : Int32) (σ : SG) : Option (Int32 × SG) := sb (uI σ a 81 ((sI σ a 81) + 1)) fun σ1 => ix (sI σ a 81) 400 fun j2 => sb (uI σ1 1160 j2 p0) fun σ6 => ix (sI σ a 81) 400 fun j7 => sb (uI σ6 1161 j7 p1) fun σ11 => ix (sI σ a 81) 400 fun j12 => sb (uI σ11 1162 j12 p2) fun σ16 => 
  if sI σ16 a 85 < p2 then (sb (uI σ16 a 107 1) fun σ18 => some (sI σ a 81, σ18)) else (some (sI σ a 81, σ16))
noncomputable def x_X12_addRow (a : Nat) (p0 : Int32) (p1 : Int32) (σ : SG) : Option (Int32 × SG) := sb (uI σ a 82 ((sI σ a 82) + 1)) fun σ1 => ix (sI σ a 82) 800 fun j2 => sb (uI σ1 1165 j2 p0) fun σ6 => ix (sI σ a 82) 800 fun j7 => sb (uI σ6 1166 j7 p1) fun σ11 => ix (sI σ a 82) 800 fun j12 => sb (uL σ11 1167 j12 0) fun σ16 => ix (sI σ a 82) 800 fun j17 => sb (uI σ16 1168 j17 0) fun σ21 => ix (sI σ a 82) 800 fun j22 => sb (uI σ21 1169 j22 0) fun σ26 => ix (sI σ a 82) 800 fun j27 => sb (uI σ26 1170 j27 (-1)) fun σ31 => ix (sI σ a 82) 800 fun j32 => sb (uI σ31 1171 j32 (vp_nar .boolean 1)) fun σ36 => some (sI σ a 82, σ36)
noncomputable def x_X12_addUnknown_L48 (U : Nat) (a : Nat) (v3_ : Int32) : Nat → Int32 → SG → Option (SG)
  | 0, _, _ => none
  | U1 + 1, v4_, σ => 
  if v4_ < v3_ then (ix v4_ 700 fun j18 => ix (sI σ a 84) 1500 fun j22 => sb (uI σ 1175 j22 (sI σ 1102 j18)) fun σ26 => sb (uI σ26 a 84 ((sI σ26 a 84) + 1)) fun σ27 => x_X12_addUnknown_L48 U a v3_ U1 (v4_ + 1) σ27) else (some σ)
noncomputable def x_X12_addUnknown (U : Nat) (a : Nat) (p0 : Int32) (p1 : Int32) (p2 : Int32) (σ : SG) : Option (SG) := ix (sI σ a 83) 400 fun j1 => sb (uI σ 1172 j1 p0) fun σ5 => ix (sI σ5 a 83) 400 fun j6 => sb (uI σ5 1173 j6 (sI σ5 a 84)) fun σ10 => ix (sI σ10 a 83) 400 fun j11 => sb (uI σ10 1174 j11 (p2 - p1)) fun σ15 => sb (uI σ15 a 83 ((sI σ15 a 83) + 1)) fun σ16 => x_X12_addUnknown_L48 U a p2 U p1 σ16
noncomputable def x_X12_byteAt (a : Nat) (p0 : Int32) (σ : SG) : Option (Int32) := 
  if p0 < sI σ a 73 then (ix p0 700 fun j2 => some (sI σ 1102 j2)) else (some (-1))
noncomputable def x_X12_isBlank (p0 : Int32) : Option (Int32) := 
  if p0 = 9 then (some 1) else (
  if p0 = 10 then (some 1) else (
  if p0 = 13 then (some 1) else (
  if p0 = 32 then (some 1) else (some 0))))
noncomputable def x_X12_behindComment_L28 (U : Nat) (a : Nat) (σ : SG) : Nat → Int32 → Option (Int32 × SG)
  | 0, _ => none
  | U1 + 1, v2_ => 
  if v2_ < sI σ a 73 then (b1 (x_X12_byteAt a v2_ σ) fun v9 => 
  if v9 = 10 then (some (v2_, σ)) else (x_X12_behindComment_L28 U a σ U1 (v2_ + 1))) else (some (v2_, σ))
noncomputable def x_X12_behindComment_100 (U : Nat) (a : Nat) (k68 : Int32 → Option (Int32 × SG)) (k106 : Int32 → Option (Int32 × SG)) (v2_ : Int32) (σ : SG) : Option (Int32 × SG) := k68 (v2_ + 1)
noncomputable def x_X12_behindComment_L68 (U : Nat) (a : Nat) (k106 : Int32 → Option (Int32 × SG)) (σ : SG) : Nat → Int32 → Option (Int32 × SG)
  | 0, _ => none
  | U1 + 1, v2_ => 
  if v2_ + 1 < sI σ a 73 then (b1 (x_X12_byteAt a v2_ σ) fun v16 => 
  if v16 = 42 then (b1 (x_X12_byteAt a (v2_ + 1) σ) fun v19 => 
  if v19 = 47 then (k106 v2_) else (x_X12_behindComment_100 U a (x_X12_behindComment_L68 U a k106 σ U1) k106 v2_ σ)) else (x_X12_behindComment_100 U a (x_X12_behindComment_L68 U a k106 σ U1) k106 v2_ σ)) else (k106 v2_)
noncomputable def x_X12_behindComment_121 (U : Nat) (a : Nat) (v2_ : Int32) (σ : SG) : Option (Int32 × SG) := 
  if v2_ + 1 < sI σ a 73 then (some (v2_ + 2, σ)) else (some (sI σ a 73, σ))
noncomputable def x_X12_behindComment_106 (U : Nat) (a : Nat) (v2_ : Int32) (σ : SG) : Option (Int32 × SG) := 
  if v2_ + 1 < sI σ a 73 then (x_X12_behindComment_121 U a v2_ σ) else (sb (uI σ a 76 1) fun σ24 => x_X12_behindComment_121 U a v2_ σ24)
noncomputable def x_X12_behindComment (U : Nat) (a : Nat) (p0 : Int32) (σ : SG) : Option (Int32 × SG) := b1 (x_X12_byteAt a p0 σ) fun v2 => 
  if v2 = 47 then (b1 (x_X12_byteAt a (p0 + 1) σ) fun v5 => 
  if v5 = 47 then (x_X12_behindComment_L28 U a σ U (p0 + 2)) else (b1 (x_X12_byteAt a (p0 + 1) σ) fun v12 => 
  if v12 = 42 then (x_X12_behindComment_L68 U a (fun w21 => x_X12_behindComment_106 U a w21 σ) σ U (p0 + 2)) else (some (p0, σ)))) else (some (p0, σ))
noncomputable def x_X12_behindBlanks_43 (U : Nat) (a : Nat) (k4 : Int32 → Int32 → SG → Option (Int32 × SG)) (v4_ : Int32) (s0_ : Int32) (σ : SG) : Option (Int32 × SG) := k4 v4_ s0_ σ
noncomputable def x_X12_behindBlanks_30 (U : Nat) (a : Nat) (k4 : Int32 → Int32 → SG → Option (Int32 × SG)) (v2_ : Int32) (s0_ : Int32) (σ : SG) : Option (Int32 × SG) := 
  if v2_ < s0_ then (x_X12_behindBlanks_43 U a k4 s0_ 1 σ) else (x_X12_behindBlanks_43 U a k4 s0_ 0 σ)
noncomputable def x_X12_behindBlanks_L4 (U : Nat) (a : Nat) : Nat → Int32 → Int32 → SG → Option (Int32 × SG)
  | 0, _, _, _ => none
  | U1 + 1, v2_, v3_, σ => 
  if v3_ = 0 then (some (v2_, σ)) else (b1 (x_X12_byteAt a v2_ σ) fun v3 => b1 (x_X12_isBlank v3) fun v5 => 
  if v5 = 0 then (b2 (x_X12_behindComment U a v2_ σ) fun v8 σ9 => x_X12_behindBlanks_30 U a (x_X12_behindBlanks_L4 U a U1) v2_ v8 σ9) else (x_X12_behindBlanks_30 U a (x_X12_behindBlanks_L4 U a U1) v2_ (v2_ + 1) σ))
noncomputable def x_X12_behindBlanks (U : Nat) (a : Nat) (p0 : Int32) (σ : SG) : Option (Int32 × SG) := x_X12_behindBlanks_L4 U a U p0 1 σ
noncomputable def x_X12_isLetter_12 (v0_ : Int32) (σ : SG) : Option (Int32) := 
  if v0_ < 65 then (some 0) else (
  if 90 < v0_ then (some 0) else (some 1))
noncomputable def x_X12_isLetter (p0 : Int32) (σ : SG) : Option (Int32) := 
  if p0 < 97 then (x_X12_isLetter_12 p0 σ) else (
  if 122 < p0 then (x_X12_isLetter_12 p0 σ) else (some 1))
noncomputable def x_X12_isDigit (p0 : Int32) : Option (Int32) := 
  if p0 < 48 then (some 0) else (
  if 57 < p0 then (some 0) else (some 1))
noncomputable def x_X12_isPart (p0 : Int32) (σ : SG) : Option (Int32) := b1 (x_X12_isLetter p0 σ) fun v2 => 
  if v2 = 0 then (b1 (x_X12_isDigit p0) fun v5 => 
  if v5 = 0 then (
  if p0 = 95 then (some 1) else (some 0)) else (some 1)) else (some 1)
noncomputable def x_X12_sixteenth_36 (v0_ : Int32) (σ : SG) : Option (Int32) := 
  if v0_ < 65 then (some (-1)) else (
  if 70 < v0_ then (some (-1)) else (some ((v0_ - 65) + 10)))
noncomputable def x_X12_sixteenth (p0 : Int32) (σ : SG) : Option (Int32) := b1 (x_X12_isDigit p0) fun v2 => 
  if v2 = 0 then (
  if p0 < 97 then (x_X12_sixteenth_36 p0 σ) else (
  if 102 < p0 then (x_X12_sixteenth_36 p0 σ) else (some ((p0 - 97) + 10)))) else (some (p0 - 48))
noncomputable def x_X12_readNumber_123 (U : Nat) (a : Nat) (k52 : Int32 → SG → Option (SG)) (k129 : Int32 → SG → Option (SG)) (v1_ : Int32) (v2_ : Int32) (v3_ : Int32) (σ : SG) : Option (SG) := k52 (v1_ + 1) σ
noncomputable def x_X12_readNumber_108 (U : Nat) (a : Nat) (k52 : Int32 → SG → Option (SG)) (k129 : Int32 → SG → Option (SG)) (v1_ : Int32) (v2_ : Int32) (v3_ : Int32) (s0_ : Int32) (s1_ : Int64) (σ : SG) : Option (SG) := b1 (x_X12_byteAt a v1_ σ) fun v19 => b1 (x_X12_sixteenth v19 σ) fun v21 => sb (uL σ a 77 ((s1_ * (Int32.toInt64 s0_)) + (Int32.toInt64 v21))) fun σ22 => x_X12_readNumber_123 U a k52 k129 v1_ v2_ v3_ σ22
noncomputable def x_X12_readNumber_81 (U : Nat) (a : Nat) (k52 : Int32 → SG → Option (SG)) (k129 : Int32 → SG → Option (SG)) (v1_ : Int32) (v2_ : Int32) (v3_ : Int32) (σ : SG) : Option (SG) := 
  if sL σ a 77 < 1000000000000000 then (
  if v2_ = 0 then (x_X12_readNumber_108 U a k52 k129 v1_ v2_ v3_ 10 (sL σ a 77) σ) else (x_X12_readNumber_108 U a k52 k129 v1_ v2_ v3_ 16 (sL σ a 77) σ)) else (x_X12_readNumber_123 U a k52 k129 v1_ v2_ v3_ σ)
noncomputable def x_X12_readNumber_L52 (U : Nat) (a : Nat) (k129 : Int32 → SG → Option (SG)) (v2_ : Int32) (v3_ : Int32) : Nat → Int32 → SG → Option (SG)
  | 0, _, _ => none
  | U1 + 1, v1_, σ => 
  if v2_ = 0 then (b1 (x_X12_byteAt a v1_ σ) fun v12 => b1 (x_X12_isDigit v12) fun v14 => 
  if v14 = 0 then (k129 v1_ σ) else (x_X12_readNumber_81 U a (x_X12_readNumber_L52 U a k129 v2_ v3_ U1) k129 v1_ v2_ v3_ σ)) else (b1 (x_X12_byteAt a v1_ σ) fun v24 => b1 (x_X12_sixteenth v24 σ) fun v26 => 
  if v26 < 0 then (k129 v1_ σ) else (x_X12_readNumber_81 U a (x_X12_readNumber_L52 U a k129 v2_ v3_ U1) k129 v1_ v2_ v3_ σ))
noncomputable def x_X12_readNumber_177 (U : Nat) (a : Nat) (v1_ : Int32) (σ : SG) : Option (SG) := sb (uI σ a 72 v1_) fun σ32 => some σ32
noncomputable def x_X12_readNumber_172 (U : Nat) (a : Nat) (v1_ : Int32) (σ : SG) : Option (SG) := sb (uI σ a 70 5) fun σ31 => x_X12_readNumber_177 U a v1_ σ31
noncomputable def x_X12_readNumber_129 (U : Nat) (a : Nat) (v1_ : Int32) (v2_ : Int32) (v3_ : Int32) (σ : SG) : Option (SG) := 
  if v1_ = v3_ then (x_X12_readNumber_172 U a v1_ σ) else (b1 (x_X12_byteAt a v1_ σ) fun v34 => b1 (x_X12_isPart v34 σ) fun v36 => 
  if v36 = 0 then (
  if v2_ = 0 then (b1 (x_X12_byteAt a (sI σ a 71) σ) fun v40 => 
  if v40 = 48 then (
  if (sI σ a 71) + 1 < v1_ then (x_X12_readNumber_172 U a v1_ σ) else (x_X12_readNumber_177 U a v1_ σ)) else (x_X12_readNumber_177 U a v1_ σ)) else (x_X12_readNumber_177 U a v1_ σ)) else (x_X12_readNumber_172 U a v1_ σ))
noncomputable def x_X12_readNumber_50 (U : Nat) (a : Nat) (v1_ : Int32) (v2_ : Int32) (σ : SG) : Option (SG) := x_X12_readNumber_L52 U a (fun w28 σ29 => x_X12_readNumber_129 U a w28 v2_ v1_ σ29) v2_ v1_ U v1_ σ
noncomputable def x_X12_readNumber_42 (U : Nat) (a : Nat) (v1_ : Int32) (s0_ : Int32) (σ : SG) : Option (SG) := 
  if s0_ = 0 then (x_X12_readNumber_50 U a v1_ s0_ σ) else (x_X12_readNumber_50 U a (v1_ + 2) s0_ σ)
noncomputable def x_X12_readNumber_41 (U : Nat) (a : Nat) (v1_ : Int32) (σ : SG) : Option (SG) := x_X12_readNumber_42 U a v1_ 0 σ
noncomputable def x_X12_readNumber (U : Nat) (a : Nat) (σ : SG) : Option (SG) := sb (uI σ a 70 2) fun σ1 => sb (uL σ1 a 77 0) fun σ2 => b1 (x_X12_byteAt a (sI σ2 a 71) σ2) fun v4 => 
  if v4 = 48 then (b1 (x_X12_byteAt a ((sI σ2 a 71) + 1) σ2) fun v7 => 
  if v7 = 120 then (x_X12_readNumber_42 U a (sI σ2 a 71) 1 σ2) else (x_X12_readNumber_41 U a (sI σ2 a 71) σ2)) else (x_X12_readNumber_41 U a (sI σ2 a 71) σ2)
noncomputable def x_X12_readText_L7 (U : Nat) (a : Nat) (k53 : Int32 → Option (SG)) (σ : SG) : Nat → Int32 → Option (SG)
  | 0, _ => none
  | U1 + 1, v1_ => b1 (x_X12_byteAt a v1_ σ) fun v2 => 
  if v2 < 32 then (k53 v1_) else (b1 (x_X12_byteAt a v1_ σ) fun v5 => 
  if 126 < v5 then (k53 v1_) else (b1 (x_X12_byteAt a v1_ σ) fun v8 => 
  if v8 = 34 then (k53 v1_) else (b1 (x_X12_byteAt a v1_ σ) fun v11 => 
  if v11 = 92 then (k53 v1_) else (x_X12_readText_L7 U a k53 σ U1 (v1_ + 1)))))
noncomputable def x_X12_readText_69 (U : Nat) (a : Nat) (v1_ : Int32) (s0_ : Int32) (σ : SG) : Option (SG) := sb (uI σ a 70 s0_) fun σ17 => sb (uI σ17 a 72 (v1_ + 1)) fun σ18 => some σ18
noncomputable def x_X12_readText_53 (U : Nat) (a : Nat) (v1_ : Int32) (σ : SG) : Option (SG) := b1 (x_X12_byteAt a v1_ σ) fun v15 => 
  if v15 = 34 then (x_X12_readText_69 U a v1_ 3 σ) else (x_X12_readText_69 U a v1_ 5 σ)
noncomputable def x_X12_readText (U : Nat) (a : Nat) (σ : SG) : Option (SG) := x_X12_readText_L7 U a (fun w13 => x_X12_readText_53 U a w13 σ) σ U ((sI σ a 71) + 1)
noncomputable def x_X12_look_L65 (U : Nat) (a : Nat) : Nat → SG → Option (SG)
  | 0, _ => none
  | U1 + 1, σ => b1 (x_X12_byteAt a (sI σ a 72) σ) fun v24 => b1 (x_X12_isPart v24 σ) fun v26 => 
  if v26 = 0 then (some σ) else (sb (uI σ a 72 ((sI σ a 72) + 1)) fun σ28 => x_X12_look_L65 U a U1 σ28)
noncomputable def x_X12_look_50 (U : Nat) (a : Nat) (v2_ : Int32) (s0_ : Int32) (σ : SG) : Option (SG) := sb (uI σ a 70 s0_) fun σ10 => b1 (x_X12_isLetter v2_ σ10) fun v12 => 
  if v12 = 0 then (b1 (x_X12_isDigit v2_) fun v15 => 
  if v15 = 0 then (
  if v2_ = 34 then (b1 (x_X12_readText U a σ10) fun σ19 => some σ19) else (some σ10)) else (b1 (x_X12_readNumber U a σ10) fun σ21 => some σ21)) else (sb (uI σ10 a 70 1) fun σ22 => x_X12_look_L65 U a U σ22)
noncomputable def x_X12_look (U : Nat) (a : Nat) (p0 : Int32) (σ : SG) : Option (SG) := b2 (x_X12_behindBlanks U a p0 σ) fun v2 σ3 => sb (uI σ3 a 71 v2) fun σ4 => b1 (x_X12_byteAt a (sI σ4 a 71) σ4) fun v6 => sb (uI σ4 a 72 ((sI σ4 a 71) + 1)) fun σ7 => 
  if v6 = (-1) then (
  if sI σ7 a 76 = 0 then (x_X12_look_50 U a v6 0 σ7) else (x_X12_look_50 U a v6 5 σ7)) else (x_X12_look_50 U a v6 4 σ7)
noncomputable def x_X12_next (U : Nat) (a : Nat) (σ : SG) : Option (SG) := b1 (x_X12_look U a (sI σ a 72) σ) fun σ2 => some σ2
noncomputable def x_X12_fail (a : Nat) (p0 : Int32) (p1 : Int32) (σ : SG) : Option (SG) := 
  if sI σ a 74 = 0 then (sb (uI σ a 74 p0) fun σ2 => sb (uI σ2 a 75 p1) fun σ3 => some σ3) else (some σ)
noncomputable def x_X12_declare (U : Nat) (a : Nat) (p0 : Int32) (σ : SG) : Option (SG) := 
  if sI σ a 74 = 0 then (
  if sI σ a 70 = 1 then (ix (sI σ a 38) 400 fun j3 => sb (uI σ 1156 j3 p0) fun σ7 => ix (sI σ7 a 38) 400 fun j8 => sb (uI σ7 1157 j8 (sI σ7 a 71)) fun σ12 => ix (sI σ12 a 38) 400 fun j13 => sb (uI σ12 1158 j13 ((sI σ12 a 72) - (sI σ12 a 71))) fun σ17 => sb (uI σ17 a 38 ((sI σ17 a 38) + 1)) fun σ18 => b1 (x_X12_next U a σ18) fun σ20 => some σ20) else (b1 (x_X12_fail a 1 (sI σ a 71) σ) fun σ22 => some σ22)) else (some σ)
noncomputable def x_X12_lastAt (a : Nat) (σ : SG) : Option (Int32) := 
  if sI σ a 38 = 0 then (some 0) else (ix ((sI σ a 38) - 1) 400 fun j2 => some (sI σ 1157 j2))
noncomputable def x_X12_lastLong (a : Nat) (σ : SG) : Option (Int32) := 
  if sI σ a 38 = 0 then (some 0) else (ix ((sI σ a 38) - 1) 400 fun j2 => some (sI σ 1158 j2))
noncomputable def x_X12_isSign (a : Nat) (p0 : Int32) (σ : SG) : Option (Int32) := 
  if sI σ a 70 = 4 then (ix (sI σ a 71) 700 fun j2 => 
  if sI σ 1102 j2 = p0 then (some 1) else (some 0)) else (some 0)
noncomputable def x_X12_takeSign (U : Nat) (a : Nat) (p0 : Int32) (σ : SG) : Option (SG) := 
  if sI σ a 74 = 0 then (b1 (x_X12_isSign a p0 σ) fun v3 => 
  if v3 = 0 then (b1 (x_X12_fail a 1 (sI σ a 71) σ) fun σ6 => some σ6) else (b1 (x_X12_next U a σ) fun σ8 => some σ8)) else (some σ)
noncomputable def x_X12_beginMessage_16 (U : Nat) (a : Nat) (v1_ : Int32) (s0_ : Int32) (σ : SG) : Option (Int32 × SG) := b1 (x_X12_next U a σ) fun σ3 => b1 (x_X12_declare U a s0_ σ3) fun σ5 => ix (sI σ5 a 32) 100 fun j6 => sb (uI σ5 1128 j6 s0_) fun σ10 => b1 (x_X12_lastAt a σ10) fun v12 => ix (sI σ10 a 32) 100 fun j13 => sb (uI σ10 1129 j13 v12) fun σ17 => b1 (x_X12_lastLong a σ17) fun v19 => ix (sI σ17 a 32) 100 fun j20 => sb (uI σ17 1130 j20 v19) fun σ24 => ix v1_ 100 fun j25 => sb (uI σ24 1159 j25 (sI σ24 a 32)) fun σ29 => sb (uI σ29 a 32 ((sI σ29 a 32) + 1)) fun σ30 => b1 (x_X12_takeSign U a 123 σ30) fun σ32 => some (v1_ + 1, σ32)
noncomputable def x_X12_beginMessage (U : Nat) (a : Nat) (p0 : Int32) (σ : SG) : Option (Int32 × SG) := 
  if p0 = 0 then (x_X12_beginMessage_16 U a p0 (-1) σ) else (ix (p0 - 1) 100 fun j33 => x_X12_beginMessage_16 U a p0 (sI σ 1159 j33) σ)
noncomputable def x_X12_beginValue (a : Nat) (p0 : Int32) (p1 : Int32) (p2 : Int32) (σ : SG) : Option (SG) := sb (uI σ a 80 p0) fun σ1 => sb (uI σ1 a 79 0) fun σ2 => sb (uI σ2 a 107 0) fun σ3 => sb (uI σ3 a 81 0) fun σ4 => sb (uI σ4 a 82 0) fun σ5 => sb (uI σ5 a 83 0) fun σ6 => sb (uI σ6 a 84 0) fun σ7 => sb (uI σ7 a 85 p2) fun σ8 => b2 (x_X12_addNode a p1 (-1) 1 σ8) fun v10 σ11 => some σ11
noncomputable def x_X12_isSchema (p0 : Int32) : Option (Int32) := 
  if p0 = 0 then (some 1) else (
  if p0 = 1 then (some 1) else (some 0))
noncomputable def x_X12_isMessage (a : Nat) (p0 : Int32) (p1 : Int32) (σ : SG) : Option (Int32) := b1 (x_X12_isSchema p0) fun v2 => 
  if v2 = 0 then (some 0) else (
  if p1 < 0 then (some 0) else (ix p0 2 fun j5 => 
  if p1 < sI σ 1104 j5 then (some 1) else (some 0)))
noncomputable def x_X12_begins_44 (a : Nat) (v1_ : Int32) (v2_ : Int32) (v3_ : Int32) (s0_ : Int32) (σ : SG) : Option (Int32 × SG) := sb (uI σ a 5 s0_) fun σ7 => 
  if sI σ7 a 5 = 0 then (b1 (x_X12_beginValue a v1_ v2_ v3_ σ7) fun σ10 => some (1, σ10)) else (some (0, σ7))
noncomputable def x_X12_begins_43 (a : Nat) (v1_ : Int32) (v2_ : Int32) (v3_ : Int32) (σ : SG) : Option (Int32 × SG) := x_X12_begins_44 a v1_ v2_ v3_ 1 σ
noncomputable def x_X12_begins (a : Nat) (p0 : Int32) (p1 : Int32) (p2 : Int32) (σ : SG) : Option (Int32 × SG) := sb (uI σ a 73 (sI σ a 1)) fun σ1 => sb (uI σ1 a 1 0) fun σ2 => sb (uI σ2 a 79 0) fun σ3 => b1 (x_X12_isMessage a p0 p1 σ3) fun v5 => 
  if v5 = 0 then (x_X12_begins_43 a p0 p1 p2 σ3) else (
  if p2 < 1 then (x_X12_begins_43 a p0 p1 p2 σ3) else (
  if 20 < p2 then (x_X12_begins_43 a p0 p1 p2 σ3) else (x_X12_begins_44 a p0 p1 p2 0 σ3)))
noncomputable def x_X12_put (a : Nat) (p0 : Int32) (σ : SG) : Option (SG) := 
  if sI σ a 3 = 4000 then (sb (uI σ a 4 1) fun σ2 => some σ2) else (ix (sI σ a 3) 4000 fun j3 => sb (uI σ 1103 j3 p0) fun σ7 => sb (uI σ7 a 3 ((sI σ7 a 3) + 1)) fun σ8 => some σ8)
noncomputable def x_X12_blanks_L2 (U : Nat) (a : Nat) (v1_ : Int32) : Nat → Int32 → SG → Option (SG)
  | 0, _, _ => none
  | U1 + 1, v2_, σ => 
  if v2_ < v1_ then (b1 (x_X12_put a 32 σ) fun σ3 => x_X12_blanks_L2 U a v1_ U1 (v2_ + 1) σ3) else (some σ)
noncomputable def x_X12_blanks (U : Nat) (a : Nat) (p0 : Int32) (σ : SG) : Option (SG) := x_X12_blanks_L2 U a p0 U 0 σ
noncomputable def x_X12_emptyOut (a : Nat) (σ : SG) : Option (SG) := sb (uI σ a 3 0) fun σ1 => sb (uI σ1 a 4 0) fun σ2 => some σ2
noncomputable def x_X12_open (a : Nat) (p0 : Int32) (p1 : Int32) (σ : SG) : Option (SG) := ix ((16 * p0) + p1) 256 fun j1 => sb (uI σ 1181 j1 (vp_nar .boolean 1)) fun σ5 => ix (sI σ5 a 106) 260 fun j6 => sb (uI σ5 1182 j6 p0) fun σ10 => ix (sI σ10 a 106) 260 fun j11 => sb (uI σ10 1183 j11 p1) fun σ15 => ix (sI σ15 a 106) 260 fun j16 => sb (uI σ15 1184 j16 0) fun σ20 => sb (uI σ20 a 106 ((sI σ20 a 106) + 1)) fun σ21 => some σ21
noncomputable def x_X12_fieldAt_89 (U : Nat) (a : Nat) (k42 : Int32 → Int32 → Option (Int32)) (k95 : Int32 → Option (Int32)) (v1_ : Int32) (v2_ : Int32) (v3_ : Int32) (v4_ : Int32) (v5_ : Int32) (v6_ : Int32) (σ : SG) : Option (Int32) := k42 v5_ (v6_ + 1)
noncomputable def x_X12_fieldAt_L42 (U : Nat) (a : Nat) (k95 : Int32 → Option (Int32)) (v1_ : Int32) (v2_ : Int32) (v3_ : Int32) (v4_ : Int32) (σ : SG) : Nat → Int32 → Int32 → Option (Int32)
  | 0, _, _ => none
  | U1 + 1, v5_, v6_ => ix v1_ 2 fun j11 => 
  if v6_ < (60 * v1_) + (sI σ 1106 j11) then (ix v6_ 120 fun j16 => 
  if sI σ 1114 j16 = v2_ then (ix v6_ 120 fun j21 => ix v4_ 120 fun j25 => 
  if sI σ 1117 j21 < sI σ 1117 j25 then (x_X12_fieldAt_89 U a (x_X12_fieldAt_L42 U a k95 v1_ v2_ v3_ v4_ σ U1) k95 v1_ v2_ v3_ v4_ (v5_ + 1) v6_ σ) else (x_X12_fieldAt_89 U a (x_X12_fieldAt_L42 U a k95 v1_ v2_ v3_ v4_ σ U1) k95 v1_ v2_ v3_ v4_ v5_ v6_ σ)) else (x_X12_fieldAt_89 U a (x_X12_fieldAt_L42 U a k95 v1_ v2_ v3_ v4_ σ U1) k95 v1_ v2_ v3_ v4_ v5_ v6_ σ)) else (k95 v5_)
noncomputable def x_X12_fieldAt_104 (U : Nat) (a : Nat) (k6 : Int32 → Option (Int32)) (v1_ : Int32) (v2_ : Int32) (v3_ : Int32) (v4_ : Int32) (σ : SG) : Option (Int32) := k6 (v4_ + 1)
noncomputable def x_X12_fieldAt_L6 (U : Nat) (a : Nat) (v1_ : Int32) (v2_ : Int32) (v3_ : Int32) (σ : SG) : Nat → Int32 → Option (Int32)
  | 0, _ => none
  | U1 + 1, v4_ => ix v1_ 2 fun j1 => 
  if v4_ < (60 * v1_) + (sI σ 1106 j1) then (ix v4_ 120 fun j6 => 
  if sI σ 1114 j6 = v2_ then (x_X12_fieldAt_L42 U a (fun w30 => 
  if w30 = v3_ then (some v4_) else (x_X12_fieldAt_104 U a (x_X12_fieldAt_L6 U a v1_ v2_ v3_ σ U1) v1_ v2_ v3_ v4_ σ)) v1_ v2_ v3_ v4_ σ U 0 (60 * v1_)) else (x_X12_fieldAt_104 U a (x_X12_fieldAt_L6 U a v1_ v2_ v3_ σ U1) v1_ v2_ v3_ v4_ σ)) else (some (-1))
noncomputable def x_X12_fieldAt (U : Nat) (a : Nat) (p0 : Int32) (p1 : Int32) (p2 : Int32) (σ : SG) : Option (Int32) := x_X12_fieldAt_L6 U a p0 p1 p2 σ U (60 * p0)
noncomputable def x_X12_freshNumbered_38 (U : Nat) (a : Nat) (k3 : Int32 → Option (Int32)) (v1_ : Int32) (v2_ : Int32) (v3_ : Int32) (σ : SG) : Option (Int32) := k3 (v3_ + 1)
noncomputable def x_X12_freshNumbered_L3 (U : Nat) (a : Nat) (v1_ : Int32) (v2_ : Int32) (σ : SG) : Nat → Int32 → Option (Int32)
  | 0, _ => none
  | U1 + 1, v3_ => ix 1 2 fun j1 => 
  if v3_ < 60 + (sI σ 1106 j1) then (ix v3_ 120 fun j6 => 
  if sI σ 1114 j6 = v1_ then (ix v3_ 120 fun j11 => 
  if sI σ 1117 j11 = v2_ then (some v3_) else (x_X12_freshNumbered_38 U a (x_X12_freshNumbered_L3 U a v1_ v2_ σ U1) v1_ v2_ v3_ σ)) else (x_X12_freshNumbered_38 U a (x_X12_freshNumbered_L3 U a v1_ v2_ σ U1) v1_ v2_ v3_ σ)) else (some (-1))
noncomputable def x_X12_freshNumbered (U : Nat) (a : Nat) (p0 : Int32) (p1 : Int32) (σ : SG) : Option (Int32) := x_X12_freshNumbered_L3 U a p0 p1 σ U 60
noncomputable def x_X12_joined_133 (U : Nat) (a : Nat) (k3 : Int32 → Option (Int32)) (v1_ : Int32) (v2_ : Int32) (v3_ : Int32) (v4_ : Int32) (v5_ : Int32) (σ : SG) : Option (Int32) := k3 (v5_ + 1)
noncomputable def x_X12_joined_90 (U : Nat) (a : Nat) (k3 : Int32 → Option (Int32)) (v1_ : Int32) (v2_ : Int32) (v3_ : Int32) (v4_ : Int32) (v5_ : Int32) (v6_ : Int32) (s0_ : Int32) (σ : SG) : Option (Int32) := 
  if v6_ = (-1) then (x_X12_joined_133 U a k3 v1_ v2_ v3_ v4_ v5_ σ) else (
  if s0_ = 0 then (ix v4_ 120 fun j33 => 
  if sI σ 1122 j33 = (-1) then (x_X12_joined_133 U a k3 v1_ v2_ v3_ v4_ v5_ σ) else (ix v6_ 120 fun j38 => ix v4_ 120 fun j42 => 
  if sI σ 1122 j38 = sI σ 1122 j42 then (some 1) else (x_X12_joined_133 U a k3 v1_ v2_ v3_ v4_ v5_ σ))) else (x_X12_joined_133 U a k3 v1_ v2_ v3_ v4_ v5_ σ))
noncomputable def x_X12_joined_89 (U : Nat) (a : Nat) (k3 : Int32 → Option (Int32)) (v1_ : Int32) (v2_ : Int32) (v3_ : Int32) (v4_ : Int32) (v5_ : Int32) (v6_ : Int32) (σ : SG) : Option (Int32) := x_X12_joined_90 U a k3 v1_ v2_ v3_ v4_ v5_ v6_ 0 σ
noncomputable def x_X12_joined_57 (U : Nat) (a : Nat) (k3 : Int32 → Option (Int32)) (v1_ : Int32) (v2_ : Int32) (v3_ : Int32) (v4_ : Int32) (v5_ : Int32) (s0_ : Int32) (σ : SG) : Option (Int32) := ix v3_ 120 fun j26 => 
  if sI σ 1122 j26 = (-1) then (x_X12_joined_89 U a k3 v1_ v2_ v3_ v4_ v5_ s0_ σ) else (ix v5_ 120 fun j47 => ix v3_ 120 fun j51 => 
  if sI σ 1122 j47 = sI σ 1122 j51 then (x_X12_joined_90 U a k3 v1_ v2_ v3_ v4_ v5_ s0_ 1 σ) else (x_X12_joined_89 U a k3 v1_ v2_ v3_ v4_ v5_ s0_ σ))
noncomputable def x_X12_joined_56 (U : Nat) (a : Nat) (k3 : Int32 → Option (Int32)) (v1_ : Int32) (v2_ : Int32) (v3_ : Int32) (v4_ : Int32) (v5_ : Int32) (σ : SG) : Option (Int32) := x_X12_joined_57 U a k3 v1_ v2_ v3_ v4_ v5_ (-1) σ
noncomputable def x_X12_joined_L3 (U : Nat) (a : Nat) (v1_ : Int32) (v2_ : Int32) (v3_ : Int32) (v4_ : Int32) (σ : SG) : Nat → Int32 → Option (Int32)
  | 0, _ => none
  | U1 + 1, v5_ => ix 0 2 fun j1 => 
  if v5_ < sI σ 1106 j1 then (ix v5_ 120 fun j6 => 
  if sI σ 1114 j6 = v1_ then (ix v5_ 120 fun j11 => ix v3_ 120 fun j15 => 
  if sI σ 1117 j11 < sI σ 1117 j15 then (ix v5_ 120 fun j20 => b1 (x_X12_freshNumbered U a v2_ (sI σ 1117 j20) σ) fun v25 => x_X12_joined_57 U a (x_X12_joined_L3 U a v1_ v2_ v3_ v4_ σ U1) v1_ v2_ v3_ v4_ v5_ v25 σ) else (x_X12_joined_56 U a (x_X12_joined_L3 U a v1_ v2_ v3_ v4_ σ U1) v1_ v2_ v3_ v4_ v5_ σ)) else (x_X12_joined_56 U a (x_X12_joined_L3 U a v1_ v2_ v3_ v4_ σ U1) v1_ v2_ v3_ v4_ v5_ σ)) else (some 0)
noncomputable def x_X12_joined (U : Nat) (a : Nat) (p0 : Int32) (p1 : Int32) (p2 : Int32) (p3 : Int32) (σ : SG) : Option (Int32) := x_X12_joined_L3 U a p0 p1 p2 p3 σ U 0
noncomputable def x_X12_widens (p0 : Int32) (p1 : Int32) : Option (Int32) := 
  if p0 = 0 then (
  if p1 = 1 then (some 1) else (
  if p1 = 14 then (some 1) else (some 0))) else (
  if p0 = 2 then (
  if p1 = 3 then (some 1) else (
  if p1 = 1 then (some 1) else (some 0))) else (
  if p0 = 4 then (
  if p1 = 5 then (some 1) else (some 0)) else (
  if p0 = 10 then (
  if p1 = 0 then (some 1) else (
  if p1 = 1 then (some 1) else (
  if p1 = 2 then (some 1) else (
  if p1 = 3 then (some 1) else (
  if p1 = 14 then (some 1) else (some 0)))))) else (
  if p0 = 14 then (
  if p1 = 0 then (some 1) else (
  if p1 = 1 then (some 1) else (some 0))) else (
  if p0 = 11 then (
  if p1 = 12 then (some 1) else (some 0)) else (some 0))))))
noncomputable def x_X12_checkStep_180 (U : Nat) (a : Nat) (v2_ : Int32) (v3_ : Int32) (σ : SG) : Option (Int32 × SG) := ix v2_ 120 fun j70 => 
  if sI σ 1118 j70 = 13 then (ix v2_ 120 fun j75 => ix v3_ 120 fun j79 => ix ((16 * (sI σ 1119 j75)) + (sI σ 1119 j79)) 256 fun j83 => 
  if sI σ 1181 j83 = 0 then (ix v2_ 120 fun j88 => ix v3_ 120 fun j92 => b1 (x_X12_open a (sI σ 1119 j88) (sI σ 1119 j92) σ) fun σ97 => some (0, σ97)) else (some (0, σ))) else (some (0, σ))
noncomputable def x_X12_checkStep_77 (U : Nat) (a : Nat) (v1_ : Int32) (v2_ : Int32) (v3_ : Int32) (s0_ : Int32) (σ : SG) : Option (Int32 × SG) := ix v1_ 260 fun j30 => ix v1_ 260 fun j34 => sb (uI σ 1184 j34 ((sI σ 1184 j30) + 1)) fun σ38 => 
  if v3_ = (-1) then (some (0, σ38)) else (
  if s0_ = 0 then (ix v1_ 260 fun j41 => ix v1_ 260 fun j45 => b1 (x_X12_joined U a (sI σ38 1182 j41) (sI σ38 1183 j45) v2_ v3_ σ38) fun v50 => 
  if v50 = 0 then (some (0, σ38)) else (some (3, σ38))) else (ix v2_ 120 fun j52 => ix v3_ 120 fun j56 => 
  if sI σ38 1120 j52 = sI σ38 1120 j56 then (ix v2_ 120 fun j61 => ix v3_ 120 fun j65 => 
  if sI σ38 1118 j61 = sI σ38 1118 j65 then (x_X12_checkStep_180 U a v2_ v3_ σ38) else (ix v2_ 120 fun j98 => ix v3_ 120 fun j102 => b1 (x_X12_widens (sI σ38 1118 j98) (sI σ38 1118 j102)) fun v107 => 
  if v107 = 0 then (some (2, σ38)) else (x_X12_checkStep_180 U a v2_ v3_ σ38))) else (some (1, σ38))))
noncomputable def x_X12_checkStep (U : Nat) (a : Nat) (σ : SG) : Option (Int32 × SG) := ix ((sI σ a 106) - 1) 260 fun j1 => ix ((sI σ a 106) - 1) 260 fun j5 => b1 (x_X12_fieldAt U a 0 (sI σ 1182 j1) ((sI σ 1184 j5) / 2) σ) fun v11 => 
  if v11 = (-1) then (sb (uI σ a 106 ((sI σ a 106) - 1)) fun σ13 => some (0, σ13)) else (ix ((sI σ a 106) - 1) 260 fun j14 => ix v11 120 fun j18 => b1 (x_X12_freshNumbered U a (sI σ 1183 j14) (sI σ 1117 j18) σ) fun v23 => ix ((sI σ a 106) - 1) 260 fun j24 => 
  if (sI σ 1184 j24) - (sI σ 1184 j24) / 2 * 2 = 0 then (x_X12_checkStep_77 U a ((sI σ a 106) - 1) v11 v23 1 σ) else (x_X12_checkStep_77 U a ((sI σ a 106) - 1) v11 v23 0 σ))
noncomputable def x_X12_putVarint_L2 (U : Nat) (a : Nat) (k34 : Int64 → SG → Option (SG)) : Nat → Int64 → SG → Option (SG)
  | 0, _, _ => none
  | U1 + 1, v3_, σ => 
  if v3_ &&& (-128) = 0 then (k34 v3_ σ) else (b1 (x_X12_put a ((Int64.toInt32 (v3_ &&& 127)) ||| 128) σ) fun σ3 => x_X12_putVarint_L2 U a k34 U1 (lush v3_ 7) σ3)
noncomputable def x_X12_putVarint (U : Nat) (a : Nat) (p0 : Int64) (σ : SG) : Option (SG) := x_X12_putVarint_L2 U a (fun w4 σ5 => b1 (x_X12_put a (Int64.toInt32 w4) σ5) fun σ7 => some σ7) U p0 σ
noncomputable def x_X12_check_L42 (U : Nat) (a : Nat) (k62 : SG → Option (Int32 × SG)) (v1_ : Int32) (v2_ : Int32) : Nat → Int32 → SG → Option (Int32 × SG)
  | 0, _, _ => none
  | U1 + 1, v3_, σ => 
  if v3_ < 256 then (ix v3_ 256 fun j9 => sb (uI σ 1181 j9 (vp_nar .boolean 0)) fun σ13 => x_X12_check_L42 U a k62 v1_ v2_ U1 (v3_ + 1) σ13) else (k62 σ)
noncomputable def x_X12_check_L75 (U : Nat) (a : Nat) (k94 : Int32 → SG → Option (Int32 × SG)) : Nat → Int32 → SG → Option (Int32 × SG)
  | 0, _, _ => none
  | U1 + 1, v3_, σ => 
  if 0 < sI σ a 106 then (
  if v3_ = 0 then (b2 (x_X12_checkStep U a σ) fun v21 σ22 => x_X12_check_L75 U a k94 U1 v21 σ22) else (k94 v3_ σ)) else (k94 v3_ σ)
noncomputable def x_X12_check_L97 (U : Nat) (a : Nat) (v3_ : Int32) : Nat → Int32 → SG → Option (Int32 × SG)
  | 0, _, _ => none
  | U1 + 1, v4_, σ => 
  if v4_ < sI σ a 106 then (
  if v3_ = 0 then (some (v3_, σ)) else (ix v4_ 260 fun j27 => ix v4_ 260 fun j31 => b1 (x_X12_fieldAt U a 0 (sI σ 1182 j27) (((sI σ 1184 j31) - 1) / 2) σ) fun v37 => ix v37 120 fun j38 => b1 (x_X12_putVarint U a (Int32.toInt64 (sI σ 1117 j38)) σ) fun σ43 => x_X12_check_L97 U a v3_ U1 (v4_ + 1) σ43)) else (some (v3_, σ))
noncomputable def x_X12_check_94 (U : Nat) (a : Nat) (v3_ : Int32) (σ : SG) : Option (Int32 × SG) := x_X12_check_L97 U a v3_ U 0 σ
noncomputable def x_X12_check_28 (U : Nat) (a : Nat) (v1_ : Int32) (v2_ : Int32) (s0_ : Int32) (σ : SG) : Option (Int32 × SG) := sb (uI σ a 5 s0_) fun σ6 => 
  if sI σ6 a 5 = 0 then (x_X12_check_L42 U a (fun σ14 => sb (uI σ14 a 106 0) fun σ15 => b1 (x_X12_open a v1_ v2_ σ15) fun σ17 => x_X12_check_L75 U a (fun w23 σ24 => x_X12_check_94 U a w23 σ24) U 0 σ17) v1_ v2_ U 0 σ6) else (some (0, σ6))
noncomputable def x_X12_check_27 (U : Nat) (a : Nat) (v1_ : Int32) (v2_ : Int32) (σ : SG) : Option (Int32 × SG) := x_X12_check_28 U a v1_ v2_ 1 σ
noncomputable def x_X12_check (U : Nat) (a : Nat) (p0 : Int32) (p1 : Int32) (σ : SG) : Option (Int32 × SG) := b1 (x_X12_emptyOut a σ) fun σ2 => b1 (x_X12_isMessage a 0 p0 σ2) fun v4 => 
  if v4 = 0 then (x_X12_check_27 U a p0 p1 σ2) else (b1 (x_X12_isMessage a 1 p1 σ2) fun v45 => 
  if v45 = 0 then (x_X12_check_27 U a p0 p1 σ2) else (x_X12_check_28 U a p0 p1 0 σ2))
noncomputable def x_X12_checkLimits_L4 (U : Nat) (a : Nat) (k27 : Int32 → Option (SG)) (σ : SG) : Nat → Int32 → Int32 → Option (SG)
  | 0, _, _ => none
  | U1 + 1, v1_, v2_ => 
  if v2_ < sI σ a 38 then (ix v2_ 400 fun j2 => x_X12_checkLimits_L4 U a k27 σ U1 (v1_ + (sI σ 1158 j2)) (v2_ + 1)) else (k27 v1_)
noncomputable def x_X12_checkLimits_79 (U : Nat) (a : Nat) (σ : SG) : Option (SG) := b1 (x_X12_fail a 7 (sI σ a 73) σ) fun σ9 => some σ9
noncomputable def x_X12_checkLimits (U : Nat) (a : Nat) (σ : SG) : Option (SG) := x_X12_checkLimits_L4 U a (fun w6 => 
  if 16 < sI σ a 32 then (x_X12_checkLimits_79 U a σ) else (
  if 8 < sI σ a 33 then (x_X12_checkLimits_79 U a σ) else (
  if 60 < sI σ a 34 then (x_X12_checkLimits_79 U a σ) else (
  if 40 < sI σ a 35 then (x_X12_checkLimits_79 U a σ) else (
  if 16 < sI σ a 36 then (x_X12_checkLimits_79 U a σ) else (
  if 600 < w6 then (x_X12_checkLimits_79 U a σ) else (some σ))))))) σ U 0 0
noncomputable def x_X12_sameText_L11 (U : Nat) (a : Nat) (v1_ : Int32) (v2_ : Int32) (v3_ : Int32) (σ : SG) : Nat → Int32 → Option (Int32)
  | 0, _ => none
  | U1 + 1, v5_ => 
  if v5_ < v2_ then (ix (v1_ + v5_) 700 fun j3 => ix (v3_ + v5_) 700 fun j7 => 
  if sI σ 1102 j3 = sI σ 1102 j7 then (x_X12_sameText_L11 U a v1_ v2_ v3_ σ U1 (v5_ + 1)) else (some 0)) else (some 1)
noncomputable def x_X12_sameText (U : Nat) (a : Nat) (p0 : Int32) (p1 : Int32) (p2 : Int32) (p3 : Int32) (σ : SG) : Option (Int32) := 
  if p1 = p3 then (x_X12_sameText_L11 U a p0 p1 p2 σ U 0) else (some 0)
noncomputable def x_X12_earlier_16 (a : Nat) (v1_ : Int32) (v2_ : Int32) (σ : SG) : Option (SG) := sb (uI σ a 74 v1_) fun σ2 => sb (uI σ2 a 75 v2_) fun σ3 => some σ3
noncomputable def x_X12_earlier (a : Nat) (p0 : Int32) (p1 : Int32) (σ : SG) : Option (SG) := 
  if sI σ a 74 = 0 then (x_X12_earlier_16 a p0 p1 σ) else (
  if p1 < sI σ a 75 then (x_X12_earlier_16 a p0 p1 σ) else (some σ))
noncomputable def x_X12_checkNames_74 (U : Nat) (a : Nat) (k12 : Int32 → SG → Option (SG)) (k80 : SG → Option (SG)) (v1_ : Int32) (v2_ : Int32) (σ : SG) : Option (SG) := k12 (v2_ + 1) σ
noncomputable def x_X12_checkNames_L12 (U : Nat) (a : Nat) (k80 : SG → Option (SG)) (v1_ : Int32) : Nat → Int32 → SG → Option (SG)
  | 0, _, _ => none
  | U1 + 1, v2_, σ => 
  if v2_ < v1_ then (ix v1_ 400 fun j3 => ix v2_ 400 fun j7 => 
  if sI σ 1156 j3 = sI σ 1156 j7 then (ix v1_ 400 fun j12 => ix v1_ 400 fun j16 => ix v2_ 400 fun j20 => ix v2_ 400 fun j24 => b1 (x_X12_sameText U a (sI σ 1157 j12) (sI σ 1158 j16) (sI σ 1157 j20) (sI σ 1158 j24) σ) fun v29 => 
  if v29 = 0 then (x_X12_checkNames_74 U a (x_X12_checkNames_L12 U a k80 v1_ U1) k80 v1_ v2_ σ) else (ix v1_ 400 fun j31 => b1 (x_X12_earlier a 3 (sI σ 1157 j31) σ) fun σ36 => x_X12_checkNames_74 U a (x_X12_checkNames_L12 U a k80 v1_ U1) k80 v1_ v2_ σ36)) else (x_X12_checkNames_74 U a (x_X12_checkNames_L12 U a k80 v1_ U1) k80 v1_ v2_ σ)) else (k80 σ)
noncomputable def x_X12_checkNames_L2 (U : Nat) (a : Nat) : Nat → Int32 → SG → Option (SG)
  | 0, _, _ => none
  | U1 + 1, v1_, σ => 
  if v1_ < sI σ a 38 then (x_X12_checkNames_L12 U a (fun σ37 => x_X12_checkNames_L2 U a U1 (v1_ + 1) σ37) v1_ U 0 σ) else (some σ)
noncomputable def x_X12_checkNames (U : Nat) (a : Nat) (σ : SG) : Option (SG) := x_X12_checkNames_L2 U a U 0 σ
noncomputable def x_X12_checkNumbers_94 (U : Nat) (a : Nat) (k57 : Int32 → Int32 → Option (SG)) (k100 : Int32 → Option (SG)) (v1_ : Int32) (v2_ : Int64) (v4_ : Int32) (v5_ : Int32) (σ : SG) : Option (SG) := k57 v4_ (v5_ + 1)
noncomputable def x_X12_checkNumbers_L57 (U : Nat) (a : Nat) (k100 : Int32 → Option (SG)) (v1_ : Int32) (v2_ : Int64) (σ : SG) : Nat → Int32 → Int32 → Option (SG)
  | 0, _, _ => none
  | U1 + 1, v4_, v5_ => 
  if v5_ < v1_ then (ix v5_ 200 fun j8 => ix v1_ 200 fun j12 => 
  if sI σ 1134 j8 = sI σ 1134 j12 then (ix v5_ 200 fun j17 => 
  if sL σ 1137 j17 = v2_ then (x_X12_checkNumbers_94 U a (x_X12_checkNumbers_L57 U a k100 v1_ v2_ σ U1) k100 v1_ v2_ 0 v5_ σ) else (x_X12_checkNumbers_94 U a (x_X12_checkNumbers_L57 U a k100 v1_ v2_ σ U1) k100 v1_ v2_ v4_ v5_ σ)) else (x_X12_checkNumbers_94 U a (x_X12_checkNumbers_L57 U a k100 v1_ v2_ σ U1) k100 v1_ v2_ v4_ v5_ σ)) else (k100 v4_)
noncomputable def x_X12_checkNumbers_116 (U : Nat) (a : Nat) (k2 : Int32 → SG → Option (SG)) (k122 : SG → Option (SG)) (v1_ : Int32) (σ : SG) : Option (SG) := k2 (v1_ + 1) σ
noncomputable def x_X12_checkNumbers_52 (U : Nat) (a : Nat) (k2 : Int32 → SG → Option (SG)) (k122 : SG → Option (SG)) (v1_ : Int32) (v2_ : Int64) (s0_ : Int32) (σ : SG) : Option (SG) := x_X12_checkNumbers_L57 U a (fun w22 => 
  if w22 = 0 then (ix v1_ 200 fun j24 => b1 (x_X12_earlier a 4 (sI σ 1138 j24) σ) fun σ29 => x_X12_checkNumbers_116 U a k2 k122 v1_ σ29) else (x_X12_checkNumbers_116 U a k2 k122 v1_ σ)) v1_ v2_ σ U s0_ 0
noncomputable def x_X12_checkNumbers_51 (U : Nat) (a : Nat) (k2 : Int32 → SG → Option (SG)) (k122 : SG → Option (SG)) (v1_ : Int32) (v2_ : Int64) (σ : SG) : Option (SG) := x_X12_checkNumbers_52 U a k2 k122 v1_ v2_ 0 σ
noncomputable def x_X12_checkNumbers_47 (U : Nat) (a : Nat) (k2 : Int32 → SG → Option (SG)) (k122 : SG → Option (SG)) (v1_ : Int32) (v2_ : Int64) (σ : SG) : Option (SG) := x_X12_checkNumbers_52 U a k2 k122 v1_ v2_ 1 σ
noncomputable def x_X12_checkNumbers_L2 (U : Nat) (a : Nat) (k122 : SG → Option (SG)) : Nat → Int32 → SG → Option (SG)
  | 0, _, _ => none
  | U1 + 1, v1_, σ => 
  if v1_ < sI σ a 34 then (ix v1_ 200 fun j2 => 
  if sL σ 1137 j2 < 1 then (x_X12_checkNumbers_51 U a (x_X12_checkNumbers_L2 U a k122 U1) k122 v1_ (sL σ 1137 j2) σ) else (
  if 536870911 < sL σ 1137 j2 then (x_X12_checkNumbers_51 U a (x_X12_checkNumbers_L2 U a k122 U1) k122 v1_ (sL σ 1137 j2) σ) else (
  if sL σ 1137 j2 < 19000 then (x_X12_checkNumbers_47 U a (x_X12_checkNumbers_L2 U a k122 U1) k122 v1_ (sL σ 1137 j2) σ) else (
  if 19999 < sL σ 1137 j2 then (x_X12_checkNumbers_47 U a (x_X12_checkNumbers_L2 U a k122 U1) k122 v1_ (sL σ 1137 j2) σ) else (x_X12_checkNumbers_51 U a (x_X12_checkNumbers_L2 U a k122 U1) k122 v1_ (sL σ 1137 j2) σ))))) else (k122 σ)
noncomputable def x_X12_checkNumbers_212 (U : Nat) (a : Nat) (k124 : Int32 → SG → Option (SG)) (v1_ : Int32) (σ : SG) : Option (SG) := k124 (v1_ + 1) σ
noncomputable def x_X12_checkNumbers_200 (U : Nat) (a : Nat) (k124 : Int32 → SG → Option (SG)) (v1_ : Int32) (σ : SG) : Option (SG) := ix v1_ 200 fun j42 => b1 (x_X12_earlier a 6 (sI σ 1153 j42) σ) fun σ47 => x_X12_checkNumbers_212 U a k124 v1_ σ47
noncomputable def x_X12_checkNumbers_174 (U : Nat) (a : Nat) (k124 : Int32 → SG → Option (SG)) (v1_ : Int32) (σ : SG) : Option (SG) := ix v1_ 200 fun j37 => 
  if sL σ 1152 j37 < (-2147483648) then (x_X12_checkNumbers_200 U a k124 v1_ σ) else (ix v1_ 200 fun j48 => 
  if 2147483647 < sL σ 1152 j48 then (x_X12_checkNumbers_200 U a k124 v1_ σ) else (x_X12_checkNumbers_212 U a k124 v1_ σ))
noncomputable def x_X12_checkNumbers_158 (U : Nat) (a : Nat) (k124 : Int32 → SG → Option (SG)) (v1_ : Int32) (s0_ : Int32) (σ : SG) : Option (SG) := 
  if s0_ = 0 then (x_X12_checkNumbers_174 U a k124 v1_ σ) else (ix v1_ 200 fun j53 => 
  if sL σ 1152 j53 = 0 then (x_X12_checkNumbers_174 U a k124 v1_ σ) else (x_X12_checkNumbers_200 U a k124 v1_ σ))
noncomputable def x_X12_checkNumbers_153 (U : Nat) (a : Nat) (k124 : Int32 → SG → Option (SG)) (v1_ : Int32) (σ : SG) : Option (SG) := x_X12_checkNumbers_158 U a k124 v1_ 1 σ
noncomputable def x_X12_checkNumbers_L124 (U : Nat) (a : Nat) : Nat → Int32 → SG → Option (SG)
  | 0, _, _ => none
  | U1 + 1, v1_, σ => 
  if v1_ < sI σ a 35 then (
  if v1_ = 0 then (x_X12_checkNumbers_153 U a (x_X12_checkNumbers_L124 U a U1) v1_ σ) else (ix (v1_ - 1) 200 fun j58 => ix v1_ 200 fun j62 => 
  if sI σ 1149 j58 = sI σ 1149 j62 then (x_X12_checkNumbers_158 U a (x_X12_checkNumbers_L124 U a U1) v1_ 0 σ) else (x_X12_checkNumbers_153 U a (x_X12_checkNumbers_L124 U a U1) v1_ σ))) else (some σ)
noncomputable def x_X12_checkNumbers (U : Nat) (a : Nat) (σ : SG) : Option (SG) := x_X12_checkNumbers_L2 U a (fun σ33 => x_X12_checkNumbers_L124 U a U 0 σ33) U 0 σ
noncomputable def x_X12_inScope_53 (U : Nat) (a : Nat) (k2 : Int32 → Option (Int32)) (k59 : Option (Int32)) (v1_ : Int32) (v2_ : Int32) (v3_ : Int32) (σ : SG) : Option (Int32) := k2 (v3_ + 1)
noncomputable def x_X12_inScope_L2 (U : Nat) (a : Nat) (k59 : Option (Int32)) (v1_ : Int32) (v2_ : Int32) (σ : SG) : Nat → Int32 → Option (Int32)
  | 0, _ => none
  | U1 + 1, v3_ => 
  if v3_ < sI σ a 32 then (ix v3_ 100 fun j2 => 
  if sI σ 1128 j2 = v1_ then (ix v2_ 400 fun j7 => ix v2_ 400 fun j11 => ix v3_ 100 fun j15 => ix v3_ 100 fun j19 => b1 (x_X12_sameText U a (sI σ 1154 j7) (sI σ 1155 j11) (sI σ 1129 j15) (sI σ 1130 j19) σ) fun v24 => 
  if v24 = 0 then (x_X12_inScope_53 U a (x_X12_inScope_L2 U a k59 v1_ v2_ σ U1) k59 v1_ v2_ v3_ σ) else (some v3_)) else (x_X12_inScope_53 U a (x_X12_inScope_L2 U a k59 v1_ v2_ σ U1) k59 v1_ v2_ v3_ σ)) else (k59)
noncomputable def x_X12_inScope_116 (U : Nat) (a : Nat) (k61 : Int32 → Option (Int32)) (v1_ : Int32) (v2_ : Int32) (v3_ : Int32) (σ : SG) : Option (Int32) := k61 (v3_ + 1)
noncomputable def x_X12_inScope_L61 (U : Nat) (a : Nat) (v1_ : Int32) (v2_ : Int32) (σ : SG) : Nat → Int32 → Option (Int32)
  | 0, _ => none
  | U1 + 1, v3_ => 
  if v3_ < sI σ a 33 then (ix v3_ 100 fun j27 => 
  if sI σ 1131 j27 = v1_ then (ix v2_ 400 fun j32 => ix v2_ 400 fun j36 => ix v3_ 100 fun j40 => ix v3_ 100 fun j44 => b1 (x_X12_sameText U a (sI σ 1154 j32) (sI σ 1155 j36) (sI σ 1132 j40) (sI σ 1133 j44) σ) fun v49 => 
  if v49 = 0 then (x_X12_inScope_116 U a (x_X12_inScope_L61 U a v1_ v2_ σ U1) v1_ v2_ v3_ σ) else (some (1000 + v3_))) else (x_X12_inScope_116 U a (x_X12_inScope_L61 U a v1_ v2_ σ U1) v1_ v2_ v3_ σ)) else (some (-1))
noncomputable def x_X12_inScope (U : Nat) (a : Nat) (p0 : Int32) (p1 : Int32) (σ : SG) : Option (Int32) := x_X12_inScope_L2 U a (x_X12_inScope_L61 U a p0 p1 σ U 0) p0 p1 σ U 0
noncomputable def x_X12_resolve_L32 (U : Nat) (a : Nat) (k64 : Int32 → Option (SG)) (v1_ : Int32) (σ : SG) : Nat → Int32 → Int32 → Option (SG)
  | 0, _, _ => none
  | U1 + 1, v2_, v3_ => 
  if v3_ = (-1) then (
  if v2_ = (-1) then (k64 v3_) else (ix v2_ 100 fun j18 => ix v1_ 200 fun j22 => b1 (x_X12_inScope U a (sI σ 1128 j18) (sI σ 1143 j22) σ) fun v27 => x_X12_resolve_L32 U a k64 v1_ σ U1 (sI σ 1128 j18) v27)) else (k64 v3_)
noncomputable def x_X12_resolve_108 (U : Nat) (a : Nat) (k67 : Int32 → Int32 → Option (SG)) (k115 : Int32 → Option (SG)) (v1_ : Int32) (v4_ : Int32) (s0_ : Int32) (σ : SG) : Option (SG) := k67 s0_ (v4_ + 1)
noncomputable def x_X12_resolve_L67 (U : Nat) (a : Nat) (k115 : Int32 → Option (SG)) (v1_ : Int32) (σ : SG) : Nat → Int32 → Int32 → Option (SG)
  | 0, _, _ => none
  | U1 + 1, v3_, v4_ => ix v1_ 200 fun j29 => 
  if v4_ < sI σ 1144 j29 then (
  if v3_ = (-1) then (k115 v3_) else (
  if v3_ < 1000 then (ix v1_ 200 fun j36 => b1 (x_X12_inScope U a v3_ ((sI σ 1143 j36) + v4_) σ) fun v41 => x_X12_resolve_108 U a (x_X12_resolve_L67 U a k115 v1_ σ U1) k115 v1_ v4_ v41 σ) else (x_X12_resolve_108 U a (x_X12_resolve_L67 U a k115 v1_ σ U1) k115 v1_ v4_ (-1) σ))) else (k115 v3_)
noncomputable def x_X12_resolve_172 (U : Nat) (a : Nat) (s0_ : Int32) (s1_ : Int32) (σ : SG) : Option (SG) := ix s1_ 200 fun j57 => sb (uI σ 1141 j57 s0_) fun σ61 => some σ61
noncomputable def x_X12_resolve_150 (U : Nat) (a : Nat) (v1_ : Int32) (v3_ : Int32) (s0_ : Int32) (s1_ : Int32) (σ : SG) : Option (SG) := ix s1_ 200 fun j51 => sb (uI σ 1139 j51 s0_) fun σ55 => 
  if v3_ < 1000 then (x_X12_resolve_172 U a v3_ v1_ σ55) else (x_X12_resolve_172 U a (v3_ - 1000) v1_ σ55)
noncomputable def x_X12_resolve_131 (U : Nat) (a : Nat) (v1_ : Int32) (v3_ : Int32) (σ : SG) : Option (SG) := 
  if v3_ < 1000 then (x_X12_resolve_150 U a v1_ v3_ 13 v1_ σ) else (x_X12_resolve_150 U a v1_ v3_ 14 v1_ σ)
noncomputable def x_X12_resolve_115 (U : Nat) (a : Nat) (v1_ : Int32) (v3_ : Int32) (σ : SG) : Option (SG) := 
  if v3_ = (-1) then (ix v1_ 200 fun j44 => b1 (x_X12_earlier a 5 (sI σ 1140 j44) σ) fun σ49 => x_X12_resolve_131 U a v1_ v3_ σ49) else (x_X12_resolve_131 U a v1_ v3_ σ)
noncomputable def x_X12_resolve_64 (U : Nat) (a : Nat) (v1_ : Int32) (v3_ : Int32) (σ : SG) : Option (SG) := x_X12_resolve_L67 U a (fun w42 => x_X12_resolve_115 U a v1_ w42 σ) v1_ σ U v3_ 1
noncomputable def x_X12_resolve_19 (U : Nat) (a : Nat) (v1_ : Int32) (s0_ : Int32) (σ : SG) : Option (SG) := ix v1_ 200 fun j10 => b1 (x_X12_inScope U a s0_ (sI σ 1143 j10) σ) fun v15 => x_X12_resolve_L32 U a (fun w28 => x_X12_resolve_64 U a v1_ w28 σ) v1_ σ U s0_ v15
noncomputable def x_X12_resolve (U : Nat) (a : Nat) (p0 : Int32) (σ : SG) : Option (SG) := ix p0 200 fun j1 => 
  if sI σ 1142 j1 = 0 then (ix p0 200 fun j6 => x_X12_resolve_19 U a p0 (sI σ 1134 j6) σ) else (x_X12_resolve_19 U a p0 (-1) σ)
noncomputable def x_X12_isNumbers (p0 : Int32) : Option (Int32) := 
  if p0 = 11 then (some 0) else (
  if p0 = 12 then (some 0) else (
  if p0 = 13 then (some 0) else (some 1)))
noncomputable def x_X12_checkTypes_74 (U : Nat) (a : Nat) (k2 : Int32 → SG → Option (SG)) (v1_ : Int32) (σ : SG) : Option (SG) := k2 (v1_ + 1) σ
noncomputable def x_X12_checkTypes_62 (U : Nat) (a : Nat) (k2 : Int32 → SG → Option (SG)) (v1_ : Int32) (σ : SG) : Option (SG) := ix v1_ 200 fun j24 => b1 (x_X12_earlier a 6 (sI σ 1147 j24) σ) fun σ29 => x_X12_checkTypes_74 U a k2 v1_ σ29
noncomputable def x_X12_checkTypes_32 (U : Nat) (a : Nat) (k2 : Int32 → SG → Option (SG)) (v1_ : Int32) (σ : SG) : Option (SG) := ix v1_ 200 fun j14 => 
  if 0 < sI σ 1146 j14 then (ix v1_ 200 fun j19 => 
  if sI σ 1145 j19 = 0 then (x_X12_checkTypes_62 U a k2 v1_ σ) else (ix v1_ 200 fun j30 => b1 (x_X12_isNumbers (sI σ 1139 j30)) fun v35 => 
  if v35 = 0 then (x_X12_checkTypes_62 U a k2 v1_ σ) else (x_X12_checkTypes_74 U a k2 v1_ σ))) else (x_X12_checkTypes_74 U a k2 v1_ σ)
noncomputable def x_X12_checkTypes_L2 (U : Nat) (a : Nat) : Nat → Int32 → SG → Option (SG)
  | 0, _, _ => none
  | U1 + 1, v1_, σ => 
  if v1_ < sI σ a 34 then (ix v1_ 200 fun j2 => sb (uI σ 1141 j2 (-1)) fun σ6 => ix v1_ 200 fun j7 => 
  if sI σ6 1139 j7 = (-1) then (b1 (x_X12_resolve U a v1_ σ6) fun σ13 => x_X12_checkTypes_32 U a (x_X12_checkTypes_L2 U a U1) v1_ σ13) else (x_X12_checkTypes_32 U a (x_X12_checkTypes_L2 U a U1) v1_ σ6)) else (some σ)
noncomputable def x_X12_checkTypes (U : Nat) (a : Nat) (σ : SG) : Option (SG) := x_X12_checkTypes_L2 U a U 0 σ
noncomputable def x_X12_letters_L2 (U : Nat) (v0_ : Int64) (σ : SG) : Nat → Int32 → Option (Int32)
  | 0, _ => none
  | U1 + 1, v2_ => 
  if v2_ < 8 then (
  if lush v0_ (8 * v2_) = 0 then (some v2_) else (x_X12_letters_L2 U v0_ σ U1 (v2_ + 1))) else (some v2_)
noncomputable def x_X12_letters (U : Nat) (p0 : Int64) (σ : SG) : Option (Int32) := x_X12_letters_L2 U p0 σ U 0
noncomputable def x_X12_letter (U : Nat) (p0 : Int64) (p1 : Int32) (σ : SG) : Option (Int32) := b1 (x_X12_letters U p0 σ) fun v2 => some ((Int64.toInt32 (lush p0 (8 * ((v2 - 1) - p1)))) &&& 255)
noncomputable def x_X12_isPlain_L15 (U : Nat) (a : Nat) (v1_ : Int32) (v2_ : Int32) (v3_ : Int64) (σ : SG) : Nat → Int32 → Option (Int32)
  | 0, _ => none
  | U1 + 1, v5_ => 
  if v5_ < v2_ then (ix v5_ 700 fun j5 => b1 (x_X12_letter U v3_ (v5_ - v1_) σ) fun v10 => 
  if sI σ 1102 j5 = v10 then (x_X12_isPlain_L15 U a v1_ v2_ v3_ σ U1 (v5_ + 1)) else (some 0)) else (some 1)
noncomputable def x_X12_isPlain (U : Nat) (a : Nat) (p0 : Int32) (p1 : Int32) (p2 : Int64) (σ : SG) : Option (Int32) := b1 (x_X12_letters U p2 σ) fun v2 => 
  if p1 - p0 = v2 then (x_X12_isPlain_L15 U a p0 p1 p2 σ U p0) else (some 0)
noncomputable def x_X12_isWord (U : Nat) (a : Nat) (p0 : Int64) (σ : SG) : Option (Int32) := 
  if sI σ a 70 = 1 then (b1 (x_X12_isPlain U a (sI σ a 71) (sI σ a 72) p0 σ) fun v3 => 
  if v3 = 0 then (some 0) else (some 1)) else (some 0)
noncomputable def x_X12_takeWord (U : Nat) (a : Nat) (p0 : Int64) (σ : SG) : Option (SG) := 
  if sI σ a 74 = 0 then (b1 (x_X12_isWord U a p0 σ) fun v3 => 
  if v3 = 0 then (b1 (x_X12_fail a 1 (sI σ a 71) σ) fun σ6 => some σ6) else (b1 (x_X12_next U a σ) fun σ8 => some σ8)) else (some σ)
noncomputable def x_X12_isProto3 (U : Nat) (a : Nat) (σ : SG) : Option (Int32) := 
  if sI σ a 70 = 3 then (b1 (x_X12_isPlain U a ((sI σ a 71) + 1) ((sI σ a 72) - 1) 123636798484275 σ) fun v3 => 
  if v3 = 0 then (some 0) else (some 1)) else (some 0)
noncomputable def x_X12_isExtensions (U : Nat) (a : Nat) (σ : SG) : Option (Int32) := 
  if sI σ a 70 = 1 then (
  if (sI σ a 72) - (sI σ a 71) = 10 then (b1 (x_X12_isPlain U a (sI σ a 71) ((sI σ a 71) + 8) 7311721974029576559 σ) fun v4 => 
  if v4 = 0 then (some 0) else (b1 (x_X12_isPlain U a ((sI σ a 71) + 8) (sI σ a 72) 28275 σ) fun v7 => 
  if v7 = 0 then (some 0) else (some 1))) else (some 0)) else (some 0)
noncomputable def x_X12_isForeign (U : Nat) (a : Nat) (σ : SG) : Option (Int32) := b1 (x_X12_isWord U a 115918758703732 σ) fun v2 => 
  if v2 = 0 then (b1 (x_X12_isWord U a 31632277022795621 σ) fun v5 => 
  if v5 = 0 then (b1 (x_X12_isWord U a 122528780087150 σ) fun v8 => 
  if v8 = 0 then (b1 (x_X12_isWord U a 32481164609020773 σ) fun v11 => 
  if v11 = 0 then (b1 (x_X12_isWord U a 111568023285348 σ) fun v14 => 
  if v14 = 0 then (b1 (x_X12_isWord U a 7168368 σ) fun v17 => 
  if v17 = 0 then (b1 (x_X12_isWord U a 8030046131791487340 σ) fun v20 => 
  if v20 = 0 then (b1 (x_X12_isWord U a 8243119442065778020 σ) fun v23 => 
  if v23 = 0 then (b1 (x_X12_isWord U a 444301538672 σ) fun v26 => 
  if v26 = 0 then (b1 (x_X12_isExtensions U a σ) fun v29 => 
  if v29 = 0 then (b1 (x_X12_isWord U a 8243121572520813924 σ) fun v32 => 
  if v32 = 0 then (b1 (x_X12_isWord U a 7499875 σ) fun v35 => 
  if v35 = 0 then (some 0) else (some 1)) else (some 1)) else (some 1)) else (some 1)) else (some 1)) else (some 1)) else (some 1)) else (some 1)) else (some 1)) else (some 1)) else (some 1)) else (some 1)
noncomputable def x_X12_takeValue_136 (U : Nat) (a : Nat) (s0_ : Int64) (s1_ : Int32) (σ : SG) : Option (SG) := ix s1_ 200 fun j38 => sb (uL σ 1152 j38 s0_) fun σ42 => sb (uI σ42 a 35 ((sI σ42 a 35) + 1)) fun σ43 => b1 (x_X12_next U a σ43) fun σ45 => b1 (x_X12_takeSign U a 59 σ45) fun σ47 => some σ47
noncomputable def x_X12_takeValue_97 (U : Nat) (a : Nat) (v2_ : Int32) (v3_ : Int32) (σ : SG) : Option (SG) := 
  if sI σ a 70 = 2 then (
  if v3_ = 0 then (x_X12_takeValue_136 U a (sL σ a 77) v2_ σ) else (x_X12_takeValue_136 U a (-(sL σ a 77)) v2_ σ)) else (b1 (x_X12_fail a 1 (sI σ a 71) σ) fun σ49 => some σ49)
noncomputable def x_X12_takeValue_16 (U : Nat) (a : Nat) (v1_ : Int32) (σ : SG) : Option (SG) := b1 (x_X12_declare U a v1_ σ) fun σ5 => ix (sI σ5 a 35) 200 fun j6 => sb (uI σ5 1149 j6 ((sI σ5 a 33) - 1)) fun σ10 => b1 (x_X12_lastAt a σ10) fun v12 => ix (sI σ5 a 35) 200 fun j13 => sb (uI σ10 1150 j13 v12) fun σ17 => b1 (x_X12_lastLong a σ17) fun v19 => ix (sI σ5 a 35) 200 fun j20 => sb (uI σ17 1151 j20 v19) fun σ24 => b1 (x_X12_takeSign U a 61 σ24) fun σ26 => 
  if sI σ26 a 74 = 0 then (b1 (x_X12_isSign a 45 σ26) fun v29 => ix (sI σ5 a 35) 200 fun j30 => sb (uI σ26 1153 j30 (sI σ26 a 71)) fun σ34 => 
  if v29 = 0 then (x_X12_takeValue_97 U a (sI σ5 a 35) v29 σ34) else (b1 (x_X12_next U a σ34) fun σ51 => x_X12_takeValue_97 U a (sI σ5 a 35) v29 σ51)) else (some σ26)
noncomputable def x_X12_takeValue (U : Nat) (a : Nat) (p0 : Int32) (σ : SG) : Option (SG) := b1 (x_X12_isForeign U a σ) fun v2 => 
  if v2 = 0 then (x_X12_takeValue_16 U a p0 σ) else (b1 (x_X12_fail a 2 (sI σ a 71) σ) fun σ53 => x_X12_takeValue_16 U a p0 σ53)
noncomputable def x_X12_takeEnum_100 (U : Nat) (a : Nat) (k63 : Int32 → SG → Option (SG)) (k104 : SG → Option (SG)) (v1_ : Int32) (s0_ : Int32) (σ : SG) : Option (SG) := k63 s0_ σ
noncomputable def x_X12_takeEnum_99 (U : Nat) (a : Nat) (k63 : Int32 → SG → Option (SG)) (k104 : SG → Option (SG)) (v1_ : Int32) (σ : SG) : Option (SG) := x_X12_takeEnum_100 U a k63 k104 v1_ 0 σ
noncomputable def x_X12_takeEnum_L63 (U : Nat) (a : Nat) (k104 : SG → Option (SG)) (v1_ : Int32) : Nat → Int32 → SG → Option (SG)
  | 0, _, _ => none
  | U1 + 1, v2_, σ => 
  if v2_ = 0 then (k104 σ) else (
  if sI σ a 74 = 0 then (b1 (x_X12_takeValue U a v1_ σ) fun σ30 => 
  if sI σ30 a 74 = 0 then (b1 (x_X12_isSign a 125 σ30) fun v33 => 
  if v33 = 0 then (x_X12_takeEnum_100 U a (x_X12_takeEnum_L63 U a k104 v1_ U1) k104 v1_ 1 σ30) else (x_X12_takeEnum_99 U a (x_X12_takeEnum_L63 U a k104 v1_ U1) k104 v1_ σ30)) else (x_X12_takeEnum_99 U a (x_X12_takeEnum_L63 U a k104 v1_ U1) k104 v1_ σ30)) else (k104 σ))
noncomputable def x_X12_takeEnum_104 (U : Nat) (a : Nat) (σ : SG) : Option (SG) := b1 (x_X12_takeSign U a 125 σ) fun σ37 => some σ37
noncomputable def x_X12_takeEnum (U : Nat) (a : Nat) (p0 : Int32) (σ : SG) : Option (SG) := b1 (x_X12_next U a σ) fun σ2 => b1 (x_X12_declare U a p0 σ2) fun σ4 => ix (sI σ4 a 33) 100 fun j5 => sb (uI σ4 1131 j5 p0) fun σ9 => b1 (x_X12_lastAt a σ9) fun v11 => ix (sI σ9 a 33) 100 fun j12 => sb (uI σ9 1132 j12 v11) fun σ16 => b1 (x_X12_lastLong a σ16) fun v18 => ix (sI σ16 a 33) 100 fun j19 => sb (uI σ16 1133 j19 v18) fun σ23 => sb (uI σ23 a 33 ((sI σ23 a 33) + 1)) fun σ24 => b1 (x_X12_takeSign U a 123 σ24) fun σ26 => x_X12_takeEnum_L63 U a (fun σ35 => x_X12_takeEnum_104 U a σ35) p0 U 1 σ26
noncomputable def x_X12_numberType (U : Nat) (a : Nat) (σ : SG) : Option (Int32) := b1 (x_X12_isWord U a 452824675122 σ) fun v2 => 
  if v2 = 0 then (b1 (x_X12_isWord U a 452824675892 σ) fun v5 => 
  if v5 = 0 then (b1 (x_X12_isWord U a 129095685124914 σ) fun v8 => 
  if v8 = 0 then (b1 (x_X12_isWord U a 129095685125684 σ) fun v11 => 
  if v11 = 0 then (b1 (x_X12_isWord U a 126896661869362 σ) fun v14 => 
  if v14 = 0 then (b1 (x_X12_isWord U a 126896661870132 σ) fun v17 => 
  if v17 = 0 then (b1 (x_X12_isWord U a 28826413442544434 σ) fun v20 => 
  if v20 = 0 then (b1 (x_X12_isWord U a 28826413442545204 σ) fun v23 => 
  if v23 = 0 then (b1 (x_X12_isWord U a 8315449727804257074 σ) fun v26 => 
  if v26 = 0 then (b1 (x_X12_isWord U a 8315449727804257844 σ) fun v29 => 
  if v29 = 0 then (b1 (x_X12_isWord U a 1651470188 σ) fun v32 => 
  if v32 = 0 then (b1 (x_X12_isWord U a 126943972912743 σ) fun v35 => 
  if v35 = 0 then (b1 (x_X12_isWord U a 422944466291 σ) fun v38 => 
  if v38 = 0 then (some (-1)) else (some 12)) else (some 11)) else (some 10)) else (some 9)) else (some 8)) else (some 7)) else (some 6)) else (some 5)) else (some 4)) else (some 3)) else (some 2)) else (some 1)) else (some 0)
noncomputable def x_X12_isReservedName (U : Nat) (a : Nat) (σ : SG) : Option (Int32) := b1 (x_X12_isWord U a 30792318992869221 σ) fun v2 => 
  if v2 = 0 then (b1 (x_X12_isWord U a 1701737837 σ) fun v5 => 
  if v5 = 0 then (b1 (x_X12_isWord U a 478593511270 σ) fun v8 => 
  if v8 = 0 then (b1 (x_X12_isWord U a 8243118273700586852 σ) fun v11 => 
  if v11 = 0 then (some 0) else (some 1)) else (some 1)) else (some 1)) else (some 1)
noncomputable def x_X12_takeParts_L2 (U : Nat) (a : Nat) (k21 : SG → Option (SG)) (v1_ : Int32) : Nat → Int32 → SG → Option (SG)
  | 0, _, _ => none
  | U1 + 1, v2_, σ => 
  if v2_ = 0 then (some σ) else (
  if sI σ a 74 = 0 then (
  if sI σ a 70 = 1 then (ix (sI σ a 37) 400 fun j4 => sb (uI σ 1154 j4 (sI σ a 71)) fun σ8 => ix (sI σ8 a 37) 400 fun j9 => sb (uI σ8 1155 j9 ((sI σ8 a 72) - (sI σ8 a 71))) fun σ13 => sb (uI σ13 a 37 ((sI σ13 a 37) + 1)) fun σ14 => ix v1_ 200 fun j15 => ix v1_ 200 fun j19 => sb (uI σ14 1144 j19 ((sI σ14 1144 j15) + 1)) fun σ23 => b1 (x_X12_next U a σ23) fun σ25 => b1 (x_X12_isSign a 46 σ25) fun v27 => 
  if v27 = 0 then (x_X12_takeParts_L2 U a k21 v1_ U1 v27 σ25) else (b1 (x_X12_next U a σ25) fun σ30 => x_X12_takeParts_L2 U a k21 v1_ U1 v27 σ30)) else (k21 σ)) else (some σ))
noncomputable def x_X12_takeParts (U : Nat) (a : Nat) (p0 : Int32) (σ : SG) : Option (SG) := x_X12_takeParts_L2 U a (fun σ31 => b1 (x_X12_fail a 1 (sI σ31 a 71) σ31) fun σ33 => some σ33) p0 U 1 σ
noncomputable def x_X12_takeType_114 (U : Nat) (a : Nat) (v1_ : Int32) (σ : SG) : Option (SG) := ix v1_ 200 fun j45 => 
  if sI σ 1139 j45 = (-1) then (b1 (x_X12_takeParts U a v1_ σ) fun σ51 => some σ51) else (b1 (x_X12_next U a σ) fun σ53 => some σ53)
noncomputable def x_X12_takeType_98 (U : Nat) (a : Nat) (v1_ : Int32) (σ : SG) : Option (SG) := ix v1_ 200 fun j40 => 
  if sI σ 1142 j40 = 0 then (x_X12_takeType_114 U a v1_ σ) else (ix v1_ 200 fun j54 => sb (uI σ 1139 j54 (-1)) fun σ58 => x_X12_takeType_114 U a v1_ σ58)
noncomputable def x_X12_takeType_88 (U : Nat) (a : Nat) (σ : SG) : Option (SG) := b1 (x_X12_fail a 1 (sI σ a 71) σ) fun σ60 => some σ60
noncomputable def x_X12_takeType (U : Nat) (a : Nat) (p0 : Int32) (σ : SG) : Option (SG) := 
  if sI σ a 74 = 0 then (ix p0 200 fun j2 => sb (uI σ 1140 j2 (sI σ a 71)) fun σ6 => ix p0 200 fun j7 => sb (uI σ6 1143 j7 (sI σ6 a 37)) fun σ11 => ix p0 200 fun j12 => sb (uI σ11 1144 j12 0) fun σ16 => b1 (x_X12_isSign a 46 σ16) fun v18 => ix p0 200 fun j19 => sb (uI σ16 1142 j19 (vp_nar .boolean v18)) fun σ23 => b1 (x_X12_numberType U a σ23) fun v25 => ix p0 200 fun j26 => sb (uI σ23 1139 j26 v25) fun σ30 => ix p0 200 fun j31 => 
  if sI σ30 1142 j31 = 0 then (
  if sI σ30 a 70 = 1 then (b1 (x_X12_isReservedName U a σ30) fun v38 => 
  if v38 = 0 then (x_X12_takeType_98 U a p0 σ30) else (x_X12_takeType_88 U a σ30)) else (x_X12_takeType_88 U a σ30)) else (b1 (x_X12_next U a σ30) fun σ62 => x_X12_takeType_98 U a p0 σ62)) else (some σ)
noncomputable def x_X12_takePacked_109 (U : Nat) (a : Nat) (s0_ : Int32) (s1_ : Int32) (σ : SG) : Option (SG) := ix s1_ 200 fun j33 => sb (uI σ 1146 j33 s0_) fun σ37 => b1 (x_X12_next U a σ37) fun σ39 => b1 (x_X12_takeSign U a 93 σ39) fun σ41 => some σ41
noncomputable def x_X12_takePacked_89 (U : Nat) (a : Nat) (v1_ : Int32) (σ : SG) : Option (SG) := b1 (x_X12_isWord U a 1953658213 σ) fun v31 => 
  if v31 = 0 then (x_X12_takePacked_109 U a 2 v1_ σ) else (x_X12_takePacked_109 U a 1 v1_ σ)
noncomputable def x_X12_takePacked (U : Nat) (a : Nat) (p0 : Int32) (σ : SG) : Option (SG) := ix p0 200 fun j1 => sb (uI σ 1146 j1 0) fun σ5 => 
  if sI σ5 a 74 = 0 then (b1 (x_X12_isSign a 91 σ5) fun v8 => 
  if v8 = 0 then (some σ5) else (b1 (x_X12_next U a σ5) fun σ11 => ix p0 200 fun j12 => sb (uI σ11 1147 j12 (sI σ11 a 71)) fun σ16 => b1 (x_X12_takeWord U a 123563582121316 σ16) fun σ18 => b1 (x_X12_takeSign U a 61 σ18) fun σ20 => 
  if sI σ20 a 74 = 0 then (b1 (x_X12_isWord U a 1953658213 σ20) fun v23 => 
  if v23 = 0 then (b1 (x_X12_isWord U a 439721161573 σ20) fun v26 => 
  if v26 = 0 then (b1 (x_X12_fail a 1 (sI σ20 a 71) σ20) fun σ29 => some σ29) else (x_X12_takePacked_89 U a p0 σ20)) else (x_X12_takePacked_89 U a p0 σ20)) else (some σ20))) else (some σ5)
noncomputable def x_X12_takeField_52 (U : Nat) (a : Nat) (v1_ : Int32) (v3_ : Int32) (σ : SG) : Option (SG) := b1 (x_X12_takeType U a v3_ σ) fun σ21 => b1 (x_X12_declare U a v1_ σ21) fun σ23 => b1 (x_X12_lastAt a σ23) fun v25 => ix v3_ 200 fun j26 => sb (uI σ23 1135 j26 v25) fun σ30 => b1 (x_X12_lastLong a σ30) fun v32 => ix v3_ 200 fun j33 => sb (uI σ30 1136 j33 v32) fun σ37 => b1 (x_X12_takeSign U a 61 σ37) fun σ39 => 
  if sI σ39 a 74 = 0 then (
  if sI σ39 a 70 = 2 then (ix v3_ 200 fun j42 => sb (uL σ39 1137 j42 (sL σ39 a 77)) fun σ46 => ix v3_ 200 fun j47 => sb (uI σ46 1138 j47 (sI σ46 a 71)) fun σ51 => b1 (x_X12_next U a σ51) fun σ53 => b1 (x_X12_takePacked U a v3_ σ53) fun σ55 => b1 (x_X12_takeSign U a 59 σ55) fun σ57 => sb (uI σ57 a 34 ((sI σ57 a 34) + 1)) fun σ58 => some σ58) else (b1 (x_X12_fail a 1 (sI σ39 a 71) σ39) fun σ60 => some σ60)) else (some σ39)
noncomputable def x_X12_takeField (U : Nat) (a : Nat) (p0 : Int32) (p1 : Int32) (σ : SG) : Option (SG) := ix (sI σ a 34) 200 fun j1 => sb (uI σ 1134 j1 p0) fun σ5 => ix (sI σ a 34) 200 fun j6 => sb (uI σ5 1148 j6 p1) fun σ10 => ix (sI σ a 34) 200 fun j11 => sb (uI σ10 1145 j11 (vp_nar .boolean 0)) fun σ15 => 
  if p1 = (-1) then (b1 (x_X12_isWord U a 8243118273700586852 σ15) fun v18 => 
  if v18 = 0 then (x_X12_takeField_52 U a p0 (sI σ a 34) σ15) else (ix (sI σ a 34) 200 fun j61 => sb (uI σ15 1145 j61 (vp_nar .boolean 1)) fun σ65 => b1 (x_X12_next U a σ65) fun σ67 => x_X12_takeField_52 U a p0 (sI σ a 34) σ67)) else (x_X12_takeField_52 U a p0 (sI σ a 34) σ15)
noncomputable def x_X12_takeOneof_89 (U : Nat) (a : Nat) (k32 : Int32 → SG → Option (SG)) (k93 : SG → Option (SG)) (v1_ : Int32) (v2_ : Int32) (s0_ : Int32) (σ : SG) : Option (SG) := k32 s0_ σ
noncomputable def x_X12_takeOneof_88 (U : Nat) (a : Nat) (k32 : Int32 → SG → Option (SG)) (k93 : SG → Option (SG)) (v1_ : Int32) (v2_ : Int32) (σ : SG) : Option (SG) := x_X12_takeOneof_89 U a k32 k93 v1_ v2_ 0 σ
noncomputable def x_X12_takeOneof_68 (U : Nat) (a : Nat) (k32 : Int32 → SG → Option (SG)) (k93 : SG → Option (SG)) (v1_ : Int32) (v2_ : Int32) (σ : SG) : Option (SG) := 
  if sI σ a 74 = 0 then (b1 (x_X12_isSign a 125 σ) fun v17 => 
  if v17 = 0 then (x_X12_takeOneof_89 U a k32 k93 v1_ v2_ 1 σ) else (x_X12_takeOneof_88 U a k32 k93 v1_ v2_ σ)) else (x_X12_takeOneof_88 U a k32 k93 v1_ v2_ σ)
noncomputable def x_X12_takeOneof_L32 (U : Nat) (a : Nat) (k93 : SG → Option (SG)) (v1_ : Int32) (v2_ : Int32) : Nat → Int32 → SG → Option (SG)
  | 0, _, _ => none
  | U1 + 1, v3_, σ => 
  if v3_ = 0 then (k93 σ) else (
  if sI σ a 74 = 0 then (b1 (x_X12_isForeign U a σ) fun v11 => 
  if v11 = 0 then (b1 (x_X12_takeField U a v1_ v2_ σ) fun σ14 => x_X12_takeOneof_68 U a (x_X12_takeOneof_L32 U a k93 v1_ v2_ U1) k93 v1_ v2_ σ14) else (b1 (x_X12_fail a 2 (sI σ a 71) σ) fun σ20 => x_X12_takeOneof_68 U a (x_X12_takeOneof_L32 U a k93 v1_ v2_ U1) k93 v1_ v2_ σ20)) else (k93 σ))
noncomputable def x_X12_takeOneof_93 (U : Nat) (a : Nat) (σ : SG) : Option (SG) := b1 (x_X12_takeSign U a 125 σ) fun σ23 => some σ23
noncomputable def x_X12_takeOneof (U : Nat) (a : Nat) (p0 : Int32) (σ : SG) : Option (SG) := b1 (x_X12_next U a σ) fun σ2 => b1 (x_X12_declare U a p0 σ2) fun σ4 => b1 (x_X12_takeSign U a 123 σ4) fun σ6 => sb (uI σ6 a 36 ((sI σ6 a 36) + 1)) fun σ7 => x_X12_takeOneof_L32 U a (fun σ21 => x_X12_takeOneof_93 U a σ21) p0 (sI σ6 a 36) U 1 σ7
noncomputable def x_X12_takeMember (U : Nat) (a : Nat) (p0 : Int32) (σ : SG) : Option (Int32 × SG) := ix (p0 - 1) 100 fun j1 => b1 (x_X12_isSign a 125 σ) fun v6 => 
  if v6 = 0 then (b1 (x_X12_isSign a 59 σ) fun v9 => 
  if v9 = 0 then (b1 (x_X12_isForeign U a σ) fun v12 => 
  if v12 = 0 then (b1 (x_X12_isWord U a 30792318992869221 σ) fun v15 => 
  if v15 = 0 then (b1 (x_X12_isWord U a 1701737837 σ) fun v18 => 
  if v18 = 0 then (b1 (x_X12_isWord U a 478593511270 σ) fun v21 => 
  if v21 = 0 then (b1 (x_X12_takeField U a (sI σ 1159 j1) (-1) σ) fun σ24 => some (p0, σ24)) else (b1 (x_X12_takeOneof U a (sI σ 1159 j1) σ) fun σ26 => some (p0, σ26))) else (b1 (x_X12_takeEnum U a (sI σ 1159 j1) σ) fun σ28 => some (p0, σ28))) else (b2 (x_X12_beginMessage U a p0 σ) fun v30 σ31 => some (v30, σ31))) else (b1 (x_X12_fail a 2 (sI σ a 71) σ) fun σ33 => some (p0, σ33))) else (b1 (x_X12_next U a σ) fun σ35 => some (p0, σ35))) else (b1 (x_X12_next U a σ) fun σ37 => some (p0 - 1, σ37))
noncomputable def x_X12_readSchema_123 (U : Nat) (a : Nat) (k105 : Int32 → SG → Option (SG)) (v1_ : Int32) (σ : SG) : Option (SG) := 
  if 0 < v1_ then (b2 (x_X12_takeMember U a v1_ σ) fun v31 σ32 => k105 v31 σ32) else (b1 (x_X12_isForeign U a σ) fun v34 => 
  if v34 = 0 then (b1 (x_X12_isWord U a 30792318992869221 σ) fun v37 => 
  if v37 = 0 then (b1 (x_X12_isWord U a 1701737837 σ) fun v40 => 
  if v40 = 0 then (b1 (x_X12_fail a 1 (sI σ a 71) σ) fun σ43 => k105 v1_ σ43) else (b1 (x_X12_takeEnum U a (-1) σ) fun σ45 => k105 v1_ σ45)) else (b2 (x_X12_beginMessage U a 0 σ) fun v47 σ48 => k105 v47 σ48)) else (b1 (x_X12_fail a 2 (sI σ a 71) σ) fun σ50 => k105 v1_ σ50))
noncomputable def x_X12_readSchema_L105 (U : Nat) (a : Nat) : Nat → Int32 → SG → Option (SG)
  | 0, _, _ => none
  | U1 + 1, v1_, σ => 
  if sI σ a 74 = 0 then (
  if 0 < v1_ then (x_X12_readSchema_123 U a (x_X12_readSchema_L105 U a U1) v1_ σ) else (
  if sI σ a 70 = 0 then (some σ) else (x_X12_readSchema_123 U a (x_X12_readSchema_L105 U a U1) v1_ σ))) else (some σ)
noncomputable def x_X12_readSchema_97 (U : Nat) (a : Nat) (σ : SG) : Option (SG) := b1 (x_X12_takeSign U a 59 σ) fun σ26 => x_X12_readSchema_L105 U a U 0 σ26
noncomputable def x_X12_readSchema_86 (U : Nat) (a : Nat) (σ : SG) : Option (SG) := 
  if sI σ a 74 = 0 then (b1 (x_X12_next U a σ) fun σ24 => x_X12_readSchema_97 U a σ24) else (x_X12_readSchema_97 U a σ)
noncomputable def x_X12_readSchema (U : Nat) (a : Nat) (σ : SG) : Option (SG) := sb (uI σ a 74 0) fun σ1 => sb (uI σ1 a 76 0) fun σ2 => sb (uI σ2 a 32 0) fun σ3 => sb (uI σ3 a 33 0) fun σ4 => sb (uI σ4 a 34 0) fun σ5 => sb (uI σ5 a 35 0) fun σ6 => sb (uI σ6 a 36 0) fun σ7 => sb (uI σ7 a 37 0) fun σ8 => sb (uI σ8 a 38 0) fun σ9 => b1 (x_X12_look U a 0 σ9) fun σ11 => b1 (x_X12_takeWord U a 126965381357944 σ11) fun σ13 => b1 (x_X12_takeSign U a 61 σ13) fun σ15 => 
  if sI σ15 a 74 = 0 then (b1 (x_X12_isProto3 U a σ15) fun v18 => 
  if v18 = 0 then (b1 (x_X12_fail a 1 (sI σ15 a 71) σ15) fun σ21 => x_X12_readSchema_86 U a σ21) else (x_X12_readSchema_86 U a σ15)) else (x_X12_readSchema_86 U a σ15)
noncomputable def x_X12_keepName_L8 (U : Nat) (a : Nat) (k38 : SG → Option (Int32 × SG)) (v1_ : Int32) (v2_ : Int32) (v3_ : Int32) : Nat → Int32 → SG → Option (Int32 × SG)
  | 0, _, _ => none
  | U1 + 1, v4_, σ => 
  if v4_ < v2_ then (ix (v1_ + v4_) 700 fun j2 => ix (v3_ + v4_) 1200 fun j6 => sb (uI σ 1127 j6 (sI σ 1102 j2)) fun σ10 => x_X12_keepName_L8 U a k38 v1_ v2_ v3_ U1 (v4_ + 1) σ10) else (k38 σ)
noncomputable def x_X12_keepName (U : Nat) (a : Nat) (p0 : Int32) (p1 : Int32) (σ : SG) : Option (Int32 × SG) := x_X12_keepName_L8 U a (fun σ11 => sb (uI σ11 a 31 ((sI σ11 a 31) + p1)) fun σ12 => some (sI σ a 31, σ12)) p0 p1 (sI σ a 31) U 0 σ
noncomputable def x_X12_keep_L51 (U : Nat) (a : Nat) (k126 : SG → Option (SG)) (v1_ : Int32) : Nat → Int32 → SG → Option (SG)
  | 0, _, _ => none
  | U1 + 1, v2_, σ => 
  if v2_ < sI σ a 32 then (ix v2_ 100 fun j23 => ix ((16 * v1_) + v2_) 32 fun j27 => sb (uI σ 1108 j27 (sI σ 1128 j23)) fun σ31 => ix v2_ 100 fun j32 => ix v2_ 100 fun j36 => b2 (x_X12_keepName U a (sI σ31 1129 j32) (sI σ31 1130 j36) σ31) fun v41 σ42 => ix ((16 * v1_) + v2_) 32 fun j43 => sb (uI σ42 1109 j43 v41) fun σ47 => ix v2_ 100 fun j48 => ix ((16 * v1_) + v2_) 32 fun j52 => sb (uI σ47 1110 j52 (sI σ47 1130 j48)) fun σ56 => x_X12_keep_L51 U a k126 v1_ U1 (v2_ + 1) σ56) else (k126 σ)
noncomputable def x_X12_keep_L128 (U : Nat) (a : Nat) (k203 : SG → Option (SG)) (v1_ : Int32) : Nat → Int32 → SG → Option (SG)
  | 0, _, _ => none
  | U1 + 1, v2_, σ => 
  if v2_ < sI σ a 33 then (ix v2_ 100 fun j59 => ix ((8 * v1_) + v2_) 16 fun j63 => sb (uI σ 1111 j63 (sI σ 1131 j59)) fun σ67 => ix v2_ 100 fun j68 => ix v2_ 100 fun j72 => b2 (x_X12_keepName U a (sI σ67 1132 j68) (sI σ67 1133 j72) σ67) fun v77 σ78 => ix ((8 * v1_) + v2_) 16 fun j79 => sb (uI σ78 1112 j79 v77) fun σ83 => ix v2_ 100 fun j84 => ix ((8 * v1_) + v2_) 16 fun j88 => sb (uI σ83 1113 j88 (sI σ83 1133 j84)) fun σ92 => x_X12_keep_L128 U a k203 v1_ U1 (v2_ + 1) σ92) else (k203 σ)
noncomputable def x_X12_keep_356 (U : Nat) (a : Nat) (k205 : Int32 → SG → Option (SG)) (k375 : SG → Option (SG)) (v1_ : Int32) (v2_ : Int32) (v3_ : Int32) (s0_ : Int32) (s1_ : Int32) (σ : SG) : Option (SG) := ix s1_ 120 fun j170 => sb (uI σ 1121 j170 (vp_nar .boolean s0_)) fun σ174 => ix v2_ 200 fun j175 => ix v3_ 120 fun j179 => sb (uI σ174 1122 j179 (sI σ174 1148 j175)) fun σ183 => k205 (v2_ + 1) σ183
noncomputable def x_X12_keep_355 (U : Nat) (a : Nat) (k205 : Int32 → SG → Option (SG)) (k375 : SG → Option (SG)) (v1_ : Int32) (v2_ : Int32) (v3_ : Int32) (s0_ : Int32) (σ : SG) : Option (SG) := x_X12_keep_356 U a k205 k375 v1_ v2_ v3_ 0 s0_ σ
noncomputable def x_X12_keep_L205 (U : Nat) (a : Nat) (k375 : SG → Option (SG)) (v1_ : Int32) : Nat → Int32 → SG → Option (SG)
  | 0, _, _ => none
  | U1 + 1, v2_, σ => 
  if v2_ < sI σ a 34 then (ix v2_ 200 fun j95 => ix ((60 * v1_) + v2_) 120 fun j99 => sb (uI σ 1114 j99 (sI σ 1134 j95)) fun σ103 => ix v2_ 200 fun j104 => ix v2_ 200 fun j108 => b2 (x_X12_keepName U a (sI σ103 1135 j104) (sI σ103 1136 j108) σ103) fun v113 σ114 => ix ((60 * v1_) + v2_) 120 fun j115 => sb (uI σ114 1115 j115 v113) fun σ119 => ix v2_ 200 fun j120 => ix ((60 * v1_) + v2_) 120 fun j124 => sb (uI σ119 1116 j124 (sI σ119 1136 j120)) fun σ128 => ix v2_ 200 fun j129 => ix ((60 * v1_) + v2_) 120 fun j133 => sb (uI σ128 1117 j133 (Int64.toInt32 (sL σ128 1137 j129))) fun σ137 => ix v2_ 200 fun j138 => ix ((60 * v1_) + v2_) 120 fun j142 => sb (uI σ137 1118 j142 (sI σ137 1139 j138)) fun σ146 => ix v2_ 200 fun j147 => ix ((60 * v1_) + v2_) 120 fun j151 => sb (uI σ146 1119 j151 (sI σ146 1141 j147)) fun σ155 => ix v2_ 200 fun j156 => ix ((60 * v1_) + v2_) 120 fun j160 => sb (uI σ155 1120 j160 (vp_nar .boolean (sI σ155 1145 j156))) fun σ164 => ix v2_ 200 fun j165 => 
  if sI σ164 1145 j165 = 0 then (x_X12_keep_355 U a (x_X12_keep_L205 U a k375 v1_ U1) k375 v1_ v2_ ((60 * v1_) + v2_) ((60 * v1_) + v2_) σ164) else (ix v2_ 200 fun j184 => b1 (x_X12_isNumbers (sI σ164 1139 j184)) fun v189 => 
  if v189 = 0 then (x_X12_keep_355 U a (x_X12_keep_L205 U a k375 v1_ U1) k375 v1_ v2_ ((60 * v1_) + v2_) ((60 * v1_) + v2_) σ164) else (ix v2_ 200 fun j191 => 
  if sI σ164 1146 j191 = 2 then (x_X12_keep_355 U a (x_X12_keep_L205 U a k375 v1_ U1) k375 v1_ v2_ ((60 * v1_) + v2_) ((60 * v1_) + v2_) σ164) else (x_X12_keep_356 U a (x_X12_keep_L205 U a k375 v1_ U1) k375 v1_ v2_ ((60 * v1_) + v2_) 1 ((60 * v1_) + v2_) σ164)))) else (k375 σ)
noncomputable def x_X12_keep_L377 (U : Nat) (a : Nat) (v1_ : Int32) : Nat → Int32 → SG → Option (SG)
  | 0, _, _ => none
  | U1 + 1, v2_, σ => 
  if v2_ < sI σ a 35 then (ix v2_ 200 fun j198 => ix ((40 * v1_) + v2_) 80 fun j202 => sb (uI σ 1123 j202 (sI σ 1149 j198)) fun σ206 => ix v2_ 200 fun j207 => ix v2_ 200 fun j211 => b2 (x_X12_keepName U a (sI σ206 1150 j207) (sI σ206 1151 j211) σ206) fun v216 σ217 => ix ((40 * v1_) + v2_) 80 fun j218 => sb (uI σ217 1124 j218 v216) fun σ222 => ix v2_ 200 fun j223 => ix ((40 * v1_) + v2_) 80 fun j227 => sb (uI σ222 1125 j227 (sI σ222 1151 j223)) fun σ231 => ix v2_ 200 fun j232 => ix ((40 * v1_) + v2_) 80 fun j236 => sb (uI σ231 1126 j236 (Int64.toInt32 (sL σ231 1152 j232))) fun σ240 => x_X12_keep_L377 U a v1_ U1 (v2_ + 1) σ240) else (some σ)
noncomputable def x_X12_keep (U : Nat) (a : Nat) (p0 : Int32) (σ : SG) : Option (SG) := sb (uI σ a 31 (600 * p0)) fun σ1 => ix p0 2 fun j2 => sb (uI σ1 1104 j2 (sI σ1 a 32)) fun σ6 => ix p0 2 fun j7 => sb (uI σ6 1105 j7 (sI σ6 a 33)) fun σ11 => ix p0 2 fun j12 => sb (uI σ11 1106 j12 (sI σ11 a 34)) fun σ16 => ix p0 2 fun j17 => sb (uI σ16 1107 j17 (sI σ16 a 35)) fun σ21 => x_X12_keep_L51 U a (fun σ57 => x_X12_keep_L128 U a (fun σ93 => x_X12_keep_L205 U a (fun σ196 => x_X12_keep_L377 U a p0 U 0 σ196) p0 U 0 σ93) p0 U 0 σ57) p0 U 0 σ21
noncomputable def x_X12_compile_93 (U : Nat) (a : Nat) (v1_ : Int32) (s0_ : Int32) (σ : SG) : Option (Int32 × SG) := sb (uI σ a 6 s0_) fun σ22 => 
  if sI σ22 a 74 = 0 then (b1 (x_X12_keep U a v1_ σ22) fun σ25 => some (sI σ25 a 74, σ25)) else (ix v1_ 2 fun j26 => sb (uI σ22 1104 j26 0) fun σ30 => ix v1_ 2 fun j31 => sb (uI σ30 1105 j31 0) fun σ35 => ix v1_ 2 fun j36 => sb (uI σ35 1106 j36 0) fun σ40 => ix v1_ 2 fun j41 => sb (uI σ40 1107 j41 0) fun σ45 => some (sI σ45 a 74, σ45))
noncomputable def x_X12_compile_77 (U : Nat) (a : Nat) (v1_ : Int32) (σ : SG) : Option (Int32 × SG) := 
  if sI σ a 74 = 0 then (x_X12_compile_93 U a v1_ (-1) σ) else (x_X12_compile_93 U a v1_ (sI σ a 75) σ)
noncomputable def x_X12_compile_13 (U : Nat) (a : Nat) (v1_ : Int32) (s0_ : Int32) (σ : SG) : Option (Int32 × SG) := sb (uI σ a 5 s0_) fun σ4 => 
  if sI σ4 a 5 = 0 then (sb (uI σ4 a 73 (sI σ4 a 1)) fun σ6 => sb (uI σ6 a 1 0) fun σ7 => sb (uI σ7 a 79 0) fun σ8 => b1 (x_X12_readSchema U a σ8) fun σ10 => 
  if sI σ10 a 74 = 0 then (b1 (x_X12_checkNames U a σ10) fun σ13 => b1 (x_X12_checkNumbers U a σ13) fun σ15 => b1 (x_X12_checkTypes U a σ15) fun σ17 => 
  if sI σ17 a 74 = 0 then (b1 (x_X12_checkLimits U a σ17) fun σ20 => x_X12_compile_77 U a v1_ σ20) else (x_X12_compile_77 U a v1_ σ17)) else (x_X12_compile_77 U a v1_ σ10)) else (some (0, σ4))
noncomputable def x_X12_compile (U : Nat) (a : Nat) (p0 : Int32) (σ : SG) : Option (Int32 × SG) := b1 (x_X12_isSchema p0) fun v2 => 
  if v2 = 0 then (x_X12_compile_13 U a p0 1 σ) else (x_X12_compile_13 U a p0 0 σ)
noncomputable def x_X12_takeVarint_88 (U : Nat) (a : Nat) (k7 : Int32 → SG → Option (SG)) (k21 : SG → Option (SG)) (k102 : SG → Option (SG)) (v1_ : Int32) (v2_ : Int32) (v3_ : Int32) (σ : SG) : Option (SG) := 
  if v3_ < 128 then (some σ) else (k7 (v2_ + 1) σ)
noncomputable def x_X12_takeVarint_77 (U : Nat) (a : Nat) (k7 : Int32 → SG → Option (SG)) (k21 : SG → Option (SG)) (k102 : SG → Option (SG)) (v1_ : Int32) (v2_ : Int32) (v3_ : Int32) (s0_ : Int32) (s1_ : Int32) (s2_ : Int64) (σ : SG) : Option (SG) := sb (uL σ a 108 (s2_ ||| (lshl9 (Int32.toInt64 (s1_ &&& s0_)) (7 * v2_)))) fun σ11 => x_X12_takeVarint_88 U a k7 k21 k102 v1_ v2_ v3_ σ11
noncomputable def x_X12_takeVarint_59 (U : Nat) (a : Nat) (k7 : Int32 → SG → Option (SG)) (k21 : SG → Option (SG)) (k102 : SG → Option (SG)) (v1_ : Int32) (v2_ : Int32) (v3_ : Int32) (σ : SG) : Option (SG) := 
  if v2_ < 9 then (x_X12_takeVarint_77 U a k7 k21 k102 v1_ v2_ v3_ 127 v3_ (sL σ a 108) σ) else (x_X12_takeVarint_77 U a k7 k21 k102 v1_ v2_ v3_ 1 v3_ (sL σ a 108) σ)
noncomputable def x_X12_takeVarint_L7 (U : Nat) (a : Nat) (k21 : SG → Option (SG)) (k102 : SG → Option (SG)) (v1_ : Int32) : Nat → Int32 → SG → Option (SG)
  | 0, _, _ => none
  | U1 + 1, v2_, σ => 
  if v2_ < 10 then (
  if sI σ a 109 < v1_ then (ix (sI σ a 109) 700 fun j4 => sb (uI σ a 109 ((sI σ a 109) + 1)) fun σ8 => 
  if v2_ < 9 then (x_X12_takeVarint_59 U a (x_X12_takeVarint_L7 U a k21 k102 v1_ U1) k21 k102 v1_ v2_ (sI σ 1102 j4) σ8) else (
  if (sI σ 1102 j4) &&& 1 = 0 then (x_X12_takeVarint_88 U a (x_X12_takeVarint_L7 U a k21 k102 v1_ U1) k21 k102 v1_ v2_ (sI σ 1102 j4) σ8) else (x_X12_takeVarint_59 U a (x_X12_takeVarint_L7 U a k21 k102 v1_ U1) k21 k102 v1_ v2_ (sI σ 1102 j4) σ8))) else (k21 σ)) else (k102 σ)
noncomputable def x_X12_takeVarint (U : Nat) (a : Nat) (p0 : Int32) (σ : SG) : Option (SG) := sb (uL σ a 108 0) fun σ1 => x_X12_takeVarint_L7 U a (fun σ14 => sb (uI σ14 a 107 1) fun σ15 => some σ15) (fun σ16 => sb (uI σ16 a 107 1) fun σ17 => some σ17) p0 U 0 σ1
noncomputable def x_X12_fieldNumbered_51 (U : Nat) (a : Nat) (k8 : Int32 → Option (Int32)) (v1_ : Int32) (v2_ : Int32) (v3_ : Int32) (σ : SG) : Option (Int32) := k8 (v3_ + 1)
noncomputable def x_X12_fieldNumbered_L8 (U : Nat) (a : Nat) (v1_ : Int32) (v2_ : Int32) (σ : SG) : Nat → Int32 → Option (Int32)
  | 0, _ => none
  | U1 + 1, v3_ => ix (sI σ a 80) 2 fun j1 => 
  if v3_ < (60 * (sI σ a 80)) + (sI σ 1106 j1) then (ix v3_ 120 fun j6 => 
  if sI σ 1114 j6 = v1_ then (ix v3_ 120 fun j11 => 
  if sI σ 1117 j11 = v2_ then (some v3_) else (x_X12_fieldNumbered_51 U a (x_X12_fieldNumbered_L8 U a v1_ v2_ σ U1) v1_ v2_ v3_ σ)) else (x_X12_fieldNumbered_51 U a (x_X12_fieldNumbered_L8 U a v1_ v2_ σ U1) v1_ v2_ v3_ σ)) else (some (-1))
noncomputable def x_X12_fieldNumbered (U : Nat) (a : Nat) (p0 : Int32) (p1 : Int32) (σ : SG) : Option (Int32) := x_X12_fieldNumbered_L8 U a p0 p1 σ U (60 * (sI σ a 80))
noncomputable def x_X12_kindOf (p0 : Int32) : Option (Int32) := 
  if p0 = 7 then (some 1) else (
  if p0 = 9 then (some 1) else (
  if p0 = 6 then (some 5) else (
  if p0 = 8 then (some 5) else (
  if p0 = 11 then (some 2) else (
  if p0 = 12 then (some 2) else (
  if p0 = 13 then (some 2) else (some 0)))))))
noncomputable def x_X12_rowOf_41 (U : Nat) (a : Nat) (k2 : Int32 → Option (Int32)) (v1_ : Int32) (v2_ : Int32) (v3_ : Int32) (σ : SG) : Option (Int32) := k2 (v3_ + 1)
noncomputable def x_X12_rowOf_L2 (U : Nat) (a : Nat) (v1_ : Int32) (v2_ : Int32) (σ : SG) : Nat → Int32 → Option (Int32)
  | 0, _ => none
  | U1 + 1, v3_ => 
  if v3_ < sI σ a 82 then (ix v3_ 800 fun j2 => 
  if sI σ 1171 j2 = 0 then (x_X12_rowOf_41 U a (x_X12_rowOf_L2 U a v1_ v2_ σ U1) v1_ v2_ v3_ σ) else (ix v3_ 800 fun j7 => 
  if sI σ 1165 j7 = v1_ then (ix v3_ 800 fun j12 => 
  if sI σ 1166 j12 = v2_ then (some v3_) else (x_X12_rowOf_41 U a (x_X12_rowOf_L2 U a v1_ v2_ σ U1) v1_ v2_ v3_ σ)) else (x_X12_rowOf_41 U a (x_X12_rowOf_L2 U a v1_ v2_ σ U1) v1_ v2_ v3_ σ))) else (some (-1))
noncomputable def x_X12_rowOf (U : Nat) (a : Nat) (p0 : Int32) (p1 : Int32) (σ : SG) : Option (Int32) := x_X12_rowOf_L2 U a p0 p1 σ U 0
noncomputable def x_X12_rowFor_116 (U : Nat) (a : Nat) (k18 : Int32 → SG → Option (Int32 × SG)) (k122 : SG → Option (Int32 × SG)) (v1_ : Int32) (v2_ : Int32) (v3_ : Int32) (σ : SG) : Option (Int32 × SG) := k18 (v3_ + 1) σ
noncomputable def x_X12_rowFor_109 (U : Nat) (a : Nat) (k18 : Int32 → SG → Option (Int32 × SG)) (k122 : SG → Option (Int32 × SG)) (v1_ : Int32) (v2_ : Int32) (v3_ : Int32) (σ : SG) : Option (Int32 × SG) := ix v3_ 800 fun j28 => sb (uI σ 1171 j28 (vp_nar .boolean 0)) fun σ32 => x_X12_rowFor_116 U a k18 k122 v1_ v2_ v3_ σ32
noncomputable def x_X12_rowFor_71 (U : Nat) (a : Nat) (k18 : Int32 → SG → Option (Int32 × SG)) (k122 : SG → Option (Int32 × SG)) (v1_ : Int32) (v2_ : Int32) (v3_ : Int32) (s0_ : Int32) (σ : SG) : Option (Int32 × SG) := ix v3_ 800 fun j12 => 
  if sI σ 1165 j12 = v1_ then (
  if s0_ = 0 then (ix v3_ 800 fun j18 => 
  if sI σ 1166 j18 = v2_ then (ix v2_ 120 fun j23 => 
  if sI σ 1118 j23 = 13 then (x_X12_rowFor_116 U a k18 k122 v1_ v2_ v3_ σ) else (x_X12_rowFor_109 U a k18 k122 v1_ v2_ v3_ σ)) else (x_X12_rowFor_116 U a k18 k122 v1_ v2_ v3_ σ)) else (x_X12_rowFor_109 U a k18 k122 v1_ v2_ v3_ σ)) else (x_X12_rowFor_116 U a k18 k122 v1_ v2_ v3_ σ)
noncomputable def x_X12_rowFor_70 (U : Nat) (a : Nat) (k18 : Int32 → SG → Option (Int32 × SG)) (k122 : SG → Option (Int32 × SG)) (v1_ : Int32) (v2_ : Int32) (v3_ : Int32) (σ : SG) : Option (Int32 × SG) := x_X12_rowFor_71 U a k18 k122 v1_ v2_ v3_ 0 σ
noncomputable def x_X12_rowFor_L18 (U : Nat) (a : Nat) (k122 : SG → Option (Int32 × SG)) (v1_ : Int32) (v2_ : Int32) : Nat → Int32 → SG → Option (Int32 × SG)
  | 0, _, _ => none
  | U1 + 1, v3_, σ => 
  if v3_ < sI σ a 82 then (ix v3_ 800 fun j7 => 
  if sI σ 1166 j7 = v2_ then (x_X12_rowFor_70 U a (x_X12_rowFor_L18 U a k122 v1_ v2_ U1) k122 v1_ v2_ v3_ σ) else (ix v2_ 120 fun j33 => 
  if sI σ 1122 j33 = (-1) then (x_X12_rowFor_70 U a (x_X12_rowFor_L18 U a k122 v1_ v2_ U1) k122 v1_ v2_ v3_ σ) else (ix v3_ 800 fun j38 => ix (sI σ 1166 j38) 120 fun j42 => ix v2_ 120 fun j46 => 
  if sI σ 1122 j42 = sI σ 1122 j46 then (x_X12_rowFor_71 U a (x_X12_rowFor_L18 U a k122 v1_ v2_ U1) k122 v1_ v2_ v3_ 1 σ) else (x_X12_rowFor_70 U a (x_X12_rowFor_L18 U a k122 v1_ v2_ U1) k122 v1_ v2_ v3_ σ)))) else (k122 σ)
noncomputable def x_X12_rowFor (U : Nat) (a : Nat) (p0 : Int32) (p1 : Int32) (σ : SG) : Option (Int32 × SG) := ix p1 120 fun j1 => 
  if sI σ 1120 j1 = 0 then (x_X12_rowFor_L18 U a (fun σ51 => b1 (x_X12_rowOf U a p0 p1 σ51) fun v53 => 
  if v53 = (-1) then (b2 (x_X12_addRow a p0 p1 σ51) fun v56 σ57 => some (v56, σ57)) else (some (v53, σ51))) p0 p1 U 0 σ) else (b2 (x_X12_addRow a p0 p1 σ) fun v59 σ60 => some (v59, σ60))
noncomputable def x_X12_putMessage_42 (U : Nat) (a : Nat) (v3_ : Int32) (σ : SG) : Option (Int32 × SG) := ix v3_ 800 fun j25 => some (sI σ 1170 j25, σ)
noncomputable def x_X12_putMessage (U : Nat) (a : Nat) (p0 : Int32) (p1 : Int32) (σ : SG) : Option (Int32 × SG) := b2 (x_X12_rowFor U a p0 p1 σ) fun v2 σ3 => ix v2 800 fun j4 => 
  if sI σ3 1170 j4 = (-1) then (ix p1 120 fun j9 => ix p0 400 fun j13 => b2 (x_X12_addNode a (sI σ3 1119 j9) v2 ((sI σ3 1162 j13) + 1) σ3) fun v18 σ19 => ix v2 800 fun j20 => sb (uI σ19 1170 j20 v18) fun σ24 => x_X12_putMessage_42 U a v2 σ24) else (x_X12_putMessage_42 U a v2 σ3)
noncomputable def x_X12_isUtf8_L133 (U : Nat) (a : Nat) (k187 : Int32 → Option (Int32)) (v1_ : Int32) (v2_ : Int32) (v3_ : Int32) (v5_ : Int32) (σ : SG) : Nat → Int32 → Int32 → Option (Int32)
  | 0, _, _ => none
  | U1 + 1, v6_, v7_ => 
  if v5_ < v7_ then (k187 v6_) else (ix (v3_ + v7_) 1500 fun j11 => 
  if (sI σ 1175 j11) &&& 192 = 128 then (ix (v3_ + v7_) 1500 fun j16 => x_X12_isUtf8_L133 U a k187 v1_ v2_ v3_ v5_ σ U1 ((64 * v6_) + ((sI σ 1175 j16) &&& 63)) (v7_ + 1)) else (some 0))
noncomputable def x_X12_isUtf8_241 (U : Nat) (a : Nat) (k2 : Int32 → Option (Int32)) (v1_ : Int32) (v2_ : Int32) (v3_ : Int32) (v5_ : Int32) (v6_ : Int32) (σ : SG) : Option (Int32) := 
  if 1114111 < v6_ then (some 0) else (k2 (v3_ + (v5_ + 1)))
noncomputable def x_X12_isUtf8_218 (U : Nat) (a : Nat) (k2 : Int32 → Option (Int32)) (v1_ : Int32) (v2_ : Int32) (v3_ : Int32) (v5_ : Int32) (v6_ : Int32) (s0_ : Int32) (σ : SG) : Option (Int32) := 
  if s0_ = 0 then (some 0) else (
  if v6_ < 55296 then (x_X12_isUtf8_241 U a k2 v1_ v2_ v3_ v5_ v6_ σ) else (
  if 57343 < v6_ then (x_X12_isUtf8_241 U a k2 v1_ v2_ v3_ v5_ v6_ σ) else (some 0)))
noncomputable def x_X12_isUtf8_213 (U : Nat) (a : Nat) (k2 : Int32 → Option (Int32)) (v1_ : Int32) (v2_ : Int32) (v3_ : Int32) (v5_ : Int32) (v6_ : Int32) (σ : SG) : Option (Int32) := x_X12_isUtf8_218 U a k2 v1_ v2_ v3_ v5_ v6_ 1 σ
noncomputable def x_X12_isUtf8_210 (U : Nat) (a : Nat) (k2 : Int32 → Option (Int32)) (v1_ : Int32) (v2_ : Int32) (v3_ : Int32) (v5_ : Int32) (v6_ : Int32) (s0_ : Int32) (s1_ : Int32) (σ : SG) : Option (Int32) := 
  if s1_ < s0_ then (x_X12_isUtf8_218 U a k2 v1_ v2_ v3_ v5_ v6_ 0 σ) else (x_X12_isUtf8_213 U a k2 v1_ v2_ v3_ v5_ v6_ σ)
noncomputable def x_X12_isUtf8_128 (U : Nat) (a : Nat) (k2 : Int32 → Option (Int32)) (v1_ : Int32) (v2_ : Int32) (v3_ : Int32) (v5_ : Int32) (s0_ : Int32) (σ : SG) : Option (Int32) := x_X12_isUtf8_L133 U a (fun w20 => 
  if v5_ < 2 then (x_X12_isUtf8_213 U a k2 v1_ v2_ v3_ v5_ w20 σ) else (
  if v5_ = 2 then (x_X12_isUtf8_210 U a k2 v1_ v2_ v3_ v5_ w20 2048 w20 σ) else (x_X12_isUtf8_210 U a k2 v1_ v2_ v3_ v5_ w20 65536 w20 σ))) v1_ v2_ v3_ v5_ σ U s0_ 1
noncomputable def x_X12_isUtf8_90 (U : Nat) (a : Nat) (k2 : Int32 → Option (Int32)) (v1_ : Int32) (v2_ : Int32) (v3_ : Int32) (v4_ : Int32) (s0_ : Int32) (σ : SG) : Option (Int32) := 
  if s0_ = (-1) then (some 0) else (
  if v3_ + s0_ < v1_ + v2_ then (
  if s0_ = 0 then (x_X12_isUtf8_128 U a k2 v1_ v2_ v3_ s0_ v4_ σ) else (x_X12_isUtf8_128 U a k2 v1_ v2_ v3_ s0_ (v4_ &&& (ishr9 63 s0_)) σ)) else (some 0))
noncomputable def x_X12_isUtf8_89 (U : Nat) (a : Nat) (k2 : Int32 → Option (Int32)) (v1_ : Int32) (v2_ : Int32) (v3_ : Int32) (v4_ : Int32) (σ : SG) : Option (Int32) := x_X12_isUtf8_90 U a k2 v1_ v2_ v3_ v4_ (-1) σ
noncomputable def x_X12_isUtf8_69 (U : Nat) (a : Nat) (k2 : Int32 → Option (Int32)) (v1_ : Int32) (v2_ : Int32) (v3_ : Int32) (v4_ : Int32) (σ : SG) : Option (Int32) := 
  if v4_ < 240 then (x_X12_isUtf8_89 U a k2 v1_ v2_ v3_ v4_ σ) else (
  if 244 < v4_ then (x_X12_isUtf8_89 U a k2 v1_ v2_ v3_ v4_ σ) else (x_X12_isUtf8_90 U a k2 v1_ v2_ v3_ v4_ 3 σ))
noncomputable def x_X12_isUtf8_49 (U : Nat) (a : Nat) (k2 : Int32 → Option (Int32)) (v1_ : Int32) (v2_ : Int32) (v3_ : Int32) (v4_ : Int32) (σ : SG) : Option (Int32) := 
  if v4_ < 224 then (x_X12_isUtf8_69 U a k2 v1_ v2_ v3_ v4_ σ) else (
  if 239 < v4_ then (x_X12_isUtf8_69 U a k2 v1_ v2_ v3_ v4_ σ) else (x_X12_isUtf8_90 U a k2 v1_ v2_ v3_ v4_ 2 σ))
noncomputable def x_X12_isUtf8_L2 (U : Nat) (a : Nat) (v1_ : Int32) (v2_ : Int32) (σ : SG) : Nat → Int32 → Option (Int32)
  | 0, _ => none
  | U1 + 1, v3_ => 
  if v3_ < v1_ + v2_ then (ix v3_ 1500 fun j2 => 
  if sI σ 1175 j2 < 128 then (x_X12_isUtf8_90 U a (x_X12_isUtf8_L2 U a v1_ v2_ σ U1) v1_ v2_ v3_ (sI σ 1175 j2) 0 σ) else (
  if sI σ 1175 j2 < 194 then (x_X12_isUtf8_49 U a (x_X12_isUtf8_L2 U a v1_ v2_ σ U1) v1_ v2_ v3_ (sI σ 1175 j2) σ) else (
  if 223 < sI σ 1175 j2 then (x_X12_isUtf8_49 U a (x_X12_isUtf8_L2 U a v1_ v2_ σ U1) v1_ v2_ v3_ (sI σ 1175 j2) σ) else (x_X12_isUtf8_90 U a (x_X12_isUtf8_L2 U a v1_ v2_ σ U1) v1_ v2_ v3_ (sI σ 1175 j2) 1 σ)))) else (some 1)
noncomputable def x_X12_isUtf8 (U : Nat) (a : Nat) (p0 : Int32) (p1 : Int32) (σ : SG) : Option (Int32) := x_X12_isUtf8_L2 U a p0 p1 σ U p0
noncomputable def x_X12_putText_34 (U : Nat) (a : Nat) (v1_ : Int32) (v2_ : Int32) (v3_ : Int32) (v4_ : Int32) (σ : SG) : Option (SG) := b2 (x_X12_rowFor U a v1_ v2_ σ) fun v11 σ12 => ix v11 800 fun j13 => sb (uI σ12 1168 j13 v3_) fun σ17 => ix v11 800 fun j18 => sb (uI σ17 1169 j18 v4_) fun σ22 => 
  if v4_ = 0 then (ix v2_ 120 fun j24 => 
  if sI σ22 1120 j24 = 0 then (ix v2_ 120 fun j29 => 
  if sI σ22 1122 j29 = (-1) then (ix v11 800 fun j34 => sb (uI σ22 1171 j34 (vp_nar .boolean 0)) fun σ38 => some σ38) else (some σ22)) else (some σ22)) else (some σ22)
noncomputable def x_X12_putText (U : Nat) (a : Nat) (p0 : Int32) (p1 : Int32) (p2 : Int32) (σ : SG) : Option (SG) := ix p1 120 fun j1 => 
  if sI σ 1118 j1 = 11 then (b1 (x_X12_isUtf8 U a p2 ((sI σ a 84) - p2) σ) fun v7 => 
  if v7 = 0 then (sb (uI σ a 107 1) fun σ9 => x_X12_putText_34 U a p0 p1 p2 ((sI σ a 84) - p2) σ9) else (x_X12_putText_34 U a p0 p1 p2 ((sI σ a 84) - p2) σ)) else (x_X12_putText_34 U a p0 p1 p2 ((sI σ a 84) - p2) σ)
noncomputable def x_X12_takeFixed_L23 (U : Nat) (a : Nat) (k60 : SG → Option (SG)) (v1_ : Int32) : Nat → Int32 → SG → Option (SG)
  | 0, _, _ => none
  | U1 + 1, v3_, σ => 
  if v3_ < v1_ then (ix ((sI σ a 109) + v3_) 700 fun j5 => sb (uL σ a 108 ((sL σ a 108) ||| (lshl9 (Int32.toInt64 (sI σ 1102 j5)) (8 * v3_)))) fun σ9 => x_X12_takeFixed_L23 U a k60 v1_ U1 (v3_ + 1) σ9) else (k60 σ)
noncomputable def x_X12_takeFixed (U : Nat) (a : Nat) (p0 : Int32) (p1 : Int32) (σ : SG) : Option (SG) := sb (uL σ a 108 0) fun σ1 => 
  if p1 < (sI σ1 a 109) + p0 then (sb (uI σ1 a 107 1) fun σ3 => some σ3) else (x_X12_takeFixed_L23 U a (fun σ10 => sb (uI σ10 a 109 ((sI σ10 a 109) + p0)) fun σ11 => some σ11) p0 U 0 σ1)
noncomputable def x_X12_takeOne_24 (U : Nat) (a : Nat) (v2_ : Int32) (s0_ : Int32) (σ : SG) : Option (SG) := b1 (x_X12_takeFixed U a s0_ v2_ σ) fun σ6 => some σ6
noncomputable def x_X12_takeOne (U : Nat) (a : Nat) (p0 : Int32) (p1 : Int32) (σ : SG) : Option (SG) := 
  if p0 = 0 then (b1 (x_X12_takeVarint U a p1 σ) fun σ3 => some σ3) else (
  if p0 = 1 then (x_X12_takeOne_24 U a p1 8 σ) else (x_X12_takeOne_24 U a p1 4 σ))
noncomputable def x_X12_valueFor (p0 : Int32) (p1 : Int64) : Option (Int64) := 
  if p0 = 0 then (some (Int32.toInt64 (Int64.toInt32 p1))) else (
  if p0 = 1 then (some p1) else (
  if p0 = 2 then (some (p1 &&& 4294967295)) else (
  if p0 = 3 then (some p1) else (
  if p0 = 4 then (some (Int32.toInt64 ((iush (Int64.toInt32 p1) 1) ^^^ (-((Int64.toInt32 p1) &&& 1))))) else (
  if p0 = 5 then (some ((lush p1 1) ^^^ (-(p1 &&& 1)))) else (
  if p0 = 6 then (some (p1 &&& 4294967295)) else (
  if p0 = 7 then (some p1) else (
  if p0 = 8 then (some (Int32.toInt64 (Int64.toInt32 p1))) else (
  if p0 = 9 then (some p1) else (
  if p0 = 10 then (
  if p1 = 0 then (some 0) else (some 1)) else (
  if p0 = 11 then (some p1) else (
  if p0 = 12 then (some p1) else (
  if p0 = 13 then (some p1) else (
  if p0 = 14 then (some (Int32.toInt64 (Int64.toInt32 p1))) else (some p1)))))))))))))))
noncomputable def x_X12_putNumber (U : Nat) (a : Nat) (p0 : Int32) (p1 : Int32) (p2 : Int64) (σ : SG) : Option (SG) := b2 (x_X12_rowFor U a p0 p1 σ) fun v2 σ3 => ix v2 800 fun j4 => sb (uL σ3 1167 j4 p2) fun σ8 => 
  if p2 = 0 then (ix p1 120 fun j10 => 
  if sI σ8 1120 j10 = 0 then (ix p1 120 fun j15 => 
  if sI σ8 1122 j15 = (-1) then (ix v2 800 fun j20 => sb (uI σ8 1171 j20 (vp_nar .boolean 0)) fun σ24 => some σ24) else (some σ8)) else (some σ8)) else (some σ8)
noncomputable def x_X12_takeLength_36 (U : Nat) (a : Nat) (σ : SG) : Option (SG) := sb (uI σ a 107 1) fun σ5 => some σ5
noncomputable def x_X12_takeLength_L141 (U : Nat) (a : Nat) (k180 : SG → Option (SG)) (v1_ : Int32) (v2_ : Int32) (v4_ : Int32) (v5_ : Int32) : Nat → Int32 → SG → Option (SG)
  | 0, _, _ => none
  | U1 + 1, v6_, σ => 
  if v6_ < v4_ then (ix v6_ 700 fun j35 => ix (sI σ a 84) 1500 fun j39 => sb (uI σ 1175 j39 (sI σ 1102 j35)) fun σ43 => sb (uI σ43 a 84 ((sI σ43 a 84) + 1)) fun σ44 => x_X12_takeLength_L141 U a k180 v1_ v2_ v4_ v5_ U1 (v6_ + 1) σ44) else (k180 σ)
noncomputable def x_X12_takeLength_L197 (U : Nat) (a : Nat) (v1_ : Int32) (v2_ : Int32) (v4_ : Int32) : Nat → SG → Option (SG)
  | 0, _ => none
  | U1 + 1, σ => 
  if sI σ a 109 < v4_ then (
  if sI σ a 107 = 0 then (ix v2_ 120 fun j51 => b1 (x_X12_kindOf (sI σ 1118 j51)) fun v56 => b1 (x_X12_takeOne U a v56 v4_ σ) fun σ58 => 
  if sI σ58 a 107 = 0 then (ix v2_ 120 fun j60 => b1 (x_X12_valueFor (sI σ58 1118 j60) (sL σ58 a 108)) fun v65 => b1 (x_X12_putNumber U a v1_ v2_ v65 σ58) fun σ67 => x_X12_takeLength_L197 U a v1_ v2_ v4_ U1 σ67) else (x_X12_takeLength_L197 U a v1_ v2_ v4_ U1 σ58)) else (some σ)) else (some σ)
noncomputable def x_X12_takeLength (U : Nat) (a : Nat) (p0 : Int32) (p1 : Int32) (p2 : Int32) (σ : SG) : Option (SG) := b1 (x_X12_takeVarint U a p2 σ) fun σ2 => 
  if sI σ2 a 107 = 0 then (
  if sL σ2 a 108 < 0 then (x_X12_takeLength_36 U a σ2) else (
  if Int32.toInt64 (p2 - (sI σ2 a 109)) < sL σ2 a 108 then (x_X12_takeLength_36 U a σ2) else (ix p1 120 fun j7 => 
  if sI σ2 1118 j7 = 13 then (b2 (x_X12_putMessage U a p0 p1 σ2) fun v13 σ14 => 
  if sI σ14 a 107 = 0 then (ix (sI σ14 a 106) 40 fun j16 => sb (uI σ14 1176 j16 v13) fun σ20 => ix (sI σ20 a 106) 40 fun j21 => sb (uI σ20 1177 j21 ((sI σ2 a 109) + (Int64.toInt32 (sL σ2 a 108)))) fun σ25 => sb (uI σ25 a 106 ((sI σ25 a 106) + 1)) fun σ26 => some σ26) else (some σ14)) else (ix p1 120 fun j27 => b1 (x_X12_kindOf (sI σ2 1118 j27)) fun v32 => 
  if v32 = 2 then (x_X12_takeLength_L141 U a (fun σ45 => sb (uI σ45 a 109 ((sI σ2 a 109) + (Int64.toInt32 (sL σ2 a 108)))) fun σ46 => b1 (x_X12_putText U a p0 p1 (sI σ2 a 84) σ46) fun σ48 => some σ48) p0 p1 ((sI σ2 a 109) + (Int64.toInt32 (sL σ2 a 108))) (sI σ2 a 84) U (sI σ2 a 109) σ2) else (x_X12_takeLength_L197 U a p0 p1 ((sI σ2 a 109) + (Int64.toInt32 (sL σ2 a 108))) U σ2))))) else (x_X12_takeLength_36 U a σ2)
noncomputable def x_X12_skip_70 (U : Nat) (a : Nat) (σ : SG) : Option (SG) := sb (uI σ a 107 1) fun σ13 => some σ13
noncomputable def x_X12_skip (U : Nat) (a : Nat) (p0 : Int32) (p1 : Int32) (σ : SG) : Option (SG) := 
  if p0 = 0 then (b1 (x_X12_takeVarint U a p1 σ) fun σ3 => some σ3) else (
  if p0 = 1 then (b1 (x_X12_takeFixed U a 8 p1 σ) fun σ6 => some σ6) else (
  if p0 = 5 then (b1 (x_X12_takeFixed U a 4 p1 σ) fun σ9 => some σ9) else (b1 (x_X12_takeVarint U a p1 σ) fun σ11 => 
  if sL σ11 a 108 < 0 then (x_X12_skip_70 U a σ11) else (
  if Int32.toInt64 (p1 - (sI σ11 a 109)) < sL σ11 a 108 then (x_X12_skip_70 U a σ11) else (sb (uI σ11 a 109 ((sI σ11 a 109) + (Int64.toInt32 (sL σ11 a 108)))) fun σ15 => some σ15)))))
noncomputable def x_X12_takeNext_72 (U : Nat) (a : Nat) (σ : SG) : Option (SG) := sb (uI σ a 107 1) fun σ5 => some σ5
noncomputable def x_X12_takeNext_209 (U : Nat) (a : Nat) (v1_ : Int32) (v2_ : Int32) (v3_ : Int32) (v4_ : Int32) (σ : SG) : Option (SG) := b1 (x_X12_skip U a v4_ v2_ σ) fun σ18 => 
  if sI σ18 a 107 = 0 then (b1 (x_X12_addUnknown U a v1_ v3_ (sI σ18 a 109) σ18) fun σ21 => some σ21) else (some σ18)
noncomputable def x_X12_takeNext_158 (U : Nat) (a : Nat) (v1_ : Int32) (v2_ : Int32) (v3_ : Int32) (v4_ : Int32) (v5_ : Int32) (v6_ : Int32) (σ : SG) : Option (SG) := 
  if v5_ = (-1) then (x_X12_takeNext_209 U a v1_ v2_ v3_ v4_ σ) else (
  if v6_ = v4_ then (b1 (x_X12_takeOne U a v4_ v2_ σ) fun σ24 => 
  if sI σ24 a 107 = 0 then (ix v5_ 120 fun j26 => b1 (x_X12_valueFor (sI σ24 1118 j26) (sL σ24 a 108)) fun v31 => b1 (x_X12_putNumber U a v1_ v5_ v31 σ24) fun σ33 => some σ33) else (some σ24)) else (x_X12_takeNext_209 U a v1_ v2_ v3_ v4_ σ))
noncomputable def x_X12_takeNext_147 (U : Nat) (a : Nat) (v1_ : Int32) (v2_ : Int32) (v5_ : Int32) (σ : SG) : Option (SG) := b1 (x_X12_takeLength U a v1_ v5_ v2_ σ) fun σ37 => some σ37
noncomputable def x_X12_takeNext_117 (U : Nat) (a : Nat) (v1_ : Int32) (v2_ : Int32) (v3_ : Int32) (v4_ : Int32) (v5_ : Int32) (s0_ : Int32) (σ : SG) : Option (SG) := 
  if v5_ = (-1) then (x_X12_takeNext_158 U a v1_ v2_ v3_ v4_ v5_ s0_ σ) else (
  if v4_ = 2 then (
  if s0_ = 2 then (x_X12_takeNext_147 U a v1_ v2_ v5_ σ) else (ix v5_ 120 fun j38 => 
  if sI σ 1120 j38 = 0 then (x_X12_takeNext_158 U a v1_ v2_ v3_ v4_ v5_ s0_ σ) else (x_X12_takeNext_147 U a v1_ v2_ v5_ σ))) else (x_X12_takeNext_158 U a v1_ v2_ v3_ v4_ v5_ s0_ σ))
noncomputable def x_X12_takeNext_78 (U : Nat) (a : Nat) (v1_ : Int32) (v2_ : Int32) (v3_ : Int32) (v4_ : Int32) (σ : SG) : Option (SG) := ix v1_ 400 fun j8 => b1 (x_X12_fieldNumbered U a (sI σ 1160 j8) (Int64.toInt32 (lush (sL σ a 108) 3)) σ) fun v13 => 
  if v13 = (-1) then (x_X12_takeNext_117 U a v1_ v2_ v3_ v4_ v13 (-1) σ) else (ix v13 120 fun j43 => b1 (x_X12_kindOf (sI σ 1118 j43)) fun v48 => x_X12_takeNext_117 U a v1_ v2_ v3_ v4_ v13 v48 σ)
noncomputable def x_X12_takeNext (U : Nat) (a : Nat) (p0 : Int32) (p1 : Int32) (σ : SG) : Option (SG) := b1 (x_X12_takeVarint U a p1 σ) fun σ2 => 
  if sI σ2 a 107 = 0 then (
  if sL σ2 a 108 < 8 then (x_X12_takeNext_72 U a σ2) else (
  if 4294967295 < sL σ2 a 108 then (x_X12_takeNext_72 U a σ2) else (
  if (Int64.toInt32 (sL σ2 a 108)) &&& 7 = 0 then (x_X12_takeNext_78 U a p0 p1 (sI σ a 109) ((Int64.toInt32 (sL σ2 a 108)) &&& 7) σ2) else (
  if (Int64.toInt32 (sL σ2 a 108)) &&& 7 = 1 then (x_X12_takeNext_78 U a p0 p1 (sI σ a 109) ((Int64.toInt32 (sL σ2 a 108)) &&& 7) σ2) else (
  if (Int64.toInt32 (sL σ2 a 108)) &&& 7 = 2 then (x_X12_takeNext_78 U a p0 p1 (sI σ a 109) ((Int64.toInt32 (sL σ2 a 108)) &&& 7) σ2) else (
  if (Int64.toInt32 (sL σ2 a 108)) &&& 7 = 5 then (x_X12_takeNext_78 U a p0 p1 (sI σ a 109) ((Int64.toInt32 (sL σ2 a 108)) &&& 7) σ2) else (x_X12_takeNext_72 U a σ2))))))) else (x_X12_takeNext_72 U a σ2)
noncomputable def x_X12_liveValues_65 (U : Nat) (a : Nat) (k4 : Int32 → SG → Option (Int32 × SG)) (k72 : SG → Option (Int32 × SG)) (v1_ : Int32) (v2_ : Int32) (s0_ : Int32) (s1_ : Int32) (σ : SG) : Option (Int32 × SG) := ix s1_ 400 fun j7 => sb (uI σ 1164 j7 (vp_nar .boolean s0_)) fun σ11 => k4 (v2_ + 1) σ11
noncomputable def x_X12_liveValues_60 (U : Nat) (a : Nat) (k4 : Int32 → SG → Option (Int32 × SG)) (k72 : SG → Option (Int32 × SG)) (v1_ : Int32) (v2_ : Int32) (s0_ : Int32) (σ : SG) : Option (Int32 × SG) := x_X12_liveValues_65 U a k4 k72 v1_ v2_ 1 s0_ σ
noncomputable def x_X12_liveValues_64 (U : Nat) (a : Nat) (k4 : Int32 → SG → Option (Int32 × SG)) (k72 : SG → Option (Int32 × SG)) (v1_ : Int32) (v2_ : Int32) (s0_ : Int32) (σ : SG) : Option (Int32 × SG) := x_X12_liveValues_65 U a k4 k72 v1_ v2_ 0 s0_ σ
noncomputable def x_X12_liveValues_L4 (U : Nat) (a : Nat) (k72 : SG → Option (Int32 × SG)) (v1_ : Int32) : Nat → Int32 → SG → Option (Int32 × SG)
  | 0, _, _ => none
  | U1 + 1, v2_, σ => 
  if v2_ < sI σ a 81 then (ix v2_ 400 fun j2 => 
  if sI σ 1161 j2 = (-1) then (x_X12_liveValues_60 U a (x_X12_liveValues_L4 U a k72 v1_ U1) k72 v1_ v2_ v2_ σ) else (ix v2_ 400 fun j12 => ix (sI σ 1161 j12) 800 fun j16 => 
  if sI σ 1171 j16 = 0 then (x_X12_liveValues_64 U a (x_X12_liveValues_L4 U a k72 v1_ U1) k72 v1_ v2_ v2_ σ) else (ix v2_ 400 fun j21 => ix (sI σ 1161 j21) 800 fun j25 => ix (sI σ 1165 j25) 400 fun j29 => 
  if sI σ 1164 j29 = 0 then (x_X12_liveValues_64 U a (x_X12_liveValues_L4 U a k72 v1_ U1) k72 v1_ v2_ v2_ σ) else (x_X12_liveValues_60 U a (x_X12_liveValues_L4 U a k72 v1_ U1) k72 v1_ v2_ v2_ σ)))) else (k72 σ)
noncomputable def x_X12_liveValues_115 (U : Nat) (a : Nat) (k74 : Int32 → Int32 → SG → Option (Int32 × SG)) (v1_ : Int32) (v2_ : Int32) (σ : SG) : Option (Int32 × SG) := k74 v1_ (v2_ + 1) σ
noncomputable def x_X12_liveValues_103 (U : Nat) (a : Nat) (k74 : Int32 → Int32 → SG → Option (Int32 × SG)) (v1_ : Int32) (v2_ : Int32) (σ : SG) : Option (Int32 × SG) := ix v2_ 800 fun j50 => 
  if sI σ 1171 j50 = 0 then (x_X12_liveValues_115 U a k74 v1_ v2_ σ) else (x_X12_liveValues_115 U a k74 (v1_ + 1) v2_ σ)
noncomputable def x_X12_liveValues_L74 (U : Nat) (a : Nat) : Nat → Int32 → Int32 → SG → Option (Int32 × SG)
  | 0, _, _, _ => none
  | U1 + 1, v1_, v2_, σ => 
  if v2_ < sI σ a 82 then (ix v2_ 800 fun j36 => ix (sI σ 1165 j36) 400 fun j40 => 
  if sI σ 1164 j40 = 0 then (ix v2_ 800 fun j45 => sb (uI σ 1171 j45 (vp_nar .boolean 0)) fun σ49 => x_X12_liveValues_103 U a (x_X12_liveValues_L74 U a U1) v1_ v2_ σ49) else (x_X12_liveValues_103 U a (x_X12_liveValues_L74 U a U1) v1_ v2_ σ)) else (some (v1_, σ))
noncomputable def x_X12_liveValues (U : Nat) (a : Nat) (σ : SG) : Option (Int32 × SG) := x_X12_liveValues_L4 U a (fun σ34 => x_X12_liveValues_L74 U a U 0 0 σ34) 0 U 0 σ
noncomputable def x_X12_liveBytes_30 (U : Nat) (a : Nat) (k4 : Int32 → Int32 → Option (Int32)) (k36 : Int32 → Option (Int32)) (v1_ : Int32) (v2_ : Int32) (σ : SG) : Option (Int32) := k4 v1_ (v2_ + 1)
noncomputable def x_X12_liveBytes_L4 (U : Nat) (a : Nat) (k36 : Int32 → Option (Int32)) (σ : SG) : Nat → Int32 → Int32 → Option (Int32)
  | 0, _, _ => none
  | U1 + 1, v1_, v2_ => 
  if v2_ < sI σ a 82 then (ix v2_ 800 fun j2 => 
  if sI σ 1171 j2 = 0 then (x_X12_liveBytes_30 U a (x_X12_liveBytes_L4 U a k36 σ U1) k36 v1_ v2_ σ) else (ix v2_ 800 fun j7 => x_X12_liveBytes_30 U a (x_X12_liveBytes_L4 U a k36 σ U1) k36 (v1_ + (sI σ 1169 j7)) v2_ σ)) else (k36 v1_)
noncomputable def x_X12_liveBytes_69 (U : Nat) (a : Nat) (k38 : Int32 → Int32 → Option (Int32)) (v1_ : Int32) (v2_ : Int32) (σ : SG) : Option (Int32) := k38 v1_ (v2_ + 1)
noncomputable def x_X12_liveBytes_L38 (U : Nat) (a : Nat) (σ : SG) : Nat → Int32 → Int32 → Option (Int32)
  | 0, _, _ => none
  | U1 + 1, v1_, v2_ => 
  if v2_ < sI σ a 83 then (ix v2_ 400 fun j13 => ix (sI σ 1172 j13) 400 fun j17 => 
  if sI σ 1164 j17 = 0 then (x_X12_liveBytes_69 U a (x_X12_liveBytes_L38 U a σ U1) v1_ v2_ σ) else (ix v2_ 400 fun j22 => x_X12_liveBytes_69 U a (x_X12_liveBytes_L38 U a σ U1) (v1_ + (sI σ 1174 j22)) v2_ σ)) else (some v1_)
noncomputable def x_X12_liveBytes (U : Nat) (a : Nat) (σ : SG) : Option (Int32) := x_X12_liveBytes_L4 U a (fun w11 => x_X12_liveBytes_L38 U a σ U w11 0) σ U 0 0
noncomputable def x_X12_finish_53 (U : Nat) (a : Nat) (v1_ : Int32) (s0_ : Int32) (σ : SG) : Option (Int32 × SG) := sb (uI σ a 5 s0_) fun σ8 => 
  if sI σ8 a 5 = 0 then (sb (uI σ8 a 79 1) fun σ10 => some (v1_, σ10)) else (some (0, σ8))
noncomputable def x_X12_finish_48 (U : Nat) (a : Nat) (v1_ : Int32) (σ : SG) : Option (Int32 × SG) := x_X12_finish_53 U a v1_ 2 σ
noncomputable def x_X12_finish_13 (U : Nat) (a : Nat) (s0_ : Int32) (σ : SG) : Option (Int32 × SG) := sb (uI σ a 5 s0_) fun σ2 => 
  if sI σ2 a 5 = 0 then (b2 (x_X12_liveValues U a σ2) fun v5 σ6 => 
  if 200 < v5 then (x_X12_finish_48 U a v5 σ6) else (b1 (x_X12_liveBytes U a σ6) fun v12 => 
  if 1000 < v12 then (x_X12_finish_48 U a v5 σ6) else (x_X12_finish_53 U a v5 0 σ6))) else (some (0, σ2))
noncomputable def x_X12_finish (U : Nat) (a : Nat) (σ : SG) : Option (Int32 × SG) := 
  if sI σ a 107 = 0 then (x_X12_finish_13 U a 0 σ) else (x_X12_finish_13 U a 1 σ)
noncomputable def x_X12_decode_105 (U : Nat) (a : Nat) (k39 : SG → Option (Int32 × SG)) (k108 : SG → Option (Int32 × SG)) (σ : SG) : Option (Int32 × SG) := k39 σ
noncomputable def x_X12_decode_L39 (U : Nat) (a : Nat) (k108 : SG → Option (Int32 × SG)) : Nat → SG → Option (Int32 × SG)
  | 0, _ => none
  | U1 + 1, σ => 
  if 0 < sI σ a 106 then (
  if sI σ a 107 = 0 then (ix ((sI σ a 106) - 1) 40 fun j19 => 
  if sI σ a 109 = sI σ 1177 j19 then (sb (uI σ a 106 ((sI σ a 106) - 1)) fun σ24 => x_X12_decode_105 U a (x_X12_decode_L39 U a k108 U1) k108 σ24) else (ix ((sI σ a 106) - 1) 40 fun j25 => b1 (x_X12_takeNext U a (sI σ 1176 j25) (sI σ 1177 j19) σ) fun σ30 => x_X12_decode_105 U a (x_X12_decode_L39 U a k108 U1) k108 σ30)) else (k108 σ)) else (k108 σ)
noncomputable def x_X12_decode_108 (U : Nat) (a : Nat) (σ : SG) : Option (Int32 × SG) := b2 (x_X12_finish U a σ) fun v33 σ34 => some (v33, σ34)
noncomputable def x_X12_decode (U : Nat) (a : Nat) (p0 : Int32) (p1 : Int32) (p2 : Int32) (σ : SG) : Option (Int32 × SG) := b2 (x_X12_begins a p0 p1 p2 σ) fun v2 σ3 => 
  if v2 = 0 then (some (0, σ3)) else (sb (uI σ3 a 109 0) fun σ5 => ix 0 40 fun j6 => sb (uI σ5 1176 j6 0) fun σ10 => ix 0 40 fun j11 => sb (uI σ10 1177 j11 (sI σ10 a 73)) fun σ15 => sb (uI σ15 a 106 1) fun σ16 => x_X12_decode_L39 U a (fun σ31 => x_X12_decode_108 U a σ31) U σ16)
noncomputable def x_X12_tagOf (a : Nat) (p0 : Int32) (p1 : Int32) (σ : SG) : Option (Int64) := ix p0 120 fun j1 => some ((lshl9 (Int32.toInt64 (sI σ 1117 j1)) 3) ||| (Int32.toInt64 p1))
noncomputable def x_X12_varintBytes_L7 (U : Nat) (σ : SG) : Nat → Int32 → Int64 → Option (Int32)
  | 0, _, _ => none
  | U1 + 1, v2_, v3_ => 
  if v3_ = 0 then (some v2_) else (x_X12_varintBytes_L7 U σ U1 (v2_ + 1) (lush v3_ 7))
noncomputable def x_X12_varintBytes (U : Nat) (p0 : Int64) (σ : SG) : Option (Int32) := x_X12_varintBytes_L7 U σ U 1 (lush p0 7)
noncomputable def x_X12_varintOf (p0 : Int32) (p1 : Int64) : Option (Int64) := 
  if p0 = 4 then (some ((Int32.toInt64 ((ishl9 (Int64.toInt32 p1) 1) ^^^ (ishr9 (Int64.toInt32 p1) 31))) &&& 4294967295)) else (
  if p0 = 5 then (some ((lshl9 p1 1) ^^^ (lshr9 p1 63))) else (some p1))
noncomputable def x_X12_kindBytes (U : Nat) (p0 : Int32) (p1 : Int64) (σ : SG) : Option (Int32) := b1 (x_X12_kindOf p0) fun v2 => 
  if v2 = 1 then (some 8) else (
  if v2 = 5 then (some 4) else (b1 (x_X12_varintOf p0 p1) fun v6 => b1 (x_X12_varintBytes U v6 σ) fun v8 => some v8))
noncomputable def x_X12_rowBytes_87 (U : Nat) (a : Nat) (v3_ : Int32) (s0_ : Int32) (σ : SG) : Option (Int32) := b1 (x_X12_varintBytes U (Int32.toInt64 s0_) σ) fun v36 => some ((v3_ + v36) + s0_)
noncomputable def x_X12_rowBytes (U : Nat) (a : Nat) (p0 : Int32) (σ : SG) : Option (Int32) := ix p0 800 fun j1 => ix (sI σ 1166 j1) 120 fun j5 => b1 (x_X12_kindOf (sI σ 1118 j5)) fun v10 => b1 (x_X12_tagOf a (sI σ 1166 j1) v10 σ) fun v12 => b1 (x_X12_varintBytes U v12 σ) fun v14 => ix (sI σ 1166 j1) 120 fun j15 => b1 (x_X12_kindOf (sI σ 1118 j15)) fun v20 => 
  if v20 = 2 then (ix (sI σ 1166 j1) 120 fun j22 => 
  if sI σ 1118 j22 = 13 then (ix p0 800 fun j27 => ix (sI σ 1170 j27) 400 fun j31 => x_X12_rowBytes_87 U a v14 (sI σ 1163 j31) σ) else (ix p0 800 fun j37 => x_X12_rowBytes_87 U a v14 (sI σ 1169 j37) σ)) else (ix (sI σ 1166 j1) 120 fun j41 => ix p0 800 fun j45 => b1 (x_X12_kindBytes U (sI σ 1118 j41) (sL σ 1167 j45) σ) fun v50 => some (v14 + v50))
noncomputable def x_X12_packedBytes_65 (U : Nat) (a : Nat) (k5 : Int32 → Int32 → Option (Int32)) (v1_ : Int32) (v2_ : Int32) (v3_ : Int32) (v4_ : Int32) (σ : SG) : Option (Int32) := k5 v3_ (v4_ + 1)
noncomputable def x_X12_packedBytes_L5 (U : Nat) (a : Nat) (v1_ : Int32) (v2_ : Int32) (σ : SG) : Nat → Int32 → Int32 → Option (Int32)
  | 0, _, _ => none
  | U1 + 1, v3_, v4_ => 
  if v4_ < sI σ a 82 then (ix v4_ 800 fun j2 => 
  if sI σ 1171 j2 = 0 then (x_X12_packedBytes_65 U a (x_X12_packedBytes_L5 U a v1_ v2_ σ U1) v1_ v2_ v3_ v4_ σ) else (ix v4_ 800 fun j7 => 
  if sI σ 1165 j7 = v1_ then (ix v4_ 800 fun j12 => 
  if sI σ 1166 j12 = v2_ then (ix v2_ 120 fun j17 => ix v4_ 800 fun j21 => b1 (x_X12_kindBytes U (sI σ 1118 j17) (sL σ 1167 j21) σ) fun v26 => x_X12_packedBytes_65 U a (x_X12_packedBytes_L5 U a v1_ v2_ σ U1) v1_ v2_ (v3_ + v26) v4_ σ) else (x_X12_packedBytes_65 U a (x_X12_packedBytes_L5 U a v1_ v2_ σ U1) v1_ v2_ v3_ v4_ σ)) else (x_X12_packedBytes_65 U a (x_X12_packedBytes_L5 U a v1_ v2_ σ U1) v1_ v2_ v3_ v4_ σ))) else (some v3_)
noncomputable def x_X12_packedBytes (U : Nat) (a : Nat) (p0 : Int32) (p1 : Int32) (σ : SG) : Option (Int32) := x_X12_packedBytes_L5 U a p0 p1 σ U 0 0
noncomputable def x_X12_measure_64 (U : Nat) (a : Nat) (k15 : Int32 → Int32 → Option (SG)) (k70 : Int32 → Option (SG)) (v1_ : Int32) (v2_ : Int32) (v3_ : Int32) (σ : SG) : Option (SG) := k15 v2_ (v3_ + 1)
noncomputable def x_X12_measure_L15 (U : Nat) (a : Nat) (k70 : Int32 → Option (SG)) (v1_ : Int32) (σ : SG) : Nat → Int32 → Int32 → Option (SG)
  | 0, _, _ => none
  | U1 + 1, v2_, v3_ => 
  if v3_ < sI σ a 82 then (ix v3_ 800 fun j3 => 
  if sI σ 1171 j3 = 0 then (x_X12_measure_64 U a (x_X12_measure_L15 U a k70 v1_ σ U1) k70 v1_ v2_ v3_ σ) else (ix v3_ 800 fun j8 => 
  if sI σ 1165 j8 = v1_ then (ix v3_ 800 fun j13 => ix (sI σ 1166 j13) 120 fun j17 => 
  if sI σ 1121 j17 = 0 then (b1 (x_X12_rowBytes U a v3_ σ) fun v23 => x_X12_measure_64 U a (x_X12_measure_L15 U a k70 v1_ σ U1) k70 v1_ (v2_ + v23) v3_ σ) else (x_X12_measure_64 U a (x_X12_measure_L15 U a k70 v1_ σ U1) k70 v1_ v2_ v3_ σ)) else (x_X12_measure_64 U a (x_X12_measure_L15 U a k70 v1_ σ U1) k70 v1_ v2_ v3_ σ))) else (k70 v2_)
noncomputable def x_X12_measure_162 (U : Nat) (a : Nat) (k78 : Int32 → Int32 → Option (SG)) (k168 : Int32 → Option (SG)) (v1_ : Int32) (v2_ : Int32) (v3_ : Int32) (σ : SG) : Option (SG) := k78 v2_ (v3_ + 1)
noncomputable def x_X12_measure_133 (U : Nat) (a : Nat) (k78 : Int32 → Int32 → Option (SG)) (k168 : Int32 → Option (SG)) (v1_ : Int32) (v2_ : Int32) (v3_ : Int32) (s0_ : Int32) (σ : SG) : Option (SG) := 
  if 0 < s0_ then (b1 (x_X12_tagOf a v3_ 2 σ) fun v46 => b1 (x_X12_varintBytes U v46 σ) fun v48 => b1 (x_X12_varintBytes U (Int32.toInt64 s0_) σ) fun v50 => x_X12_measure_162 U a k78 k168 v1_ (v2_ + ((v48 + v50) + s0_)) v3_ σ) else (x_X12_measure_162 U a k78 k168 v1_ v2_ v3_ σ)
noncomputable def x_X12_measure_132 (U : Nat) (a : Nat) (k78 : Int32 → Int32 → Option (SG)) (k168 : Int32 → Option (SG)) (v1_ : Int32) (v2_ : Int32) (v3_ : Int32) (σ : SG) : Option (SG) := x_X12_measure_133 U a k78 k168 v1_ v2_ v3_ 0 σ
noncomputable def x_X12_measure_L78 (U : Nat) (a : Nat) (k168 : Int32 → Option (SG)) (v1_ : Int32) (σ : SG) : Nat → Int32 → Int32 → Option (SG)
  | 0, _, _ => none
  | U1 + 1, v2_, v3_ => ix (sI σ a 80) 2 fun j25 => 
  if v3_ < (60 * (sI σ a 80)) + (sI σ 1106 j25) then (ix v3_ 120 fun j30 => ix v1_ 400 fun j34 => 
  if sI σ 1114 j30 = sI σ 1160 j34 then (ix v3_ 120 fun j39 => 
  if sI σ 1121 j39 = 0 then (x_X12_measure_132 U a (x_X12_measure_L78 U a k168 v1_ σ U1) k168 v1_ v2_ v3_ σ) else (b1 (x_X12_packedBytes U a v1_ v3_ σ) fun v52 => x_X12_measure_133 U a (x_X12_measure_L78 U a k168 v1_ σ U1) k168 v1_ v2_ v3_ v52 σ)) else (x_X12_measure_132 U a (x_X12_measure_L78 U a k168 v1_ σ U1) k168 v1_ v2_ v3_ σ)) else (k168 v2_)
noncomputable def x_X12_measure_197 (U : Nat) (a : Nat) (k170 : Int32 → Int32 → Option (SG)) (k203 : Int32 → Option (SG)) (v1_ : Int32) (v2_ : Int32) (v3_ : Int32) (σ : SG) : Option (SG) := k170 v2_ (v3_ + 1)
noncomputable def x_X12_measure_L170 (U : Nat) (a : Nat) (k203 : Int32 → Option (SG)) (v1_ : Int32) (σ : SG) : Nat → Int32 → Int32 → Option (SG)
  | 0, _, _ => none
  | U1 + 1, v2_, v3_ => 
  if v3_ < sI σ a 83 then (ix v3_ 400 fun j55 => 
  if sI σ 1172 j55 = v1_ then (ix v3_ 400 fun j60 => x_X12_measure_197 U a (x_X12_measure_L170 U a k203 v1_ σ U1) k203 v1_ (v2_ + (sI σ 1174 j60)) v3_ σ) else (x_X12_measure_197 U a (x_X12_measure_L170 U a k203 v1_ σ U1) k203 v1_ v2_ v3_ σ)) else (k203 v2_)
noncomputable def x_X12_measure_L7 (U : Nat) (a : Nat) : Nat → Int32 → SG → Option (SG)
  | 0, _, _ => none
  | U1 + 1, v1_, σ => 
  if v1_ < 0 then (some σ) else (x_X12_measure_L15 U a (fun w24 => x_X12_measure_L78 U a (fun w53 => x_X12_measure_L170 U a (fun w64 => ix v1_ 400 fun j65 => sb (uI σ 1163 j65 w64) fun σ69 => x_X12_measure_L7 U a U1 (v1_ - 1) σ69) v1_ σ U w53 0) v1_ σ U w24 (60 * (sI σ a 80))) v1_ σ U 0 0)
noncomputable def x_X12_measure (U : Nat) (a : Nat) (σ : SG) : Option (SG) := x_X12_measure_L7 U a U ((sI σ a 81) - 1) σ
noncomputable def x_X12_goInto (a : Nat) (p0 : Int32) (σ : SG) : Option (SG) := ix (sI σ a 106) 40 fun j1 => sb (uI σ 1176 j1 p0) fun σ5 => ix (sI σ5 a 106) 40 fun j6 => sb (uI σ5 1179 j6 0) fun σ10 => ix (sI σ10 a 106) 40 fun j11 => sb (uI σ10 1178 j11 0) fun σ15 => sb (uI σ15 a 106 ((sI σ15 a 106) + 1)) fun σ16 => some σ16
noncomputable def x_X12_putUnknown_L22 (U : Nat) (a : Nat) (k55 : SG → Option (SG)) (v1_ : Int32) (v2_ : Int32) : Nat → Int32 → SG → Option (SG)
  | 0, _, _ => none
  | U1 + 1, v3_, σ => ix v2_ 400 fun j7 => 
  if v3_ < sI σ 1174 j7 then (ix v2_ 400 fun j12 => ix ((sI σ 1173 j12) + v3_) 1500 fun j16 => b1 (x_X12_put a (sI σ 1175 j16) σ) fun σ21 => x_X12_putUnknown_L22 U a k55 v1_ v2_ U1 (v3_ + 1) σ21) else (k55 σ)
noncomputable def x_X12_putUnknown_55 (U : Nat) (a : Nat) (k2 : Int32 → SG → Option (SG)) (v1_ : Int32) (v2_ : Int32) (σ : SG) : Option (SG) := k2 (v2_ + 1) σ
noncomputable def x_X12_putUnknown_L2 (U : Nat) (a : Nat) (v1_ : Int32) : Nat → Int32 → SG → Option (SG)
  | 0, _, _ => none
  | U1 + 1, v2_, σ => 
  if v2_ < sI σ a 83 then (ix v2_ 400 fun j2 => 
  if sI σ 1172 j2 = v1_ then (x_X12_putUnknown_L22 U a (fun σ22 => x_X12_putUnknown_55 U a (x_X12_putUnknown_L2 U a v1_ U1) v1_ v2_ σ22) v1_ v2_ U 0 σ) else (x_X12_putUnknown_55 U a (x_X12_putUnknown_L2 U a v1_ U1) v1_ v2_ σ)) else (some σ)
noncomputable def x_X12_putUnknown (U : Nat) (a : Nat) (p0 : Int32) (σ : SG) : Option (SG) := x_X12_putUnknown_L2 U a p0 U 0 σ
noncomputable def x_X12_nextRow_47 (U : Nat) (a : Nat) (k3 : Int32 → Option (Int32)) (v1_ : Int32) (v2_ : Int32) (v4_ : Int32) (σ : SG) : Option (Int32) := k3 (v4_ + 1)
noncomputable def x_X12_nextRow_L3 (U : Nat) (a : Nat) (v1_ : Int32) (v2_ : Int32) (σ : SG) : Nat → Int32 → Option (Int32)
  | 0, _ => none
  | U1 + 1, v4_ => 
  if v4_ < sI σ a 82 then (ix v4_ 800 fun j2 => 
  if sI σ 1171 j2 = 0 then (x_X12_nextRow_47 U a (x_X12_nextRow_L3 U a v1_ v2_ σ U1) v1_ v2_ v4_ σ) else (ix v4_ 800 fun j7 => 
  if sI σ 1165 j7 = v1_ then (ix v4_ 800 fun j12 => 
  if sI σ 1166 j12 = v2_ then (some v4_) else (x_X12_nextRow_47 U a (x_X12_nextRow_L3 U a v1_ v2_ σ U1) v1_ v2_ v4_ σ)) else (x_X12_nextRow_47 U a (x_X12_nextRow_L3 U a v1_ v2_ σ U1) v1_ v2_ v4_ σ))) else (some (-1))
noncomputable def x_X12_nextRow (U : Nat) (a : Nat) (p0 : Int32) (p1 : Int32) (p2 : Int32) (σ : SG) : Option (Int32) := x_X12_nextRow_L3 U a p0 p1 σ U p2
noncomputable def x_X12_putOne_47 (U : Nat) (a : Nat) (k23 : Int32 → SG → Option (SG)) (v2_ : Int64) (v4_ : Int32) (v5_ : Int32) (s0_ : Int32) (s1_ : Int32) (σ : SG) : Option (SG) := 
  if s1_ < s0_ then (b1 (x_X12_put a ((Int64.toInt32 (lush v2_ (8 * v5_))) &&& 255) σ) fun σ11 => k23 (v5_ + 1) σ11) else (some σ)
noncomputable def x_X12_putOne_L23 (U : Nat) (a : Nat) (v2_ : Int64) (v4_ : Int32) : Nat → Int32 → SG → Option (SG)
  | 0, _, _ => none
  | U1 + 1, v5_, σ => 
  if v4_ = 1 then (x_X12_putOne_47 U a (x_X12_putOne_L23 U a v2_ v4_ U1) v2_ v4_ v5_ 8 v5_ σ) else (
  if v4_ = 5 then (x_X12_putOne_47 U a (x_X12_putOne_L23 U a v2_ v4_ U1) v2_ v4_ v5_ 4 v5_ σ) else (x_X12_putOne_47 U a (x_X12_putOne_L23 U a v2_ v4_ U1) v2_ v4_ v5_ 0 v5_ σ))
noncomputable def x_X12_putOne_20 (U : Nat) (a : Nat) (v2_ : Int64) (v4_ : Int32) (σ : SG) : Option (SG) := x_X12_putOne_L23 U a v2_ v4_ U 0 σ
noncomputable def x_X12_putOne (U : Nat) (a : Nat) (p0 : Int32) (p1 : Int64) (σ : SG) : Option (SG) := b1 (x_X12_kindOf p0) fun v2 => 
  if v2 = 0 then (b1 (x_X12_varintOf p0 p1) fun v5 => b1 (x_X12_putVarint U a v5 σ) fun σ7 => x_X12_putOne_20 U a p1 v2 σ7) else (x_X12_putOne_20 U a p1 v2 σ)
noncomputable def x_X12_putPacked_89 (U : Nat) (a : Nat) (k31 : Int32 → SG → Option (SG)) (v1_ : Int32) (v2_ : Int32) (v4_ : Int32) (σ : SG) : Option (SG) := k31 (v4_ + 1) σ
noncomputable def x_X12_putPacked_L31 (U : Nat) (a : Nat) (v1_ : Int32) (v2_ : Int32) : Nat → Int32 → SG → Option (SG)
  | 0, _, _ => none
  | U1 + 1, v4_, σ => 
  if v4_ < sI σ a 82 then (ix v4_ 800 fun j11 => 
  if sI σ 1171 j11 = 0 then (x_X12_putPacked_89 U a (x_X12_putPacked_L31 U a v1_ v2_ U1) v1_ v2_ v4_ σ) else (ix v4_ 800 fun j16 => 
  if sI σ 1165 j16 = v1_ then (ix v4_ 800 fun j21 => 
  if sI σ 1166 j21 = v2_ then (ix v2_ 120 fun j26 => ix v4_ 800 fun j30 => b1 (x_X12_putOne U a (sI σ 1118 j26) (sL σ 1167 j30) σ) fun σ35 => x_X12_putPacked_89 U a (x_X12_putPacked_L31 U a v1_ v2_ U1) v1_ v2_ v4_ σ35) else (x_X12_putPacked_89 U a (x_X12_putPacked_L31 U a v1_ v2_ U1) v1_ v2_ v4_ σ)) else (x_X12_putPacked_89 U a (x_X12_putPacked_L31 U a v1_ v2_ U1) v1_ v2_ v4_ σ))) else (some σ)
noncomputable def x_X12_putPacked (U : Nat) (a : Nat) (p0 : Int32) (p1 : Int32) (σ : SG) : Option (SG) := b1 (x_X12_packedBytes U a p0 p1 σ) fun v2 => 
  if v2 = 0 then (some σ) else (b1 (x_X12_tagOf a p1 2 σ) fun v5 => b1 (x_X12_putVarint U a v5 σ) fun σ7 => b1 (x_X12_putVarint U a (Int32.toInt64 v2) σ7) fun σ9 => x_X12_putPacked_L31 U a p0 p1 U 0 σ9)
noncomputable def x_X12_encodeStep_L240 (U : Nat) (a : Nat) (v4_ : Int32) : Nat → Int32 → SG → Option (SG)
  | 0, _, _ => none
  | U1 + 1, v5_, σ => ix v4_ 800 fun j99 => 
  if v5_ < sI σ 1169 j99 then (ix v4_ 800 fun j104 => ix ((sI σ 1168 j104) + v5_) 1500 fun j108 => b1 (x_X12_put a (sI σ 1175 j108) σ) fun σ113 => x_X12_encodeStep_L240 U a v4_ U1 (v5_ + 1) σ113) else (some σ)
noncomputable def x_X12_encodeStep_98 (U : Nat) (a : Nat) (v1_ : Int32) (v3_ : Int32) (v4_ : Int32) (σ : SG) : Option (SG) := 
  if v4_ = (-1) then (ix v1_ 40 fun j36 => ix v1_ 40 fun j40 => sb (uI σ 1179 j40 ((sI σ 1179 j36) + 1)) fun σ44 => ix v1_ 40 fun j45 => sb (uI σ44 1178 j45 0) fun σ49 => some σ49) else (ix v1_ 40 fun j50 => sb (uI σ 1178 j50 (v4_ + 1)) fun σ54 => ix v3_ 120 fun j55 => b1 (x_X12_kindOf (sI σ54 1118 j55)) fun v60 => b1 (x_X12_tagOf a v3_ v60 σ54) fun v62 => b1 (x_X12_putVarint U a v62 σ54) fun σ64 => ix v3_ 120 fun j65 => b1 (x_X12_kindOf (sI σ64 1118 j65)) fun v70 => 
  if v70 = 2 then (ix v3_ 120 fun j72 => 
  if sI σ64 1118 j72 = 13 then (ix v4_ 800 fun j77 => ix (sI σ64 1170 j77) 400 fun j81 => b1 (x_X12_putVarint U a (Int32.toInt64 (sI σ64 1163 j81)) σ64) fun σ86 => ix v4_ 800 fun j87 => b1 (x_X12_goInto a (sI σ86 1170 j87) σ86) fun σ92 => some σ92) else (ix v4_ 800 fun j93 => b1 (x_X12_putVarint U a (Int32.toInt64 (sI σ64 1169 j93)) σ64) fun σ98 => x_X12_encodeStep_L240 U a v4_ U 0 σ98)) else (ix v3_ 120 fun j114 => ix v4_ 800 fun j118 => b1 (x_X12_putOne U a (sI σ64 1118 j114) (sL σ64 1167 j118) σ64) fun σ123 => some σ123))
noncomputable def x_X12_encodeStep_81 (U : Nat) (a : Nat) (v1_ : Int32) (v2_ : Int32) (v3_ : Int32) (s0_ : Int32) (σ : SG) : Option (SG) := ix v3_ 120 fun j30 => 
  if sI σ 1121 j30 = 0 then (x_X12_encodeStep_98 U a v1_ v3_ s0_ σ) else (b1 (x_X12_putPacked U a v2_ v3_ σ) fun σ125 => x_X12_encodeStep_98 U a v1_ v3_ s0_ σ125)
noncomputable def x_X12_encodeStep (U : Nat) (a : Nat) (σ : SG) : Option (SG) := ix ((sI σ a 106) - 1) 40 fun j1 => ix (sI σ 1176 j1) 400 fun j5 => ix ((sI σ a 106) - 1) 40 fun j9 => b1 (x_X12_fieldAt U a (sI σ a 80) (sI σ 1160 j5) (sI σ 1179 j9) σ) fun v14 => 
  if v14 = (-1) then (b1 (x_X12_putUnknown U a (sI σ 1176 j1) σ) fun σ17 => sb (uI σ17 a 106 ((sI σ17 a 106) - 1)) fun σ18 => some σ18) else (ix v14 120 fun j19 => 
  if sI σ 1121 j19 = 0 then (ix ((sI σ a 106) - 1) 40 fun j24 => b1 (x_X12_nextRow U a (sI σ 1176 j1) v14 (sI σ 1178 j24) σ) fun v29 => x_X12_encodeStep_81 U a ((sI σ a 106) - 1) (sI σ 1176 j1) v14 v29 σ) else (x_X12_encodeStep_81 U a ((sI σ a 106) - 1) (sI σ 1176 j1) v14 (-1) σ))
noncomputable def x_X12_encode_L43 (U : Nat) (a : Nat) : Nat → SG → Option (Int32 × SG)
  | 0, _ => none
  | U1 + 1, σ => 
  if 0 < sI σ a 106 then (b1 (x_X12_encodeStep U a σ) fun σ13 => x_X12_encode_L43 U a U1 σ13) else (some (sI σ a 3, σ))
noncomputable def x_X12_encode_17 (U : Nat) (a : Nat) (s0_ : Int32) (σ : SG) : Option (Int32 × SG) := sb (uI σ a 5 s0_) fun σ4 => 
  if sI σ4 a 5 = 0 then (b1 (x_X12_measure U a σ4) fun σ7 => sb (uI σ7 a 106 0) fun σ8 => b1 (x_X12_goInto a 0 σ8) fun σ10 => x_X12_encode_L43 U a U σ10) else (some (0, σ4))
noncomputable def x_X12_encode (U : Nat) (a : Nat) (σ : SG) : Option (Int32 × SG) := b1 (x_X12_emptyOut a σ) fun σ2 => 
  if sI σ2 a 79 = 0 then (x_X12_encode_17 U a 1 σ2) else (x_X12_encode_17 U a 0 σ2)
noncomputable def x_X12_feed_L50 (U : Nat) (a : Nat) (v1_ : Int64) : Nat → Int32 → SG → Option (Int32 × SG)
  | 0, _, _ => none
  | U1 + 1, v4_, σ => 
  if v4_ < 0 then (some (sI σ a 1, σ)) else (ix (sI σ a 1) 700 fun j5 => sb (uI σ 1102 j5 ((Int64.toInt32 (lush v1_ (8 * v4_))) &&& 255)) fun σ9 => sb (uI σ9 a 1 ((sI σ9 a 1) + 1)) fun σ10 => x_X12_feed_L50 U a v1_ U1 (v4_ - 1) σ10)
noncomputable def x_X12_feed_33 (U : Nat) (a : Nat) (v1_ : Int64) (v3_ : Int32) (s0_ : Int32) (σ : SG) : Option (Int32 × SG) := sb (uI σ a 5 s0_) fun σ2 => 
  if sI σ2 a 5 = 0 then (x_X12_feed_L50 U a v1_ U (v3_ - 1) σ2) else (some (0, σ2))
noncomputable def x_X12_feed_12 (U : Nat) (a : Nat) (v1_ : Int64) (v3_ : Int32) (σ : SG) : Option (Int32 × SG) := x_X12_feed_33 U a v1_ v3_ 1 σ
noncomputable def x_X12_feed (U : Nat) (a : Nat) (p0 : Int64) (p1 : Int32) (σ : SG) : Option (Int32 × SG) := 
  if p1 < 1 then (x_X12_feed_12 U a p0 p1 σ) else (
  if 8 < p1 then (x_X12_feed_12 U a p0 p1 σ) else (
  if 700 < (sI σ a 1) + p1 then (x_X12_feed_33 U a p0 p1 2 σ) else (x_X12_feed_33 U a p0 p1 0 σ)))
noncomputable def x_X12_field_45 (U : Nat) (a : Nat) (v4_ : Int32) (v5_ : Int32) (s0_ : Int32) (σ : SG) : Option (Int32 × SG) := sb (uI σ a 5 s0_) fun σ5 => 
  if sI σ5 a 5 = 0 then (
  if v4_ = 0 then (ix v5_ 120 fun j8 => some (sI σ5 1117 j8, σ5)) else (
  if v4_ = 1 then (ix v5_ 120 fun j13 => some (sI σ5 1118 j13, σ5)) else (
  if v4_ = 2 then (ix v5_ 120 fun j18 => some (sI σ5 1119 j18, σ5)) else (
  if v4_ = 3 then (ix v5_ 120 fun j23 => 
  if sI σ5 1121 j23 = 0 then (ix v5_ 120 fun j28 => 
  if sI σ5 1120 j28 = 0 then (some (0, σ5)) else (some (1, σ5))) else (some (2, σ5))) else (
  if v4_ = 4 then (ix v5_ 120 fun j34 => some (sI σ5 1122 j34, σ5)) else (ix v5_ 120 fun j38 => some (sI σ5 1116 j38, σ5))))))) else (some (0, σ5))
noncomputable def x_X12_field_40 (U : Nat) (a : Nat) (v4_ : Int32) (v5_ : Int32) (σ : SG) : Option (Int32 × SG) := x_X12_field_45 U a v4_ v5_ 1 σ
noncomputable def x_X12_field_20 (U : Nat) (a : Nat) (v4_ : Int32) (s0_ : Int32) (σ : SG) : Option (Int32 × SG) := 
  if s0_ = (-1) then (x_X12_field_40 U a v4_ s0_ σ) else (
  if v4_ < 0 then (x_X12_field_40 U a v4_ s0_ σ) else (
  if 5 < v4_ then (x_X12_field_40 U a v4_ s0_ σ) else (x_X12_field_45 U a v4_ s0_ 0 σ)))
noncomputable def x_X12_field (U : Nat) (a : Nat) (p0 : Int32) (p1 : Int32) (p2 : Int32) (p3 : Int32) (σ : SG) : Option (Int32 × SG) := b1 (x_X12_isMessage a p0 p1 σ) fun v2 => 
  if v2 = 0 then (x_X12_field_20 U a p3 (-1) σ) else (b1 (x_X12_fieldAt U a p0 p1 p2 σ) fun v45 => x_X12_field_20 U a p3 v45 σ)
noncomputable def x_X12_isNamed_L13 (U : Nat) (a : Nat) (v1_ : Int32) (v3_ : Int32) (v4_ : Int32) (σ : SG) : Nat → Int32 → Option (Int32)
  | 0, _ => none
  | U1 + 1, v5_ => 
  if v5_ < v4_ then (ix (v1_ + v5_) 700 fun j3 => ix (v3_ + v5_) 1200 fun j7 => 
  if sI σ 1102 j3 = sI σ 1127 j7 then (x_X12_isNamed_L13 U a v1_ v3_ v4_ σ U1 (v5_ + 1)) else (some 0)) else (some 1)
noncomputable def x_X12_isNamed (U : Nat) (a : Nat) (p0 : Int32) (p1 : Int32) (p2 : Int32) (p3 : Int32) (σ : SG) : Option (Int32) := 
  if p1 - p0 = p3 then (x_X12_isNamed_L13 U a p0 p2 p3 σ U 0) else (some 0)
noncomputable def x_X12_fieldNamed_68 (U : Nat) (a : Nat) (k9 : Int32 → Option (Int32)) (v1_ : Int32) (v2_ : Int32) (v3_ : Int32) (v4_ : Int32) (σ : SG) : Option (Int32) := k9 (v4_ + 1)
noncomputable def x_X12_fieldNamed_L9 (U : Nat) (a : Nat) (v1_ : Int32) (v2_ : Int32) (v3_ : Int32) (σ : SG) : Nat → Int32 → Option (Int32)
  | 0, _ => none
  | U1 + 1, v4_ => ix (sI σ a 80) 2 fun j1 => 
  if v4_ < (60 * (sI σ a 80)) + (sI σ 1106 j1) then (ix v4_ 120 fun j6 => 
  if sI σ 1114 j6 = v1_ then (ix v4_ 120 fun j11 => ix v4_ 120 fun j15 => b1 (x_X12_isNamed U a v2_ v3_ (sI σ 1115 j11) (sI σ 1116 j15) σ) fun v20 => 
  if v20 = 0 then (x_X12_fieldNamed_68 U a (x_X12_fieldNamed_L9 U a v1_ v2_ v3_ σ U1) v1_ v2_ v3_ v4_ σ) else (some v4_)) else (x_X12_fieldNamed_68 U a (x_X12_fieldNamed_L9 U a v1_ v2_ v3_ σ U1) v1_ v2_ v3_ v4_ σ)) else (some (-1))
noncomputable def x_X12_fieldNamed (U : Nat) (a : Nat) (p0 : Int32) (p1 : Int32) (p2 : Int32) (σ : SG) : Option (Int32) := x_X12_fieldNamed_L9 U a p0 p1 p2 σ U (60 * (sI σ a 80))
noncomputable def x_X12_isTape_L15 (U : Nat) (a : Nat) (k50 : Option (Int32)) (v1_ : Int32) (v2_ : Int32) (v3_ : Int32) (σ : SG) : Nat → Int32 → Option (Int32)
  | 0, _ => none
  | U1 + 1, v4_ => 
  if v4_ < v3_ then (ix (v1_ + v4_) 700 fun j3 => ix (v2_ + v4_) 1200 fun j7 => 
  if sI σ 1102 j3 = sI σ 1127 j7 then (x_X12_isTape_L15 U a k50 v1_ v2_ v3_ σ U1 (v4_ + 1)) else (some 0)) else (k50)
noncomputable def x_X12_isTape (U : Nat) (a : Nat) (p0 : Int32) (p1 : Int32) (p2 : Int32) (σ : SG) : Option (Int32) := 
  if sI σ a 73 < p0 + p2 then (some 0) else (x_X12_isTape_L15 U a (
  if p0 + p2 = sI σ a 73 then (some 1) else (ix (p0 + p2) 700 fun j13 => 
  if sI σ 1102 j13 = 46 then (some 1) else (some 0))) p0 p1 p2 σ U 0)
noncomputable def x_X12_named_63 (U : Nat) (a : Nat) (k6 : Int32 → Option (Int32)) (k55 : Int32 → Option (Int32)) (k69 : Option (Int32)) (v1_ : Int32) (v2_ : Int32) (v3_ : Int32) (v4_ : Int32) (σ : SG) : Option (Int32) := k6 (v4_ + 1)
noncomputable def x_X12_named_L6 (U : Nat) (a : Nat) (k55 : Int32 → Option (Int32)) (k69 : Option (Int32)) (v1_ : Int32) (v2_ : Int32) (v3_ : Int32) (σ : SG) : Nat → Int32 → Option (Int32)
  | 0, _ => none
  | U1 + 1, v4_ => ix v1_ 2 fun j1 => 
  if v4_ < (16 * v1_) + (sI σ 1104 j1) then (ix v4_ 32 fun j6 => 
  if sI σ 1108 j6 = v2_ then (ix v4_ 32 fun j11 => ix v4_ 32 fun j15 => b1 (x_X12_isTape U a v3_ (sI σ 1109 j11) (sI σ 1110 j15) σ) fun v20 => 
  if v20 = 0 then (x_X12_named_63 U a (x_X12_named_L6 U a k55 k69 v1_ v2_ v3_ σ U1) k55 k69 v1_ v2_ v3_ v4_ σ) else (k55 v4_)) else (x_X12_named_63 U a (x_X12_named_L6 U a k55 k69 v1_ v2_ v3_ σ U1) k55 k69 v1_ v2_ v3_ v4_ σ)) else (k69)
noncomputable def x_X12_named_136 (U : Nat) (a : Nat) (k75 : Int32 → Option (Int32)) (k124 : Int32 → Option (Int32)) (v1_ : Int32) (v2_ : Int32) (v3_ : Int32) (v4_ : Int32) (σ : SG) : Option (Int32) := k75 (v4_ + 1)
noncomputable def x_X12_named_L75 (U : Nat) (a : Nat) (k124 : Int32 → Option (Int32)) (v1_ : Int32) (v2_ : Int32) (v3_ : Int32) (σ : SG) : Nat → Int32 → Option (Int32)
  | 0, _ => none
  | U1 + 1, v4_ => ix v1_ 2 fun j23 => 
  if v4_ < (8 * v1_) + (sI σ 1105 j23) then (ix v4_ 16 fun j28 => 
  if sI σ 1111 j28 = v2_ then (ix v4_ 16 fun j33 => ix v4_ 16 fun j37 => b1 (x_X12_isTape U a v3_ (sI σ 1112 j33) (sI σ 1113 j37) σ) fun v42 => 
  if v42 = 0 then (x_X12_named_136 U a (x_X12_named_L75 U a k124 v1_ v2_ v3_ σ U1) k124 v1_ v2_ v3_ v4_ σ) else (k124 v4_)) else (x_X12_named_136 U a (x_X12_named_L75 U a k124 v1_ v2_ v3_ σ U1) k124 v1_ v2_ v3_ v4_ σ)) else (some (-1))
noncomputable def x_X12_named (U : Nat) (a : Nat) (p0 : Int32) (p1 : Int32) (p2 : Int32) (σ : SG) : Option (Int32) := x_X12_named_L6 U a (fun w22 => some (w22 - (16 * p0))) (x_X12_named_L75 U a (fun w44 => some ((1000 + w44) - (8 * p0))) p0 p1 p2 σ U (8 * p0)) p0 p1 p2 σ U (16 * p0)
noncomputable def x_X12_find_109 (U : Nat) (a : Nat) (k45 : Int32 → Int32 → Int32 → Option (Int32 × SG)) (k121 : Int32 → Option (Int32 × SG)) (v1_ : Int32) (v4_ : Int32) (v5_ : Int32) (s0_ : Int32) (s1_ : Int32) (σ : SG) : Option (Int32 × SG) := 
  if s1_ + s0_ = sI σ a 73 then (k121 v5_) else (
  if v5_ < 1000 then (k45 v5_ ((s1_ + s0_) + 1) (v4_ + 1)) else (some ((-1), σ)))
noncomputable def x_X12_find_L45 (U : Nat) (a : Nat) (k121 : Int32 → Option (Int32 × SG)) (v1_ : Int32) (σ : SG) : Nat → Int32 → Int32 → Int32 → Option (Int32 × SG)
  | 0, _, _, _ => none
  | U1 + 1, v2_, v3_, v4_ => 
  if 16 < v4_ then (some ((-1), σ)) else (b1 (x_X12_named U a v1_ v2_ v3_ σ) fun v10 => 
  if v10 = (-1) then (some ((-1), σ)) else (
  if v10 < 1000 then (ix ((16 * v1_) + v10) 32 fun j13 => x_X12_find_109 U a (x_X12_find_L45 U a k121 v1_ σ U1) k121 v1_ v4_ v10 (sI σ 1110 j13) v3_ σ) else (ix (((8 * v1_) + v10) - 1000) 16 fun j19 => x_X12_find_109 U a (x_X12_find_L45 U a k121 v1_ σ U1) k121 v1_ v4_ v10 (sI σ 1113 j19) v3_ σ)))
noncomputable def x_X12_find_26 (U : Nat) (a : Nat) (v1_ : Int32) (s0_ : Int32) (σ : SG) : Option (Int32 × SG) := sb (uI σ a 5 s0_) fun σ6 => 
  if sI σ6 a 5 = 0 then (x_X12_find_L45 U a (fun w23 => 
  if w23 < 1000 then (some (w23, σ6)) else (ix v1_ 2 fun j25 => some (((sI σ6 1104 j25) + w23) - 1000, σ6))) v1_ σ6 U (-1) 0 0) else (some (0, σ6))
noncomputable def x_X12_find (U : Nat) (a : Nat) (p0 : Int32) (σ : SG) : Option (Int32 × SG) := sb (uI σ a 73 (sI σ a 1)) fun σ1 => sb (uI σ1 a 1 0) fun σ2 => b1 (x_X12_isSchema p0) fun v4 => 
  if v4 = 0 then (x_X12_find_26 U a p0 1 σ2) else (x_X12_find_26 U a p0 0 σ2)
noncomputable def x_X12_isEight (a : Nat) (p0 : Int32) (σ : SG) : Option (Int32) := b1 (x_X12_byteAt a p0 σ) fun v2 => 
  if v2 < 48 then (some 0) else (b1 (x_X12_byteAt a p0 σ) fun v5 => 
  if 55 < v5 then (some 0) else (some 1))
noncomputable def x_X12_leastOf (p0 : Int32) : Option (Int64) := 
  if p0 = 1 then (some (-9223372036854775808)) else (
  if p0 = 5 then (some (-9223372036854775808)) else (
  if p0 = 9 then (some (-9223372036854775808)) else (
  if p0 = 0 then (some (-2147483648)) else (
  if p0 = 4 then (some (-2147483648)) else (
  if p0 = 8 then (some (-2147483648)) else (
  if p0 = 14 then (some (-2147483648)) else (some 0)))))))
noncomputable def x_X12_many_22 (a : Nat) (v1_ : Int32) (v2_ : Int32) (s0_ : Int32) (σ : SG) : Option (Int32 × SG) := sb (uI σ a 5 s0_) fun σ4 => 
  if sI σ4 a 5 = 0 then (
  if v2_ = 0 then (ix v1_ 2 fun j7 => some (sI σ4 1104 j7, σ4)) else (
  if v2_ = 1 then (ix v1_ 2 fun j12 => some (sI σ4 1105 j12, σ4)) else (ix v1_ 2 fun j16 => some (sI σ4 1106 j16, σ4)))) else (some (0, σ4))
noncomputable def x_X12_many_21 (a : Nat) (v1_ : Int32) (v2_ : Int32) (σ : SG) : Option (Int32 × SG) := x_X12_many_22 a v1_ v2_ 1 σ
noncomputable def x_X12_many (a : Nat) (p0 : Int32) (p1 : Int32) (σ : SG) : Option (Int32 × SG) := b1 (x_X12_isSchema p0) fun v2 => 
  if v2 = 0 then (x_X12_many_21 a p0 p1 σ) else (
  if p1 < 0 then (x_X12_many_21 a p0 p1 σ) else (
  if 2 < p1 then (x_X12_many_21 a p0 p1 σ) else (x_X12_many_22 a p0 p1 0 σ)))
noncomputable def x_X12_mostOf (p0 : Int32) : Option (Int64) := 
  if p0 = 3 then (some (-1)) else (
  if p0 = 7 then (some (-1)) else (
  if p0 = 1 then (some 9223372036854775807) else (
  if p0 = 5 then (some 9223372036854775807) else (
  if p0 = 9 then (some 9223372036854775807) else (
  if p0 = 2 then (some 4294967295) else (
  if p0 = 6 then (some 4294967295) else (some 2147483647)))))))
noncomputable def x_X12_nameEnd_L13 (U : Nat) (a : Nat) (σ : SG) : Nat → Int32 → Option (Int32)
  | 0, _ => none
  | U1 + 1, v2_ => b1 (x_X12_byteAt a v2_ σ) fun v7 => b1 (x_X12_isPart v7 σ) fun v9 => 
  if v9 = 0 then (some v2_) else (x_X12_nameEnd_L13 U a σ U1 (v2_ + 1))
noncomputable def x_X12_nameEnd (U : Nat) (a : Nat) (p0 : Int32) (σ : SG) : Option (Int32) := b1 (x_X12_byteAt a p0 σ) fun v2 => b1 (x_X12_isLetter v2 σ) fun v4 => 
  if v4 = 0 then (some p0) else (x_X12_nameEnd_L13 U a σ U p0)
noncomputable def x_X12_out_68 (U : Nat) (a : Nat) (k26 : Int64 → Int32 → Option (Int64 × SG)) (v1_ : Int32) (v4_ : Int32) (s0_ : Int32) (s1_ : Int64) (σ : SG) : Option (Int64 × SG) := k26 (s1_ ||| (Int32.toInt64 s0_)) (v4_ + 1)
noncomputable def x_X12_out_L26 (U : Nat) (a : Nat) (v1_ : Int32) (σ : SG) : Nat → Int64 → Int32 → Option (Int64 × SG)
  | 0, _, _ => none
  | U1 + 1, v2_, v4_ => 
  if v4_ < 8 then (
  if sI σ a 5 = 0 then (
  if v1_ + v4_ < sI σ a 3 then (ix (v1_ + v4_) 4000 fun j6 => x_X12_out_68 U a (x_X12_out_L26 U a v1_ σ U1) v1_ v4_ (sI σ 1103 j6) (lshl9 v2_ 8) σ) else (x_X12_out_68 U a (x_X12_out_L26 U a v1_ σ U1) v1_ v4_ 0 (lshl9 v2_ 8) σ)) else (some (v2_, σ))) else (some (v2_, σ))
noncomputable def x_X12_out_18 (U : Nat) (a : Nat) (v1_ : Int32) (s0_ : Int32) (σ : SG) : Option (Int64 × SG) := sb (uI σ a 5 s0_) fun σ2 => x_X12_out_L26 U a v1_ σ2 U 0 0
noncomputable def x_X12_out_13 (U : Nat) (a : Nat) (v1_ : Int32) (σ : SG) : Option (Int64 × SG) := x_X12_out_18 U a v1_ 1 σ
noncomputable def x_X12_out (U : Nat) (a : Nat) (p0 : Int32) (σ : SG) : Option (Int64 × SG) := 
  if p0 < 0 then (x_X12_out_13 U a p0 σ) else (
  if p0 < sI σ a 3 then (x_X12_out_18 U a p0 0 σ) else (x_X12_out_13 U a p0 σ))
noncomputable def x_X12_textBlanks_L33 (U : Nat) (a : Nat) (k2 : Int32 → Option (Int32)) (σ : SG) : Nat → Int32 → Option (Int32)
  | 0, _ => none
  | U1 + 1, v2_ => 
  if v2_ < sI σ a 73 then (b1 (x_X12_byteAt a v2_ σ) fun v14 => 
  if v14 = 10 then (k2 v2_) else (x_X12_textBlanks_L33 U a k2 σ U1 (v2_ + 1))) else (k2 v2_)
noncomputable def x_X12_textBlanks_23 (U : Nat) (a : Nat) (k2 : Int32 → Option (Int32)) (v2_ : Int32) (σ : SG) : Option (Int32) := b1 (x_X12_byteAt a v2_ σ) fun v10 => 
  if v10 = 35 then (x_X12_textBlanks_L33 U a (fun w16 => k2 w16) σ U v2_) else (k2 (v2_ + 1))
noncomputable def x_X12_textBlanks_L2 (U : Nat) (a : Nat) (σ : SG) : Nat → Int32 → Option (Int32)
  | 0, _ => none
  | U1 + 1, v2_ => b1 (x_X12_byteAt a v2_ σ) fun v2 => b1 (x_X12_isBlank v2) fun v4 => 
  if v4 = 0 then (b1 (x_X12_byteAt a v2_ σ) fun v7 => 
  if v7 = 35 then (x_X12_textBlanks_23 U a (x_X12_textBlanks_L2 U a σ U1) v2_ σ) else (some v2_)) else (x_X12_textBlanks_23 U a (x_X12_textBlanks_L2 U a σ U1) v2_ σ)
noncomputable def x_X12_textBlanks (U : Nat) (a : Nat) (p0 : Int32) (σ : SG) : Option (Int32) := x_X12_textBlanks_L2 U a σ U p0
noncomputable def x_X12_toldBefore_73 (U : Nat) (a : Nat) (k13 : Int32 → Option (Int32)) (v1_ : Int32) (v2_ : Int32) (v3_ : Int32) (σ : SG) : Option (Int32) := k13 (v3_ + 1)
noncomputable def x_X12_toldBefore_L13 (U : Nat) (a : Nat) (v1_ : Int32) (v2_ : Int32) (σ : SG) : Nat → Int32 → Option (Int32)
  | 0, _ => none
  | U1 + 1, v3_ => 
  if v3_ < sI σ a 82 then (ix v3_ 800 fun j7 => 
  if sI σ 1165 j7 = v1_ then (ix v3_ 800 fun j12 => 
  if sI σ 1166 j12 = v2_ then (some 1) else (ix v2_ 120 fun j17 => 
  if sI σ 1122 j17 = (-1) then (x_X12_toldBefore_73 U a (x_X12_toldBefore_L13 U a v1_ v2_ σ U1) v1_ v2_ v3_ σ) else (ix v3_ 800 fun j22 => ix (sI σ 1166 j22) 120 fun j26 => ix v2_ 120 fun j30 => 
  if sI σ 1122 j26 = sI σ 1122 j30 then (some 1) else (x_X12_toldBefore_73 U a (x_X12_toldBefore_L13 U a v1_ v2_ σ U1) v1_ v2_ v3_ σ)))) else (x_X12_toldBefore_73 U a (x_X12_toldBefore_L13 U a v1_ v2_ σ U1) v1_ v2_ v3_ σ)) else (some 0)
noncomputable def x_X12_toldBefore (U : Nat) (a : Nat) (p0 : Int32) (p1 : Int32) (σ : SG) : Option (Int32) := ix p1 120 fun j1 => 
  if sI σ 1120 j1 = 0 then (x_X12_toldBefore_L13 U a p0 p1 σ U 0) else (some 0)
noncomputable def x_X12_parseEscape_163 (a : Nat) (v2_ : Int32) (v3_ : Int32) (σ : SG) : Option (SG) := ix (sI σ a 84) 1500 fun j9 => sb (uI σ 1175 j9 v2_) fun σ13 => sb (uI σ13 a 84 ((sI σ13 a 84) + 1)) fun σ14 => sb (uI σ14 a 109 ((sI σ14 a 109) + v3_)) fun σ15 => some σ15
noncomputable def x_X12_parseEscape_158 (a : Nat) (v2_ : Int32) (v3_ : Int32) (σ : SG) : Option (SG) := sb (uI σ a 107 1) fun σ8 => x_X12_parseEscape_163 a v2_ v3_ σ8
noncomputable def x_X12_parseEscape_146 (a : Nat) (v2_ : Int32) (v3_ : Int32) (σ : SG) : Option (SG) := 
  if v2_ = (-1) then (x_X12_parseEscape_158 a v2_ v3_ σ) else (
  if 255 < v2_ then (x_X12_parseEscape_158 a v2_ v3_ σ) else (x_X12_parseEscape_163 a v2_ v3_ σ))
noncomputable def x_X12_parseEscape_65 (a : Nat) (v1_ : Int32) (s0_ : Int32) (σ : SG) : Option (SG) := b1 (x_X12_isEight a (sI σ a 109) σ) fun v5 => 
  if v5 = 0 then (x_X12_parseEscape_146 a s0_ 1 σ) else (b1 (x_X12_isEight a ((sI σ a 109) + 1) σ) fun v18 => 
  if v18 = 0 then (x_X12_parseEscape_146 a s0_ 1 σ) else (b1 (x_X12_isEight a ((sI σ a 109) + 2) σ) fun v21 => 
  if v21 = 0 then (x_X12_parseEscape_146 a s0_ 1 σ) else (b1 (x_X12_byteAt a ((sI σ a 109) + 1) σ) fun v24 => b1 (x_X12_byteAt a ((sI σ a 109) + 2) σ) fun v26 => x_X12_parseEscape_146 a (((((v1_ - 48) * 64) + ((v24 - 48) * 8)) + v26) - 48) 3 σ)))
noncomputable def x_X12_parseEscape_60 (a : Nat) (v1_ : Int32) (σ : SG) : Option (SG) := x_X12_parseEscape_65 a v1_ v1_ σ
noncomputable def x_X12_parseEscape (a : Nat) (σ : SG) : Option (SG) := b1 (x_X12_byteAt a (sI σ a 109) σ) fun v2 => 
  if v2 = 110 then (x_X12_parseEscape_65 a v2 10 σ) else (
  if v2 = 114 then (x_X12_parseEscape_65 a v2 13 σ) else (
  if v2 = 116 then (x_X12_parseEscape_65 a v2 9 σ) else (
  if v2 = 34 then (x_X12_parseEscape_60 a v2 σ) else (
  if v2 = 92 then (x_X12_parseEscape_60 a v2 σ) else (
  if v2 = 39 then (x_X12_parseEscape_60 a v2 σ) else (x_X12_parseEscape_65 a v2 (-1) σ))))))
noncomputable def x_X12_parseText_125 (U : Nat) (a : Nat) (k25 : SG → Option (SG)) (k128 : SG → Option (SG)) (v1_ : Int32) (v2_ : Int32) (v3_ : Int32) (v4_ : Int32) (σ : SG) : Option (SG) := k25 σ
noncomputable def x_X12_parseText_73 (U : Nat) (a : Nat) (k25 : SG → Option (SG)) (k128 : SG → Option (SG)) (v1_ : Int32) (v2_ : Int32) (v3_ : Int32) (v4_ : Int32) (v5_ : Int32) (σ : SG) : Option (SG) := sb (uI σ a 109 ((sI σ a 109) + 1)) fun σ12 => 
  if v5_ = 92 then (b1 (x_X12_parseEscape a σ12) fun σ15 => x_X12_parseText_125 U a k25 k128 v1_ v2_ v3_ v4_ σ15) else (
  if sI σ12 a 107 = 0 then (ix (sI σ12 a 84) 1500 fun j17 => sb (uI σ12 1175 j17 v5_) fun σ21 => sb (uI σ21 a 84 ((sI σ21 a 84) + 1)) fun σ22 => x_X12_parseText_125 U a k25 k128 v1_ v2_ v3_ v4_ σ22) else (x_X12_parseText_125 U a k25 k128 v1_ v2_ v3_ v4_ σ12))
noncomputable def x_X12_parseText_68 (U : Nat) (a : Nat) (k25 : SG → Option (SG)) (k128 : SG → Option (SG)) (v1_ : Int32) (v2_ : Int32) (v3_ : Int32) (v4_ : Int32) (v5_ : Int32) (σ : SG) : Option (SG) := sb (uI σ a 107 1) fun σ11 => x_X12_parseText_73 U a k25 k128 v1_ v2_ v3_ v4_ v5_ σ11
noncomputable def x_X12_parseText_L25 (U : Nat) (a : Nat) (k128 : SG → Option (SG)) (v1_ : Int32) (v2_ : Int32) (v3_ : Int32) (v4_ : Int32) : Nat → SG → Option (SG)
  | 0, _ => none
  | U1 + 1, σ => 
  if sI σ a 107 = 0 then (b1 (x_X12_byteAt a (sI σ a 109) σ) fun v6 => 
  if v6 = v3_ then (k128 σ) else (b1 (x_X12_byteAt a (sI σ a 109) σ) fun v9 => 
  if v9 < 32 then (x_X12_parseText_68 U a (x_X12_parseText_L25 U a k128 v1_ v2_ v3_ v4_ U1) k128 v1_ v2_ v3_ v4_ v9 σ) else (
  if 126 < v9 then (x_X12_parseText_68 U a (x_X12_parseText_L25 U a k128 v1_ v2_ v3_ v4_ U1) k128 v1_ v2_ v3_ v4_ v9 σ) else (x_X12_parseText_73 U a (x_X12_parseText_L25 U a k128 v1_ v2_ v3_ v4_ U1) k128 v1_ v2_ v3_ v4_ v9 σ)))) else (k128 σ)
noncomputable def x_X12_parseText_128 (U : Nat) (a : Nat) (v1_ : Int32) (v2_ : Int32) (v4_ : Int32) (σ : SG) : Option (SG) := sb (uI σ a 109 ((sI σ a 109) + 1)) fun σ25 => 
  if sI σ25 a 107 = 0 then (b1 (x_X12_putText U a v1_ v2_ v4_ σ25) fun σ28 => some σ28) else (some σ25)
noncomputable def x_X12_parseText (U : Nat) (a : Nat) (p0 : Int32) (p1 : Int32) (σ : SG) : Option (SG) := b1 (x_X12_byteAt a (sI σ a 109) σ) fun v2 => sb (uI σ a 109 ((sI σ a 109) + 1)) fun σ3 => x_X12_parseText_L25 U a (fun σ24 => x_X12_parseText_128 U a p0 p1 (sI σ a 84) σ24) p0 p1 v2 (sI σ a 84) U σ3
noncomputable def x_X12_parseName_184 (U : Nat) (a : Nat) (k100 : Int64 → Int32 → Int32 → Option (SG)) (k190 : Int64 → Int32 → Option (SG)) (v1_ : Int32) (v2_ : Int32) (v3_ : Int32) (v4_ : Int32) (v5_ : Int64) (v7_ : Int32) (v8_ : Int32) (σ : SG) : Option (SG) := k100 v5_ v7_ (v8_ + 1)
noncomputable def x_X12_parseName_L100 (U : Nat) (a : Nat) (k190 : Int64 → Int32 → Option (SG)) (v1_ : Int32) (v2_ : Int32) (v3_ : Int32) (v4_ : Int32) (σ : SG) : Nat → Int64 → Int32 → Int32 → Option (SG)
  | 0, _, _, _ => none
  | U1 + 1, v5_, v7_, v8_ => ix (sI σ a 80) 2 fun j17 => 
  if v8_ < (40 * (sI σ a 80)) + (sI σ 1107 j17) then (
  if v4_ = 14 then (ix v8_ 80 fun j23 => ix v2_ 120 fun j27 => 
  if sI σ 1123 j23 = sI σ 1119 j27 then (ix v8_ 80 fun j32 => ix v8_ 80 fun j36 => b1 (x_X12_isNamed U a (sI σ a 109) v3_ (sI σ 1124 j32) (sI σ 1125 j36) σ) fun v41 => 
  if v41 = 0 then (x_X12_parseName_184 U a (x_X12_parseName_L100 U a k190 v1_ v2_ v3_ v4_ σ U1) k190 v1_ v2_ v3_ v4_ v5_ v7_ v8_ σ) else (ix v8_ 80 fun j43 => x_X12_parseName_184 U a (x_X12_parseName_L100 U a k190 v1_ v2_ v3_ v4_ σ U1) k190 v1_ v2_ v3_ v4_ (Int32.toInt64 (sI σ 1126 j43)) 1 v8_ σ)) else (x_X12_parseName_184 U a (x_X12_parseName_L100 U a k190 v1_ v2_ v3_ v4_ σ U1) k190 v1_ v2_ v3_ v4_ v5_ v7_ v8_ σ)) else (k190 v5_ v7_)) else (k190 v5_ v7_)
noncomputable def x_X12_parseName_190 (U : Nat) (a : Nat) (v1_ : Int32) (v2_ : Int32) (v3_ : Int32) (v5_ : Int64) (v7_ : Int32) (σ : SG) : Option (SG) := sb (uI σ a 109 v3_) fun σ49 => 
  if v7_ = 0 then (sb (uI σ49 a 107 1) fun σ51 => some σ51) else (b1 (x_X12_putNumber U a v1_ v2_ v5_ σ49) fun σ53 => some σ53)
noncomputable def x_X12_parseName_91 (U : Nat) (a : Nat) (v1_ : Int32) (v2_ : Int32) (v3_ : Int32) (v4_ : Int32) (v5_ : Int64) (v7_ : Int32) (σ : SG) : Option (SG) := x_X12_parseName_L100 U a (fun w47 w48 => x_X12_parseName_190 U a v1_ v2_ v3_ w47 w48 σ) v1_ v2_ v3_ v4_ σ U v5_ v7_ (40 * (sI σ a 80))
noncomputable def x_X12_parseName_89 (U : Nat) (a : Nat) (v1_ : Int32) (v2_ : Int32) (v3_ : Int32) (v4_ : Int32) (v7_ : Int32) (s0_ : Int64) (σ : SG) : Option (SG) := x_X12_parseName_91 U a v1_ v2_ v3_ v4_ s0_ v7_ σ
noncomputable def x_X12_parseName_67 (U : Nat) (a : Nat) (v1_ : Int32) (v2_ : Int32) (v3_ : Int32) (v4_ : Int32) (s0_ : Int32) (σ : SG) : Option (SG) := b1 (x_X12_isPlain U a (sI σ a 109) v3_ 1953658213 σ) fun v15 => 
  if v15 = 0 then (x_X12_parseName_89 U a v1_ v2_ v3_ v4_ s0_ 0 σ) else (x_X12_parseName_89 U a v1_ v2_ v3_ v4_ s0_ 1 σ)
noncomputable def x_X12_parseName_62 (U : Nat) (a : Nat) (v1_ : Int32) (v2_ : Int32) (v3_ : Int32) (v4_ : Int32) (σ : SG) : Option (SG) := x_X12_parseName_67 U a v1_ v2_ v3_ v4_ 1 σ
noncomputable def x_X12_parseName (U : Nat) (a : Nat) (p0 : Int32) (p1 : Int32) (σ : SG) : Option (SG) := b1 (x_X12_nameEnd U a (sI σ a 109) σ) fun v2 => ix p1 120 fun j3 => 
  if sI σ 1118 j3 = 10 then (b1 (x_X12_isPlain U a (sI σ a 109) v2 1953658213 σ) fun v9 => 
  if v9 = 0 then (b1 (x_X12_isPlain U a (sI σ a 109) v2 439721161573 σ) fun v12 => 
  if v12 = 0 then (x_X12_parseName_67 U a p0 p1 v2 (sI σ 1118 j3) 0 σ) else (x_X12_parseName_62 U a p0 p1 v2 (sI σ 1118 j3) σ)) else (x_X12_parseName_62 U a p0 p1 v2 (sI σ 1118 j3) σ)) else (x_X12_parseName_91 U a p0 p1 v2 (sI σ 1118 j3) (-1) 0 σ)
noncomputable def x_X12_parseNumber_101 (U : Nat) (a : Nat) (k45 : Int64 → Int32 → SG → Option (SG)) (k126 : Int64 → Int32 → SG → Option (SG)) (v1_ : Int32) (v2_ : Int32) (v3_ : Int32) (v4_ : Int32) (v5_ : Int64) (v7_ : Int32) (v8_ : Int32) (σ : SG) : Option (SG) := sb (uI σ a 109 ((sI σ a 109) + 1)) fun σ17 => k45 ((10 * v5_) + (Int32.toInt64 v8_)) v7_ σ17
noncomputable def x_X12_parseNumber_98 (U : Nat) (a : Nat) (k45 : Int64 → Int32 → SG → Option (SG)) (k126 : Int64 → Int32 → SG → Option (SG)) (v1_ : Int32) (v2_ : Int32) (v3_ : Int32) (v4_ : Int32) (v5_ : Int64) (v8_ : Int32) (σ : SG) : Option (SG) := x_X12_parseNumber_101 U a k45 k126 v1_ v2_ v3_ v4_ v5_ 1 v8_ σ
noncomputable def x_X12_parseNumber_L45 (U : Nat) (a : Nat) (k126 : Int64 → Int32 → SG → Option (SG)) (v1_ : Int32) (v2_ : Int32) (v3_ : Int32) (v4_ : Int32) : Nat → Int64 → Int32 → SG → Option (SG)
  | 0, _, _, _ => none
  | U1 + 1, v5_, v7_, σ => b1 (x_X12_byteAt a (sI σ a 109) σ) fun v6 => b1 (x_X12_isDigit v6) fun v8 => 
  if v8 = 0 then (k126 v5_ v7_ σ) else (b1 (x_X12_byteAt a (sI σ a 109) σ) fun v11 => b1 (x_X12_above v5_ 1844674407370955161 σ) fun v13 => 
  if v13 = 0 then (
  if v5_ = 1844674407370955161 then (
  if 5 < v11 - 48 then (x_X12_parseNumber_98 U a (x_X12_parseNumber_L45 U a k126 v1_ v2_ v3_ v4_ U1) k126 v1_ v2_ v3_ v4_ v5_ (v11 - 48) σ) else (x_X12_parseNumber_101 U a (x_X12_parseNumber_L45 U a k126 v1_ v2_ v3_ v4_ U1) k126 v1_ v2_ v3_ v4_ v5_ v7_ (v11 - 48) σ)) else (x_X12_parseNumber_101 U a (x_X12_parseNumber_L45 U a k126 v1_ v2_ v3_ v4_ U1) k126 v1_ v2_ v3_ v4_ v5_ v7_ (v11 - 48) σ)) else (x_X12_parseNumber_98 U a (x_X12_parseNumber_L45 U a k126 v1_ v2_ v3_ v4_ U1) k126 v1_ v2_ v3_ v4_ v5_ (v11 - 48) σ))
noncomputable def x_X12_parseNumber_226 (U : Nat) (a : Nat) (s0_ : Int64) (s1_ : Int32) (s2_ : Int32) (σ : SG) : Option (SG) := b1 (x_X12_putNumber U a s2_ s1_ s0_ σ) fun σ33 => some σ33
noncomputable def x_X12_parseNumber_204 (U : Nat) (a : Nat) (v1_ : Int32) (v2_ : Int32) (v3_ : Int32) (v5_ : Int64) (σ : SG) : Option (SG) := 
  if sI σ a 107 = 0 then (
  if v3_ = 0 then (x_X12_parseNumber_226 U a v5_ v2_ v1_ σ) else (x_X12_parseNumber_226 U a (-v5_) v2_ v1_ σ)) else (some σ)
noncomputable def x_X12_parseNumber_199 (U : Nat) (a : Nat) (v1_ : Int32) (v2_ : Int32) (v3_ : Int32) (v5_ : Int64) (σ : SG) : Option (SG) := sb (uI σ a 107 1) fun σ29 => x_X12_parseNumber_204 U a v1_ v2_ v3_ v5_ σ29
noncomputable def x_X12_parseNumber_152 (U : Nat) (a : Nat) (v1_ : Int32) (v2_ : Int32) (v3_ : Int32) (v4_ : Int32) (v5_ : Int64) (v7_ : Int32) (v8_ : Int32) (s0_ : Int64) (σ : SG) : Option (SG) := 
  if sI σ a 109 = v4_ then (x_X12_parseNumber_199 U a v1_ v2_ v3_ v5_ σ) else (b1 (x_X12_byteAt a (sI σ a 109) σ) fun v35 => b1 (x_X12_isPart v35 σ) fun v37 => 
  if v37 = 0 then (
  if v7_ = 0 then (b1 (x_X12_above v5_ s0_ σ) fun v41 => 
  if v41 = 0 then (
  if v8_ = 10 then (x_X12_parseNumber_199 U a v1_ v2_ v3_ v5_ σ) else (x_X12_parseNumber_204 U a v1_ v2_ v3_ v5_ σ)) else (x_X12_parseNumber_199 U a v1_ v2_ v3_ v5_ σ)) else (x_X12_parseNumber_199 U a v1_ v2_ v3_ v5_ σ)) else (x_X12_parseNumber_199 U a v1_ v2_ v3_ v5_ σ))
noncomputable def x_X12_parseNumber_33 (U : Nat) (a : Nat) (v1_ : Int32) (v2_ : Int32) (v3_ : Int32) (σ : SG) : Option (SG) := x_X12_parseNumber_L45 U a (fun w18 w19 σ20 => ix v2_ 120 fun j21 => 
  if v3_ = 0 then (b1 (x_X12_mostOf (sI σ20 1118 j21)) fun v27 => x_X12_parseNumber_152 U a v1_ v2_ v3_ (sI σ a 109) w18 w19 (sI σ20 1118 j21) v27 σ20) else (b1 (x_X12_leastOf (sI σ20 1118 j21)) fun v45 => x_X12_parseNumber_152 U a v1_ v2_ v3_ (sI σ a 109) w18 w19 (sI σ20 1118 j21) (-v45) σ20)) v1_ v2_ v3_ (sI σ a 109) U 0 0 σ
noncomputable def x_X12_parseNumber_18 (U : Nat) (a : Nat) (v1_ : Int32) (v2_ : Int32) (s0_ : Int32) (σ : SG) : Option (SG) := 
  if s0_ = 0 then (x_X12_parseNumber_33 U a v1_ v2_ s0_ σ) else (sb (uI σ a 109 ((sI σ a 109) + 1)) fun σ46 => x_X12_parseNumber_33 U a v1_ v2_ s0_ σ46)
noncomputable def x_X12_parseNumber (U : Nat) (a : Nat) (p0 : Int32) (p1 : Int32) (σ : SG) : Option (SG) := b1 (x_X12_byteAt a (sI σ a 109) σ) fun v2 => 
  if v2 = 45 then (x_X12_parseNumber_18 U a p0 p1 1 σ) else (x_X12_parseNumber_18 U a p0 p1 0 σ)
noncomputable def x_X12_parsePlain_57 (U : Nat) (a : Nat) (v1_ : Int32) (v2_ : Int32) (v3_ : Int32) (v4_ : Int32) (s0_ : Int32) (s1_ : Int32) (σ : SG) : Option (SG) := 
  if s1_ = s0_ then (
  if v4_ = 0 then (b1 (x_X12_isLetter v3_ σ) fun v12 => 
  if v12 = 0 then (b1 (x_X12_parseNumber U a v1_ v2_ σ) fun σ15 => some σ15) else (b1 (x_X12_parseName U a v1_ v2_ σ) fun σ17 => some σ17)) else (b1 (x_X12_parseText U a v1_ v2_ σ) fun σ19 => some σ19)) else (sb (uI σ a 107 1) fun σ20 => some σ20)
noncomputable def x_X12_parsePlain_52 (U : Nat) (a : Nat) (v1_ : Int32) (v2_ : Int32) (v3_ : Int32) (v4_ : Int32) (s0_ : Int32) (σ : SG) : Option (SG) := x_X12_parsePlain_57 U a v1_ v2_ v3_ v4_ 1 s0_ σ
noncomputable def x_X12_parsePlain_36 (U : Nat) (a : Nat) (v1_ : Int32) (v2_ : Int32) (v3_ : Int32) (s0_ : Int32) (σ : SG) : Option (SG) := 
  if v3_ = 34 then (x_X12_parsePlain_52 U a v1_ v2_ v3_ s0_ s0_ σ) else (
  if v3_ = 39 then (x_X12_parsePlain_52 U a v1_ v2_ v3_ s0_ s0_ σ) else (x_X12_parsePlain_57 U a v1_ v2_ v3_ s0_ 0 s0_ σ))
noncomputable def x_X12_parsePlain_31 (U : Nat) (a : Nat) (v1_ : Int32) (v2_ : Int32) (v3_ : Int32) (σ : SG) : Option (SG) := x_X12_parsePlain_36 U a v1_ v2_ v3_ 1 σ
noncomputable def x_X12_parsePlain (U : Nat) (a : Nat) (p0 : Int32) (p1 : Int32) (σ : SG) : Option (SG) := b1 (x_X12_byteAt a (sI σ a 109) σ) fun v2 => ix p1 120 fun j3 => 
  if sI σ 1118 j3 = 11 then (x_X12_parsePlain_31 U a p0 p1 v2 σ) else (ix p1 120 fun j22 => 
  if sI σ 1118 j22 = 12 then (x_X12_parsePlain_31 U a p0 p1 v2 σ) else (x_X12_parsePlain_36 U a p0 p1 v2 0 σ))
noncomputable def x_X12_parseNext_85 (U : Nat) (a : Nat) (σ : SG) : Option (SG) := sb (uI σ a 106 ((sI σ a 106) - 1)) fun σ12 => sb (uI σ12 a 109 ((sI σ12 a 109) + 1)) fun σ13 => some σ13
noncomputable def x_X12_parseNext_77 (U : Nat) (a : Nat) (s0_ : Int32) (s1_ : Int32) (σ : SG) : Option (SG) := 
  if s1_ = s0_ then (x_X12_parseNext_85 U a σ) else (sb (uI σ a 107 1) fun σ14 => x_X12_parseNext_85 U a σ14)
noncomputable def x_X12_parseNext_64 (U : Nat) (a : Nat) (s0_ : Int32) (σ : SG) : Option (SG) := 
  if sI σ a 106 = 1 then (x_X12_parseNext_77 U a 1 s0_ σ) else (x_X12_parseNext_77 U a 0 s0_ σ)
noncomputable def x_X12_parseNext_48 (U : Nat) (a : Nat) (σ : SG) : Option (SG) := 
  if sI σ a 109 = sI σ a 73 then (x_X12_parseNext_64 U a 1 σ) else (x_X12_parseNext_64 U a 0 σ)
noncomputable def x_X12_parseNext_145 (U : Nat) (a : Nat) (σ : SG) : Option (SG) := sb (uI σ a 107 1) fun σ27 => some σ27
noncomputable def x_X12_parseNext_186 (U : Nat) (a : Nat) (v1_ : Int32) (v3_ : Int32) (s0_ : Int32) (s1_ : Int32) (σ : SG) : Option (SG) := 
  if s1_ = s0_ then (sb (uI σ a 109 ((sI σ a 109) + 1)) fun σ42 => ix v3_ 120 fun j43 => 
  if sI σ42 1118 j43 = 13 then (b2 (x_X12_putMessage U a v1_ v3_ σ42) fun v49 σ50 => ix (sI σ50 a 106) 40 fun j51 => sb (uI σ50 1176 j51 v49) fun σ55 => sb (uI σ55 a 106 ((sI σ55 a 106) + 1)) fun σ56 => some σ56) else (b1 (x_X12_textBlanks U a (sI σ42 a 109) σ42) fun v58 => sb (uI σ42 a 109 v58) fun σ59 => b1 (x_X12_parsePlain U a v1_ v3_ σ59) fun σ61 => some σ61)) else (sb (uI σ a 107 1) fun σ62 => some σ62)
noncomputable def x_X12_parseNext (U : Nat) (a : Nat) (σ : SG) : Option (SG) := ix ((sI σ a 106) - 1) 40 fun j1 => b1 (x_X12_textBlanks U a (sI σ a 109) σ) fun v6 => sb (uI σ a 109 v6) fun σ7 => 
  if sI σ7 a 109 = sI σ7 a 73 then (x_X12_parseNext_48 U a σ7) else (b1 (x_X12_byteAt a (sI σ7 a 109) σ7) fun v16 => 
  if v16 = 125 then (x_X12_parseNext_48 U a σ7) else (b1 (x_X12_nameEnd U a (sI σ7 a 109) σ7) fun v19 => ix (sI σ 1176 j1) 400 fun j20 => b1 (x_X12_fieldNamed U a (sI σ7 1160 j20) (sI σ7 a 109) v19 σ7) fun v25 => 
  if v25 = (-1) then (x_X12_parseNext_145 U a σ7) else (b1 (x_X12_toldBefore U a (sI σ 1176 j1) v25 σ7) fun v29 => 
  if v29 = 0 then (b1 (x_X12_textBlanks U a v19 σ7) fun v32 => sb (uI σ7 a 109 v32) fun σ33 => b1 (x_X12_byteAt a (sI σ33 a 109) σ33) fun v35 => ix v25 120 fun j36 => 
  if sI σ33 1118 j36 = 13 then (x_X12_parseNext_186 U a (sI σ 1176 j1) v25 123 v35 σ33) else (x_X12_parseNext_186 U a (sI σ 1176 j1) v25 58 v35 σ33)) else (x_X12_parseNext_145 U a σ7))))
noncomputable def x_X12_parse_L29 (U : Nat) (a : Nat) (k50 : SG → Option (Int32 × SG)) : Nat → SG → Option (Int32 × SG)
  | 0, _ => none
  | U1 + 1, σ => 
  if 0 < sI σ a 106 then (
  if sI σ a 107 = 0 then (b1 (x_X12_parseNext U a σ) fun σ15 => x_X12_parse_L29 U a k50 U1 σ15) else (k50 σ)) else (k50 σ)
noncomputable def x_X12_parse_50 (U : Nat) (a : Nat) (σ : SG) : Option (Int32 × SG) := b2 (x_X12_finish U a σ) fun v18 σ19 => some (v18, σ19)
noncomputable def x_X12_parse (U : Nat) (a : Nat) (p0 : Int32) (p1 : Int32) (p2 : Int32) (σ : SG) : Option (Int32 × SG) := b2 (x_X12_begins a p0 p1 p2 σ) fun v2 σ3 => 
  if v2 = 0 then (some (0, σ3)) else (sb (uI σ3 a 109 0) fun σ5 => ix 0 40 fun j6 => sb (uI σ5 1176 j6 0) fun σ10 => sb (uI σ10 a 106 1) fun σ11 => x_X12_parse_L29 U a (fun σ16 => x_X12_parse_50 U a σ16) U σ11)
noncomputable def x_X12_place (a : Nat) (σ : SG) : Option (Int32 × SG) := sb (uI σ a 5 0) fun σ1 => some (sI σ1 a 6, σ1)
noncomputable def x_X12_putName_L2 (U : Nat) (a : Nat) (v1_ : Int32) (v2_ : Int32) : Nat → Int32 → SG → Option (SG)
  | 0, _, _ => none
  | U1 + 1, v3_, σ => 
  if v3_ < v2_ then (ix (v1_ + v3_) 1200 fun j2 => b1 (x_X12_put a (sI σ 1127 j2) σ) fun σ7 => x_X12_putName_L2 U a v1_ v2_ U1 (v3_ + 1) σ7) else (some σ)
noncomputable def x_X12_putName (U : Nat) (a : Nat) (p0 : Int32) (p1 : Int32) (σ : SG) : Option (SG) := x_X12_putName_L2 U a p0 p1 U 0 σ
noncomputable def x_X12_putWord_L2 (U : Nat) (a : Nat) (v1_ : Int64) : Nat → Int32 → SG → Option (SG)
  | 0, _, _ => none
  | U1 + 1, v3_, σ => b1 (x_X12_letters U v1_ σ) fun v2 => 
  if v3_ < v2 then (b1 (x_X12_letter U v1_ v3_ σ) fun v5 => b1 (x_X12_put a v5 σ) fun σ7 => x_X12_putWord_L2 U a v1_ U1 (v3_ + 1) σ7) else (some σ)
noncomputable def x_X12_putWord (U : Nat) (a : Nat) (p0 : Int64) (σ : SG) : Option (SG) := x_X12_putWord_L2 U a p0 U 0 σ
noncomputable def x_X12_valueNumbered_58 (U : Nat) (a : Nat) (k9 : Int32 → Option (Int32)) (v1_ : Int32) (v2_ : Int64) (v4_ : Int32) (σ : SG) : Option (Int32) := k9 (v4_ + 1)
noncomputable def x_X12_valueNumbered_L9 (U : Nat) (a : Nat) (v1_ : Int32) (v2_ : Int64) (σ : SG) : Nat → Int32 → Option (Int32)
  | 0, _ => none
  | U1 + 1, v4_ => ix (sI σ a 80) 2 fun j1 => 
  if v4_ < (40 * (sI σ a 80)) + (sI σ 1107 j1) then (ix v4_ 80 fun j6 => 
  if sI σ 1123 j6 = v1_ then (ix v4_ 80 fun j11 => 
  if Int32.toInt64 (sI σ 1126 j11) = v2_ then (some v4_) else (x_X12_valueNumbered_58 U a (x_X12_valueNumbered_L9 U a v1_ v2_ σ U1) v1_ v2_ v4_ σ)) else (x_X12_valueNumbered_58 U a (x_X12_valueNumbered_L9 U a v1_ v2_ σ U1) v1_ v2_ v4_ σ)) else (some (-1))
noncomputable def x_X12_valueNumbered (U : Nat) (a : Nat) (p0 : Int32) (p1 : Int64) (σ : SG) : Option (Int32) := x_X12_valueNumbered_L9 U a p0 p1 σ U (40 * (sI σ a 80))
noncomputable def x_X12_putText__176 (U : Nat) (a : Nat) (k8 : Int32 → SG → Option (SG)) (k182 : SG → Option (SG)) (v1_ : Int32) (v2_ : Int32) (v3_ : Int32) (σ : SG) : Option (SG) := k8 (v3_ + 1) σ
noncomputable def x_X12_putText__103 (U : Nat) (a : Nat) (k8 : Int32 → SG → Option (SG)) (k182 : SG → Option (SG)) (v1_ : Int32) (v2_ : Int32) (v3_ : Int32) (s0_ : Int32) (σ : SG) : Option (SG) := b1 (x_X12_put a s0_ σ) fun σ13 => x_X12_putText__176 U a k8 k182 v1_ v2_ v3_ σ13
noncomputable def x_X12_putText__58 (U : Nat) (a : Nat) (k8 : Int32 → SG → Option (SG)) (k182 : SG → Option (SG)) (v1_ : Int32) (v2_ : Int32) (v3_ : Int32) (v4_ : Int32) (σ : SG) : Option (SG) := b1 (x_X12_put a 92 σ) fun σ10 => 
  if v4_ = 10 then (x_X12_putText__103 U a k8 k182 v1_ v2_ v3_ 110 σ10) else (
  if v4_ = 13 then (x_X12_putText__103 U a k8 k182 v1_ v2_ v3_ 114 σ10) else (
  if v4_ = 9 then (x_X12_putText__103 U a k8 k182 v1_ v2_ v3_ 116 σ10) else (x_X12_putText__103 U a k8 k182 v1_ v2_ v3_ v4_ σ10)))
noncomputable def x_X12_putText__132 (U : Nat) (a : Nat) (k8 : Int32 → SG → Option (SG)) (k182 : SG → Option (SG)) (v1_ : Int32) (v2_ : Int32) (v3_ : Int32) (v4_ : Int32) (σ : SG) : Option (SG) := b1 (x_X12_put a 92 σ) fun σ22 => b1 (x_X12_put a (48 + (ishr9 v4_ 6)) σ22) fun σ24 => b1 (x_X12_put a (48 + ((ishr9 v4_ 3) &&& 7)) σ24) fun σ26 => b1 (x_X12_put a (48 + (v4_ &&& 7)) σ26) fun σ28 => x_X12_putText__176 U a k8 k182 v1_ v2_ v3_ σ28
noncomputable def x_X12_putText__L8 (U : Nat) (a : Nat) (k182 : SG → Option (SG)) (v1_ : Int32) (v2_ : Int32) : Nat → Int32 → SG → Option (SG)
  | 0, _, _ => none
  | U1 + 1, v3_, σ => 
  if v3_ < v1_ + v2_ then (ix v3_ 1500 fun j4 => 
  if sI σ 1175 j4 = 10 then (x_X12_putText__58 U a (x_X12_putText__L8 U a k182 v1_ v2_ U1) k182 v1_ v2_ v3_ (sI σ 1175 j4) σ) else (
  if sI σ 1175 j4 = 13 then (x_X12_putText__58 U a (x_X12_putText__L8 U a k182 v1_ v2_ U1) k182 v1_ v2_ v3_ (sI σ 1175 j4) σ) else (
  if sI σ 1175 j4 = 9 then (x_X12_putText__58 U a (x_X12_putText__L8 U a k182 v1_ v2_ U1) k182 v1_ v2_ v3_ (sI σ 1175 j4) σ) else (
  if sI σ 1175 j4 = 34 then (x_X12_putText__58 U a (x_X12_putText__L8 U a k182 v1_ v2_ U1) k182 v1_ v2_ v3_ (sI σ 1175 j4) σ) else (
  if sI σ 1175 j4 = 92 then (x_X12_putText__58 U a (x_X12_putText__L8 U a k182 v1_ v2_ U1) k182 v1_ v2_ v3_ (sI σ 1175 j4) σ) else (
  if sI σ 1175 j4 < 32 then (x_X12_putText__132 U a (x_X12_putText__L8 U a k182 v1_ v2_ U1) k182 v1_ v2_ v3_ (sI σ 1175 j4) σ) else (
  if 126 < sI σ 1175 j4 then (x_X12_putText__132 U a (x_X12_putText__L8 U a k182 v1_ v2_ U1) k182 v1_ v2_ v3_ (sI σ 1175 j4) σ) else (b1 (x_X12_put a (sI σ 1175 j4) σ) fun σ31 => x_X12_putText__176 U a (x_X12_putText__L8 U a k182 v1_ v2_ U1) k182 v1_ v2_ v3_ σ31)))))))) else (k182 σ)
noncomputable def x_X12_putText_ (U : Nat) (a : Nat) (p0 : Int32) (p1 : Int32) (σ : SG) : Option (SG) := b1 (x_X12_put a 34 σ) fun σ2 => x_X12_putText__L8 U a (fun σ32 => b1 (x_X12_put a 34 σ32) fun σ34 => some σ34) p0 p1 U p0 σ2
noncomputable def x_X12_putDecimal_16 (U : Nat) (a : Nat) (k5 : Int32 → Int64 → SG → Option (SG)) (k52 : Int32 → SG → Option (SG)) (v3_ : Int32) (v4_ : Int64) (σ : SG) : Option (SG) := ix v3_ 20 fun j4 => sb (uI σ 1180 j4 (Int64.toInt32 (v4_ - (10 * ((lush v4_ 1) / 5))))) fun σ8 => k5 (v3_ + 1) ((lush v4_ 1) / 5) σ8
noncomputable def x_X12_putDecimal_L5 (U : Nat) (a : Nat) (k52 : Int32 → SG → Option (SG)) : Nat → Int32 → Int64 → SG → Option (SG)
  | 0, _, _, _ => none
  | U1 + 1, v3_, v4_, σ => 
  if v4_ = 0 then (
  if v3_ = 0 then (x_X12_putDecimal_16 U a (x_X12_putDecimal_L5 U a k52 U1) k52 v3_ v4_ σ) else (k52 v3_ σ)) else (x_X12_putDecimal_16 U a (x_X12_putDecimal_L5 U a k52 U1) k52 v3_ v4_ σ)
noncomputable def x_X12_putDecimal_L57 (U : Nat) (a : Nat) : Nat → Int32 → SG → Option (SG)
  | 0, _, _ => none
  | U1 + 1, v4_, σ => 
  if v4_ < 0 then (some σ) else (ix v4_ 20 fun j12 => b1 (x_X12_put a (48 + (sI σ 1180 j12)) σ) fun σ17 => x_X12_putDecimal_L57 U a U1 (v4_ - 1) σ17)
noncomputable def x_X12_putDecimal (U : Nat) (a : Nat) (p0 : Int64) (σ : SG) : Option (SG) := x_X12_putDecimal_L5 U a (fun w9 σ10 => x_X12_putDecimal_L57 U a U (w9 - 1) σ10) U 0 p0 σ
noncomputable def x_X12_putSigned_25 (U : Nat) (a : Nat) (s0_ : Int64) (σ : SG) : Option (SG) := b1 (x_X12_putDecimal U a s0_ σ) fun σ6 => some σ6
noncomputable def x_X12_putSigned_12 (U : Nat) (a : Nat) (v1_ : Int64) (σ : SG) : Option (SG) := 
  if v1_ < 0 then (x_X12_putSigned_25 U a (-v1_) σ) else (x_X12_putSigned_25 U a v1_ σ)
noncomputable def x_X12_putSigned (U : Nat) (a : Nat) (p0 : Int64) (σ : SG) : Option (SG) := 
  if p0 < 0 then (b1 (x_X12_put a 45 σ) fun σ3 => x_X12_putSigned_12 U a p0 σ3) else (x_X12_putSigned_12 U a p0 σ)
noncomputable def x_X12_putPlain_81 (U : Nat) (a : Nat) (v1_ : Int32) (σ : SG) : Option (SG) := ix v1_ 800 fun j22 => ix v1_ 800 fun j26 => b1 (x_X12_putText_ U a (sI σ 1168 j22) (sI σ 1169 j26) σ) fun σ31 => some σ31
noncomputable def x_X12_putPlain_127 (U : Nat) (a : Nat) (s0_ : Int64) (σ : SG) : Option (SG) := b1 (x_X12_putWord U a s0_ σ) fun σ40 => some σ40
noncomputable def x_X12_putPlain_144 (U : Nat) (a : Nat) (v1_ : Int32) (σ : SG) : Option (SG) := ix v1_ 800 fun j42 => b1 (x_X12_putDecimal U a (sL σ 1167 j42) σ) fun σ47 => some σ47
noncomputable def x_X12_putPlain_40 (U : Nat) (a : Nat) (v1_ : Int32) (v3_ : Int32) (s0_ : Int32) (σ : SG) : Option (SG) := 
  if s0_ = (-1) then (
  if v3_ = 11 then (x_X12_putPlain_81 U a v1_ σ) else (
  if v3_ = 12 then (x_X12_putPlain_81 U a v1_ σ) else (
  if v3_ = 10 then (ix v1_ 800 fun j34 => 
  if sL σ 1167 j34 = 0 then (x_X12_putPlain_127 U a 439721161573 σ) else (x_X12_putPlain_127 U a 1953658213 σ)) else (
  if v3_ = 3 then (x_X12_putPlain_144 U a v1_ σ) else (
  if v3_ = 7 then (x_X12_putPlain_144 U a v1_ σ) else (ix v1_ 800 fun j49 => b1 (x_X12_putSigned U a (sL σ 1167 j49) σ) fun σ54 => some σ54)))))) else (ix s0_ 80 fun j55 => ix s0_ 80 fun j59 => b1 (x_X12_putName U a (sI σ 1124 j55) (sI σ 1125 j59) σ) fun σ64 => some σ64)
noncomputable def x_X12_putPlain (U : Nat) (a : Nat) (p0 : Int32) (σ : SG) : Option (SG) := ix p0 800 fun j1 => ix (sI σ 1166 j1) 120 fun j5 => 
  if sI σ 1118 j5 = 14 then (ix (sI σ 1166 j1) 120 fun j10 => ix p0 800 fun j14 => b1 (x_X12_valueNumbered U a (sI σ 1119 j10) (sL σ 1167 j14) σ) fun v19 => x_X12_putPlain_40 U a p0 (sI σ 1118 j5) v19 σ) else (x_X12_putPlain_40 U a p0 (sI σ 1118 j5) (-1) σ)
noncomputable def x_X12_printStep (U : Nat) (a : Nat) (σ : SG) : Option (SG) := ix ((sI σ a 106) - 1) 40 fun j1 => ix (sI σ 1176 j1) 400 fun j5 => ix ((sI σ a 106) - 1) 40 fun j9 => b1 (x_X12_fieldAt U a (sI σ a 80) (sI σ 1160 j5) (sI σ 1179 j9) σ) fun v14 => 
  if v14 = (-1) then (sb (uI σ a 106 ((sI σ a 106) - 1)) fun σ16 => 
  if sI σ16 a 106 = 0 then (some σ16) else (b1 (x_X12_blanks U a (2 * ((sI σ16 a 106) - 1)) σ16) fun σ19 => b1 (x_X12_put a 125 σ19) fun σ21 => b1 (x_X12_put a 10 σ21) fun σ23 => some σ23)) else (ix ((sI σ a 106) - 1) 40 fun j24 => b1 (x_X12_nextRow U a (sI σ 1176 j1) v14 (sI σ 1178 j24) σ) fun v29 => 
  if v29 = (-1) then (ix ((sI σ a 106) - 1) 40 fun j31 => ix ((sI σ a 106) - 1) 40 fun j35 => sb (uI σ 1179 j35 ((sI σ 1179 j31) + 1)) fun σ39 => ix ((sI σ a 106) - 1) 40 fun j40 => sb (uI σ39 1178 j40 0) fun σ44 => some σ44) else (ix ((sI σ a 106) - 1) 40 fun j45 => sb (uI σ 1178 j45 (v29 + 1)) fun σ49 => b1 (x_X12_blanks U a (2 * ((sI σ a 106) - 1)) σ49) fun σ51 => ix v14 120 fun j52 => ix v14 120 fun j56 => b1 (x_X12_putName U a (sI σ51 1115 j52) (sI σ51 1116 j56) σ51) fun σ61 => ix v14 120 fun j62 => 
  if sI σ61 1118 j62 = 13 then (b1 (x_X12_putWord U a 8315 σ61) fun σ68 => b1 (x_X12_put a 10 σ68) fun σ70 => ix v29 800 fun j71 => b1 (x_X12_goInto a (sI σ70 1170 j71) σ70) fun σ76 => some σ76) else (b1 (x_X12_putWord U a 14880 σ61) fun σ78 => b1 (x_X12_putPlain U a v29 σ78) fun σ80 => b1 (x_X12_put a 10 σ80) fun σ82 => some σ82)))
noncomputable def x_X12_print_L39 (U : Nat) (a : Nat) (k53 : SG → Option (Int32 × SG)) : Nat → SG → Option (Int32 × SG)
  | 0, _ => none
  | U1 + 1, σ => 
  if 0 < sI σ a 106 then (b1 (x_X12_printStep U a σ) fun σ11 => x_X12_print_L39 U a k53 U1 σ11) else (k53 σ)
noncomputable def x_X12_print_17 (U : Nat) (a : Nat) (s0_ : Int32) (σ : SG) : Option (Int32 × SG) := sb (uI σ a 5 s0_) fun σ4 => 
  if sI σ4 a 5 = 0 then (sb (uI σ4 a 106 0) fun σ6 => b1 (x_X12_goInto a 0 σ6) fun σ8 => x_X12_print_L39 U a (fun σ12 => 
  if sI σ12 a 4 = 0 then (some (sI σ12 a 3, σ12)) else (b1 (x_X12_emptyOut a σ12) fun σ15 => sb (uI σ15 a 5 2) fun σ16 => some (sI σ16 a 3, σ16))) U σ8) else (some (0, σ4))
noncomputable def x_X12_print (U : Nat) (a : Nat) (σ : SG) : Option (Int32 × SG) := b1 (x_X12_emptyOut a σ) fun σ2 => 
  if sI σ2 a 79 = 0 then (x_X12_print_17 U a 1 σ2) else (x_X12_print_17 U a 0 σ2)
noncomputable def x_X12_thrown (a : Nat) (σ : SG) : Option (Int32) := some (sI σ a 5)
noncomputable def x_X12_turn_L30 (U : Nat) (a : Nat) (k56 : SG → Option (Int32 × SG)) : Nat → Int32 → SG → Option (Int32 × SG)
  | 0, _, _ => none
  | U1 + 1, v1_, σ => 
  if v1_ < sI σ a 3 then (ix v1_ 4000 fun j5 => ix v1_ 700 fun j9 => sb (uI σ 1102 j9 (sI σ 1103 j5)) fun σ13 => x_X12_turn_L30 U a k56 U1 (v1_ + 1) σ13) else (k56 σ)
noncomputable def x_X12_turn_16 (U : Nat) (a : Nat) (s0_ : Int32) (σ : SG) : Option (Int32 × SG) := sb (uI σ a 5 s0_) fun σ2 => 
  if sI σ2 a 5 = 0 then (x_X12_turn_L30 U a (fun σ14 => sb (uI σ14 a 1 (sI σ14 a 3)) fun σ15 => some (sI σ15 a 1, σ15)) U 0 σ2) else (some (0, σ2))
noncomputable def x_X12_turn (U : Nat) (a : Nat) (σ : SG) : Option (Int32 × SG) := 
  if 700 < sI σ a 3 then (x_X12_turn_16 U a 1 σ) else (x_X12_turn_16 U a 0 σ)
