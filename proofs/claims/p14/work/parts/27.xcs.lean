theorem sa_1 : sh 1 = 0 := rfl
theorem sa_3 : sh 3 = 0 := rfl
theorem sa_5 : sh 5 = 2 := rfl
theorem sa_197 : sh 197 = 2 := rfl
theorem sa_389 : sh 389 = 8 := rfl
theorem sa_390 : sh 390 = 105 := rfl
theorem na_390 : ln 390 = 700 := rfl
theorem sa_1091 : sh 1091 = 4 := rfl
theorem sa_1092 : sh 1092 = 0 := rfl
theorem sa_1094 : sh 1094 = 9 := rfl
theorem sa_1095 : sh 1095 = 7 := rfl
theorem sa_1096 : sh 1096 = 102 := rfl
theorem na_1096 : ln 1096 = 20 := rfl
theorem sa_1097 : sh 1097 = 1 := rfl
theorem sa_1098 : sh 1098 = 104 := rfl
theorem na_1098 : ln 1098 = 256 := rfl
theorem sa_1099 : sh 1099 = 104 := rfl
theorem na_1099 : ln 1099 = 256 := rfl
theorem sa_1100 : sh 1100 = 103 := rfl
theorem na_1100 : ln 1100 = 256 := rfl
theorem ts_out_608 {x : Int32} (h0 : ¬ x = 6) (h1 : ¬ x = 7) (h2 : ¬ x = 8) (h3 : ¬ x = 9) (h4 : ¬ x = 10) (h5 : ¬ x = 11) (h6 : ¬ x = 12) (h7 : ¬ x = 13) : x.toInt < 6 ∨ 13 < x.toInt := by
  have g0 : x.toInt ≠ 6 := fun e => h0 (Int32.toInt_inj.mp e)
  have g1 : x.toInt ≠ 7 := fun e => h1 (Int32.toInt_inj.mp e)
  have g2 : x.toInt ≠ 8 := fun e => h2 (Int32.toInt_inj.mp e)
  have g3 : x.toInt ≠ 9 := fun e => h3 (Int32.toInt_inj.mp e)
  have g4 : x.toInt ≠ 10 := fun e => h4 (Int32.toInt_inj.mp e)
  have g5 : x.toInt ≠ 11 := fun e => h5 (Int32.toInt_inj.mp e)
  have g6 : x.toInt ≠ 12 := fun e => h6 (Int32.toInt_inj.mp e)
  have g7 : x.toInt ≠ 13 := fun e => h7 (Int32.toInt_inj.mp e)
  omega
theorem ts_out_109 {x : Int32} (h0 : ¬ x = 1) (h1 : ¬ x = 2) (h2 : ¬ x = 3) (h3 : ¬ x = 4) (h4 : ¬ x = 5) (h5 : ¬ x = 6) (h6 : ¬ x = 7) (h7 : ¬ x = 8) (h8 : ¬ x = 9) : x.toInt < 1 ∨ 9 < x.toInt := by
  have g0 : x.toInt ≠ 1 := fun e => h0 (Int32.toInt_inj.mp e)
  have g1 : x.toInt ≠ 2 := fun e => h1 (Int32.toInt_inj.mp e)
  have g2 : x.toInt ≠ 3 := fun e => h2 (Int32.toInt_inj.mp e)
  have g3 : x.toInt ≠ 4 := fun e => h3 (Int32.toInt_inj.mp e)
  have g4 : x.toInt ≠ 5 := fun e => h4 (Int32.toInt_inj.mp e)
  have g5 : x.toInt ≠ 6 := fun e => h5 (Int32.toInt_inj.mp e)
  have g6 : x.toInt ≠ 7 := fun e => h6 (Int32.toInt_inj.mp e)
  have g7 : x.toInt ≠ 8 := fun e => h7 (Int32.toInt_inj.mp e)
  have g8 : x.toInt ≠ 9 := fun e => h8 (Int32.toInt_inj.mp e)
  omega

