theorem fin1 {α : Type} {a b : α} (h : some a = some b) : b = a := (Option.some.inj h).symm
theorem fin2 {α β : Type} {a c : α} {b d : β} (h : some (a, b) = some (c, d)) : c = a ∧ d = b := by
  have := Option.some.inj h
  exact ⟨(Prod.mk.inj this).1.symm, (Prod.mk.inj this).2.symm⟩
def tcI (o : Option (mm_R × SG)) : Option (mm_R × SG) := match o with
  | some (.inl (some (.int x)), s) => some (.inl (some (.int x)), s)
  | some (.inr E, s) => some (.inr E, s)
  | _ => none
theorem tcI_some {o : Option (mm_R × SG)} {r : mm_R} {s : SG} (h : tcI o = some (r, s)) : o = some (r, s) ∧ ((∃ x, r = .inl (some (.int x))) ∨ ∃ E, r = .inr E) := by
  unfold tcI at h
  split at h
  · have := Option.some.inj h; cases this; exact ⟨rfl, Or.inl ⟨_, rfl⟩⟩
  · have := Option.some.inj h; cases this; exact ⟨rfl, Or.inr ⟨_, rfl⟩⟩
  · cases h
def lush (x : Int64) (y : Int32) : Int64 := (x.toUInt64 >>> (y.toInt64.toUInt64 &&& Int64.toUInt64 63)).toInt64
def iush (x y : Int32) : Int32 := (x.toUInt32 >>> (y.toUInt32 &&& Int32.toUInt32 31)).toInt32
def i2b (x : Int32) : Int32 := x.toInt8.toInt32
def ishl9 (x y : Int32) : Int32 := x <<< (y &&& 31)
def ishr9 (x y : Int32) : Int32 := x >>> (y &&& 31)
def lshl9 (x : Int64) (y : Int32) : Int64 := x <<< (y.toInt64 &&& 63)
def lshr9 (x : Int64) (y : Int32) : Int64 := x >>> (y.toInt64 &&& 63)
theorem iincM1 (x : Int32) : x + Int32.ofInt (-1) = x - 1 := by rw [Int32.sub_eq_add_neg]; rfl
def mk9 : List Bool → List (Option Value) → List (Option Value)
  | b :: bs, v :: vs => (match b with | true => v | false => none) :: mk9 bs vs
  | _, _ => []
theorem few_ok {bs : List Bool} {ls ls' : List (Option Value)} (h : ls' = mk9 bs ls) : ∀ (i : Nat) (v : Value), ls'[i]? = some (some v) → ls[i]? = some (some v) := by
  subst h
  induction bs generalizing ls with
  | nil => intro i v h; simp [mk9] at h
  | cons b bs ih =>
    cases ls with
    | nil => intro i v h; simp [mk9] at h
    | cons x xs =>
      intro i v h
      cases i with
      | zero => cases b with
        | true => simpa [mk9] using h
        | false => simp [mk9] at h
      | succ i => simpa using ih (ls := xs) i v (by simpa [mk9] using h)
theorem sa_1102 : sh 1102 = 100 := rfl
theorem na_1102 : ln 1102 = 700 := rfl
theorem sa_1103 : sh 1103 = 100 := rfl
theorem na_1103 : ln 1103 = 4000 := rfl
theorem sa_1104 : sh 1104 = 100 := rfl
theorem na_1104 : ln 1104 = 2 := rfl
theorem sa_1105 : sh 1105 = 100 := rfl
theorem na_1105 : ln 1105 = 2 := rfl
theorem sa_1106 : sh 1106 = 100 := rfl
theorem na_1106 : ln 1106 = 2 := rfl
theorem sa_1107 : sh 1107 = 100 := rfl
theorem na_1107 : ln 1107 = 2 := rfl
theorem sa_1108 : sh 1108 = 100 := rfl
theorem na_1108 : ln 1108 = 32 := rfl
theorem sa_1109 : sh 1109 = 100 := rfl
theorem na_1109 : ln 1109 = 32 := rfl
theorem sa_1110 : sh 1110 = 100 := rfl
theorem na_1110 : ln 1110 = 32 := rfl
theorem sa_1111 : sh 1111 = 100 := rfl
theorem na_1111 : ln 1111 = 16 := rfl
theorem sa_1112 : sh 1112 = 100 := rfl
theorem na_1112 : ln 1112 = 16 := rfl
theorem sa_1113 : sh 1113 = 100 := rfl
theorem na_1113 : ln 1113 = 16 := rfl
theorem sa_1114 : sh 1114 = 100 := rfl
theorem na_1114 : ln 1114 = 120 := rfl
theorem sa_1115 : sh 1115 = 100 := rfl
theorem na_1115 : ln 1115 = 120 := rfl
theorem sa_1116 : sh 1116 = 100 := rfl
theorem na_1116 : ln 1116 = 120 := rfl
theorem sa_1117 : sh 1117 = 100 := rfl
theorem na_1117 : ln 1117 = 120 := rfl
theorem sa_1118 : sh 1118 = 100 := rfl
theorem na_1118 : ln 1118 = 120 := rfl
theorem sa_1119 : sh 1119 = 100 := rfl
theorem na_1119 : ln 1119 = 120 := rfl
theorem sa_1120 : sh 1120 = 103 := rfl
theorem na_1120 : ln 1120 = 120 := rfl
theorem sa_1121 : sh 1121 = 103 := rfl
theorem na_1121 : ln 1121 = 120 := rfl
theorem sa_1122 : sh 1122 = 100 := rfl
theorem na_1122 : ln 1122 = 120 := rfl
theorem sa_1123 : sh 1123 = 100 := rfl
theorem na_1123 : ln 1123 = 80 := rfl
theorem sa_1124 : sh 1124 = 100 := rfl
theorem na_1124 : ln 1124 = 80 := rfl
theorem sa_1125 : sh 1125 = 100 := rfl
theorem na_1125 : ln 1125 = 80 := rfl
theorem sa_1126 : sh 1126 = 100 := rfl
theorem na_1126 : ln 1126 = 80 := rfl
theorem sa_1127 : sh 1127 = 100 := rfl
theorem na_1127 : ln 1127 = 1200 := rfl
theorem sa_1128 : sh 1128 = 100 := rfl
theorem na_1128 : ln 1128 = 100 := rfl
theorem sa_1129 : sh 1129 = 100 := rfl
theorem na_1129 : ln 1129 = 100 := rfl
theorem sa_1130 : sh 1130 = 100 := rfl
theorem na_1130 : ln 1130 = 100 := rfl
theorem sa_1131 : sh 1131 = 100 := rfl
theorem na_1131 : ln 1131 = 100 := rfl
theorem sa_1132 : sh 1132 = 100 := rfl
theorem na_1132 : ln 1132 = 100 := rfl
theorem sa_1133 : sh 1133 = 100 := rfl
theorem na_1133 : ln 1133 = 100 := rfl
theorem sa_1134 : sh 1134 = 100 := rfl
theorem na_1134 : ln 1134 = 200 := rfl
theorem sa_1135 : sh 1135 = 100 := rfl
theorem na_1135 : ln 1135 = 200 := rfl
theorem sa_1136 : sh 1136 = 100 := rfl
theorem na_1136 : ln 1136 = 200 := rfl
theorem sa_1137 : sh 1137 = 101 := rfl
theorem na_1137 : ln 1137 = 200 := rfl
theorem sa_1138 : sh 1138 = 100 := rfl
theorem na_1138 : ln 1138 = 200 := rfl
theorem sa_1139 : sh 1139 = 100 := rfl
theorem na_1139 : ln 1139 = 200 := rfl
theorem sa_1140 : sh 1140 = 100 := rfl
theorem na_1140 : ln 1140 = 200 := rfl
theorem sa_1141 : sh 1141 = 100 := rfl
theorem na_1141 : ln 1141 = 200 := rfl
theorem sa_1142 : sh 1142 = 103 := rfl
theorem na_1142 : ln 1142 = 200 := rfl
theorem sa_1143 : sh 1143 = 100 := rfl
theorem na_1143 : ln 1143 = 200 := rfl
theorem sa_1144 : sh 1144 = 100 := rfl
theorem na_1144 : ln 1144 = 200 := rfl
theorem sa_1145 : sh 1145 = 103 := rfl
theorem na_1145 : ln 1145 = 200 := rfl
theorem sa_1146 : sh 1146 = 100 := rfl
theorem na_1146 : ln 1146 = 200 := rfl
theorem sa_1147 : sh 1147 = 100 := rfl
theorem na_1147 : ln 1147 = 200 := rfl
theorem sa_1148 : sh 1148 = 100 := rfl
theorem na_1148 : ln 1148 = 200 := rfl
theorem sa_1149 : sh 1149 = 100 := rfl
theorem na_1149 : ln 1149 = 200 := rfl
theorem sa_1150 : sh 1150 = 100 := rfl
theorem na_1150 : ln 1150 = 200 := rfl
theorem sa_1151 : sh 1151 = 100 := rfl
theorem na_1151 : ln 1151 = 200 := rfl
theorem sa_1152 : sh 1152 = 101 := rfl
theorem na_1152 : ln 1152 = 200 := rfl
theorem sa_1153 : sh 1153 = 100 := rfl
theorem na_1153 : ln 1153 = 200 := rfl
theorem sa_1154 : sh 1154 = 100 := rfl
theorem na_1154 : ln 1154 = 400 := rfl
theorem sa_1155 : sh 1155 = 100 := rfl
theorem na_1155 : ln 1155 = 400 := rfl
theorem sa_1156 : sh 1156 = 100 := rfl
theorem na_1156 : ln 1156 = 400 := rfl
theorem sa_1157 : sh 1157 = 100 := rfl
theorem na_1157 : ln 1157 = 400 := rfl
theorem sa_1158 : sh 1158 = 100 := rfl
theorem na_1158 : ln 1158 = 400 := rfl
theorem sa_1159 : sh 1159 = 100 := rfl
theorem na_1159 : ln 1159 = 100 := rfl
theorem sa_1160 : sh 1160 = 100 := rfl
theorem na_1160 : ln 1160 = 400 := rfl
theorem sa_1161 : sh 1161 = 100 := rfl
theorem na_1161 : ln 1161 = 400 := rfl
theorem sa_1162 : sh 1162 = 100 := rfl
theorem na_1162 : ln 1162 = 400 := rfl
theorem sa_1163 : sh 1163 = 100 := rfl
theorem na_1163 : ln 1163 = 400 := rfl
theorem sa_1164 : sh 1164 = 103 := rfl
theorem na_1164 : ln 1164 = 400 := rfl
theorem sa_1165 : sh 1165 = 100 := rfl
theorem na_1165 : ln 1165 = 800 := rfl
theorem sa_1166 : sh 1166 = 100 := rfl
theorem na_1166 : ln 1166 = 800 := rfl
theorem sa_1167 : sh 1167 = 101 := rfl
theorem na_1167 : ln 1167 = 800 := rfl
theorem sa_1168 : sh 1168 = 100 := rfl
theorem na_1168 : ln 1168 = 800 := rfl
theorem sa_1169 : sh 1169 = 100 := rfl
theorem na_1169 : ln 1169 = 800 := rfl
theorem sa_1170 : sh 1170 = 100 := rfl
theorem na_1170 : ln 1170 = 800 := rfl
theorem sa_1171 : sh 1171 = 103 := rfl
theorem na_1171 : ln 1171 = 800 := rfl
theorem sa_1172 : sh 1172 = 100 := rfl
theorem na_1172 : ln 1172 = 400 := rfl
theorem sa_1173 : sh 1173 = 100 := rfl
theorem na_1173 : ln 1173 = 400 := rfl
theorem sa_1174 : sh 1174 = 100 := rfl
theorem na_1174 : ln 1174 = 400 := rfl
theorem sa_1175 : sh 1175 = 100 := rfl
theorem na_1175 : ln 1175 = 1500 := rfl
theorem sa_1176 : sh 1176 = 100 := rfl
theorem na_1176 : ln 1176 = 40 := rfl
theorem sa_1177 : sh 1177 = 100 := rfl
theorem na_1177 : ln 1177 = 40 := rfl
theorem sa_1178 : sh 1178 = 100 := rfl
theorem na_1178 : ln 1178 = 40 := rfl
theorem sa_1179 : sh 1179 = 100 := rfl
theorem na_1179 : ln 1179 = 40 := rfl
theorem sa_1180 : sh 1180 = 100 := rfl
theorem na_1180 : ln 1180 = 20 := rfl
theorem sa_1181 : sh 1181 = 103 := rfl
theorem na_1181 : ln 1181 = 256 := rfl
theorem sa_1182 : sh 1182 = 100 := rfl
theorem na_1182 : ln 1182 = 260 := rfl
theorem sa_1183 : sh 1183 = 100 := rfl
theorem na_1183 : ln 1183 = 260 := rfl
theorem sa_1184 : sh 1184 = 100 := rfl
theorem na_1184 : ln 1184 = 260 := rfl
theorem ts_out_5 {x : Int32} (h0 : ¬ x = 0) (h1 : ¬ x = 1) (h2 : ¬ x = 2) (h3 : ¬ x = 3) (h4 : ¬ x = 4) : x.toInt < 0 ∨ 4 < x.toInt := by
  have g0 : x.toInt ≠ 0 := fun e => h0 (Int32.toInt_inj.mp e)
  have g1 : x.toInt ≠ 1 := fun e => h1 (Int32.toInt_inj.mp e)
  have g2 : x.toInt ≠ 2 := fun e => h2 (Int32.toInt_inj.mp e)
  have g3 : x.toInt ≠ 3 := fun e => h3 (Int32.toInt_inj.mp e)
  have g4 : x.toInt ≠ 4 := fun e => h4 (Int32.toInt_inj.mp e)
  omega
theorem ts_out_15 {x : Int32} (h0 : ¬ x = 0) (h1 : ¬ x = 1) (h2 : ¬ x = 2) (h3 : ¬ x = 3) (h4 : ¬ x = 4) (h5 : ¬ x = 5) (h6 : ¬ x = 6) (h7 : ¬ x = 7) (h8 : ¬ x = 8) (h9 : ¬ x = 9) (h10 : ¬ x = 10) (h11 : ¬ x = 11) (h12 : ¬ x = 12) (h13 : ¬ x = 13) (h14 : ¬ x = 14) : x.toInt < 0 ∨ 14 < x.toInt := by
  have g0 : x.toInt ≠ 0 := fun e => h0 (Int32.toInt_inj.mp e)
  have g1 : x.toInt ≠ 1 := fun e => h1 (Int32.toInt_inj.mp e)
  have g2 : x.toInt ≠ 2 := fun e => h2 (Int32.toInt_inj.mp e)
  have g3 : x.toInt ≠ 3 := fun e => h3 (Int32.toInt_inj.mp e)
  have g4 : x.toInt ≠ 4 := fun e => h4 (Int32.toInt_inj.mp e)
  have g5 : x.toInt ≠ 5 := fun e => h5 (Int32.toInt_inj.mp e)
  have g6 : x.toInt ≠ 6 := fun e => h6 (Int32.toInt_inj.mp e)
  have g7 : x.toInt ≠ 7 := fun e => h7 (Int32.toInt_inj.mp e)
  have g8 : x.toInt ≠ 8 := fun e => h8 (Int32.toInt_inj.mp e)
  have g9 : x.toInt ≠ 9 := fun e => h9 (Int32.toInt_inj.mp e)
  have g10 : x.toInt ≠ 10 := fun e => h10 (Int32.toInt_inj.mp e)
  have g11 : x.toInt ≠ 11 := fun e => h11 (Int32.toInt_inj.mp e)
  have g12 : x.toInt ≠ 12 := fun e => h12 (Int32.toInt_inj.mp e)
  have g13 : x.toInt ≠ 13 := fun e => h13 (Int32.toInt_inj.mp e)
  have g14 : x.toInt ≠ 14 := fun e => h14 (Int32.toInt_inj.mp e)
  omega

