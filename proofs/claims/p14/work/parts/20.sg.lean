abbrev SG : Type := (Nat → Nat → Int32) × (Nat → Nat → Int64) × (Nat → Nat → Option Nat)
def sI (σ : SG) (a k : Nat) : Int32 := σ.1 a k
def sL (σ : SG) (a k : Nat) : Int64 := σ.2.1 a k
def sP (σ : SG) (a k : Nat) : Option Nat := σ.2.2 a k
def uI (σ : SG) (a k : Nat) (v : Int32) : SG := (fun b j => if b = a ∧ j = k then v else σ.1 b j, σ.2.1, σ.2.2)
def uL (σ : SG) (a k : Nat) (v : Int64) : SG := (σ.1, fun b j => if b = a ∧ j = k then v else σ.2.1 b j, σ.2.2)
def uP (σ : SG) (a k : Nat) (v : Option Nat) : SG := (σ.1, σ.2.1, fun b j => if b = a ∧ j = k then v else σ.2.2 b j)
theorem sI_uI (σ : SG) (a k : Nat) (v : Int32) (b j : Nat) : sI (uI σ a k v) b j = if b = a ∧ j = k then v else sI σ b j := rfl
theorem sL_uL (σ : SG) (a k : Nat) (v : Int64) (b j : Nat) : sL (uL σ a k v) b j = if b = a ∧ j = k then v else sL σ b j := rfl
theorem sP_uP (σ : SG) (a k : Nat) (v : Option Nat) (b j : Nat) : sP (uP σ a k v) b j = if b = a ∧ j = k then v else sP σ b j := rfl
theorem sI_uL (σ : SG) (a k : Nat) (v : Int64) (b j : Nat) : sI (uL σ a k v) b j = sI σ b j := rfl
theorem sI_uP (σ : SG) (a k : Nat) (v : Option Nat) (b j : Nat) : sI (uP σ a k v) b j = sI σ b j := rfl
theorem sL_uI (σ : SG) (a k : Nat) (v : Int32) (b j : Nat) : sL (uI σ a k v) b j = sL σ b j := rfl
theorem sL_uP (σ : SG) (a k : Nat) (v : Option Nat) (b j : Nat) : sL (uP σ a k v) b j = sL σ b j := rfl
theorem sP_uI (σ : SG) (a k : Nat) (v : Int32) (b j : Nat) : sP (uI σ a k v) b j = sP σ b j := rfl
theorem sP_uL (σ : SG) (a k : Nat) (v : Int64) (b j : Nat) : sP (uL σ a k v) b j = sP σ b j := rfl
/-- what stands at an address: an object's class, or 100 and an array's kind -/
def shC (o : Nat) : Nat := if o = 0 then 2 else if o = 1 then 6 else if o = 2 then 0 else if o = 3 then 102 else if o = 4 then 104 else if o < 185 then 3 else if o = 185 then 100 else if o = 186 then 10 else if o < 190 then 100 else if o = 190 then 101 else 5
def shM : List Nat := (100 :: 100 :: 100 :: 100 :: 100 :: 100 :: 100 :: 100 :: 100 :: 100 :: 100 :: 100 :: 100 :: 100 :: 100 :: 100 :: 100 :: 100 :: 103 :: 103 :: 100 :: 100 :: 100 :: 100 :: 100 :: 100 :: 100 :: 100 :: 100 :: 100 :: 100 :: 100 :: 100 :: 100 :: 100 :: 101 :: 100 :: 100 :: 100 :: 100 :: 103 :: 100 :: 100 :: 103 :: 100 :: 100 :: 100 :: 100 :: 100 :: 100 :: 101 :: 100 :: 100 :: 100 :: 100 :: 100 :: 100 :: 100 :: 100 :: 100 :: 100 :: 100 :: 103 :: 100 :: 100 :: 101 :: 100 :: 100 :: 100 :: 103 :: 100 :: 100 :: 100 :: 100 :: 100 :: 100 :: 100 :: 100 :: 100 :: 103 :: 100 :: 100 :: 100 :: 101 :: [])
def sh (a : Nat) : Nat := if a < 5 then (if a = 0 then 11 else if a = 1 then 0 else if a = 2 then 102 else if a = 3 then 0 else 102) else if a < 197 then shC (a - 5) else if a < 389 then shC (a - 197) else if a = 389 then 8 else if a = 390 then 105 else if a < 1092 then 4 else if a = 1092 then 0 else if a = 1093 then 102 else if a = 1094 then 9 else if a = 1095 then 7 else if a = 1096 then 102 else if a = 1097 then 1 else if a < 1100 then 104 else if a = 1100 then 103 else if a = 1101 then 12 else if a < 1186 then shM.getD (a - 1102) 0 else 999
/-- how long an array is -/
def lnC (o : Nat) : Nat := if o = 3 then 700 else if o = 4 then 180 else if o = 185 then 5 else 701
def lnM : List Nat := (700 :: 4000 :: 2 :: 2 :: 2 :: 2 :: 32 :: 32 :: 32 :: 16 :: 16 :: 16 :: 120 :: 120 :: 120 :: 120 :: 120 :: 120 :: 120 :: 120 :: 120 :: 80 :: 80 :: 80 :: 80 :: 1200 :: 100 :: 100 :: 100 :: 100 :: 100 :: 100 :: 200 :: 200 :: 200 :: 200 :: 200 :: 200 :: 200 :: 200 :: 200 :: 200 :: 200 :: 200 :: 200 :: 200 :: 200 :: 200 :: 200 :: 200 :: 200 :: 200 :: 400 :: 400 :: 400 :: 400 :: 400 :: 100 :: 400 :: 400 :: 400 :: 400 :: 400 :: 800 :: 800 :: 800 :: 800 :: 800 :: 800 :: 800 :: 400 :: 400 :: 400 :: 1500 :: 40 :: 40 :: 40 :: 40 :: 20 :: 256 :: 260 :: 260 :: 260 :: 1 :: [])
def ln (a : Nat) : Nat := if a = 2 then 700 else if a = 4 then 4000 else if a < 197 then lnC (a - 5) else if a < 389 then lnC (a - 197) else if a = 390 then 700 else if a = 1093 then 1000 else if a = 1096 then 20 else if a < 1102 then 256 else lnM.getD (a - 1102) 0
/-- a field's kind: 0 an int, 1 a long, 2 a reference that changes, 3 one that never does -/
def tyT : List (List Nat) := [[3, 0, 0], [3, 3, 3, 3, 0], [3, 3, 3, 0, 0], [0, 0, 2, 2, 0, 0, 1, 0, 0, 0, 2, 0, 0, 0, 0, 2, 2], [2, 2, 2, 2, 1, 0, 0], [3, 3, 2, 2, 2, 0, 0, 0], [3, 3, 3, 0, 0], [3, 3, 3, 3, 0, 0, 1], [3, 3, 3, 0, 2, 2], [3, 3, 3, 0, 1, 0], [3, 3, 3, 3, 3, 0, 0, 0], [3, 3, 3, 3, 3, 3, 3, 3, 0], (3 :: 0 :: 3 :: 0 :: 0 :: 0 :: 0 :: 3 :: 3 :: 3 :: 3 :: 3 :: 3 :: 3 :: 3 :: 3 :: 3 :: 3 :: 3 :: 3 :: 3 :: 3 :: 3 :: 3 :: 3 :: 3 :: 3 :: 3 :: 3 :: 3 :: 3 :: 0 :: 0 :: 0 :: 0 :: 0 :: 0 :: 0 :: 0 :: 3 :: 3 :: 3 :: 3 :: 3 :: 3 :: 3 :: 3 :: 3 :: 3 :: 3 :: 3 :: 3 :: 3 :: 3 :: 3 :: 3 :: 3 :: 3 :: 3 :: 3 :: 3 :: 3 :: 3 :: 3 :: 3 :: 3 :: 3 :: 3 :: 3 :: 3 :: 0 :: 0 :: 0 :: 0 :: 0 :: 0 :: 0 :: 1 :: 3 :: 0 :: 0 :: 0 :: 0 :: 0 :: 0 :: 0 :: 3 :: 3 :: 3 :: 3 :: 3 :: 3 :: 3 :: 3 :: 3 :: 3 :: 3 :: 3 :: 3 :: 3 :: 3 :: 3 :: 3 :: 3 :: 3 :: 3 :: 0 :: 0 :: 1 :: 0 :: 3 :: 3 :: 3 :: 3 :: 3 :: [])]
def tyc (c k : Nat) : Nat := (tyT.getD c []).getD k 9
def nf (c : Nat) : Nat := (tyT.getD c []).length
def stM : List Nat := (1102 :: 0 :: 1103 :: 0 :: 0 :: 0 :: 0 :: 1104 :: 1105 :: 1106 :: 1107 :: 1108 :: 1109 :: 1110 :: 1111 :: 1112 :: 1113 :: 1114 :: 1115 :: 1116 :: 1117 :: 1118 :: 1119 :: 1120 :: 1121 :: 1122 :: 1123 :: 1124 :: 1125 :: 1126 :: 1127 :: 0 :: 0 :: 0 :: 0 :: 0 :: 0 :: 0 :: 0 :: 1128 :: 1129 :: 1130 :: 1131 :: 1132 :: 1133 :: 1134 :: 1135 :: 1136 :: 1137 :: 1138 :: 1139 :: 1140 :: 1141 :: 1142 :: 1143 :: 1144 :: 1145 :: 1146 :: 1147 :: 1148 :: 1149 :: 1150 :: 1151 :: 1152 :: 1153 :: 1154 :: 1155 :: 1156 :: 1157 :: 1158 :: 0 :: 0 :: 0 :: 0 :: 0 :: 0 :: 0 :: 0 :: 1159 :: 0 :: 0 :: 0 :: 0 :: 0 :: 0 :: 0 :: 1160 :: 1161 :: 1162 :: 1163 :: 1164 :: 1165 :: 1166 :: 1167 :: 1168 :: 1169 :: 1170 :: 1171 :: 1172 :: 1173 :: 1174 :: 1175 :: 1176 :: 1177 :: 1178 :: 1179 :: 0 :: 0 :: 0 :: 0 :: 1180 :: 1181 :: 1182 :: 1183 :: 1184 :: [])
/-- where the references point that never change -/
def stv (c a k : Nat) : Nat := match c with
  | 0 => a + 1
  | 1 => [3, 1098, 1099, 1100].getD k 0
  | 2 => a + [1, 186, 191].getD k 0
  | 5 => a - [190, 5].getD k 0
  | 6 => a + [1, 3, 184].getD k 0
  | 7 => [1, 389, 3, 1096].getD k 0
  | 8 => [390, 1091, 1092].getD k 0
  | 9 => [1, 389, 3].getD k 0
  | 10 => if k = 0 then a - 184 else a + k
  | 11 => [1, 3, 5, 197, 389, 1094, 1095, 1097].getD k 0
  | 12 => stM.getD k 0
  | _ => 0
def fv (c a : Nat) (σ : SG) (k : Nat) : Value := match tyc c k with
  | 0 => .int (sI σ a k)
  | 1 => .long (sL σ a k)
  | 2 => va_rf (sP σ a k)
  | _ => .ref (stv c a k)
def fl (c a : Nat) (σ : SG) : List Value := (List.range (nf c)).map (fv c a σ)
def ctn (Z : Nat → Nat → Option Nat) (σ : SG) (a t : Nat) : (Nat → Int32) ⊕ (Nat → Int64) ⊕ (Nat → Option Nat) := if t = 1 then .inr (.inl (sL σ a)) else if t < 4 then .inl (sI σ a) else if a < 1000 then .inr (.inr (Z a)) else .inr (.inr (sP σ a))
/-- the machine's memory out of the pure state; Z: the rows of objects that never change -/
def mem (Z : Nat → Nat → Option Nat) (σ : SG) (a : Nat) : mm_C := if sh a < 100 then .inr (sh a, fl (sh a) a σ) else .inl (sh a - 100, ln a, ctn Z σ a (sh a - 100))
def HZ (Z : Nat → Nat → Option Nat) : Prop := (∀ i, i < 180 → Z 9 i = some (10 + i)) ∧ (∀ i, i < 180 → Z 201 i = some (202 + i)) ∧ ∀ i, i < 700 → Z 390 i = some (391 + i)
theorem sh_out {a : Nat} (h : 1186 ≤ a) : sh a = 999 := by
  unfold sh
  simp only [show ¬ a < 5 by omega, show ¬ a < 197 by omega, show ¬ a < 389 by omega, show ¬ a = 389 by omega, show ¬ a = 390 by omega, show ¬ a < 1092 by omega, show ¬ a = 1092 by omega, show ¬ a = 1093 by omega, show ¬ a = 1094 by omega, show ¬ a = 1095 by omega, show ¬ a = 1096 by omega, show ¬ a = 1097 by omega, show ¬ a < 1100 by omega, show ¬ a = 1100 by omega, show ¬ a = 1101 by omega, show ¬ a < 1186 by omega, if_false]
theorem sh_lt {a c : Nat} (h : sh a = c) (hc : c < 900) : a < 1186 := by
  rcases Nat.lt_or_ge a 1186 with h1 | h1
  · exact h1
  · rw [sh_out h1] at h; omega
theorem sh_ltn {a c n : Nat} (h : sh a = c) (hc : c < 900) (hn : 1186 ≤ n) : a < n := Nat.lt_of_lt_of_le (sh_lt h hc) hn
theorem mem_obj {Z : Nat → Nat → Option Nat} {σ : SG} {a c : Nat} (h : sh a = c) (hc : c < 100) : mem Z σ a = .inr (c, fl c a σ) := by
  unfold mem; rw [h, if_pos hc]
theorem mem_arr {Z : Nat → Nat → Option Nat} {σ : SG} {a t : Nat} (h : sh a = 100 + t) : mem Z σ a = .inl (t, ln a, ctn Z σ a t) := by
  unfold mem; rw [h, if_neg (by omega), Nat.add_sub_cancel_left]
theorem fl_get {c a k : Nat} {σ : SG} (hk : k < nf c) : (fl c a σ)[k]? = some (fv c a σ k) := by
  unfold fl; rw [List.getElem?_map, List.getElem?_range hk]; rfl
theorem fl_getI {c a k : Nat} {σ : SG} (hk : k < nf c) (ht : tyc c k = 0) : (fl c a σ)[k]? = some (.int (sI σ a k)) := by rw [fl_get hk]; unfold fv; rw [ht]; rfl
theorem fl_getL {c a k : Nat} {σ : SG} (hk : k < nf c) (ht : tyc c k = 1) : (fl c a σ)[k]? = some (.long (sL σ a k)) := by rw [fl_get hk]; unfold fv; rw [ht]; rfl
theorem fl_getP {c a k : Nat} {σ : SG} (hk : k < nf c) (ht : tyc c k = 2) : (fl c a σ)[k]? = some (va_rf (sP σ a k)) := by rw [fl_get hk]; unfold fv; rw [ht]; rfl
theorem fl_getS {c a k q : Nat} {σ : SG} (hk : k < nf c) (ht : tyc c k = 3) (hq : stv c a k = q) : (fl c a σ)[k]? = some (.ref q) := by rw [fl_get hk]; unfold fv; rw [ht, hq]; rfl
theorem fl_len (c a : Nat) (σ : SG) : (fl c a σ).length = nf c := by unfold fl; rw [List.length_map, List.length_range]
theorem fl_set {c a k : Nat} {σ σ' : SG} {v : Value} (hv : fv c a σ' k = v) (ho : ∀ j, j ≠ k → fv c a σ' j = fv c a σ j) : (fl c a σ).set k v = fl c a σ' := by
  unfold fl
  apply List.ext_getElem?
  intro j
  rw [List.getElem?_set, List.getElem?_map, List.getElem?_map, List.length_map, List.length_range]
  by_cases hj : k = j
  · subst hj
    rw [if_pos rfl]
    by_cases hl : k < nf c
    · rw [if_pos hl, List.getElem?_range hl, Option.map_some, hv]
    · rw [if_neg hl, List.getElem?_eq_none (by rw [List.length_range]; omega)]; rfl
  · rw [if_neg hj]
    by_cases hl : j < nf c
    · rw [List.getElem?_range hl, Option.map_some, Option.map_some, ho j (Ne.symm hj)]
    · rw [List.getElem?_eq_none (by rw [List.length_range]; omega)]; rfl
theorem fv_I {c a b k : Nat} {σ : SG} {v : Int32} (j : Nat) (h : ¬ (b = a ∧ j = k)) : fv c b (uI σ a k v) j = fv c b σ j := by
  unfold fv; rw [sI_uI, sL_uI, sP_uI, if_neg h]
theorem fv_L {c a b k : Nat} {σ : SG} {v : Int64} (j : Nat) (h : ¬ (b = a ∧ j = k)) : fv c b (uL σ a k v) j = fv c b σ j := by
  unfold fv; rw [sL_uL, sI_uL, sP_uL, if_neg h]
theorem fv_P {c a b k : Nat} {σ : SG} {v : Option Nat} (j : Nat) (h : ¬ (b = a ∧ j = k)) : fv c b (uP σ a k v) j = fv c b σ j := by
  unfold fv; rw [sP_uP, sL_uP, sI_uP, if_neg h]
theorem mem_oth {Z : Nat → Nat → Option Nat} {σ σ' : SG} {b : Nat} (h1 : ∀ j, sI σ' b j = sI σ b j) (h2 : ∀ j, sL σ' b j = sL σ b j) (h3 : ∀ j, sP σ' b j = sP σ b j) : mem Z σ' b = mem Z σ b := by
  have e1 : sI σ' b = sI σ b := funext h1
  have e2 : sL σ' b = sL σ b := funext h2
  have e3 : sP σ' b = sP σ b := funext h3
  have e4 : ∀ c, fv c b σ' = fv c b σ := fun c => by funext j; unfold fv; rw [e1, e2, e3]
  unfold mem fl ctn
  rw [e1, e2, e3, e4]
theorem mem_up {Z : Nat → Nat → Option Nat} {σ σ' : SG} {a : Nat} {c : mm_C} (h : mem Z σ' a = c) (ho : ∀ b, b ≠ a → mem Z σ' b = mem Z σ b) : mm_up (mem Z σ) a c = mem Z σ' := by
  funext b
  by_cases hb : b = a
  · subst hb; rw [mm_up_s, h]
  · rw [mm_up_n hb, ho b hb]
theorem mem_putI {Z : Nat → Nat → Option Nat} {σ : SG} {a c k : Nat} {v : Int32} (h : sh a = c) (hc : c < 100) (ht : tyc c k = 0) : mm_up (mem Z σ) a (.inr (c, (fl c a σ).set k (.int v))) = mem Z (uI σ a k v) := by
  refine mem_up ?_ (fun b hb => mem_oth (fun j => by rw [sI_uI, if_neg (fun z => hb z.1)]) (fun j => rfl) (fun j => rfl))
  rw [mem_obj h hc, fl_set (σ' := uI σ a k v) (by unfold fv; rw [ht]; rw [sI_uI, if_pos ⟨rfl, rfl⟩]; rfl) (fun j hj => fv_I j (fun z => hj z.2))]
theorem mem_putL {Z : Nat → Nat → Option Nat} {σ : SG} {a c k : Nat} {v : Int64} (h : sh a = c) (hc : c < 100) (ht : tyc c k = 1) : mm_up (mem Z σ) a (.inr (c, (fl c a σ).set k (.long v))) = mem Z (uL σ a k v) := by
  refine mem_up ?_ (fun b hb => mem_oth (fun j => rfl) (fun j => by rw [sL_uL, if_neg (fun z => hb z.1)]) (fun j => rfl))
  rw [mem_obj h hc, fl_set (σ' := uL σ a k v) (by unfold fv; rw [ht]; rw [sL_uL, if_pos ⟨rfl, rfl⟩]; rfl) (fun j hj => fv_L j (fun z => hj z.2))]
theorem mem_putP {Z : Nat → Nat → Option Nat} {σ : SG} {a c k : Nat} {v : Option Nat} (h : sh a = c) (hc : c < 100) (ht : tyc c k = 2) : mm_up (mem Z σ) a (.inr (c, (fl c a σ).set k (va_rf v))) = mem Z (uP σ a k v) := by
  refine mem_up ?_ (fun b hb => mem_oth (fun j => rfl) (fun j => rfl) (fun j => by rw [sP_uP, if_neg (fun z => hb z.1)]))
  rw [mem_obj h hc, fl_set (σ' := uP σ a k v) (by unfold fv; rw [ht]; rw [sP_uP, if_pos ⟨rfl, rfl⟩]; rfl) (fun j hj => fv_P j (fun z => hj z.2))]
theorem ctn_I {Z : Nat → Nat → Option Nat} {σ : SG} {a t : Nat} (h : t = 0 ∨ t = 2 ∨ t = 3) : ctn Z σ a t = .inl (sI σ a) := by
  unfold ctn; rw [if_neg (by omega), if_pos (by omega)]
theorem ctn_L {Z : Nat → Nat → Option Nat} {σ : SG} {a : Nat} : ctn Z σ a 1 = .inr (.inl (sL σ a)) := by
  unfold ctn; rw [if_pos rfl]
theorem ctn_P {Z : Nat → Nat → Option Nat} {σ : SG} {a : Nat} (h : ¬ a < 1000) : ctn Z σ a 4 = .inr (.inr (sP σ a)) := by
  unfold ctn; rw [if_neg (by omega), if_neg (by omega), if_neg h]
theorem ctn_Z {Z : Nat → Nat → Option Nat} {σ : SG} {a t : Nat} (h : a < 1000) (ht : t = 4 ∨ t = 5) : ctn Z σ a t = .inr (.inr (Z a)) := by
  unfold ctn; rw [if_neg (by omega), if_neg (by omega), if_pos h]
theorem mem_arrI {Z : Nat → Nat → Option Nat} {σ : SG} {a t j : Nat} {v : Int32} (h : sh a = 100 + t) (ht : t = 0 ∨ t = 2 ∨ t = 3) : mm_up (mem Z σ) a (.inl (t, ln a, .inl (upd (sI σ a) j v))) = mem Z (uI σ a j v) := by
  refine mem_up ?_ (fun b hb => mem_oth (fun j => by rw [sI_uI, if_neg (fun z => hb z.1)]) (fun j => rfl) (fun j => rfl))
  rw [mem_arr h, ctn_I ht]
  have e : sI (uI σ a j v) a = upd (sI σ a) j v := by
    funext i; rw [sI_uI]; unfold upd
    by_cases hi : i = j
    · rw [if_pos ⟨rfl, hi⟩, if_pos hi]
    · rw [if_neg (fun z => hi z.2), if_neg hi]
  rw [e]
theorem mem_arrL {Z : Nat → Nat → Option Nat} {σ : SG} {a j : Nat} {v : Int64} (h : sh a = 101) : mm_up (mem Z σ) a (.inl (1, ln a, .inr (.inl (vp_updL (sL σ a) j v)))) = mem Z (uL σ a j v) := by
  refine mem_up ?_ (fun b hb => mem_oth (fun j => rfl) (fun j => by rw [sL_uL, if_neg (fun z => hb z.1)]) (fun j => rfl))
  rw [mem_arr (t := 1) h, ctn_L]
  have e : sL (uL σ a j v) a = vp_updL (sL σ a) j v := by
    funext i; rw [sL_uL]; unfold vp_updL
    by_cases hi : i = j
    · rw [if_pos ⟨rfl, hi⟩, if_pos hi]
    · rw [if_neg (fun z => hi z.2), if_neg hi]
  rw [e]
theorem mem_arrP {Z : Nat → Nat → Option Nat} {σ : SG} {a j : Nat} {v : Option Nat} (h : sh a = 104) (ha : ¬ a < 1000) : mm_up (mem Z σ) a (.inl (4, ln a, .inr (.inr (va_up (sP σ a) j v)))) = mem Z (uP σ a j v) := by
  refine mem_up ?_ (fun b hb => mem_oth (fun j => rfl) (fun j => rfl) (fun j => by rw [sP_uP, if_neg (fun z => hb z.1)]))
  rw [mem_arr (t := 4) h, ctn_P ha]
  have e : sP (uP σ a j v) a = va_up (sP σ a) j v := by
    funext i; rw [sP_uP]; unfold va_up
    by_cases hi : i = j
    · rw [if_pos ⟨rfl, hi⟩, if_pos hi]
    · rw [if_neg (fun z => hi z.2), if_neg hi]
  rw [e]

theorem shX0 {a : Nat} (h : sh a = 0) : a = 1 ∨ a = 3 ∨ a = 7 ∨ a = 199 ∨ a = 1092 := (by decide +kernel : ∀ a, a < 1186 → sh a = 0 → a = 1 ∨ a = 3 ∨ a = 7 ∨ a = 199 ∨ a = 1092) a (sh_lt h (by decide)) h
theorem shX1 {a : Nat} (h : sh a = 1) : a = 1097 := (by decide +kernel : ∀ a, a < 1186 → sh a = 1 → a = 1097) a (sh_lt h (by decide)) h
theorem shX2 {a : Nat} (h : sh a = 2) : a = 5 ∨ a = 197 := (by decide +kernel : ∀ a, a < 1186 → sh a = 2 → a = 5 ∨ a = 197) a (sh_lt h (by decide)) h
theorem shX5 {a : Nat} (h : sh a = 5) : a = 196 ∨ a = 388 := (by decide +kernel : ∀ a, a < 1186 → sh a = 5 → a = 196 ∨ a = 388) a (sh_lt h (by decide)) h
theorem shX6 {a : Nat} (h : sh a = 6) : a = 6 ∨ a = 198 := (by decide +kernel : ∀ a, a < 1186 → sh a = 6 → a = 6 ∨ a = 198) a (sh_lt h (by decide)) h
theorem shX7 {a : Nat} (h : sh a = 7) : a = 1095 := (by decide +kernel : ∀ a, a < 1186 → sh a = 7 → a = 1095) a (sh_lt h (by decide)) h
theorem shX8 {a : Nat} (h : sh a = 8) : a = 389 := (by decide +kernel : ∀ a, a < 1186 → sh a = 8 → a = 389) a (sh_lt h (by decide)) h
theorem shX9 {a : Nat} (h : sh a = 9) : a = 1094 := (by decide +kernel : ∀ a, a < 1186 → sh a = 9 → a = 1094) a (sh_lt h (by decide)) h
theorem shX10 {a : Nat} (h : sh a = 10) : a = 191 ∨ a = 383 := (by decide +kernel : ∀ a, a < 1186 → sh a = 10 → a = 191 ∨ a = 383) a (sh_lt h (by decide)) h
theorem shX11 {a : Nat} (h : sh a = 11) : a = 0 := (by decide +kernel : ∀ a, a < 1186 → sh a = 11 → a = 0) a (sh_lt h (by decide)) h
theorem shX12 {a : Nat} (h : sh a = 12) : a = 1101 := (by decide +kernel : ∀ a, a < 1186 → sh a = 12 → a = 1101) a (sh_lt h (by decide)) h
theorem sv0_0 {a : Nat} (h : sh a = 0) : sh (a + 1) = 102 := by rcases shX0 h with rfl | rfl | rfl | rfl | rfl <;> rfl
theorem sv2_0 {a : Nat} (h : sh a = 2) : sh (a + 1) = 6 := by rcases shX2 h with rfl | rfl <;> rfl
theorem sv2_1 {a : Nat} (h : sh a = 2) : sh (a + 186) = 10 := by rcases shX2 h with rfl | rfl <;> rfl
theorem sv2_2 {a : Nat} (h : sh a = 2) : sh (a + 191) = 5 := by rcases shX2 h with rfl | rfl <;> rfl
theorem sv5_0 {a : Nat} (h : sh a = 5) : sh (a - 190) = 6 := by rcases shX5 h with rfl | rfl <;> rfl
theorem sv5_1 {a : Nat} (h : sh a = 5) : sh (a - 5) = 10 := by rcases shX5 h with rfl | rfl <;> rfl
theorem sv6_0 {a : Nat} (h : sh a = 6) : sh (a + 1) = 0 := by rcases shX6 h with rfl | rfl <;> rfl
theorem sv6_1 {a : Nat} (h : sh a = 6) : sh (a + 3) = 104 := by rcases shX6 h with rfl | rfl <;> rfl
theorem sn6_1 {a : Nat} (h : sh a = 6) : ln (a + 3) = 180 := by rcases shX6 h with rfl | rfl <;> rfl
theorem sv6_2 {a : Nat} (h : sh a = 6) : sh (a + 184) = 100 := by rcases shX6 h with rfl | rfl <;> rfl
theorem sn6_2 {a : Nat} (h : sh a = 6) : ln (a + 184) = 5 := by rcases shX6 h with rfl | rfl <;> rfl
theorem sv10_0 {a : Nat} (h : sh a = 10) : sh (a - 184) = 0 := by rcases shX10 h with rfl | rfl <;> rfl
theorem sv10_1 {a : Nat} (h : sh a = 10) : sh (a + 1) = 100 := by rcases shX10 h with rfl | rfl <;> rfl
theorem sn10_1 {a : Nat} (h : sh a = 10) : ln (a + 1) = 701 := by rcases shX10 h with rfl | rfl <;> rfl
theorem sv10_2 {a : Nat} (h : sh a = 10) : sh (a + 2) = 100 := by rcases shX10 h with rfl | rfl <;> rfl
theorem sn10_2 {a : Nat} (h : sh a = 10) : ln (a + 2) = 701 := by rcases shX10 h with rfl | rfl <;> rfl
theorem sv10_3 {a : Nat} (h : sh a = 10) : sh (a + 3) = 100 := by rcases shX10 h with rfl | rfl <;> rfl
theorem sn10_3 {a : Nat} (h : sh a = 10) : ln (a + 3) = 701 := by rcases shX10 h with rfl | rfl <;> rfl
theorem sv10_4 {a : Nat} (h : sh a = 10) : sh (a + 4) = 101 := by rcases shX10 h with rfl | rfl <;> rfl
theorem sn10_4 {a : Nat} (h : sh a = 10) : ln (a + 4) = 701 := by rcases shX10 h with rfl | rfl <;> rfl
theorem sh_itS {a j : Nat} (h : sh a = 6) (hj : j < 180) : sh (a + 4 + j) = 3 := by
  rcases shX6 h with rfl | rfl
  · exact (by decide +kernel : ∀ j, j < 180 → sh (6 + 4 + j) = 3) j hj
  · exact (by decide +kernel : ∀ j, j < 180 → sh (198 + 4 + j) = 3) j hj
theorem sh_nd {j : Nat} (hj : j < 700) : sh (391 + j) = 4 := (by decide +kernel : ∀ j, j < 700 → sh (391 + j) = 4) j hj
theorem HZ.itS {Z : Nat → Nat → Option Nat} (hZ : HZ Z) {a j : Nat} (h : sh a = 6) (hj : j < 180) : Z (a + 3) j = some (a + 4 + j) := by
  rcases shX6 h with rfl | rfl
  · exact hZ.1 j hj
  · exact hZ.2.1 j hj
theorem HZ.nd {Z : Nat → Nat → Option Nat} (hZ : HZ Z) {j : Nat} (hj : j < 700) : Z 390 j = some (391 + j) := hZ.2.2 j hj
/-! the words of the pure programs -/
def sb {α β : Type} (x : α) (f : α → β) : β := f x
def b1 {α β : Type} (o : Option α) (f : α → Option β) : Option β := match o with
  | none => none
  | some a => f a
def b2 {α γ β : Type} (o : Option (α × γ)) (f : α → γ → Option β) : Option β := match o with
  | none => none
  | some p => f p.1 p.2
/-- a reference that must be one to an object of a class -/
def ck {β : Type} (c : Nat) (r : Option Nat) (f : Nat → Option β) : Option β := match r with
  | none => none
  | some b => if sh b = c then f b else none
/-- a reference that is null or one to an object of a class -/
def ckN {β : Type} (c : Nat) (r : Option Nat) (f : Option β) : Option β := match r with
  | none => f
  | some b => if sh b = c then f else none
/-- a place of an array of n -/
def ix {β : Type} (i : Int32) (n : Nat) (f : Nat → Option β) : Option β := if i < 0 ∨ n ≤ i.toNatClampNeg then none else f i.toNatClampNeg
/-- a boolean -/
def zb {β : Type} (v : Int32) (f : Option β) : Option β := if v = 0 ∨ v = 1 then f else none
def nz {β : Type} (v : Int32) (f : Option β) : Option β := if v = 0 then none else f
def nzL {β : Type} (v : Int64) (f : Option β) : Option β := if v = 0 then none else f
theorem b1_some {α β : Type} {o : Option α} {f : α → Option β} {R : β} (h : b1 o f = some R) : ∃ a, o = some a ∧ f a = some R := by
  cases o with
  | none => cases h
  | some a => exact ⟨a, rfl, h⟩
theorem b2_some {α γ β : Type} {o : Option (α × γ)} {f : α → γ → Option β} {R : β} (h : b2 o f = some R) : ∃ a s, o = some (a, s) ∧ f a s = some R := by
  cases o with
  | none => cases h
  | some a => exact ⟨a.1, a.2, rfl, h⟩
theorem ck_some {β : Type} {c : Nat} {r : Option Nat} {f : Nat → Option β} {R : β} (h : ck c r f = some R) : ∃ b, r = some b ∧ sh b = c ∧ f b = some R := by
  cases r with
  | none => cases h
  | some b =>
    unfold ck at h
    by_cases hb : sh b = c
    · exact ⟨b, rfl, hb, by simpa only [if_pos hb] using h⟩
    · simp only [if_neg hb] at h; cases h
theorem ckN_some {β : Type} {c : Nat} {r : Option Nat} {f : Option β} {R : β} (h : ckN c r f = some R) : (∀ b, r = some b → sh b = c) ∧ f = some R := by
  cases r with
  | none => exact ⟨fun b z => (by cases z), h⟩
  | some b =>
    unfold ckN at h
    by_cases hb : sh b = c
    · simp only [if_pos hb] at h; exact ⟨fun b' z => (by cases z; exact hb), h⟩
    · simp only [if_neg hb] at h; cases h
theorem ix_some {β : Type} {i : Int32} {n : Nat} {f : Nat → Option β} {R : β} (h : ix i n f = some R) : ∃ j, i.toNatClampNeg = j ∧ vp_in i n ∧ j < n ∧ f j = some R := by
  unfold ix at h
  by_cases hb : i < 0 ∨ n ≤ i.toNatClampNeg
  · rw [if_pos hb] at h; cases h
  · rw [if_neg hb] at h; exact ⟨_, rfl, hb, by omega, h⟩
theorem zb_some {β : Type} {v : Int32} {f : Option β} {R : β} (h : zb v f = some R) : (v = 0 ∨ v = 1) ∧ f = some R := by
  unfold zb at h
  by_cases hb : v = 0 ∨ v = 1
  · rw [if_pos hb] at h; exact ⟨hb, h⟩
  · rw [if_neg hb] at h; cases h
theorem nz_some {β : Type} {v : Int32} {f : Option β} {R : β} (h : nz v f = some R) : ¬ v = 0 ∧ f = some R := by
  unfold nz at h
  by_cases hb : v = 0
  · rw [if_pos hb] at h; cases h
  · rw [if_neg hb] at h; exact ⟨hb, h⟩
theorem nzL_some {β : Type} {v : Int64} {f : Option β} {R : β} (h : nzL v f = some R) : ¬ v = 0 ∧ f = some R := by
  unfold nzL at h
  by_cases hb : v = 0
  · rw [if_pos hb] at h; cases h
  · rw [if_neg hb] at h; exact ⟨hb, h⟩
theorem zb_fit {v : Int32} (h : v = 0 ∨ v = 1) : mm_fit .boolean (.int v) := by
  rcases h with rfl | rfl
  · exact mm_fit_z0
  · exact mm_fit_z1
theorem zb_nar {v : Int32} (h : v = 0 ∨ v = 1) : narrow .boolean (.int v) = .int v := by
  rcases h with rfl | rfl <;> rfl
theorem isr_rf (r : Option Nat) : mm_isr (va_rf r) = true := by cases r <;> rfl
theorem cat_rf (r : Option Nat) : (va_rf r).category = 1 := by cases r <;> rfl
theorem st1_o {ls : List (Option Value)} {i : Nat} {r : Option Nat} {v : Value} (h : ls[i - 1]? = some (some (va_rf r))) : mm_st1 ls i v = ls.set i (some v) := by
  unfold mm_st1 mm_clr
  have e : mm_c2 ls i = false := by
    cases i with
    | zero => rfl
    | succ j =>
      rw [Nat.add_sub_cancel] at h
      cases r <;> simp [mm_c2, h, va_rf, Value.category]
  rw [e]; rfl
theorem st2_o {ls : List (Option Value)} {i : Nat} {r : Option Nat} {v : Value} (h : ls[i - 1]? = some (some (va_rf r))) : mm_st2 ls i v = (ls.set (i + 1) none).set i (some v) := by
  unfold mm_st2 mm_clr
  have e : mm_c2 ls i = false := by
    cases i with
    | zero => rfl
    | succ j =>
      rw [Nat.add_sub_cancel] at h
      cases r <;> simp [mm_c2, h, va_rf, Value.category]
  rw [e]; rfl
theorem lg_lt {x y : Int64} : lg_cmp x y < 0 ↔ x < y := by
  unfold lg_cmp
  by_cases h1 : x > y
  · rw [if_pos h1]; exact ⟨fun z => absurd z (by decide), fun z => absurd z (Int64.not_lt.mpr (Int64.le_of_lt h1))⟩
  · rw [if_neg h1]
    by_cases h2 : x = y
    · rw [if_pos h2]; exact ⟨fun z => absurd z (by decide), fun z => absurd (h2 ▸ z) (Int64.lt_irrefl)⟩
    · rw [if_neg h2]; exact ⟨fun _ => by rcases Int64.lt_or_eq_of_le (Int64.not_lt.mp h1) with h | h; exact h; exact absurd h h2, fun _ => by decide⟩
theorem lg_gt {x y : Int64} : 0 < lg_cmp x y ↔ y < x := by
  unfold lg_cmp
  by_cases h1 : x > y
  · rw [if_pos h1]; exact ⟨fun _ => h1, fun _ => by decide⟩
  · rw [if_neg h1]
    by_cases h2 : x = y
    · rw [if_pos h2]; exact ⟨fun z => absurd z (by decide), fun z => absurd z h1⟩
    · rw [if_neg h2]; exact ⟨fun z => absurd z (by decide), fun z => absurd z h1⟩
theorem lg_eq {x y : Int64} : lg_cmp x y = 0 ↔ x = y := by
  unfold lg_cmp
  by_cases h1 : x > y
  · rw [if_pos h1]; exact ⟨fun z => absurd z (by decide), fun z => absurd (z ▸ h1) (Int64.lt_irrefl)⟩
  · rw [if_neg h1]
    by_cases h2 : x = y
    · rw [if_pos h2]; exact ⟨fun _ => h2, fun _ => rfl⟩
    · rw [if_neg h2]; exact ⟨fun z => absurd z (by decide), fun z => absurd z h2⟩
theorem lg_le {x y : Int64} : lg_cmp x y ≤ 0 ↔ x ≤ y := by
  rw [← Int32.not_lt, lg_gt, Int64.not_lt]
theorem lg_ge {x y : Int64} : 0 ≤ lg_cmp x y ↔ y ≤ x := by
  rw [← Int32.not_lt, lg_lt, Int64.not_lt]

