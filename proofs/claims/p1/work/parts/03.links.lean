/-! FACTS OF THE TABLES: what each pool entry links, which words a method has. By program (wip/tools/gen3.py). -/
def pMd : MethodName × ByteArray × Nat × Option FieldType × Nat := (⟨"", "", ""⟩, ByteArray.empty, 0, none, 0)
def pY (i : Nat) : MethodName := (pMs.getD i pMd).1
def pB (i : Nat) : ByteArray := (pMs.getD i pMd).2.1
def pX (i : Nat) : Nat := (pMs.getD i pMd).2.2.1
def pR (i : Nat) : Option FieldType := (pMs.getD i pMd).2.2.2.1
def pO (i : Nat) : Nat := (pMs.getD i pMd).2.2.2.2
def pN (o : Nat) : String := pON.getD o ""
def pFr (i : Nat) : Nat := (pRmL.getD i (0, 0, 0, 0)).1
def pLo (i : Nat) : Nat := (pRmL.getD i (0, 0, 0, 0)).2.2.2
def pG0 : List Cond := lw_tbl.filter goodWord
def pNestW : Cond → Bool
  | .methodLinkNest _ _ _ _ => true
  | _ => false
def pN0 : List Cond := lw_tbl.filter pNestW
def pWs (i : Nat) : List Cond := .code (pY i) (pB i) (pX i) (pR i) :: pG0
theorem pG0_good {w : Cond} (h : w ∈ pG0) : goodWord w = true := (List.mem_filter.mp h).2
theorem pG0_in {w : Cond} (h : w ∈ pG0) : w ∈ lw_tbl := (List.mem_filter.mp h).1
theorem pN0_in {w : Cond} (h : w ∈ pN0) : w ∈ lw_tbl := (List.mem_filter.mp h).1
theorem pHas (b k : Nat) {w : Cond} (h : (pBl b)[k]? = some w) (g : goodWord w = true) : w ∈ pG0 := List.mem_filter.mpr ⟨pBl_in (List.mem_of_getElem? h), g⟩
theorem pHasN (b k : Nat) {w : Cond} (h : (pBl b)[k]? = some w) (g : pNestW w = true) : w ∈ pN0 := List.mem_filter.mpr ⟨pBl_in (List.mem_of_getElem? h), g⟩
def pFlF (q : Nat × Nat × Nat × Nat × Nat) : Prop := ∃ c : vw_C, vwCl[q.2.2.1]? = some c ∧ q.2.2.2.1 < c.2.2 ∧ Cond.fieldLink (pN q.1) q.2.1 c.1 (c.2.1 q.2.2.2.1).2.1 (c.2.1 q.2.2.2.1).2.2.1 ∈ pG0 ∧ (c.2.1 q.2.2.2.1).1 = c.1
def pNwF (q : Nat × Nat × Nat × Nat × Nat × Nat) : Prop := ∃ c : vw_C, vwCl[q.2.2.1]? = some c ∧ Cond.classLink (pN q.1) q.2.1 c.1 ∈ pG0 ∧ Cond.instantiable c.1 c.2.2 ∈ pG0 ∧ Cond.initialized c.1 ∈ pG0
def pKiF (q : Nat × Nat × Int32 × Nat) : Prop := Cond.constant (pN q.1) q.2.1 q.2.2.1 ∈ pG0
def pKlF (q : Nat × Nat × Int64 × Nat) : Prop := Cond.constantLong (pN q.1) q.2.1 q.2.2.1 ∈ pG0
def pKdF (q : Nat × Nat × UInt64 × Nat) : Prop := Cond.constantDouble (pN q.1) q.2.1 q.2.2.1 ∈ pG0
def pd2rl : MethodName := ⟨"java/lang/Double", "doubleToRawLongBits", "(D)J"⟩
def pCaF (q : Nat × Nat × Nat × Nat × Nat × Nat × Nat × Nat × Nat × Nat) : Prop := match q.2.2.1 with
  | 0 => Cond.methodLink (pN q.1) q.2.1 Lib.objectInit ∈ pG0 ∧ Cond.instanceMethod Lib.objectInit ∈ pG0
  | 1 => Cond.methodLink (pN q.1) q.2.1 (pY q.2.2.2.1) ∈ pG0 ∧ Cond.instanceMethod (pY q.2.2.2.1) ∈ pG0 ∧ Cond.selects (pY q.2.2.2.1).cls (pY q.2.2.2.1) (pY q.2.2.2.1) ∈ pG0
  | 2 => Cond.methodLink (pN q.1) q.2.1 (pY q.2.2.2.1) ∈ pG0 ∧ Cond.static (pY q.2.2.2.1) ∈ pG0
  | 3 => Cond.methodLink (pN q.1) q.2.1 (pY q.2.2.2.1) ∈ pG0 ∧ Cond.instanceMethod (pY q.2.2.2.1) ∈ pG0 ∧ (pY q.2.2.2.1).name = "<init>" ∧ pR q.2.2.2.1 = none
  | 4 => Cond.methodLinkNest (pN q.1) q.2.1 (pY q.2.2.2.1) "SquareMesh" ∈ pN0 ∧ Cond.static (pY q.2.2.2.1) ∈ pG0
  | 5 => Cond.methodLinkNest (pN q.1) q.2.1 (pY q.2.2.2.1) "SquareMesh" ∈ pN0 ∧ Cond.instanceMethod (pY q.2.2.2.1) ∈ pG0 ∧ (pY q.2.2.2.1).name = "<init>" ∧ pR q.2.2.2.1 = none
  | 7 => Cond.methodLink (pN q.1) q.2.1 arraycopyName ∈ pG0 ∧ Cond.native arraycopyName ∈ pG0 ∧ Cond.static arraycopyName ∈ pG0 ∧ Cond.initialized "java/lang/System" ∈ pG0
  | 8 => Cond.methodLink (pN q.1) q.2.1 pd2rl ∈ pG0 ∧ Cond.native pd2rl ∈ pG0 ∧ Cond.static pd2rl ∈ pG0 ∧ Cond.initialized "java/lang/Double" ∈ pG0
  | _ => True
def pMeF (j : Nat) : Prop := Cond.code (pY j) (pB j) (pX j) (pR j) ∈ pG0 ∧ Cond.initialized (pY j).cls ∈ pG0 ∧ plainFor (pY j) = true ∧ (pY j).cls = pN (pO j)
set_option maxRecDepth 100000 in
theorem pfl_0 : pFlF (5, 9, 5, 0, 1038) := ⟨_, rfl, Nat.le_of_ble_eq_true rfl, pHas 1 38 rfl rfl, rfl⟩
set_option maxRecDepth 100000 in
theorem pfl_1 : pFlF (8, 147, 5, 0, 1039) := ⟨_, rfl, Nat.le_of_ble_eq_true rfl, pHas 1 39 rfl rfl, rfl⟩
set_option maxRecDepth 100000 in
theorem pfl_2 : pFlF (1, 162, 5, 0, 1040) := ⟨_, rfl, Nat.le_of_ble_eq_true rfl, pHas 1 40 rfl rfl, rfl⟩
set_option maxRecDepth 100000 in
theorem pfl_3 : pFlF (5, 15, 5, 1, 1041) := ⟨_, rfl, Nat.le_of_ble_eq_true rfl, pHas 1 41 rfl rfl, rfl⟩
set_option maxRecDepth 100000 in
theorem pfl_4 : pFlF (8, 155, 5, 1, 1042) := ⟨_, rfl, Nat.le_of_ble_eq_true rfl, pHas 1 42 rfl rfl, rfl⟩
set_option maxRecDepth 100000 in
theorem pfl_5 : pFlF (1, 165, 5, 1, 1043) := ⟨_, rfl, Nat.le_of_ble_eq_true rfl, pHas 1 43 rfl rfl, rfl⟩
set_option maxRecDepth 100000 in
theorem pfl_6 : pFlF (5, 18, 5, 2, 1044) := ⟨_, rfl, Nat.le_of_ble_eq_true rfl, pHas 1 44 rfl rfl, rfl⟩
set_option maxRecDepth 100000 in
theorem pfl_7 : pFlF (1, 93, 5, 2, 1045) := ⟨_, rfl, Nat.le_of_ble_eq_true rfl, pHas 1 45 rfl rfl, rfl⟩
set_option maxRecDepth 100000 in
theorem pfl_8 : pFlF (8, 130, 5, 2, 1046) := ⟨_, rfl, Nat.le_of_ble_eq_true rfl, pHas 1 46 rfl rfl, rfl⟩
set_option maxRecDepth 100000 in
theorem pfl_9 : pFlF (5, 21, 5, 3, 1047) := ⟨_, rfl, Nat.le_of_ble_eq_true rfl, pHas 1 47 rfl rfl, rfl⟩
set_option maxRecDepth 100000 in
theorem pfl_10 : pFlF (8, 243, 5, 3, 1048) := ⟨_, rfl, Nat.le_of_ble_eq_true rfl, pHas 1 48 rfl rfl, rfl⟩
set_option maxRecDepth 100000 in
theorem pfl_11 : pFlF (5, 25, 5, 4, 1049) := ⟨_, rfl, Nat.le_of_ble_eq_true rfl, pHas 1 49 rfl rfl, rfl⟩
set_option maxRecDepth 100000 in
theorem pfl_12 : pFlF (4, 49, 5, 4, 1050) := ⟨_, rfl, Nat.le_of_ble_eq_true rfl, pHas 1 50 rfl rfl, rfl⟩
set_option maxRecDepth 100000 in
theorem pfl_13 : pFlF (8, 171, 5, 4, 1051) := ⟨_, rfl, Nat.le_of_ble_eq_true rfl, pHas 1 51 rfl rfl, rfl⟩
set_option maxRecDepth 100000 in
theorem pfl_14 : pFlF (5, 28, 5, 5, 1052) := ⟨_, rfl, Nat.le_of_ble_eq_true rfl, pHas 1 52 rfl rfl, rfl⟩
set_option maxRecDepth 100000 in
theorem pfl_15 : pFlF (4, 52, 5, 5, 1053) := ⟨_, rfl, Nat.le_of_ble_eq_true rfl, pHas 1 53 rfl rfl, rfl⟩
set_option maxRecDepth 100000 in
theorem pfl_16 : pFlF (8, 174, 5, 5, 1054) := ⟨_, rfl, Nat.le_of_ble_eq_true rfl, pHas 1 54 rfl rfl, rfl⟩
set_option maxRecDepth 100000 in
theorem pfl_17 : pFlF (5, 37, 5, 6, 1055) := ⟨_, rfl, Nat.le_of_ble_eq_true rfl, pHas 1 55 rfl rfl, rfl⟩
set_option maxRecDepth 100000 in
theorem pfl_18 : pFlF (4, 44, 5, 7, 1056) := ⟨_, rfl, Nat.le_of_ble_eq_true rfl, pHas 1 56 rfl rfl, rfl⟩
set_option maxRecDepth 100000 in
theorem pfl_19 : pFlF (5, 41, 5, 7, 1057) := ⟨_, rfl, Nat.le_of_ble_eq_true rfl, pHas 1 57 rfl rfl, rfl⟩
set_option maxRecDepth 100000 in
theorem pfl_20 : pFlF (8, 167, 5, 7, 1058) := ⟨_, rfl, Nat.le_of_ble_eq_true rfl, pHas 1 58 rfl rfl, rfl⟩
set_option maxRecDepth 100000 in
theorem pfl_21 : pFlF (1, 51, 5, 8, 1059) := ⟨_, rfl, Nat.le_of_ble_eq_true rfl, pHas 1 59 rfl rfl, rfl⟩
set_option maxRecDepth 100000 in
theorem pfl_22 : pFlF (5, 45, 5, 8, 1060) := ⟨_, rfl, Nat.le_of_ble_eq_true rfl, pHas 1 60 rfl rfl, rfl⟩
set_option maxRecDepth 100000 in
theorem pfl_23 : pFlF (8, 177, 5, 8, 1061) := ⟨_, rfl, Nat.le_of_ble_eq_true rfl, pHas 1 61 rfl rfl, rfl⟩
set_option maxRecDepth 100000 in
theorem pfl_24 : pFlF (1, 12, 1, 0, 1083) := ⟨_, rfl, Nat.le_of_ble_eq_true rfl, pHas 1 83 rfl rfl, rfl⟩
set_option maxRecDepth 100000 in
theorem pfl_25 : pFlF (8, 75, 1, 0, 1084) := ⟨_, rfl, Nat.le_of_ble_eq_true rfl, pHas 1 84 rfl rfl, rfl⟩
set_option maxRecDepth 100000 in
theorem pfl_26 : pFlF (4, 40, 1, 0, 1085) := ⟨_, rfl, Nat.le_of_ble_eq_true rfl, pHas 1 85 rfl rfl, rfl⟩
set_option maxRecDepth 100000 in
theorem pfl_27 : pFlF (3, 39, 1, 0, 1086) := ⟨_, rfl, Nat.le_of_ble_eq_true rfl, pHas 1 86 rfl rfl, rfl⟩
set_option maxRecDepth 100000 in
theorem pfl_28 : pFlF (7, 62, 1, 0, 1087) := ⟨_, rfl, Nat.le_of_ble_eq_true rfl, pHas 1 87 rfl rfl, rfl⟩
set_option maxRecDepth 100000 in
theorem pfl_29 : pFlF (1, 18, 1, 1, 1088) := ⟨_, rfl, Nat.le_of_ble_eq_true rfl, pHas 1 88 rfl rfl, rfl⟩
set_option maxRecDepth 100000 in
theorem pfl_30 : pFlF (8, 258, 1, 1, 1089) := ⟨_, rfl, Nat.le_of_ble_eq_true rfl, pHas 1 89 rfl rfl, rfl⟩
set_option maxRecDepth 100000 in
theorem pfl_31 : pFlF (1, 22, 1, 2, 1090) := ⟨_, rfl, Nat.le_of_ble_eq_true rfl, pHas 1 90 rfl rfl, rfl⟩
set_option maxRecDepth 100000 in
theorem pfl_32 : pFlF (8, 261, 1, 2, 1091) := ⟨_, rfl, Nat.le_of_ble_eq_true rfl, pHas 1 91 rfl rfl, rfl⟩
set_option maxRecDepth 100000 in
theorem pfl_33 : pFlF (1, 25, 1, 3, 1092) := ⟨_, rfl, Nat.le_of_ble_eq_true rfl, pHas 1 92 rfl rfl, rfl⟩
set_option maxRecDepth 100000 in
theorem pfl_34 : pFlF (3, 54, 1, 3, 1093) := ⟨_, rfl, Nat.le_of_ble_eq_true rfl, pHas 1 93 rfl rfl, rfl⟩
set_option maxRecDepth 100000 in
theorem pfl_35 : pFlF (1, 28, 1, 4, 1094) := ⟨_, rfl, Nat.le_of_ble_eq_true rfl, pHas 1 94 rfl rfl, rfl⟩
set_option maxRecDepth 100000 in
theorem pfl_36 : pFlF (6, 26, 1, 4, 1095) := ⟨_, rfl, Nat.le_of_ble_eq_true rfl, pHas 1 95 rfl rfl, rfl⟩
set_option maxRecDepth 100000 in
theorem pfl_37 : pFlF (7, 47, 1, 4, 1096) := ⟨_, rfl, Nat.le_of_ble_eq_true rfl, pHas 1 96 rfl rfl, rfl⟩
set_option maxRecDepth 100000 in
theorem pfl_38 : pFlF (8, 343, 1, 4, 1097) := ⟨_, rfl, Nat.le_of_ble_eq_true rfl, pHas 1 97 rfl rfl, rfl⟩
set_option maxRecDepth 100000 in
theorem pfl_39 : pFlF (1, 31, 1, 5, 1098) := ⟨_, rfl, Nat.le_of_ble_eq_true rfl, pHas 1 98 rfl rfl, rfl⟩
set_option maxRecDepth 100000 in
theorem pfl_40 : pFlF (7, 24, 1, 5, 1099) := ⟨_, rfl, Nat.le_of_ble_eq_true rfl, pHas 1 99 rfl rfl, rfl⟩
set_option maxRecDepth 100000 in
theorem pfl_41 : pFlF (8, 233, 1, 5, 1100) := ⟨_, rfl, Nat.le_of_ble_eq_true rfl, pHas 1 100 rfl rfl, rfl⟩
set_option maxRecDepth 100000 in
theorem pfl_42 : pFlF (1, 35, 1, 6, 1101) := ⟨_, rfl, Nat.le_of_ble_eq_true rfl, pHas 1 101 rfl rfl, rfl⟩
set_option maxRecDepth 100000 in
theorem pfl_43 : pFlF (8, 164, 1, 6, 1102) := ⟨_, rfl, Nat.le_of_ble_eq_true rfl, pHas 1 102 rfl rfl, rfl⟩
set_option maxRecDepth 100000 in
theorem pfl_44 : pFlF (4, 31, 1, 7, 1103) := ⟨_, rfl, Nat.le_of_ble_eq_true rfl, pHas 1 103 rfl rfl, rfl⟩
set_option maxRecDepth 100000 in
theorem pfl_45 : pFlF (1, 78, 1, 7, 1104) := ⟨_, rfl, Nat.le_of_ble_eq_true rfl, pHas 1 104 rfl rfl, rfl⟩
set_option maxRecDepth 100000 in
theorem pfl_46 : pFlF (3, 51, 1, 7, 1105) := ⟨_, rfl, Nat.le_of_ble_eq_true rfl, pHas 1 105 rfl rfl, rfl⟩
set_option maxRecDepth 100000 in
theorem pfl_47 : pFlF (8, 197, 1, 7, 1106) := ⟨_, rfl, Nat.le_of_ble_eq_true rfl, pHas 1 106 rfl rfl, rfl⟩
set_option maxRecDepth 100000 in
theorem pfl_48 : pFlF (6, 35, 1, 8, 1107) := ⟨_, rfl, Nat.le_of_ble_eq_true rfl, pHas 1 107 rfl rfl, rfl⟩
set_option maxRecDepth 100000 in
theorem pfl_49 : pFlF (7, 36, 1, 8, 1108) := ⟨_, rfl, Nat.le_of_ble_eq_true rfl, pHas 1 108 rfl rfl, rfl⟩
set_option maxRecDepth 100000 in
theorem pfl_50 : pFlF (1, 155, 1, 8, 1109) := ⟨_, rfl, Nat.le_of_ble_eq_true rfl, pHas 1 109 rfl rfl, rfl⟩
set_option maxRecDepth 100000 in
theorem pfl_51 : pFlF (8, 204, 1, 8, 1110) := ⟨_, rfl, Nat.le_of_ble_eq_true rfl, pHas 1 110 rfl rfl, rfl⟩
set_option maxRecDepth 100000 in
theorem pfl_52 : pFlF (1, 38, 1, 9, 1111) := ⟨_, rfl, Nat.le_of_ble_eq_true rfl, pHas 1 111 rfl rfl, rfl⟩
set_option maxRecDepth 100000 in
theorem pfl_53 : pFlF (1, 41, 1, 10, 1112) := ⟨_, rfl, Nat.le_of_ble_eq_true rfl, pHas 1 112 rfl rfl, rfl⟩
set_option maxRecDepth 100000 in
theorem pfl_54 : pFlF (1, 44, 1, 11, 1113) := ⟨_, rfl, Nat.le_of_ble_eq_true rfl, pHas 1 113 rfl rfl, rfl⟩
set_option maxRecDepth 100000 in
theorem pfl_55 : pFlF (1, 185, 1, 12, 1114) := ⟨_, rfl, Nat.le_of_ble_eq_true rfl, pHas 1 114 rfl rfl, rfl⟩
set_option maxRecDepth 100000 in
theorem pfl_56 : pFlF (3, 9, 3, 0, 1148) := ⟨_, rfl, Nat.le_of_ble_eq_true rfl, pHas 1 148 rfl rfl, rfl⟩
set_option maxRecDepth 100000 in
theorem pfl_57 : pFlF (3, 15, 3, 1, 1149) := ⟨_, rfl, Nat.le_of_ble_eq_true rfl, pHas 1 149 rfl rfl, rfl⟩
set_option maxRecDepth 100000 in
theorem pfl_58 : pFlF (3, 19, 3, 2, 1150) := ⟨_, rfl, Nat.le_of_ble_eq_true rfl, pHas 1 150 rfl rfl, rfl⟩
set_option maxRecDepth 100000 in
theorem pfl_59 : pFlF (8, 184, 3, 2, 1151) := ⟨_, rfl, Nat.le_of_ble_eq_true rfl, pHas 1 151 rfl rfl, rfl⟩
set_option maxRecDepth 100000 in
theorem pfl_60 : pFlF (4, 9, 4, 0, 1165) := ⟨_, rfl, Nat.le_of_ble_eq_true rfl, pHas 1 165 rfl rfl, rfl⟩
set_option maxRecDepth 100000 in
theorem pfl_61 : pFlF (8, 297, 4, 0, 1166) := ⟨_, rfl, Nat.le_of_ble_eq_true rfl, pHas 1 166 rfl rfl, rfl⟩
set_option maxRecDepth 100000 in
theorem pfl_62 : pFlF (4, 15, 4, 1, 1167) := ⟨_, rfl, Nat.le_of_ble_eq_true rfl, pHas 1 167 rfl rfl, rfl⟩
set_option maxRecDepth 100000 in
theorem pfl_63 : pFlF (8, 306, 4, 1, 1168) := ⟨_, rfl, Nat.le_of_ble_eq_true rfl, pHas 1 168 rfl rfl, rfl⟩
set_option maxRecDepth 100000 in
theorem pfl_64 : pFlF (4, 21, 4, 2, 1169) := ⟨_, rfl, Nat.le_of_ble_eq_true rfl, pHas 1 169 rfl rfl, rfl⟩
set_option maxRecDepth 100000 in
theorem pfl_65 : pFlF (8, 228, 4, 2, 1170) := ⟨_, rfl, Nat.le_of_ble_eq_true rfl, pHas 1 170 rfl rfl, rfl⟩
set_option maxRecDepth 100000 in
theorem pfl_66 : pFlF (4, 18, 4, 3, 1171) := ⟨_, rfl, Nat.le_of_ble_eq_true rfl, pHas 1 171 rfl rfl, rfl⟩
set_option maxRecDepth 100000 in
theorem pfl_67 : pFlF (7, 9, 7, 0, 1187) := ⟨_, rfl, Nat.le_of_ble_eq_true rfl, pHas 1 187 rfl rfl, rfl⟩
set_option maxRecDepth 100000 in
theorem pfl_68 : pFlF (8, 349, 7, 0, 1188) := ⟨_, rfl, Nat.le_of_ble_eq_true rfl, pHas 1 188 rfl rfl, rfl⟩
set_option maxRecDepth 100000 in
theorem pfl_69 : pFlF (7, 15, 7, 1, 1189) := ⟨_, rfl, Nat.le_of_ble_eq_true rfl, pHas 1 189 rfl rfl, rfl⟩
set_option maxRecDepth 100000 in
theorem pfl_70 : pFlF (2, 9, 2, 0, 1201) := ⟨_, rfl, Nat.le_of_ble_eq_true rfl, pHas 1 201 rfl rfl, rfl⟩
set_option maxRecDepth 100000 in
theorem pfl_71 : pFlF (8, 378, 2, 0, 1202) := ⟨_, rfl, Nat.le_of_ble_eq_true rfl, pHas 1 202 rfl rfl, rfl⟩
set_option maxRecDepth 100000 in
theorem pfl_72 : pFlF (2, 38, 2, 1, 1203) := ⟨_, rfl, Nat.le_of_ble_eq_true rfl, pHas 1 203 rfl rfl, rfl⟩
set_option maxRecDepth 100000 in
theorem pfl_73 : pFlF (8, 281, 2, 1, 1204) := ⟨_, rfl, Nat.le_of_ble_eq_true rfl, pHas 1 204 rfl rfl, rfl⟩
set_option maxRecDepth 100000 in
theorem pfl_74 : pFlF (2, 15, 2, 2, 1205) := ⟨_, rfl, Nat.le_of_ble_eq_true rfl, pHas 1 205 rfl rfl, rfl⟩
set_option maxRecDepth 100000 in
theorem pfl_75 : pFlF (6, 9, 6, 0, 1219) := ⟨_, rfl, Nat.le_of_ble_eq_true rfl, pHas 1 219 rfl rfl, rfl⟩
set_option maxRecDepth 100000 in
theorem pfl_76 : pFlF (8, 340, 6, 0, 1220) := ⟨_, rfl, Nat.le_of_ble_eq_true rfl, pHas 1 220 rfl rfl, rfl⟩
set_option maxRecDepth 100000 in
theorem pfl_77 : pFlF (6, 18, 6, 1, 1221) := ⟨_, rfl, Nat.le_of_ble_eq_true rfl, pHas 1 221 rfl rfl, rfl⟩
set_option maxRecDepth 100000 in
theorem pfl_78 : pFlF (8, 339, 6, 1, 1222) := ⟨_, rfl, Nat.le_of_ble_eq_true rfl, pHas 1 222 rfl rfl, rfl⟩
set_option maxRecDepth 100000 in
theorem pfl_79 : pFlF (6, 15, 6, 2, 1223) := ⟨_, rfl, Nat.le_of_ble_eq_true rfl, pHas 1 223 rfl rfl, rfl⟩
set_option maxRecDepth 100000 in
theorem pfl_80 : pFlF (0, 9, 0, 0, 1237) := ⟨_, rfl, Nat.le_of_ble_eq_true rfl, pHas 1 237 rfl rfl, rfl⟩
set_option maxRecDepth 100000 in
theorem pfl_81 : pFlF (8, 387, 0, 0, 1238) := ⟨_, rfl, Nat.le_of_ble_eq_true rfl, pHas 1 238 rfl rfl, rfl⟩
set_option maxRecDepth 100000 in
theorem pfl_82 : pFlF (0, 15, 0, 1, 1239) := ⟨_, rfl, Nat.le_of_ble_eq_true rfl, pHas 1 239 rfl rfl, rfl⟩
set_option maxRecDepth 100000 in
theorem pfl_83 : pFlF (8, 386, 0, 1, 2000) := ⟨_, rfl, Nat.le_of_ble_eq_true rfl, pHas 2 0 rfl rfl, rfl⟩
set_option maxRecDepth 100000 in
theorem pfl_84 : pFlF (8, 12, 8, 0, 2060) := ⟨_, rfl, Nat.le_of_ble_eq_true rfl, pHas 2 60 rfl rfl, rfl⟩
set_option maxRecDepth 100000 in
theorem pfl_85 : pFlF (8, 16, 8, 1, 2061) := ⟨_, rfl, Nat.le_of_ble_eq_true rfl, pHas 2 61 rfl rfl, rfl⟩
set_option maxRecDepth 100000 in
theorem pfl_86 : pFlF (8, 22, 8, 2, 2062) := ⟨_, rfl, Nat.le_of_ble_eq_true rfl, pHas 2 62 rfl rfl, rfl⟩
set_option maxRecDepth 100000 in
theorem pfl_87 : pFlF (8, 26, 8, 3, 2063) := ⟨_, rfl, Nat.le_of_ble_eq_true rfl, pHas 2 63 rfl rfl, rfl⟩
set_option maxRecDepth 100000 in
theorem pfl_88 : pFlF (8, 32, 8, 4, 2064) := ⟨_, rfl, Nat.le_of_ble_eq_true rfl, pHas 2 64 rfl rfl, rfl⟩
set_option maxRecDepth 100000 in
theorem pfl_89 : pFlF (8, 39, 8, 5, 2065) := ⟨_, rfl, Nat.le_of_ble_eq_true rfl, pHas 2 65 rfl rfl, rfl⟩
set_option maxRecDepth 100000 in
theorem pfl_90 : pFlF (8, 46, 8, 6, 2066) := ⟨_, rfl, Nat.le_of_ble_eq_true rfl, pHas 2 66 rfl rfl, rfl⟩
set_option maxRecDepth 100000 in
theorem pfl_91 : pFlF (8, 53, 8, 7, 2067) := ⟨_, rfl, Nat.le_of_ble_eq_true rfl, pHas 2 67 rfl rfl, rfl⟩
set_option maxRecDepth 100000 in
theorem pfl_92 : pFlF (8, 60, 8, 8, 2068) := ⟨_, rfl, Nat.le_of_ble_eq_true rfl, pHas 2 68 rfl rfl, rfl⟩
set_option maxRecDepth 100000 in
theorem pfl_93 : pFlF (8, 64, 8, 9, 2069) := ⟨_, rfl, Nat.le_of_ble_eq_true rfl, pHas 2 69 rfl rfl, rfl⟩
set_option maxRecDepth 100000 in
theorem pfl_94 : pFlF (9, 8, 9, 0, 5229) := ⟨_, rfl, Nat.le_of_ble_eq_true rfl, pHas 5 229 rfl rfl, rfl⟩
set_option maxRecDepth 100000 in
theorem pfl_95 : pFlF (9, 14, 9, 1, 5230) := ⟨_, rfl, Nat.le_of_ble_eq_true rfl, pHas 5 230 rfl rfl, rfl⟩
set_option maxRecDepth 100000 in
theorem pfl_96 : pFlF (9, 17, 9, 2, 5231) := ⟨_, rfl, Nat.le_of_ble_eq_true rfl, pHas 5 231 rfl rfl, rfl⟩
set_option maxRecDepth 100000 in
theorem pfl_97 : pFlF (9, 20, 9, 3, 5232) := ⟨_, rfl, Nat.le_of_ble_eq_true rfl, pHas 5 232 rfl rfl, rfl⟩
set_option maxRecDepth 100000 in
theorem pfl_98 : pFlF (9, 134, 9, 4, 5233) := ⟨_, rfl, Nat.le_of_ble_eq_true rfl, pHas 5 233 rfl rfl, rfl⟩
set_option maxRecDepth 100000 in
theorem pfl_99 : pFlF (9, 23, 9, 5, 5234) := ⟨_, rfl, Nat.le_of_ble_eq_true rfl, pHas 5 234 rfl rfl, rfl⟩
set_option maxRecDepth 100000 in
theorem pfl_100 : pFlF (9, 26, 9, 6, 5235) := ⟨_, rfl, Nat.le_of_ble_eq_true rfl, pHas 5 235 rfl rfl, rfl⟩
set_option maxRecDepth 100000 in
theorem pfl_101 : pFlF (9, 30, 9, 7, 5236) := ⟨_, rfl, Nat.le_of_ble_eq_true rfl, pHas 5 236 rfl rfl, rfl⟩
set_option maxRecDepth 100000 in
theorem pfl_102 : pFlF (9, 33, 9, 8, 5237) := ⟨_, rfl, Nat.le_of_ble_eq_true rfl, pHas 5 237 rfl rfl, rfl⟩
set_option maxRecDepth 100000 in
theorem pfl_103 : pFlF (9, 36, 9, 9, 5238) := ⟨_, rfl, Nat.le_of_ble_eq_true rfl, pHas 5 238 rfl rfl, rfl⟩
set_option maxRecDepth 100000 in
theorem pfl_104 : pFlF (9, 39, 9, 10, 5239) := ⟨_, rfl, Nat.le_of_ble_eq_true rfl, pHas 5 239 rfl rfl, rfl⟩
set_option maxRecDepth 100000 in
theorem pfl_105 : pFlF (9, 42, 9, 11, 6000) := ⟨_, rfl, Nat.le_of_ble_eq_true rfl, pHas 6 0 rfl rfl, rfl⟩
set_option maxRecDepth 100000 in
theorem pfl_106 : pFlF (9, 45, 9, 12, 6001) := ⟨_, rfl, Nat.le_of_ble_eq_true rfl, pHas 6 1 rfl rfl, rfl⟩
set_option maxRecDepth 100000 in
theorem pfl_107 : pFlF (9, 336, 9, 13, 6002) := ⟨_, rfl, Nat.le_of_ble_eq_true rfl, pHas 6 2 rfl rfl, rfl⟩
set_option maxRecDepth 100000 in
theorem pfl_108 : pFlF (9, 339, 9, 14, 6003) := ⟨_, rfl, Nat.le_of_ble_eq_true rfl, pHas 6 3 rfl rfl, rfl⟩
set_option maxRecDepth 100000 in
theorem pfl_109 : pFlF (9, 48, 9, 15, 6004) := ⟨_, rfl, Nat.le_of_ble_eq_true rfl, pHas 6 4 rfl rfl, rfl⟩
set_option maxRecDepth 100000 in
theorem pfl_110 : pFlF (9, 366, 9, 16, 6005) := ⟨_, rfl, Nat.le_of_ble_eq_true rfl, pHas 6 5 rfl rfl, rfl⟩
set_option maxRecDepth 100000 in
theorem pfl_111 : pFlF (9, 51, 9, 17, 6006) := ⟨_, rfl, Nat.le_of_ble_eq_true rfl, pHas 6 6 rfl rfl, rfl⟩
set_option maxRecDepth 100000 in
theorem pfl_112 : pFlF (9, 392, 9, 18, 6007) := ⟨_, rfl, Nat.le_of_ble_eq_true rfl, pHas 6 7 rfl rfl, rfl⟩
set_option maxRecDepth 100000 in
theorem pFl_all : ∀ q ∈ pFlL, pFlF q := List.forall_mem_cons.mpr ⟨pfl_0, List.forall_mem_cons.mpr ⟨pfl_1, List.forall_mem_cons.mpr ⟨pfl_2, List.forall_mem_cons.mpr ⟨pfl_3, List.forall_mem_cons.mpr ⟨pfl_4, List.forall_mem_cons.mpr ⟨pfl_5, List.forall_mem_cons.mpr ⟨pfl_6, List.forall_mem_cons.mpr ⟨pfl_7, List.forall_mem_cons.mpr ⟨pfl_8, List.forall_mem_cons.mpr ⟨pfl_9, List.forall_mem_cons.mpr ⟨pfl_10, List.forall_mem_cons.mpr ⟨pfl_11, List.forall_mem_cons.mpr ⟨pfl_12, List.forall_mem_cons.mpr ⟨pfl_13, List.forall_mem_cons.mpr ⟨pfl_14, List.forall_mem_cons.mpr ⟨pfl_15, List.forall_mem_cons.mpr ⟨pfl_16, List.forall_mem_cons.mpr ⟨pfl_17, List.forall_mem_cons.mpr ⟨pfl_18, List.forall_mem_cons.mpr ⟨pfl_19, List.forall_mem_cons.mpr ⟨pfl_20, List.forall_mem_cons.mpr ⟨pfl_21, List.forall_mem_cons.mpr ⟨pfl_22, List.forall_mem_cons.mpr ⟨pfl_23, List.forall_mem_cons.mpr ⟨pfl_24, List.forall_mem_cons.mpr ⟨pfl_25, List.forall_mem_cons.mpr ⟨pfl_26, List.forall_mem_cons.mpr ⟨pfl_27, List.forall_mem_cons.mpr ⟨pfl_28, List.forall_mem_cons.mpr ⟨pfl_29, List.forall_mem_cons.mpr ⟨pfl_30, List.forall_mem_cons.mpr ⟨pfl_31, List.forall_mem_cons.mpr ⟨pfl_32, List.forall_mem_cons.mpr ⟨pfl_33, List.forall_mem_cons.mpr ⟨pfl_34, List.forall_mem_cons.mpr ⟨pfl_35, List.forall_mem_cons.mpr ⟨pfl_36, List.forall_mem_cons.mpr ⟨pfl_37, List.forall_mem_cons.mpr ⟨pfl_38, List.forall_mem_cons.mpr ⟨pfl_39, List.forall_mem_cons.mpr ⟨pfl_40, List.forall_mem_cons.mpr ⟨pfl_41, List.forall_mem_cons.mpr ⟨pfl_42, List.forall_mem_cons.mpr ⟨pfl_43, List.forall_mem_cons.mpr ⟨pfl_44, List.forall_mem_cons.mpr ⟨pfl_45, List.forall_mem_cons.mpr ⟨pfl_46, List.forall_mem_cons.mpr ⟨pfl_47, List.forall_mem_cons.mpr ⟨pfl_48, List.forall_mem_cons.mpr ⟨pfl_49, List.forall_mem_cons.mpr ⟨pfl_50, List.forall_mem_cons.mpr ⟨pfl_51, List.forall_mem_cons.mpr ⟨pfl_52, List.forall_mem_cons.mpr ⟨pfl_53, List.forall_mem_cons.mpr ⟨pfl_54, List.forall_mem_cons.mpr ⟨pfl_55, List.forall_mem_cons.mpr ⟨pfl_56, List.forall_mem_cons.mpr ⟨pfl_57, List.forall_mem_cons.mpr ⟨pfl_58, List.forall_mem_cons.mpr ⟨pfl_59, List.forall_mem_cons.mpr ⟨pfl_60, List.forall_mem_cons.mpr ⟨pfl_61, List.forall_mem_cons.mpr ⟨pfl_62, List.forall_mem_cons.mpr ⟨pfl_63, List.forall_mem_cons.mpr ⟨pfl_64, List.forall_mem_cons.mpr ⟨pfl_65, List.forall_mem_cons.mpr ⟨pfl_66, List.forall_mem_cons.mpr ⟨pfl_67, List.forall_mem_cons.mpr ⟨pfl_68, List.forall_mem_cons.mpr ⟨pfl_69, List.forall_mem_cons.mpr ⟨pfl_70, List.forall_mem_cons.mpr ⟨pfl_71, List.forall_mem_cons.mpr ⟨pfl_72, List.forall_mem_cons.mpr ⟨pfl_73, List.forall_mem_cons.mpr ⟨pfl_74, List.forall_mem_cons.mpr ⟨pfl_75, List.forall_mem_cons.mpr ⟨pfl_76, List.forall_mem_cons.mpr ⟨pfl_77, List.forall_mem_cons.mpr ⟨pfl_78, List.forall_mem_cons.mpr ⟨pfl_79, List.forall_mem_cons.mpr ⟨pfl_80, List.forall_mem_cons.mpr ⟨pfl_81, List.forall_mem_cons.mpr ⟨pfl_82, List.forall_mem_cons.mpr ⟨pfl_83, List.forall_mem_cons.mpr ⟨pfl_84, List.forall_mem_cons.mpr ⟨pfl_85, List.forall_mem_cons.mpr ⟨pfl_86, List.forall_mem_cons.mpr ⟨pfl_87, List.forall_mem_cons.mpr ⟨pfl_88, List.forall_mem_cons.mpr ⟨pfl_89, List.forall_mem_cons.mpr ⟨pfl_90, List.forall_mem_cons.mpr ⟨pfl_91, List.forall_mem_cons.mpr ⟨pfl_92, List.forall_mem_cons.mpr ⟨pfl_93, List.forall_mem_cons.mpr ⟨pfl_94, List.forall_mem_cons.mpr ⟨pfl_95, List.forall_mem_cons.mpr ⟨pfl_96, List.forall_mem_cons.mpr ⟨pfl_97, List.forall_mem_cons.mpr ⟨pfl_98, List.forall_mem_cons.mpr ⟨pfl_99, List.forall_mem_cons.mpr ⟨pfl_100, List.forall_mem_cons.mpr ⟨pfl_101, List.forall_mem_cons.mpr ⟨pfl_102, List.forall_mem_cons.mpr ⟨pfl_103, List.forall_mem_cons.mpr ⟨pfl_104, List.forall_mem_cons.mpr ⟨pfl_105, List.forall_mem_cons.mpr ⟨pfl_106, List.forall_mem_cons.mpr ⟨pfl_107, List.forall_mem_cons.mpr ⟨pfl_108, List.forall_mem_cons.mpr ⟨pfl_109, List.forall_mem_cons.mpr ⟨pfl_110, List.forall_mem_cons.mpr ⟨pfl_111, List.forall_mem_cons.mpr ⟨pfl_112, (fun _ h => absurd h List.not_mem_nil)⟩⟩⟩⟩⟩⟩⟩⟩⟩⟩⟩⟩⟩⟩⟩⟩⟩⟩⟩⟩⟩⟩⟩⟩⟩⟩⟩⟩⟩⟩⟩⟩⟩⟩⟩⟩⟩⟩⟩⟩⟩⟩⟩⟩⟩⟩⟩⟩⟩⟩⟩⟩⟩⟩⟩⟩⟩⟩⟩⟩⟩⟩⟩⟩⟩⟩⟩⟩⟩⟩⟩⟩⟩⟩⟩⟩⟩⟩⟩⟩⟩⟩⟩⟩⟩⟩⟩⟩⟩⟩⟩⟩⟩⟩⟩⟩⟩⟩⟩⟩⟩⟩⟩⟩⟩⟩⟩⟩⟩⟩⟩⟩⟩
set_option maxRecDepth 100000 in
theorem pnw_0 : pNwF (21, 7, 8, 1018, 1019, 1001) := ⟨_, rfl, pHas 1 18 rfl rfl, pHas 1 19 rfl rfl, pHas 1 1 rfl rfl⟩
set_option maxRecDepth 100000 in
theorem pnw_1 : pNwF (8, 9, 1, 1026, 1027, 1002) := ⟨_, rfl, pHas 1 26 rfl rfl, pHas 1 27 rfl rfl, pHas 1 2 rfl rfl⟩
set_option maxRecDepth 100000 in
theorem pnw_2 : pNwF (1, 9, 5, 1032, 1033, 1003) := ⟨_, rfl, pHas 1 32 rfl rfl, pHas 1 33 rfl rfl, pHas 1 3 rfl rfl⟩
set_option maxRecDepth 100000 in
theorem pnw_3 : pNwF (8, 19, 3, 1142, 1143, 1004) := ⟨_, rfl, pHas 1 142 rfl rfl, pHas 1 143 rfl rfl, pHas 1 4 rfl rfl⟩
set_option maxRecDepth 100000 in
theorem pnw_4 : pNwF (8, 29, 4, 1159, 1160, 1005) := ⟨_, rfl, pHas 1 159 rfl rfl, pHas 1 160 rfl rfl, pHas 1 5 rfl rfl⟩
set_option maxRecDepth 100000 in
theorem pnw_5 : pNwF (8, 36, 7, 1181, 1182, 1006) := ⟨_, rfl, pHas 1 181 rfl rfl, pHas 1 182 rfl rfl, pHas 1 6 rfl rfl⟩
set_option maxRecDepth 100000 in
theorem pnw_6 : pNwF (8, 43, 2, 1195, 1196, 1007) := ⟨_, rfl, pHas 1 195 rfl rfl, pHas 1 196 rfl rfl, pHas 1 7 rfl rfl⟩
set_option maxRecDepth 100000 in
theorem pnw_7 : pNwF (8, 50, 6, 1213, 1214, 1008) := ⟨_, rfl, pHas 1 213 rfl rfl, pHas 1 214 rfl rfl, pHas 1 8 rfl rfl⟩
set_option maxRecDepth 100000 in
theorem pnw_8 : pNwF (8, 57, 0, 1231, 1232, 1009) := ⟨_, rfl, pHas 1 231 rfl rfl, pHas 1 232 rfl rfl, pHas 1 9 rfl rfl⟩
set_option maxRecDepth 100000 in
theorem pnw_9 : pNwF (21, 10, 9, 5105, 5106, 1012) := ⟨_, rfl, pHas 5 105 rfl rfl, pHas 5 106 rfl rfl, pHas 1 12 rfl rfl⟩
set_option maxRecDepth 100000 in
theorem pNw_all : ∀ q ∈ pNwL, pNwF q := List.forall_mem_cons.mpr ⟨pnw_0, List.forall_mem_cons.mpr ⟨pnw_1, List.forall_mem_cons.mpr ⟨pnw_2, List.forall_mem_cons.mpr ⟨pnw_3, List.forall_mem_cons.mpr ⟨pnw_4, List.forall_mem_cons.mpr ⟨pnw_5, List.forall_mem_cons.mpr ⟨pnw_6, List.forall_mem_cons.mpr ⟨pnw_7, List.forall_mem_cons.mpr ⟨pnw_8, List.forall_mem_cons.mpr ⟨pnw_9, (fun _ h => absurd h List.not_mem_nil)⟩⟩⟩⟩⟩⟩⟩⟩⟩⟩
set_option maxRecDepth 100000 in
theorem pki_0 : pKiF (1, 148, 1000000, 2185) := pHas 2 185 rfl rfl
set_option maxRecDepth 100000 in
theorem pki_1 : pKiF (8, 232, -100000, 4019) := pHas 4 19 rfl rfl
set_option maxRecDepth 100000 in
theorem pki_2 : pKiF (9, 7, 37340, 5111) := pHas 5 111 rfl rfl
set_option maxRecDepth 100000 in
theorem pki_3 : pKiF (9, 262, -100000, 7045) := pHas 7 45 rfl rfl
set_option maxRecDepth 100000 in
theorem pKi_all : ∀ q ∈ pKiL, pKiF q := List.forall_mem_cons.mpr ⟨pki_0, List.forall_mem_cons.mpr ⟨pki_1, List.forall_mem_cons.mpr ⟨pki_2, List.forall_mem_cons.mpr ⟨pki_3, (fun _ h => absurd h List.not_mem_nil)⟩⟩⟩⟩
set_option maxRecDepth 100000 in
theorem pkl_0 : pKlF (5, 54, -1, 2180) := pHas 2 180 rfl rfl
set_option maxRecDepth 100000 in
theorem pkl_1 : pKlF (1, 188, -1, 2186) := pHas 2 186 rfl rfl
set_option maxRecDepth 100000 in
theorem pkl_2 : pKlF (14, 314, 6148914691236517205, 3174) := pHas 3 174 rfl rfl
set_option maxRecDepth 100000 in
theorem pkl_3 : pKlF (14, 316, 3689348814741910323, 3175) := pHas 3 175 rfl rfl
set_option maxRecDepth 100000 in
theorem pkl_4 : pKlF (14, 318, 1085102592571150095, 3176) := pHas 3 176 rfl rfl
set_option maxRecDepth 100000 in
theorem pkl_5 : pKlF (7, 22, -1, 4102) := pHas 4 102 rfl rfl
set_option maxRecDepth 100000 in
theorem pkl_6 : pKlF (8, 328, 1075, 4189) := pHas 4 189 rfl rfl
set_option maxRecDepth 100000 in
theorem pkl_7 : pKlF (8, 334, 4503599627370496, 4192) := pHas 4 192 rfl rfl
set_option maxRecDepth 100000 in
theorem pkl_8 : pKlF (12, 137, 9221120237041090560, 8075) := pHas 8 75 rfl rfl
set_option maxRecDepth 100000 in
theorem pKl_all : ∀ q ∈ pKlL, pKlF q := List.forall_mem_cons.mpr ⟨pkl_0, List.forall_mem_cons.mpr ⟨pkl_1, List.forall_mem_cons.mpr ⟨pkl_2, List.forall_mem_cons.mpr ⟨pkl_3, List.forall_mem_cons.mpr ⟨pkl_4, List.forall_mem_cons.mpr ⟨pkl_5, List.forall_mem_cons.mpr ⟨pkl_6, List.forall_mem_cons.mpr ⟨pkl_7, List.forall_mem_cons.mpr ⟨pkl_8, (fun _ h => absurd h List.not_mem_nil)⟩⟩⟩⟩⟩⟩⟩⟩⟩
set_option maxRecDepth 100000 in
theorem pkd_0 : pKdF (8, 330, 4841369599423283200, 4190) := pHas 4 190 rfl rfl
set_option maxRecDepth 100000 in
theorem pkd_1 : pKdF (8, 332, 4611686018427387904, 4191) := pHas 4 191 rfl rfl
set_option maxRecDepth 100000 in
theorem pKd_all : ∀ q ∈ pKdL, pKdF q := List.forall_mem_cons.mpr ⟨pkd_0, List.forall_mem_cons.mpr ⟨pkd_1, (fun _ h => absurd h List.not_mem_nil)⟩⟩
set_option maxRecDepth 100000 in
theorem pca_0 : pCaF (21, 9, 3, 114, 0, 1020, 1021, 1001, 1022, 0) := ⟨pHas 1 20 rfl rfl, pHas 1 21 rfl rfl, rfl, rfl⟩
set_option maxRecDepth 100000 in
theorem pca_1 : pCaF (8, 3, 0, 0, 0, 1023, 1024, 0, 0, 0) := ⟨pHas 1 23 rfl rfl, pHas 1 24 rfl rfl⟩
set_option maxRecDepth 100000 in
theorem pca_2 : pCaF (8, 11, 5, 4, 0, 1028, 1029, 1002, 1030, 0) := ⟨pHasN 1 28 rfl rfl, pHas 1 29 rfl rfl, rfl, rfl⟩
set_option maxRecDepth 100000 in
theorem pca_3 : pCaF (1, 3, 0, 0, 0, 1031, 1024, 0, 0, 0) := ⟨pHas 1 31 rfl rfl, pHas 1 24 rfl rfl⟩
set_option maxRecDepth 100000 in
theorem pca_4 : pCaF (1, 11, 5, 78, 0, 1034, 1035, 1003, 1036, 0) := ⟨pHasN 1 34 rfl rfl, pHas 1 35 rfl rfl, rfl, rfl⟩
set_option maxRecDepth 100000 in
theorem pca_5 : pCaF (5, 3, 0, 0, 0, 1037, 1024, 0, 0, 0) := ⟨pHas 1 37 rfl rfl, pHas 1 24 rfl rfl⟩
set_option maxRecDepth 100000 in
theorem pca_6 : pCaF (8, 21, 5, 63, 0, 1144, 1145, 1004, 1146, 0) := ⟨pHasN 1 144 rfl rfl, pHas 1 145 rfl rfl, rfl, rfl⟩
set_option maxRecDepth 100000 in
theorem pca_7 : pCaF (3, 3, 0, 0, 0, 1147, 1024, 0, 0, 0) := ⟨pHas 1 147 rfl rfl, pHas 1 24 rfl rfl⟩
set_option maxRecDepth 100000 in
theorem pca_8 : pCaF (8, 31, 5, 71, 0, 1161, 1162, 1005, 1163, 0) := ⟨pHasN 1 161 rfl rfl, pHas 1 162 rfl rfl, rfl, rfl⟩
set_option maxRecDepth 100000 in
theorem pca_9 : pCaF (4, 3, 0, 0, 0, 1164, 1024, 0, 0, 0) := ⟨pHas 1 164 rfl rfl, pHas 1 24 rfl rfl⟩
set_option maxRecDepth 100000 in
theorem pca_10 : pCaF (8, 38, 5, 106, 0, 1183, 1184, 1006, 1185, 0) := ⟨pHasN 1 183 rfl rfl, pHas 1 184 rfl rfl, rfl, rfl⟩
set_option maxRecDepth 100000 in
theorem pca_11 : pCaF (7, 3, 0, 0, 0, 1186, 1024, 0, 0, 0) := ⟨pHas 1 186 rfl rfl, pHas 1 24 rfl rfl⟩
set_option maxRecDepth 100000 in
theorem pca_12 : pCaF (8, 45, 5, 57, 0, 1197, 1198, 1007, 1199, 0) := ⟨pHasN 1 197 rfl rfl, pHas 1 198 rfl rfl, rfl, rfl⟩
set_option maxRecDepth 100000 in
theorem pca_13 : pCaF (2, 3, 0, 0, 0, 1200, 1024, 0, 0, 0) := ⟨pHas 1 200 rfl rfl, pHas 1 24 rfl rfl⟩
set_option maxRecDepth 100000 in
theorem pca_14 : pCaF (8, 52, 5, 102, 0, 1215, 1216, 1008, 1217, 0) := ⟨pHasN 1 215 rfl rfl, pHas 1 216 rfl rfl, rfl, rfl⟩
set_option maxRecDepth 100000 in
theorem pca_15 : pCaF (6, 3, 0, 0, 0, 1218, 1024, 0, 0, 0) := ⟨pHas 1 218 rfl rfl, pHas 1 24 rfl rfl⟩
set_option maxRecDepth 100000 in
theorem pca_16 : pCaF (8, 59, 5, 0, 0, 1233, 1234, 1009, 1235, 0) := ⟨pHasN 1 233 rfl rfl, pHas 1 234 rfl rfl, rfl, rfl⟩
set_option maxRecDepth 100000 in
theorem pca_17 : pCaF (0, 3, 0, 0, 0, 1236, 1024, 0, 0, 0) := ⟨pHas 1 236 rfl rfl, pHas 1 24 rfl rfl⟩
set_option maxRecDepth 100000 in
theorem pca_18 : pCaF (8, 68, 1, 5, 0, 2006, 2007, 1002, 2009, 2008) := ⟨pHas 2 6 rfl rfl, pHas 2 7 rfl rfl, pHas 2 8 rfl rfl⟩
set_option maxRecDepth 100000 in
theorem pca_19 : pCaF (1, 47, 1, 84, 3, 2010, 2011, 1003, 2013, 2012) := ⟨pHas 2 10 rfl rfl, pHas 2 11 rfl rfl, pHas 2 12 rfl rfl⟩
set_option maxRecDepth 100000 in
theorem pca_20 : pCaF (1, 55, 2, 356, 2, 2014, 2015, 1010, 2016, 0) := ⟨pHas 2 14 rfl rfl, pHas 2 15 rfl rfl⟩
set_option maxRecDepth 100000 in
theorem pca_21 : pCaF (1, 61, 1, 92, 2, 2017, 2018, 1003, 2020, 2019) := ⟨pHas 2 17 rfl rfl, pHas 2 18 rfl rfl, pHas 2 19 rfl rfl⟩
set_option maxRecDepth 100000 in
theorem pca_22 : pCaF (1, 65, 1, 19, 3, 2021, 2023, 1002, 2024, 0) := ⟨pHas 2 21 rfl rfl, pHas 2 23 rfl rfl, pHas 0 0 rfl rfl⟩
set_option maxRecDepth 100000 in
theorem pca_23 : pCaF (1, 68, 1, 27, 0, 2025, 2027, 1002, 2028, 1) := ⟨pHas 2 25 rfl rfl, pHas 2 27 rfl rfl, pHas 0 1 rfl rfl⟩
set_option maxRecDepth 100000 in
theorem pca_24 : pCaF (1, 71, 1, 31, 0, 2029, 2031, 1002, 2032, 2) := ⟨pHas 2 29 rfl rfl, pHas 2 31 rfl rfl, pHas 0 2 rfl rfl⟩
set_option maxRecDepth 100000 in
theorem pca_25 : pCaF (1, 201, 2, 355, 2, 2033, 2034, 1010, 2035, 0) := ⟨pHas 2 33 rfl rfl, pHas 2 34 rfl rfl⟩
set_option maxRecDepth 100000 in
theorem pca_26 : pCaF (1, 175, 1, 82, 1, 2036, 2037, 1003, 2039, 2038) := ⟨pHas 2 36 rfl rfl, pHas 2 37 rfl rfl, pHas 2 38 rfl rfl⟩
set_option maxRecDepth 100000 in
theorem pca_27 : pCaF (1, 204, 1, 32, 2, 2040, 2042, 1002, 2043, 3) := ⟨pHas 2 40 rfl rfl, pHas 2 42 rfl rfl, pHas 0 3 rfl rfl⟩
set_option maxRecDepth 100000 in
theorem pca_28 : pCaF (1, 207, 1, 33, 3, 2044, 2046, 1002, 2047, 4) := ⟨pHas 2 44 rfl rfl, pHas 2 46 rfl rfl, pHas 0 4 rfl rfl⟩
set_option maxRecDepth 100000 in
theorem pca_29 : pCaF (8, 71, 1, 67, 1, 2048, 2049, 1004, 2051, 2050) := ⟨pHas 2 48 rfl rfl, pHas 2 49 rfl rfl, pHas 2 50 rfl rfl⟩
set_option maxRecDepth 100000 in
theorem pca_30 : pCaF (3, 45, 1, 80, 4, 2052, 2053, 1003, 2055, 2054) := ⟨pHas 2 52 rfl rfl, pHas 2 53 rfl rfl, pHas 2 54 rfl rfl⟩
set_option maxRecDepth 100000 in
theorem pca_31 : pCaF (5, 31, 7, 0, 5, 2056, 2058, 2057, 1011, 0) := ⟨pHas 2 56 rfl rfl, pHas 2 58 rfl rfl, pHas 2 57 rfl rfl, pHas 1 11 rfl rfl⟩
set_option maxRecDepth 100000 in
theorem pca_32 : pCaF (3, 30, 7, 0, 5, 2059, 2058, 2057, 1011, 0) := ⟨pHas 2 59 rfl rfl, pHas 2 58 rfl rfl, pHas 2 57 rfl rfl, pHas 1 11 rfl rfl⟩
set_option maxRecDepth 100000 in
theorem pca_33 : pCaF (21, 13, 1, 115, 2, 2091, 2092, 1001, 2094, 2093) := ⟨pHas 2 91 rfl rfl, pHas 2 92 rfl rfl, pHas 2 93 rfl rfl⟩
set_option maxRecDepth 100000 in
theorem pca_34 : pCaF (8, 79, 1, 88, 2, 2095, 2096, 1003, 2098, 2097) := ⟨pHas 2 95 rfl rfl, pHas 2 96 rfl rfl, pHas 2 97 rfl rfl⟩
set_option maxRecDepth 100000 in
theorem pca_35 : pCaF (5, 60, 4, 182, 2, 2099, 2100, 1001, 2101, 0) := ⟨pHasN 2 99 rfl rfl, pHas 2 100 rfl rfl⟩
set_option maxRecDepth 100000 in
theorem pca_36 : pCaF (5, 64, 1, 86, 2, 2102, 2103, 1003, 2105, 2104) := ⟨pHas 2 102 rfl rfl, pHas 2 103 rfl rfl, pHas 2 104 rfl rfl⟩
set_option maxRecDepth 100000 in
theorem pca_37 : pCaF (5, 56, 1, 82, 1, 2106, 2037, 1003, 2039, 2038) := ⟨pHas 2 106 rfl rfl, pHas 2 37 rfl rfl, pHas 2 38 rfl rfl⟩
set_option maxRecDepth 100000 in
theorem pca_38 : pCaF (5, 68, 1, 87, 0, 2107, 2108, 1003, 2110, 2109) := ⟨pHas 2 107 rfl rfl, pHas 2 108 rfl rfl, pHas 2 109 rfl rfl⟩
set_option maxRecDepth 100000 in
theorem pca_39 : pCaF (8, 85, 1, 64, 1, 2111, 2112, 1004, 2114, 2113) := ⟨pHas 2 111 rfl rfl, pHas 2 112 rfl rfl, pHas 2 113 rfl rfl⟩
set_option maxRecDepth 100000 in
theorem pca_40 : pCaF (3, 23, 1, 65, 0, 2115, 2117, 1004, 2118, 5) := ⟨pHas 2 115 rfl rfl, pHas 2 117 rfl rfl, pHas 0 5 rfl rfl⟩
set_option maxRecDepth 100000 in
theorem pca_41 : pCaF (3, 26, 1, 67, 1, 2119, 2049, 1004, 2051, 2050) := ⟨pHas 2 119 rfl rfl, pHas 2 49 rfl rfl, pHas 2 50 rfl rfl⟩
set_option maxRecDepth 100000 in
theorem pca_42 : pCaF (8, 88, 1, 8, 2, 2120, 2121, 1002, 2123, 2122) := ⟨pHas 2 120 rfl rfl, pHas 2 121 rfl rfl, pHas 2 122 rfl rfl⟩
set_option maxRecDepth 100000 in
theorem pca_43 : pCaF (1, 85, 1, 88, 2, 2124, 2096, 1003, 2098, 2097) := ⟨pHas 2 124 rfl rfl, pHas 2 96 rfl rfl, pHas 2 97 rfl rfl⟩
set_option maxRecDepth 100000 in
theorem pca_44 : pCaF (1, 89, 1, 87, 0, 2125, 2108, 1003, 2110, 2109) := ⟨pHas 2 125 rfl rfl, pHas 2 108 rfl rfl, pHas 2 109 rfl rfl⟩
set_option maxRecDepth 100000 in
theorem pca_45 : pCaF (1, 96, 1, 9, 3, 2126, 2127, 1002, 2129, 2128) := ⟨pHas 2 126 rfl rfl, pHas 2 127 rfl rfl, pHas 2 128 rfl rfl⟩
set_option maxRecDepth 100000 in
theorem pca_46 : pCaF (1, 99, 1, 44, 2, 2130, 2131, 1002, 2133, 2132) := ⟨pHas 2 130 rfl rfl, pHas 2 131 rfl rfl, pHas 2 132 rfl rfl⟩
set_option maxRecDepth 100000 in
theorem pca_47 : pCaF (1, 219, 4, 182, 2, 2134, 2100, 1001, 2101, 0) := ⟨pHasN 2 134 rfl rfl, pHas 2 100 rfl rfl⟩
set_option maxRecDepth 100000 in
theorem pca_48 : pCaF (1, 222, 1, 43, 3, 2135, 2136, 1002, 2138, 2137) := ⟨pHas 2 135 rfl rfl, pHas 2 136 rfl rfl, pHas 2 137 rfl rfl⟩
set_option maxRecDepth 100000 in
theorem pca_49 : pCaF (1, 216, 1, 40, 4, 2139, 2140, 1002, 2142, 2141) := ⟨pHas 2 139 rfl rfl, pHas 2 140 rfl rfl, pHas 2 141 rfl rfl⟩
set_option maxRecDepth 100000 in
theorem pca_50 : pCaF (1, 103, 1, 35, 2, 2143, 2144, 1002, 2146, 2145) := ⟨pHas 2 143 rfl rfl, pHas 2 144 rfl rfl, pHas 2 145 rfl rfl⟩
set_option maxRecDepth 100000 in
theorem pca_51 : pCaF (1, 210, 1, 95, 4, 2147, 2148, 1003, 2150, 2149) := ⟨pHas 2 147 rfl rfl, pHas 2 148 rfl rfl, pHas 2 149 rfl rfl⟩
set_option maxRecDepth 100000 in
theorem pca_52 : pCaF (1, 106, 1, 20, 3, 2151, 2153, 1002, 2154, 6) := ⟨pHas 2 151 rfl rfl, pHas 2 153 rfl rfl, pHas 0 6 rfl rfl⟩
set_option maxRecDepth 100000 in
theorem pca_53 : pCaF (1, 109, 1, 10, 3, 2155, 2157, 1002, 2158, 7) := ⟨pHas 2 155 rfl rfl, pHas 2 157 rfl rfl, pHas 0 7 rfl rfl⟩
set_option maxRecDepth 100000 in
theorem pca_54 : pCaF (1, 115, 1, 96, 3, 2159, 2160, 1003, 2162, 2161) := ⟨pHas 2 159 rfl rfl, pHas 2 160 rfl rfl, pHas 2 161 rfl rfl⟩
set_option maxRecDepth 100000 in
theorem pca_55 : pCaF (5, 78, 1, 95, 4, 2163, 2148, 1003, 2150, 2149) := ⟨pHas 2 163 rfl rfl, pHas 2 148 rfl rfl, pHas 2 149 rfl rfl⟩
set_option maxRecDepth 100000 in
theorem pca_56 : pCaF (1, 119, 1, 21, 3, 2164, 2166, 1002, 2167, 8) := ⟨pHas 2 164 rfl rfl, pHas 2 166 rfl rfl, pHas 0 8 rfl rfl⟩
set_option maxRecDepth 100000 in
theorem pca_57 : pCaF (1, 182, 1, 22, 2, 2168, 2170, 1002, 2171, 9) := ⟨pHas 2 168 rfl rfl, pHas 2 170 rfl rfl, pHas 0 9 rfl rfl⟩
set_option maxRecDepth 100000 in
theorem pca_58 : pCaF (1, 122, 1, 91, 2, 2172, 2173, 1003, 2175, 2174) := ⟨pHas 2 172 rfl rfl, pHas 2 173 rfl rfl, pHas 2 174 rfl rfl⟩
set_option maxRecDepth 100000 in
theorem pca_59 : pCaF (1, 125, 1, 93, 2, 2176, 2177, 1003, 2179, 2178) := ⟨pHas 2 176 rfl rfl, pHas 2 177 rfl rfl, pHas 2 178 rfl rfl⟩
set_option maxRecDepth 100000 in
theorem pca_60 : pCaF (1, 112, 1, 23, 0, 2181, 2183, 1002, 2184, 10) := ⟨pHas 2 181 rfl rfl, pHas 2 183 rfl rfl, pHas 0 10 rfl rfl⟩
set_option maxRecDepth 100000 in
theorem pca_61 : pCaF (1, 179, 1, 25, 2, 2187, 2189, 1002, 2190, 11) := ⟨pHas 2 187 rfl rfl, pHas 2 189 rfl rfl, pHas 0 11 rfl rfl⟩
set_option maxRecDepth 100000 in
theorem pca_62 : pCaF (1, 190, 1, 26, 2, 2191, 2193, 1002, 2194, 12) := ⟨pHas 2 191 rfl rfl, pHas 2 193 rfl rfl, pHas 0 12 rfl rfl⟩
set_option maxRecDepth 100000 in
theorem pca_63 : pCaF (1, 168, 1, 29, 6, 2195, 2197, 1002, 2198, 13) := ⟨pHas 2 195 rfl rfl, pHas 2 197 rfl rfl, pHas 0 13 rfl rfl⟩
set_option maxRecDepth 100000 in
theorem pca_64 : pCaF (1, 193, 1, 98, 2, 2199, 2200, 1003, 2202, 2201) := ⟨pHas 2 199 rfl rfl, pHas 2 200 rfl rfl, pHas 2 201 rfl rfl⟩
set_option maxRecDepth 100000 in
theorem pca_65 : pCaF (1, 172, 1, 24, 2, 2203, 2205, 1002, 2206, 14) := ⟨pHas 2 203 rfl rfl, pHas 2 205 rfl rfl, pHas 0 14 rfl rfl⟩
set_option maxRecDepth 100000 in
theorem pca_66 : pCaF (21, 18, 1, 116, 1, 2207, 2208, 1001, 2210, 2209) := ⟨pHas 2 207 rfl rfl, pHas 2 208 rfl rfl, pHas 2 209 rfl rfl⟩
set_option maxRecDepth 100000 in
theorem pca_67 : pCaF (8, 92, 1, 89, 1, 2211, 2212, 1003, 2214, 2213) := ⟨pHas 2 211 rfl rfl, pHas 2 212 rfl rfl, pHas 2 213 rfl rfl⟩
set_option maxRecDepth 100000 in
theorem pca_68 : pCaF (8, 96, 1, 11, 1, 2215, 2216, 1002, 2218, 2217) := ⟨pHas 2 215 rfl rfl, pHas 2 216 rfl rfl, pHas 2 217 rfl rfl⟩
set_option maxRecDepth 100000 in
theorem pca_69 : pCaF (1, 128, 1, 45, 1, 2219, 2220, 1002, 2222, 2221) := ⟨pHas 2 219 rfl rfl, pHas 2 220 rfl rfl, pHas 2 221 rfl rfl⟩
set_option maxRecDepth 100000 in
theorem pca_70 : pCaF (1, 226, 1, 46, 1, 2223, 2225, 1002, 2226, 15) := ⟨pHas 2 223 rfl rfl, pHas 2 225 rfl rfl, pHas 0 15 rfl rfl⟩
set_option maxRecDepth 100000 in
theorem pca_71 : pCaF (1, 149, 1, 36, 2, 2227, 2228, 1002, 2230, 2229) := ⟨pHas 2 227 rfl rfl, pHas 2 228 rfl rfl, pHas 2 229 rfl rfl⟩
set_option maxRecDepth 100000 in
theorem pca_72 : pCaF (1, 132, 1, 85, 1, 2231, 2232, 1003, 2234, 2233) := ⟨pHas 2 231 rfl rfl, pHas 2 232 rfl rfl, pHas 2 233 rfl rfl⟩
set_option maxRecDepth 100000 in
theorem pca_73 : pCaF (1, 136, 1, 12, 1, 2235, 2237, 1002, 2238, 16) := ⟨pHas 2 235 rfl rfl, pHas 2 237 rfl rfl, pHas 0 16 rfl rfl⟩
set_option maxRecDepth 100000 in
theorem pca_74 : pCaF (1, 139, 1, 13, 2, 2239, 3001, 1002, 3002, 17) := ⟨pHas 2 239 rfl rfl, pHas 3 1 rfl rfl, pHas 0 17 rfl rfl⟩
set_option maxRecDepth 100000 in
theorem pca_75 : pCaF (21, 23, 1, 117, 3, 3003, 3004, 1001, 3006, 3005) := ⟨pHas 3 3 rfl rfl, pHas 3 4 rfl rfl, pHas 3 5 rfl rfl⟩
set_option maxRecDepth 100000 in
theorem pca_76 : pCaF (8, 100, 2, 182, 2, 3007, 2100, 1001, 2101, 0) := ⟨pHas 3 7 rfl rfl, pHas 2 100 rfl rfl⟩
set_option maxRecDepth 100000 in
theorem pca_77 : pCaF (8, 103, 1, 86, 2, 3008, 2103, 1003, 2105, 2104) := ⟨pHas 3 8 rfl rfl, pHas 2 103 rfl rfl, pHas 2 104 rfl rfl⟩
set_option maxRecDepth 100000 in
theorem pca_78 : pCaF (8, 106, 1, 9, 3, 3009, 2127, 1002, 2129, 2128) := ⟨pHas 3 9 rfl rfl, pHas 2 127 rfl rfl, pHas 2 128 rfl rfl⟩
set_option maxRecDepth 100000 in
theorem pca_79 : pCaF (21, 28, 1, 118, 2, 3010, 3011, 1001, 3013, 3012) := ⟨pHas 3 10 rfl rfl, pHas 3 11 rfl rfl, pHas 3 12 rfl rfl⟩
set_option maxRecDepth 100000 in
theorem pca_80 : pCaF (8, 110, 1, 14, 2, 3014, 3015, 1002, 3017, 3016) := ⟨pHas 3 14 rfl rfl, pHas 3 15 rfl rfl, pHas 3 16 rfl rfl⟩
set_option maxRecDepth 100000 in
theorem pca_81 : pCaF (1, 142, 1, 47, 2, 3018, 3019, 1002, 3021, 3020) := ⟨pHas 3 18 rfl rfl, pHas 3 19 rfl rfl, pHas 3 20 rfl rfl⟩
set_option maxRecDepth 100000 in
theorem pca_82 : pCaF (1, 229, 1, 99, 3, 3022, 3023, 1003, 3025, 3024) := ⟨pHas 3 22 rfl rfl, pHas 3 23 rfl rfl, pHas 3 24 rfl rfl⟩
set_option maxRecDepth 100000 in
theorem pca_83 : pCaF (5, 82, 1, 96, 3, 3026, 2160, 1003, 2162, 2161) := ⟨pHas 3 26 rfl rfl, pHas 2 160 rfl rfl, pHas 2 161 rfl rfl⟩
set_option maxRecDepth 100000 in
theorem pca_84 : pCaF (1, 158, 1, 101, 4, 3027, 3028, 1003, 3030, 3029) := ⟨pHas 3 27 rfl rfl, pHas 3 28 rfl rfl, pHas 3 29 rfl rfl⟩
set_option maxRecDepth 100000 in
theorem pca_85 : pCaF (5, 92, 1, 100, 6, 3031, 3032, 1003, 3034, 3033) := ⟨pHas 3 31 rfl rfl, pHas 3 32 rfl rfl, pHas 3 33 rfl rfl⟩
set_option maxRecDepth 100000 in
theorem pca_86 : pCaF (5, 85, 4, 184, 2, 3035, 3036, 1001, 3037, 0) := ⟨pHasN 3 35 rfl rfl, pHas 3 36 rfl rfl⟩
set_option maxRecDepth 100000 in
theorem pca_87 : pCaF (5, 88, 4, 183, 6, 3038, 3039, 1001, 3040, 0) := ⟨pHasN 3 38 rfl rfl, pHas 3 39 rfl rfl⟩
set_option maxRecDepth 100000 in
theorem pca_88 : pCaF (8, 113, 1, 15, 2, 3041, 3042, 1002, 3044, 3043) := ⟨pHas 3 41 rfl rfl, pHas 3 42 rfl rfl, pHas 3 43 rfl rfl⟩
set_option maxRecDepth 100000 in
theorem pca_89 : pCaF (1, 145, 1, 28, 2, 3045, 3047, 1002, 3048, 18) := ⟨pHas 3 45 rfl rfl, pHas 3 47 rfl rfl, pHas 0 18 rfl rfl⟩
set_option maxRecDepth 100000 in
theorem pca_90 : pCaF (1, 196, 2, 353, 1, 3049, 3050, 1013, 3051, 0) := ⟨pHas 3 49 rfl rfl, pHas 3 50 rfl rfl⟩
set_option maxRecDepth 100000 in
theorem pca_91 : pCaF (1, 152, 1, 16, 2, 3052, 3054, 1002, 3055, 19) := ⟨pHas 3 52 rfl rfl, pHas 3 54 rfl rfl, pHas 0 19 rfl rfl⟩
set_option maxRecDepth 100000 in
theorem pca_92 : pCaF (21, 33, 1, 119, 2, 3056, 3057, 1001, 3059, 3058) := ⟨pHas 3 56 rfl rfl, pHas 3 57 rfl rfl, pHas 3 58 rfl rfl⟩
set_option maxRecDepth 100000 in
theorem pca_93 : pCaF (8, 117, 1, 17, 2, 3060, 3061, 1002, 3063, 3062) := ⟨pHas 3 60 rfl rfl, pHas 3 61 rfl rfl, pHas 3 62 rfl rfl⟩
set_option maxRecDepth 100000 in
theorem pca_94 : pCaF (8, 120, 1, 18, 2, 3064, 3065, 1002, 3067, 3066) := ⟨pHas 3 64 rfl rfl, pHas 3 65 rfl rfl, pHas 3 66 rfl rfl⟩
set_option maxRecDepth 100000 in
theorem pca_95 : pCaF (21, 37, 1, 120, 2, 3068, 3069, 1001, 3071, 3070) := ⟨pHas 3 68 rfl rfl, pHas 3 69 rfl rfl, pHas 3 70 rfl rfl⟩
set_option maxRecDepth 100000 in
theorem pca_96 : pCaF (8, 123, 1, 94, 1, 3072, 3073, 1003, 3075, 3074) := ⟨pHas 3 72 rfl rfl, pHas 3 73 rfl rfl, pHas 3 74 rfl rfl⟩
set_option maxRecDepth 100000 in
theorem pca_97 : pCaF (21, 41, 1, 121, 2, 3076, 3077, 1001, 3079, 3078) := ⟨pHas 3 76 rfl rfl, pHas 3 77 rfl rfl, pHas 3 78 rfl rfl⟩
set_option maxRecDepth 100000 in
theorem pca_98 : pCaF (8, 127, 1, 82, 1, 3080, 2037, 1003, 2039, 2038) := ⟨pHas 3 80 rfl rfl, pHas 2 37 rfl rfl, pHas 2 38 rfl rfl⟩
set_option maxRecDepth 100000 in
theorem pca_99 : pCaF (21, 45, 1, 122, 1, 3081, 3082, 1001, 3084, 3083) := ⟨pHas 3 81 rfl rfl, pHas 3 82 rfl rfl, pHas 3 83 rfl rfl⟩
set_option maxRecDepth 100000 in
theorem pca_100 : pCaF (8, 133, 1, 123, 0, 3085, 3087, 1001, 3088, 20) := ⟨pHas 3 85 rfl rfl, pHas 3 87 rfl rfl, pHas 0 20 rfl rfl⟩
set_option maxRecDepth 100000 in
theorem pca_101 : pCaF (8, 137, 1, 55, 0, 3089, 3090, 1002, 3092, 3091) := ⟨pHas 3 89 rfl rfl, pHas 3 90 rfl rfl, pHas 3 91 rfl rfl⟩
set_option maxRecDepth 100000 in
theorem pca_102 : pCaF (1, 250, 1, 39, 1, 3093, 3094, 1002, 3096, 3095) := ⟨pHas 3 93 rfl rfl, pHas 3 94 rfl rfl, pHas 3 95 rfl rfl⟩
set_option maxRecDepth 100000 in
theorem pca_103 : pCaF (1, 239, 1, 54, 1, 3097, 3098, 1002, 3100, 3099) := ⟨pHas 3 97 rfl rfl, pHas 3 98 rfl rfl, pHas 3 99 rfl rfl⟩
set_option maxRecDepth 100000 in
theorem pca_104 : pCaF (1, 242, 1, 41, 2, 3101, 3102, 1002, 3104, 3103) := ⟨pHas 3 101 rfl rfl, pHas 3 102 rfl rfl, pHas 3 103 rfl rfl⟩
set_option maxRecDepth 100000 in
theorem pca_105 : pCaF (1, 213, 1, 97, 2, 3105, 3106, 1003, 3108, 3107) := ⟨pHas 3 105 rfl rfl, pHas 3 106 rfl rfl, pHas 3 107 rfl rfl⟩
set_option maxRecDepth 100000 in
theorem pca_106 : pCaF (8, 141, 1, 54, 1, 3109, 3098, 1002, 3100, 3099) := ⟨pHas 3 109 rfl rfl, pHas 3 98 rfl rfl, pHas 3 99 rfl rfl⟩
set_option maxRecDepth 100000 in
theorem pca_107 : pCaF (8, 144, 1, 35, 2, 3110, 2144, 1002, 2146, 2145) := ⟨pHas 3 110 rfl rfl, pHas 2 144 rfl rfl, pHas 2 145 rfl rfl⟩
set_option maxRecDepth 100000 in
theorem pca_108 : pCaF (8, 150, 2, 351, 2, 3111, 3112, 1013, 3113, 0) := ⟨pHas 3 111 rfl rfl, pHas 3 112 rfl rfl⟩
set_option maxRecDepth 100000 in
theorem pca_109 : pCaF (21, 50, 1, 124, 0, 3114, 3115, 1001, 3117, 3116) := ⟨pHas 3 114 rfl rfl, pHas 3 115 rfl rfl, pHas 3 116 rfl rfl⟩
set_option maxRecDepth 100000 in
theorem pca_110 : pCaF (8, 158, 1, 125, 1, 3118, 3120, 1001, 3121, 21) := ⟨pHas 3 118 rfl rfl, pHas 3 120 rfl rfl, pHas 0 21 rfl rfl⟩
set_option maxRecDepth 100000 in
theorem pca_111 : pCaF (8, 161, 1, 45, 1, 3122, 2220, 1002, 2222, 2221) := ⟨pHas 3 122 rfl rfl, pHas 2 220 rfl rfl, pHas 2 221 rfl rfl⟩
set_option maxRecDepth 100000 in
theorem pca_112 : pCaF (21, 55, 1, 126, 2, 3123, 3124, 1001, 3126, 3125) := ⟨pHas 3 123 rfl rfl, pHas 3 124 rfl rfl, pHas 3 125 rfl rfl⟩
set_option maxRecDepth 100000 in
theorem pca_113 : pCaF (21, 59, 1, 127, 0, 3127, 3128, 1001, 3130, 3129) := ⟨pHas 3 127 rfl rfl, pHas 3 128 rfl rfl, pHas 3 129 rfl rfl⟩
set_option maxRecDepth 100000 in
theorem pca_114 : pCaF (21, 63, 1, 128, 1, 3131, 3132, 1001, 3134, 3133) := ⟨pHas 3 131 rfl rfl, pHas 3 132 rfl rfl, pHas 3 133 rfl rfl⟩
set_option maxRecDepth 100000 in
theorem pca_115 : pCaF (21, 67, 1, 129, 0, 3135, 3136, 1001, 3138, 3137) := ⟨pHas 3 135 rfl rfl, pHas 3 136 rfl rfl, pHas 3 137 rfl rfl⟩
set_option maxRecDepth 100000 in
theorem pca_116 : pCaF (8, 180, 1, 66, 1, 3139, 3140, 1004, 3142, 3141) := ⟨pHas 3 139 rfl rfl, pHas 3 140 rfl rfl, pHas 3 141 rfl rfl⟩
set_option maxRecDepth 100000 in
theorem pca_117 : pCaF (3, 36, 1, 68, 1, 3143, 3144, 1004, 3146, 3145) := ⟨pHas 3 143 rfl rfl, pHas 3 144 rfl rfl, pHas 3 145 rfl rfl⟩
set_option maxRecDepth 100000 in
theorem pca_118 : pCaF (3, 57, 1, 81, 4, 3147, 3148, 1003, 3150, 3149) := ⟨pHas 3 147 rfl rfl, pHas 3 148 rfl rfl, pHas 3 149 rfl rfl⟩
set_option maxRecDepth 100000 in
theorem pca_119 : pCaF (3, 60, 1, 7, 3, 3151, 3152, 1002, 3154, 3153) := ⟨pHas 3 151 rfl rfl, pHas 3 152 rfl rfl, pHas 3 153 rfl rfl⟩
set_option maxRecDepth 100000 in
theorem pca_120 : pCaF (21, 261, 1, 130, 0, 3155, 3156, 1001, 3158, 3157) := ⟨pHas 3 155 rfl rfl, pHas 3 156 rfl rfl, pHas 3 157 rfl rfl⟩
set_option maxRecDepth 100000 in
theorem pca_121 : pCaF (21, 253, 1, 131, 0, 3159, 3160, 1001, 3162, 3161) := ⟨pHas 3 159 rfl rfl, pHas 3 160 rfl rfl, pHas 3 161 rfl rfl⟩
set_option maxRecDepth 100000 in
theorem pca_122 : pCaF (8, 187, 1, 69, 1, 3163, 3164, 1004, 3166, 3165) := ⟨pHas 3 163 rfl rfl, pHas 3 164 rfl rfl, pHas 3 165 rfl rfl⟩
set_option maxRecDepth 100000 in
theorem pca_123 : pCaF (8, 191, 1, 83, 0, 3167, 3168, 1003, 3170, 3169) := ⟨pHas 3 167 rfl rfl, pHas 3 168 rfl rfl, pHas 3 169 rfl rfl⟩
set_option maxRecDepth 100000 in
theorem pca_124 : pCaF (5, 48, 2, 350, 1, 3171, 3172, 1015, 3173, 0) := ⟨pHas 3 171 rfl rfl, pHas 3 172 rfl rfl⟩
set_option maxRecDepth 100000 in
theorem pca_125 : pCaF (21, 257, 1, 132, 0, 3177, 3178, 1001, 3180, 3179) := ⟨pHas 3 177 rfl rfl, pHas 3 178 rfl rfl, pHas 3 179 rfl rfl⟩
set_option maxRecDepth 100000 in
theorem pca_126 : pCaF (8, 194, 1, 68, 1, 3181, 3144, 1004, 3146, 3145) := ⟨pHas 3 181 rfl rfl, pHas 3 144 rfl rfl, pHas 3 145 rfl rfl⟩
set_option maxRecDepth 100000 in
theorem pca_127 : pCaF (21, 199, 1, 133, 0, 3182, 3183, 1001, 3185, 3184) := ⟨pHas 3 182 rfl rfl, pHas 3 183 rfl rfl, pHas 3 184 rfl rfl⟩
set_option maxRecDepth 100000 in
theorem pca_128 : pCaF (8, 200, 1, 70, 3, 3186, 3187, 1004, 3189, 3188) := ⟨pHas 3 186 rfl rfl, pHas 3 187 rfl rfl, pHas 3 188 rfl rfl⟩
set_option maxRecDepth 100000 in
theorem pca_129 : pCaF (21, 71, 1, 134, 1, 3190, 3191, 1001, 3193, 3192) := ⟨pHas 3 190 rfl rfl, pHas 3 191 rfl rfl, pHas 3 192 rfl rfl⟩
set_option maxRecDepth 100000 in
theorem pca_130 : pCaF (8, 207, 1, 49, 0, 3194, 3195, 1002, 3197, 3196) := ⟨pHas 3 194 rfl rfl, pHas 3 195 rfl rfl, pHas 3 196 rfl rfl⟩
set_option maxRecDepth 100000 in
theorem pca_131 : pCaF (8, 210, 1, 50, 0, 3198, 3199, 1002, 3201, 3200) := ⟨pHas 3 198 rfl rfl, pHas 3 199 rfl rfl, pHas 3 200 rfl rfl⟩
set_option maxRecDepth 100000 in
theorem pca_132 : pCaF (8, 213, 1, 52, 0, 3202, 3203, 1002, 3205, 3204) := ⟨pHas 3 202 rfl rfl, pHas 3 203 rfl rfl, pHas 3 204 rfl rfl⟩
set_option maxRecDepth 100000 in
theorem pca_133 : pCaF (1, 236, 1, 51, 1, 3206, 3207, 1002, 3209, 3208) := ⟨pHas 3 206 rfl rfl, pHas 3 207 rfl rfl, pHas 3 208 rfl rfl⟩
set_option maxRecDepth 100000 in
theorem pca_134 : pCaF (8, 216, 1, 53, 1, 3210, 3211, 1002, 3213, 3212) := ⟨pHas 3 210 rfl rfl, pHas 3 211 rfl rfl, pHas 3 212 rfl rfl⟩
set_option maxRecDepth 100000 in
theorem pca_135 : pCaF (1, 245, 2, 348, 2, 3214, 3215, 1016, 3216, 0) := ⟨pHas 3 214 rfl rfl, pHas 3 215 rfl rfl⟩
set_option maxRecDepth 100000 in
theorem pca_136 : pCaF (8, 219, 1, 169, 0, 3217, 3219, 1001, 3220, 22) := ⟨pHas 3 217 rfl rfl, pHas 3 219 rfl rfl, pHas 0 22 rfl rfl⟩
set_option maxRecDepth 100000 in
theorem pca_137 : pCaF (8, 363, 1, 170, 1, 3221, 3223, 1001, 3224, 23) := ⟨pHas 3 221 rfl rfl, pHas 3 223 rfl rfl, pHas 0 23 rfl rfl⟩
set_option maxRecDepth 100000 in
theorem pca_138 : pCaF (8, 264, 1, 36, 2, 3225, 2228, 1002, 2230, 2229) := ⟨pHas 3 225 rfl rfl, pHas 2 228 rfl rfl, pHas 2 229 rfl rfl⟩
set_option maxRecDepth 100000 in
theorem pca_139 : pCaF (8, 366, 2, 354, 2, 3226, 3227, 1013, 3228, 0) := ⟨pHas 3 226 rfl rfl, pHas 3 227 rfl rfl⟩
set_option maxRecDepth 100000 in
theorem pca_140 : pCaF (8, 222, 1, 135, 1, 3229, 3231, 1001, 3232, 24) := ⟨pHas 3 229 rfl rfl, pHas 3 231 rfl rfl, pHas 0 24 rfl rfl⟩
set_option maxRecDepth 100000 in
theorem pca_141 : pCaF (8, 225, 1, 72, 1, 3233, 3234, 1005, 3236, 3235) := ⟨pHas 3 233 rfl rfl, pHas 3 234 rfl rfl, pHas 3 235 rfl rfl⟩
set_option maxRecDepth 100000 in
theorem pca_142 : pCaF (4, 25, 2, 356, 2, 3237, 2015, 1010, 2016, 0) := ⟨pHas 3 237 rfl rfl, pHas 2 15 rfl rfl⟩
set_option maxRecDepth 100000 in
theorem pca_143 : pCaF (4, 36, 1, 73, 2, 3238, 4000, 1005, 4001, 25) := ⟨pHas 3 238 rfl rfl, pHas 4 0 rfl rfl, pHas 0 25 rfl rfl⟩
set_option maxRecDepth 100000 in
theorem pca_144 : pCaF (4, 59, 1, 38, 2, 4002, 4003, 1002, 4005, 4004) := ⟨pHas 4 2 rfl rfl, pHas 4 3 rfl rfl, pHas 4 4 rfl rfl⟩
set_option maxRecDepth 100000 in
theorem pca_145 : pCaF (4, 63, 1, 37, 2, 4006, 4007, 1002, 4009, 4008) := ⟨pHas 4 6 rfl rfl, pHas 4 7 rfl rfl, pHas 4 8 rfl rfl⟩
set_option maxRecDepth 100000 in
theorem pca_146 : pCaF (4, 55, 1, 44, 2, 4010, 2131, 1002, 2133, 2132) := ⟨pHas 4 10 rfl rfl, pHas 2 131 rfl rfl, pHas 2 132 rfl rfl⟩
set_option maxRecDepth 100000 in
theorem pca_147 : pCaF (8, 229, 1, 74, 0, 4011, 4012, 1005, 4014, 4013) := ⟨pHas 4 11 rfl rfl, pHas 4 12 rfl rfl, pHas 4 13 rfl rfl⟩
set_option maxRecDepth 100000 in
theorem pca_148 : pCaF (21, 75, 1, 136, 2, 4015, 4016, 1001, 4018, 4017) := ⟨pHas 4 15 rfl rfl, pHas 4 16 rfl rfl, pHas 4 17 rfl rfl⟩
set_option maxRecDepth 100000 in
theorem pca_149 : pCaF (8, 237, 2, 350, 1, 4020, 3172, 1015, 3173, 0) := ⟨pHas 4 20 rfl rfl, pHas 3 172 rfl rfl⟩
set_option maxRecDepth 100000 in
theorem pca_150 : pCaF (8, 246, 1, 90, 1, 4021, 4022, 1003, 4024, 4023) := ⟨pHas 4 21 rfl rfl, pHas 4 22 rfl rfl, pHas 4 23 rfl rfl⟩
set_option maxRecDepth 100000 in
theorem pca_151 : pCaF (5, 72, 2, 353, 1, 4025, 3050, 1013, 3051, 0) := ⟨pHas 4 25 rfl rfl, pHas 3 50 rfl rfl⟩
set_option maxRecDepth 100000 in
theorem pca_152 : pCaF (21, 79, 1, 137, 2, 4026, 4027, 1001, 4029, 4028) := ⟨pHas 4 26 rfl rfl, pHas 4 27 rfl rfl, pHas 4 28 rfl rfl⟩
set_option maxRecDepth 100000 in
theorem pca_153 : pCaF (21, 83, 1, 138, 2, 4030, 4031, 1001, 4033, 4032) := ⟨pHas 4 30 rfl rfl, pHas 4 31 rfl rfl, pHas 4 32 rfl rfl⟩
set_option maxRecDepth 100000 in
theorem pca_154 : pCaF (8, 249, 1, 34, 1, 4034, 4035, 1002, 4037, 4036) := ⟨pHas 4 34 rfl rfl, pHas 4 35 rfl rfl, pHas 4 36 rfl rfl⟩
set_option maxRecDepth 100000 in
theorem pca_155 : pCaF (21, 87, 1, 139, 2, 4038, 4039, 1001, 4041, 4040) := ⟨pHas 4 38 rfl rfl, pHas 4 39 rfl rfl, pHas 4 40 rfl rfl⟩
set_option maxRecDepth 100000 in
theorem pca_156 : pCaF (8, 252, 1, 37, 2, 4042, 4007, 1002, 4009, 4008) := ⟨pHas 4 42 rfl rfl, pHas 4 7 rfl rfl, pHas 4 8 rfl rfl⟩
set_option maxRecDepth 100000 in
theorem pca_157 : pCaF (21, 91, 1, 140, 1, 4043, 4044, 1001, 4046, 4045) := ⟨pHas 4 43 rfl rfl, pHas 4 44 rfl rfl, pHas 4 45 rfl rfl⟩
set_option maxRecDepth 100000 in
theorem pca_158 : pCaF (8, 255, 1, 39, 1, 4047, 3094, 1002, 3096, 3095) := ⟨pHas 4 47 rfl rfl, pHas 3 94 rfl rfl, pHas 3 95 rfl rfl⟩
set_option maxRecDepth 100000 in
theorem pca_159 : pCaF (21, 95, 1, 141, 3, 4048, 4049, 1001, 4051, 4050) := ⟨pHas 4 48 rfl rfl, pHas 4 49 rfl rfl, pHas 4 50 rfl rfl⟩
set_option maxRecDepth 100000 in
theorem pca_160 : pCaF (21, 100, 1, 142, 2, 4052, 4053, 1001, 4055, 4054) := ⟨pHas 4 52 rfl rfl, pHas 4 53 rfl rfl, pHas 4 54 rfl rfl⟩
set_option maxRecDepth 100000 in
theorem pca_161 : pCaF (21, 104, 1, 143, 2, 4056, 4057, 1001, 4059, 4058) := ⟨pHas 4 56 rfl rfl, pHas 4 57 rfl rfl, pHas 4 58 rfl rfl⟩
set_option maxRecDepth 100000 in
theorem pca_162 : pCaF (8, 267, 1, 91, 2, 4060, 2173, 1003, 2175, 2174) := ⟨pHas 4 60 rfl rfl, pHas 2 173 rfl rfl, pHas 2 174 rfl rfl⟩
set_option maxRecDepth 100000 in
theorem pca_163 : pCaF (21, 108, 1, 144, 2, 4061, 4062, 1001, 4064, 4063) := ⟨pHas 4 61 rfl rfl, pHas 4 62 rfl rfl, pHas 4 63 rfl rfl⟩
set_option maxRecDepth 100000 in
theorem pca_164 : pCaF (8, 270, 1, 44, 2, 4065, 2131, 1002, 2133, 2132) := ⟨pHas 4 65 rfl rfl, pHas 2 131 rfl rfl, pHas 2 132 rfl rfl⟩
set_option maxRecDepth 100000 in
theorem pca_165 : pCaF (21, 112, 1, 145, 2, 4066, 4067, 1001, 4069, 4068) := ⟨pHas 4 66 rfl rfl, pHas 4 67 rfl rfl, pHas 4 68 rfl rfl⟩
set_option maxRecDepth 100000 in
theorem pca_166 : pCaF (8, 273, 1, 40, 4, 4070, 2140, 1002, 2142, 2141) := ⟨pHas 4 70 rfl rfl, pHas 2 140 rfl rfl, pHas 2 141 rfl rfl⟩
set_option maxRecDepth 100000 in
theorem pca_167 : pCaF (21, 116, 1, 146, 4, 4071, 4072, 1001, 4074, 4073) := ⟨pHas 4 71 rfl rfl, pHas 4 72 rfl rfl, pHas 4 73 rfl rfl⟩
set_option maxRecDepth 100000 in
theorem pca_168 : pCaF (8, 277, 1, 61, 4, 4075, 4076, 1007, 4078, 4077) := ⟨pHas 4 75 rfl rfl, pHas 4 76 rfl rfl, pHas 4 77 rfl rfl⟩
set_option maxRecDepth 100000 in
theorem pca_169 : pCaF (2, 18, 2, 356, 2, 4079, 2015, 1010, 2016, 0) := ⟨pHas 4 79 rfl rfl, pHas 2 15 rfl rfl⟩
set_option maxRecDepth 100000 in
theorem pca_170 : pCaF (2, 42, 1, 62, 3, 4080, 4082, 1007, 4083, 26) := ⟨pHas 4 80 rfl rfl, pHas 4 82 rfl rfl, pHas 0 26 rfl rfl⟩
set_option maxRecDepth 100000 in
theorem pca_171 : pCaF (2, 30, 1, 37, 2, 4084, 4007, 1002, 4009, 4008) := ⟨pHas 4 84 rfl rfl, pHas 4 7 rfl rfl, pHas 4 8 rfl rfl⟩
set_option maxRecDepth 100000 in
theorem pca_172 : pCaF (2, 46, 1, 40, 4, 4085, 2140, 1002, 2142, 2141) := ⟨pHas 4 85 rfl rfl, pHas 2 140 rfl rfl, pHas 2 141 rfl rfl⟩
set_option maxRecDepth 100000 in
theorem pca_173 : pCaF (8, 284, 1, 43, 3, 4086, 2136, 1002, 2138, 2137) := ⟨pHas 4 86 rfl rfl, pHas 2 136 rfl rfl, pHas 2 137 rfl rfl⟩
set_option maxRecDepth 100000 in
theorem pca_174 : pCaF (21, 121, 1, 147, 2, 4087, 4088, 1001, 4090, 4089) := ⟨pHas 4 87 rfl rfl, pHas 4 88 rfl rfl, pHas 4 89 rfl rfl⟩
set_option maxRecDepth 100000 in
theorem pca_175 : pCaF (21, 125, 1, 148, 2, 4091, 4092, 1001, 4094, 4093) := ⟨pHas 4 91 rfl rfl, pHas 4 92 rfl rfl, pHas 4 93 rfl rfl⟩
set_option maxRecDepth 100000 in
theorem pca_176 : pCaF (8, 287, 1, 107, 3, 4095, 4096, 1006, 4098, 4097) := ⟨pHas 4 95 rfl rfl, pHas 4 96 rfl rfl, pHas 4 97 rfl rfl⟩
set_option maxRecDepth 100000 in
theorem pca_177 : pCaF (7, 18, 2, 108, 2, 4099, 4100, 1006, 4101, 0) := ⟨pHas 4 99 rfl rfl, pHas 4 100 rfl rfl⟩
set_option maxRecDepth 100000 in
theorem pca_178 : pCaF (21, 130, 1, 149, 2, 4103, 4104, 1001, 4106, 4105) := ⟨pHas 4 103 rfl rfl, pHas 4 104 rfl rfl, pHas 4 105 rfl rfl⟩
set_option maxRecDepth 100000 in
theorem pca_179 : pCaF (8, 291, 1, 48, 4, 4107, 4108, 1002, 4110, 4109) := ⟨pHas 4 107 rfl rfl, pHas 4 108 rfl rfl, pHas 4 109 rfl rfl⟩
set_option maxRecDepth 100000 in
theorem pca_180 : pCaF (1, 232, 1, 100, 6, 4111, 3032, 1003, 3034, 3033) := ⟨pHas 4 111 rfl rfl, pHas 3 32 rfl rfl, pHas 3 33 rfl rfl⟩
set_option maxRecDepth 100000 in
theorem pca_181 : pCaF (21, 195, 1, 150, 4, 4112, 4113, 1001, 4115, 4114) := ⟨pHas 4 112 rfl rfl, pHas 4 113 rfl rfl, pHas 4 114 rfl rfl⟩
set_option maxRecDepth 100000 in
theorem pca_182 : pCaF (21, 134, 1, 151, 2, 4116, 4117, 1001, 4119, 4118) := ⟨pHas 4 116 rfl rfl, pHas 4 117 rfl rfl, pHas 4 118 rfl rfl⟩
set_option maxRecDepth 100000 in
theorem pca_183 : pCaF (8, 294, 1, 47, 2, 4120, 3019, 1002, 3021, 3020) := ⟨pHas 4 120 rfl rfl, pHas 3 19 rfl rfl, pHas 3 20 rfl rfl⟩
set_option maxRecDepth 100000 in
theorem pca_184 : pCaF (21, 138, 1, 152, 1, 4121, 4122, 1001, 4124, 4123) := ⟨pHas 4 121 rfl rfl, pHas 4 122 rfl rfl, pHas 4 123 rfl rfl⟩
set_option maxRecDepth 100000 in
theorem pca_185 : pCaF (21, 143, 1, 153, 1, 4125, 4126, 1001, 4128, 4127) := ⟨pHas 4 125 rfl rfl, pHas 4 126 rfl rfl, pHas 4 127 rfl rfl⟩
set_option maxRecDepth 100000 in
theorem pca_186 : pCaF (21, 147, 1, 154, 2, 4129, 4130, 1001, 4132, 4131) := ⟨pHas 4 129 rfl rfl, pHas 4 130 rfl rfl, pHas 4 131 rfl rfl⟩
set_option maxRecDepth 100000 in
theorem pca_187 : pCaF (8, 300, 1, 75, 2, 4133, 4134, 1005, 4136, 4135) := ⟨pHas 4 133 rfl rfl, pHas 4 134 rfl rfl, pHas 4 135 rfl rfl⟩
set_option maxRecDepth 100000 in
theorem pca_188 : pCaF (8, 304, 1, 76, 2, 4137, 4138, 1005, 4140, 4139) := ⟨pHas 4 137 rfl rfl, pHas 4 138 rfl rfl, pHas 4 139 rfl rfl⟩
set_option maxRecDepth 100000 in
theorem pca_189 : pCaF (4, 66, 1, 39, 1, 4141, 3094, 1002, 3096, 3095) := ⟨pHas 4 141 rfl rfl, pHas 3 94 rfl rfl, pHas 3 95 rfl rfl⟩
set_option maxRecDepth 100000 in
theorem pca_190 : pCaF (8, 309, 1, 77, 2, 4142, 4143, 1005, 4145, 4144) := ⟨pHas 4 142 rfl rfl, pHas 4 143 rfl rfl, pHas 4 144 rfl rfl⟩
set_option maxRecDepth 100000 in
theorem pca_191 : pCaF (4, 70, 1, 35, 2, 4146, 2144, 1002, 2146, 2145) := ⟨pHas 4 146 rfl rfl, pHas 2 144 rfl rfl, pHas 2 145 rfl rfl⟩
set_option maxRecDepth 100000 in
theorem pca_192 : pCaF (21, 203, 1, 155, 0, 4147, 4148, 1001, 4150, 4149) := ⟨pHas 4 147 rfl rfl, pHas 4 148 rfl rfl, pHas 4 149 rfl rfl⟩
set_option maxRecDepth 100000 in
theorem pca_193 : pCaF (21, 151, 1, 156, 2, 4151, 4152, 1001, 4154, 4153) := ⟨pHas 4 151 rfl rfl, pHas 4 152 rfl rfl, pHas 4 153 rfl rfl⟩
set_option maxRecDepth 100000 in
theorem pca_194 : pCaF (21, 155, 1, 157, 1, 4155, 4156, 1001, 4158, 4157) := ⟨pHas 4 155 rfl rfl, pHas 4 156 rfl rfl, pHas 4 157 rfl rfl⟩
set_option maxRecDepth 100000 in
theorem pca_195 : pCaF (8, 313, 1, 42, 1, 4159, 4160, 1002, 4162, 4161) := ⟨pHas 4 159 rfl rfl, pHas 4 160 rfl rfl, pHas 4 161 rfl rfl⟩
set_option maxRecDepth 100000 in
theorem pca_196 : pCaF (21, 159, 1, 158, 1, 4163, 4164, 1001, 4166, 4165) := ⟨pHas 4 163 rfl rfl, pHas 4 164 rfl rfl, pHas 4 165 rfl rfl⟩
set_option maxRecDepth 100000 in
theorem pca_197 : pCaF (21, 175, 1, 159, 0, 4167, 4168, 1001, 4170, 4169) := ⟨pHas 4 167 rfl rfl, pHas 4 168 rfl rfl, pHas 4 169 rfl rfl⟩
set_option maxRecDepth 100000 in
theorem pca_198 : pCaF (21, 179, 1, 160, 3, 4171, 4172, 1001, 4174, 4173) := ⟨pHas 4 171 rfl rfl, pHas 4 172 rfl rfl, pHas 4 173 rfl rfl⟩
set_option maxRecDepth 100000 in
theorem pca_199 : pCaF (8, 316, 1, 30, 3, 4175, 4176, 1002, 4178, 4177) := ⟨pHas 4 175 rfl rfl, pHas 4 176 rfl rfl, pHas 4 177 rfl rfl⟩
set_option maxRecDepth 100000 in
theorem pca_200 : pCaF (8, 320, 2, 349, 2, 4179, 4180, 1015, 4181, 0) := ⟨pHas 4 179 rfl rfl, pHas 4 180 rfl rfl⟩
set_option maxRecDepth 100000 in
theorem pca_201 : pCaF (21, 249, 1, 161, 0, 4182, 4183, 1001, 4185, 4184) := ⟨pHas 4 182 rfl rfl, pHas 4 183 rfl rfl, pHas 4 184 rfl rfl⟩
set_option maxRecDepth 100000 in
theorem pca_202 : pCaF (8, 324, 2, 162, 1, 4186, 4187, 1001, 4188, 0) := ⟨pHas 4 186 rfl rfl, pHas 4 187 rfl rfl⟩
set_option maxRecDepth 100000 in
theorem pca_203 : pCaF (21, 163, 1, 163, 2, 4193, 4194, 1001, 4196, 4195) := ⟨pHas 4 193 rfl rfl, pHas 4 194 rfl rfl, pHas 4 195 rfl rfl⟩
set_option maxRecDepth 100000 in
theorem pca_204 : pCaF (8, 336, 1, 103, 1, 4197, 4198, 1008, 4200, 4199) := ⟨pHas 4 197 rfl rfl, pHas 4 198 rfl rfl, pHas 4 199 rfl rfl⟩
set_option maxRecDepth 100000 in
theorem pca_205 : pCaF (6, 22, 1, 104, 1, 4201, 4203, 1008, 4204, 27) := ⟨pHas 4 201 rfl rfl, pHas 4 203 rfl rfl, pHas 0 27 rfl rfl⟩
set_option maxRecDepth 100000 in
theorem pca_206 : pCaF (6, 38, 1, 42, 1, 4205, 4160, 1002, 4162, 4161) := ⟨pHas 4 205 rfl rfl, pHas 4 160 rfl rfl, pHas 4 161 rfl rfl⟩
set_option maxRecDepth 100000 in
theorem pca_207 : pCaF (6, 31, 1, 105, 2, 4206, 4208, 1008, 4209, 28) := ⟨pHas 4 206 rfl rfl, pHas 4 208 rfl rfl, pHas 0 28 rfl rfl⟩
set_option maxRecDepth 100000 in
theorem pca_208 : pCaF (21, 167, 1, 164, 3, 4210, 4211, 1001, 4213, 4212) := ⟨pHas 4 210 rfl rfl, pHas 4 211 rfl rfl, pHas 4 212 rfl rfl⟩
set_option maxRecDepth 100000 in
theorem pca_209 : pCaF (8, 346, 1, 109, 2, 4214, 4215, 1006, 4217, 4216) := ⟨pHas 4 214 rfl rfl, pHas 4 215 rfl rfl, pHas 4 216 rfl rfl⟩
set_option maxRecDepth 100000 in
theorem pca_210 : pCaF (7, 30, 2, 356, 2, 4218, 2015, 1010, 2016, 0) := ⟨pHas 4 218 rfl rfl, pHas 2 15 rfl rfl⟩
set_option maxRecDepth 100000 in
theorem pca_211 : pCaF (8, 352, 1, 112, 4, 4219, 4220, 1006, 4222, 4221) := ⟨pHas 4 219 rfl rfl, pHas 4 220 rfl rfl, pHas 4 221 rfl rfl⟩
set_option maxRecDepth 100000 in
theorem pca_212 : pCaF (7, 54, 1, 113, 3, 4223, 4225, 1006, 4226, 29) := ⟨pHas 4 223 rfl rfl, pHas 4 225 rfl rfl, pHas 0 29 rfl rfl⟩
set_option maxRecDepth 100000 in
theorem pca_213 : pCaF (7, 58, 1, 36, 2, 4227, 2228, 1002, 2230, 2229) := ⟨pHas 4 227 rfl rfl, pHas 2 228 rfl rfl, pHas 2 229 rfl rfl⟩
set_option maxRecDepth 100000 in
theorem pca_214 : pCaF (7, 66, 1, 97, 2, 4228, 3106, 1003, 3108, 3107) := ⟨pHas 4 228 rfl rfl, pHas 3 106 rfl rfl, pHas 3 107 rfl rfl⟩
set_option maxRecDepth 100000 in
theorem pca_215 : pCaF (7, 44, 4, 185, 1, 4229, 4230, 1001, 4231, 0) := ⟨pHasN 4 229 rfl rfl, pHas 4 230 rfl rfl⟩
set_option maxRecDepth 100000 in
theorem pca_216 : pCaF (21, 183, 1, 165, 3, 4232, 4233, 1001, 4235, 4234) := ⟨pHas 4 232 rfl rfl, pHas 4 233 rfl rfl, pHas 4 234 rfl rfl⟩
set_option maxRecDepth 100000 in
theorem pca_217 : pCaF (8, 356, 1, 110, 2, 4236, 4237, 1006, 4239, 4238) := ⟨pHas 4 236 rfl rfl, pHas 4 237 rfl rfl, pHas 4 238 rfl rfl⟩
set_option maxRecDepth 100000 in
theorem pca_218 : pCaF (7, 40, 1, 42, 1, 5000, 4160, 1002, 4162, 4161) := ⟨pHas 5 0 rfl rfl, pHas 4 160 rfl rfl, pHas 4 161 rfl rfl⟩
set_option maxRecDepth 100000 in
theorem pca_219 : pCaF (7, 50, 1, 111, 3, 5001, 5003, 1006, 5004, 30) := ⟨pHas 5 1 rfl rfl, pHas 5 3 rfl rfl, pHas 0 30 rfl rfl⟩
set_option maxRecDepth 100000 in
theorem pca_220 : pCaF (21, 191, 1, 166, 1, 5005, 5006, 1001, 5008, 5007) := ⟨pHas 5 5 rfl rfl, pHas 5 6 rfl rfl, pHas 5 7 rfl rfl⟩
set_option maxRecDepth 100000 in
theorem pca_221 : pCaF (21, 171, 1, 167, 1, 5009, 5010, 1001, 5012, 5011) := ⟨pHas 5 9 rfl rfl, pHas 5 10 rfl rfl, pHas 5 11 rfl rfl⟩
set_option maxRecDepth 100000 in
theorem pca_222 : pCaF (8, 360, 1, 51, 1, 5013, 3207, 1002, 3209, 3208) := ⟨pHas 5 13 rfl rfl, pHas 3 207 rfl rfl, pHas 3 208 rfl rfl⟩
set_option maxRecDepth 100000 in
theorem pca_223 : pCaF (21, 187, 1, 168, 1, 5014, 5015, 1001, 5017, 5016) := ⟨pHas 5 14 rfl rfl, pHas 5 15 rfl rfl, pHas 5 16 rfl rfl⟩
set_option maxRecDepth 100000 in
theorem pca_224 : pCaF (21, 207, 1, 171, 2, 5018, 5019, 1001, 5021, 5020) := ⟨pHas 5 18 rfl rfl, pHas 5 19 rfl rfl, pHas 5 20 rfl rfl⟩
set_option maxRecDepth 100000 in
theorem pca_225 : pCaF (8, 369, 2, 352, 2, 5022, 5023, 1013, 5024, 0) := ⟨pHas 5 22 rfl rfl, pHas 5 23 rfl rfl⟩
set_option maxRecDepth 100000 in
theorem pca_226 : pCaF (21, 211, 1, 172, 1, 5025, 5026, 1001, 5028, 5027) := ⟨pHas 5 25 rfl rfl, pHas 5 26 rfl rfl, pHas 5 27 rfl rfl⟩
set_option maxRecDepth 100000 in
theorem pca_227 : pCaF (21, 215, 1, 173, 2, 5029, 5030, 1001, 5032, 5031) := ⟨pHas 5 29 rfl rfl, pHas 5 30 rfl rfl, pHas 5 31 rfl rfl⟩
set_option maxRecDepth 100000 in
theorem pca_228 : pCaF (8, 372, 1, 56, 1, 5033, 5034, 1002, 5036, 5035) := ⟨pHas 5 33 rfl rfl, pHas 5 34 rfl rfl, pHas 5 35 rfl rfl⟩
set_option maxRecDepth 100000 in
theorem pca_229 : pCaF (21, 219, 1, 174, 0, 5037, 5038, 1001, 5040, 5039) := ⟨pHas 5 37 rfl rfl, pHas 5 38 rfl rfl, pHas 5 39 rfl rfl⟩
set_option maxRecDepth 100000 in
theorem pca_230 : pCaF (21, 224, 1, 175, 5, 5041, 5042, 1001, 5044, 5043) := ⟨pHas 5 41 rfl rfl, pHas 5 42 rfl rfl, pHas 5 43 rfl rfl⟩
set_option maxRecDepth 100000 in
theorem pca_231 : pCaF (8, 375, 1, 58, 2, 5045, 5046, 1007, 5048, 5047) := ⟨pHas 5 45 rfl rfl, pHas 5 46 rfl rfl, pHas 5 47 rfl rfl⟩
set_option maxRecDepth 100000 in
theorem pca_232 : pCaF (2, 24, 1, 38, 2, 5049, 4003, 1002, 4005, 4004) := ⟨pHas 5 49 rfl rfl, pHas 4 3 rfl rfl, pHas 4 4 rfl rfl⟩
set_option maxRecDepth 100000 in
theorem pca_233 : pCaF (8, 379, 1, 59, 3, 5050, 5051, 1007, 5053, 5052) := ⟨pHas 5 50 rfl rfl, pHas 5 51 rfl rfl, pHas 5 52 rfl rfl⟩
set_option maxRecDepth 100000 in
theorem pca_234 : pCaF (2, 34, 1, 60, 2, 5054, 5056, 1007, 5057, 31) := ⟨pHas 5 54 rfl rfl, pHas 5 56 rfl rfl, pHas 0 31 rfl rfl⟩
set_option maxRecDepth 100000 in
theorem pca_235 : pCaF (21, 229, 1, 176, 1, 5058, 5059, 1001, 5061, 5060) := ⟨pHas 5 58 rfl rfl, pHas 5 59 rfl rfl, pHas 5 60 rfl rfl⟩
set_option maxRecDepth 100000 in
theorem pca_236 : pCaF (8, 382, 1, 1, 1, 5062, 5063, 1009, 5065, 5064) := ⟨pHas 5 62 rfl rfl, pHas 5 63 rfl rfl, pHas 5 64 rfl rfl⟩
set_option maxRecDepth 100000 in
theorem pca_237 : pCaF (0, 19, 1, 82, 1, 5066, 2037, 1003, 2039, 2038) := ⟨pHas 5 66 rfl rfl, pHas 2 37 rfl rfl, pHas 2 38 rfl rfl⟩
set_option maxRecDepth 100000 in
theorem pca_238 : pCaF (0, 25, 1, 98, 2, 5067, 2200, 1003, 2202, 2201) := ⟨pHas 5 67 rfl rfl, pHas 2 200 rfl rfl, pHas 2 201 rfl rfl⟩
set_option maxRecDepth 100000 in
theorem pca_239 : pCaF (0, 29, 2, 2, 2, 5068, 5069, 1009, 5070, 0) := ⟨pHas 5 68 rfl rfl, pHas 5 69 rfl rfl⟩
set_option maxRecDepth 100000 in
theorem pca_240 : pCaF (0, 33, 2, 3, 4, 5071, 5072, 1009, 5073, 0) := ⟨pHas 5 71 rfl rfl, pHas 5 72 rfl rfl⟩
set_option maxRecDepth 100000 in
theorem pca_241 : pCaF (0, 37, 1, 96, 3, 5074, 2160, 1003, 2162, 2161) := ⟨pHas 5 74 rfl rfl, pHas 2 160 rfl rfl, pHas 2 161 rfl rfl⟩
set_option maxRecDepth 100000 in
theorem pca_242 : pCaF (0, 41, 1, 97, 2, 5075, 3106, 1003, 3108, 3107) := ⟨pHas 5 75 rfl rfl, pHas 3 106 rfl rfl, pHas 3 107 rfl rfl⟩
set_option maxRecDepth 100000 in
theorem pca_243 : pCaF (21, 233, 1, 177, 2, 5076, 5077, 1001, 5079, 5078) := ⟨pHas 5 76 rfl rfl, pHas 5 77 rfl rfl, pHas 5 78 rfl rfl⟩
set_option maxRecDepth 100000 in
theorem pca_244 : pCaF (8, 390, 1, 6, 1, 5080, 5081, 1002, 5083, 5082) := ⟨pHas 5 80 rfl rfl, pHas 5 81 rfl rfl, pHas 5 82 rfl rfl⟩
set_option maxRecDepth 100000 in
theorem pca_245 : pCaF (1, 74, 1, 79, 1, 5084, 5085, 1003, 5087, 5086) := ⟨pHas 5 84 rfl rfl, pHas 5 85 rfl rfl, pHas 5 86 rfl rfl⟩
set_option maxRecDepth 100000 in
theorem pca_246 : pCaF (1, 81, 1, 7, 3, 5088, 3152, 1002, 3154, 3153) := ⟨pHas 5 88 rfl rfl, pHas 3 152 rfl rfl, pHas 3 153 rfl rfl⟩
set_option maxRecDepth 100000 in
theorem pca_247 : pCaF (8, 393, 1, 181, 0, 5089, 5091, 1001, 5092, 32) := ⟨pHas 5 89 rfl rfl, pHas 5 91 rfl rfl, pHas 0 32 rfl rfl⟩
set_option maxRecDepth 100000 in
theorem pca_248 : pCaF (21, 237, 1, 178, 1, 5093, 5094, 1001, 5096, 5095) := ⟨pHas 5 93 rfl rfl, pHas 5 94 rfl rfl, pHas 5 95 rfl rfl⟩
set_option maxRecDepth 100000 in
theorem pca_249 : pCaF (21, 241, 1, 179, 2, 5097, 5098, 1001, 5100, 5099) := ⟨pHas 5 97 rfl rfl, pHas 5 98 rfl rfl, pHas 5 99 rfl rfl⟩
set_option maxRecDepth 100000 in
theorem pca_250 : pCaF (21, 245, 1, 180, 2, 5101, 5102, 1001, 5104, 5103) := ⟨pHas 5 101 rfl rfl, pHas 5 102 rfl rfl, pHas 5 103 rfl rfl⟩
set_option maxRecDepth 100000 in
theorem pca_251 : pCaF (21, 12, 3, 186, 0, 5107, 5108, 1012, 5109, 0) := ⟨pHas 5 107 rfl rfl, pHas 5 108 rfl rfl, rfl, rfl⟩
set_option maxRecDepth 100000 in
theorem pca_252 : pCaF (9, 1, 0, 0, 0, 5110, 1024, 0, 0, 0) := ⟨pHas 5 110 rfl rfl, pHas 1 24 rfl rfl⟩
set_option maxRecDepth 100000 in
theorem pca_253 : pCaF (9, 54, 1, 195, 3, 5112, 5114, 1012, 5115, 33) := ⟨pHas 5 112 rfl rfl, pHas 5 114 rfl rfl, pHas 0 33 rfl rfl⟩
set_option maxRecDepth 100000 in
theorem pca_254 : pCaF (9, 58, 1, 197, 3, 5116, 5118, 1012, 5119, 34) := ⟨pHas 5 116 rfl rfl, pHas 5 118 rfl rfl, pHas 0 34 rfl rfl⟩
set_option maxRecDepth 100000 in
theorem pca_255 : pCaF (9, 61, 1, 219, 0, 5120, 5122, 1012, 5123, 35) := ⟨pHas 5 120 rfl rfl, pHas 5 122 rfl rfl, pHas 0 35 rfl rfl⟩
set_option maxRecDepth 100000 in
theorem pca_256 : pCaF (9, 141, 1, 218, 2, 5124, 5126, 1012, 5127, 36) := ⟨pHas 5 124 rfl rfl, pHas 5 126 rfl rfl, pHas 0 36 rfl rfl⟩
set_option maxRecDepth 100000 in
theorem pca_257 : pCaF (9, 138, 1, 217, 2, 5128, 5130, 1012, 5131, 37) := ⟨pHas 5 128 rfl rfl, pHas 5 130 rfl rfl, pHas 0 37 rfl rfl⟩
set_option maxRecDepth 100000 in
theorem pca_258 : pCaF (9, 102, 1, 196, 2, 5132, 5134, 1012, 5135, 38) := ⟨pHas 5 132 rfl rfl, pHas 5 134 rfl rfl, pHas 0 38 rfl rfl⟩
set_option maxRecDepth 100000 in
theorem pca_259 : pCaF (9, 82, 1, 201, 4, 5136, 5138, 1012, 5139, 39) := ⟨pHas 5 136 rfl rfl, pHas 5 138 rfl rfl, pHas 0 39 rfl rfl⟩
set_option maxRecDepth 100000 in
theorem pca_260 : pCaF (9, 75, 1, 192, 1, 5140, 5142, 1012, 5143, 40) := ⟨pHas 5 140 rfl rfl, pHas 5 142 rfl rfl, pHas 0 40 rfl rfl⟩
set_option maxRecDepth 100000 in
theorem pca_261 : pCaF (9, 79, 1, 193, 1, 5144, 5146, 1012, 5147, 41) := ⟨pHas 5 144 rfl rfl, pHas 5 146 rfl rfl, pHas 0 41 rfl rfl⟩
set_option maxRecDepth 100000 in
theorem pca_262 : pCaF (9, 118, 1, 212, 2, 5148, 5150, 1012, 5151, 42) := ⟨pHas 5 148 rfl rfl, pHas 5 150 rfl rfl, pHas 0 42 rfl rfl⟩
set_option maxRecDepth 100000 in
theorem pca_263 : pCaF (9, 144, 1, 215, 2, 5152, 5154, 1012, 5155, 43) := ⟨pHas 5 152 rfl rfl, pHas 5 154 rfl rfl, pHas 0 43 rfl rfl⟩
set_option maxRecDepth 100000 in
theorem pca_264 : pCaF (9, 71, 1, 191, 1, 5156, 5158, 1012, 5159, 44) := ⟨pHas 5 156 rfl rfl, pHas 5 158 rfl rfl, pHas 0 44 rfl rfl⟩
set_option maxRecDepth 100000 in
theorem pca_265 : pCaF (9, 67, 2, 188, 3, 5160, 5161, 1012, 5162, 0) := ⟨pHas 5 160 rfl rfl, pHas 5 161 rfl rfl⟩
set_option maxRecDepth 100000 in
theorem pca_266 : pCaF (9, 90, 1, 202, 3, 5163, 5165, 1012, 5166, 45) := ⟨pHas 5 163 rfl rfl, pHas 5 165 rfl rfl, pHas 0 45 rfl rfl⟩
set_option maxRecDepth 100000 in
theorem pca_267 : pCaF (9, 128, 1, 209, 2, 5167, 5169, 1012, 5170, 46) := ⟨pHas 5 167 rfl rfl, pHas 5 169 rfl rfl, pHas 0 46 rfl rfl⟩
set_option maxRecDepth 100000 in
theorem pca_268 : pCaF (9, 108, 1, 207, 2, 5171, 5173, 1012, 5174, 47) := ⟨pHas 5 171 rfl rfl, pHas 5 173 rfl rfl, pHas 0 47 rfl rfl⟩
set_option maxRecDepth 100000 in
theorem pca_269 : pCaF (9, 98, 1, 203, 4, 5175, 5177, 1012, 5178, 48) := ⟨pHas 5 175 rfl rfl, pHas 5 177 rfl rfl, pHas 0 48 rfl rfl⟩
set_option maxRecDepth 100000 in
theorem pca_270 : pCaF (9, 86, 1, 204, 2, 5179, 5181, 1012, 5182, 49) := ⟨pHas 5 179 rfl rfl, pHas 5 181 rfl rfl, pHas 0 49 rfl rfl⟩
set_option maxRecDepth 100000 in
theorem pca_271 : pCaF (9, 111, 1, 208, 2, 5183, 5185, 1012, 5186, 50) := ⟨pHas 5 183 rfl rfl, pHas 5 185 rfl rfl, pHas 0 50 rfl rfl⟩
set_option maxRecDepth 100000 in
theorem pca_272 : pCaF (9, 105, 1, 206, 4, 5187, 5189, 1012, 5190, 51) := ⟨pHas 5 187 rfl rfl, pHas 5 189 rfl rfl, pHas 0 51 rfl rfl⟩
set_option maxRecDepth 100000 in
theorem pca_273 : pCaF (9, 94, 2, 205, 2, 5191, 5192, 1012, 5193, 0) := ⟨pHas 5 191 rfl rfl, pHas 5 192 rfl rfl⟩
set_option maxRecDepth 100000 in
theorem pca_274 : pCaF (9, 131, 1, 214, 4, 5194, 5196, 1012, 5197, 52) := ⟨pHas 5 194 rfl rfl, pHas 5 196 rfl rfl, pHas 0 52 rfl rfl⟩
set_option maxRecDepth 100000 in
theorem pca_275 : pCaF (9, 121, 1, 211, 4, 5198, 5200, 1012, 5201, 53) := ⟨pHas 5 198 rfl rfl, pHas 5 200 rfl rfl, pHas 0 53 rfl rfl⟩
set_option maxRecDepth 100000 in
theorem pca_276 : pCaF (9, 114, 1, 210, 5, 5202, 5204, 1012, 5205, 54) := ⟨pHas 5 202 rfl rfl, pHas 5 204 rfl rfl, pHas 0 54 rfl rfl⟩
set_option maxRecDepth 100000 in
theorem pca_277 : pCaF (9, 125, 1, 200, 2, 5206, 5208, 1012, 5209, 55) := ⟨pHas 5 206 rfl rfl, pHas 5 208 rfl rfl, pHas 0 55 rfl rfl⟩
set_option maxRecDepth 100000 in
theorem pca_278 : pCaF (9, 147, 1, 216, 3, 5210, 5212, 1012, 5213, 56) := ⟨pHas 5 210 rfl rfl, pHas 5 212 rfl rfl, pHas 0 56 rfl rfl⟩
set_option maxRecDepth 100000 in
theorem pca_279 : pCaF (9, 150, 1, 220, 0, 5214, 5216, 1012, 5217, 57) := ⟨pHas 5 214 rfl rfl, pHas 5 216 rfl rfl, pHas 0 57 rfl rfl⟩
set_option maxRecDepth 100000 in
theorem pca_280 : pCaF (9, 153, 1, 221, 1, 5218, 5220, 1012, 5221, 58) := ⟨pHas 5 218 rfl rfl, pHas 5 220 rfl rfl, pHas 0 58 rfl rfl⟩
set_option maxRecDepth 100000 in
theorem pca_281 : pCaF (9, 64, 1, 341, 0, 5222, 5224, 1012, 5225, 59) := ⟨pHas 5 222 rfl rfl, pHas 5 224 rfl rfl, pHas 0 59 rfl rfl⟩
set_option maxRecDepth 100000 in
theorem pca_282 : pCaF (9, 388, 2, 187, 2, 5226, 5227, 1012, 5228, 0) := ⟨pHas 5 226 rfl rfl, pHas 5 227 rfl rfl⟩
set_option maxRecDepth 100000 in
theorem pca_283 : pCaF (21, 58, 1, 226, 2, 6048, 6049, 1012, 6051, 6050) := ⟨pHas 6 48 rfl rfl, pHas 6 49 rfl rfl, pHas 6 50 rfl rfl⟩
set_option maxRecDepth 100000 in
theorem pca_284 : pCaF (9, 159, 2, 189, 2, 6052, 6053, 1012, 6054, 0) := ⟨pHas 6 52 rfl rfl, pHas 6 53 rfl rfl⟩
set_option maxRecDepth 100000 in
theorem pca_285 : pCaF (9, 162, 1, 225, 0, 6055, 6057, 1012, 6058, 60) := ⟨pHas 6 55 rfl rfl, pHas 6 57 rfl rfl, pHas 0 60 rfl rfl⟩
set_option maxRecDepth 100000 in
theorem pca_286 : pCaF (9, 156, 2, 224, 2, 6059, 6060, 1012, 6061, 0) := ⟨pHas 6 59 rfl rfl, pHas 6 60 rfl rfl⟩
set_option maxRecDepth 100000 in
theorem pca_287 : pCaF (21, 62, 1, 227, 0, 6062, 6063, 1012, 6065, 6064) := ⟨pHas 6 62 rfl rfl, pHas 6 63 rfl rfl, pHas 6 64 rfl rfl⟩
set_option maxRecDepth 100000 in
theorem pca_288 : pCaF (21, 70, 1, 228, 0, 6066, 6067, 1012, 6069, 6068) := ⟨pHas 6 66 rfl rfl, pHas 6 67 rfl rfl, pHas 6 68 rfl rfl⟩
set_option maxRecDepth 100000 in
theorem pca_289 : pCaF (21, 17, 1, 232, 2, 6070, 6071, 1012, 6073, 6072) := ⟨pHas 6 70 rfl rfl, pHas 6 71 rfl rfl, pHas 6 72 rfl rfl⟩
set_option maxRecDepth 100000 in
theorem pca_290 : pCaF (9, 175, 1, 231, 2, 6074, 6076, 1012, 6077, 61) := ⟨pHas 6 74 rfl rfl, pHas 6 76 rfl rfl, pHas 0 61 rfl rfl⟩
set_option maxRecDepth 100000 in
theorem pca_291 : pCaF (9, 169, 1, 198, 2, 6078, 6080, 1012, 6081, 62) := ⟨pHas 6 78 rfl rfl, pHas 6 80 rfl rfl, pHas 0 62 rfl rfl⟩
set_option maxRecDepth 100000 in
theorem pca_292 : pCaF (9, 165, 1, 199, 0, 6082, 6084, 1012, 6085, 63) := ⟨pHas 6 82 rfl rfl, pHas 6 84 rfl rfl, pHas 0 63 rfl rfl⟩
set_option maxRecDepth 100000 in
theorem pca_293 : pCaF (9, 178, 1, 230, 2, 6086, 6088, 1012, 6089, 64) := ⟨pHas 6 86 rfl rfl, pHas 6 88 rfl rfl, pHas 0 64 rfl rfl⟩
set_option maxRecDepth 100000 in
theorem pca_294 : pCaF (9, 172, 1, 229, 3, 6090, 6092, 1012, 6093, 65) := ⟨pHas 6 90 rfl rfl, pHas 6 92 rfl rfl, pHas 0 65 rfl rfl⟩
set_option maxRecDepth 100000 in
theorem pca_295 : pCaF (21, 22, 1, 236, 1, 6094, 6095, 1012, 6097, 6096) := ⟨pHas 6 94 rfl rfl, pHas 6 95 rfl rfl, pHas 6 96 rfl rfl⟩
set_option maxRecDepth 100000 in
theorem pca_296 : pCaF (9, 184, 1, 234, 1, 6098, 6100, 1012, 6101, 66) := ⟨pHas 6 98 rfl rfl, pHas 6 100 rfl rfl, pHas 0 66 rfl rfl⟩
set_option maxRecDepth 100000 in
theorem pca_297 : pCaF (9, 181, 1, 233, 1, 6102, 6104, 1012, 6105, 67) := ⟨pHas 6 102 rfl rfl, pHas 6 104 rfl rfl, pHas 0 67 rfl rfl⟩
set_option maxRecDepth 100000 in
theorem pca_298 : pCaF (9, 187, 1, 235, 1, 6106, 6108, 1012, 6109, 68) := ⟨pHas 6 106 rfl rfl, pHas 6 108 rfl rfl, pHas 0 68 rfl rfl⟩
set_option maxRecDepth 100000 in
theorem pca_299 : pCaF (21, 27, 1, 238, 3, 6110, 6111, 1012, 6113, 6112) := ⟨pHas 6 110 rfl rfl, pHas 6 111 rfl rfl, pHas 6 112 rfl rfl⟩
set_option maxRecDepth 100000 in
theorem pca_300 : pCaF (9, 191, 1, 237, 3, 6114, 6116, 1012, 6117, 69) := ⟨pHas 6 114 rfl rfl, pHas 6 116 rfl rfl, pHas 0 69 rfl rfl⟩
set_option maxRecDepth 100000 in
theorem pca_301 : pCaF (21, 32, 1, 241, 2, 6118, 6119, 1012, 6121, 6120) := ⟨pHas 6 118 rfl rfl, pHas 6 119 rfl rfl, pHas 6 120 rfl rfl⟩
set_option maxRecDepth 100000 in
theorem pca_302 : pCaF (9, 197, 1, 240, 2, 6122, 6124, 1012, 6125, 70) := ⟨pHas 6 122 rfl rfl, pHas 6 124 rfl rfl, pHas 0 70 rfl rfl⟩
set_option maxRecDepth 100000 in
theorem pca_303 : pCaF (9, 194, 1, 239, 2, 6126, 6128, 1012, 6129, 71) := ⟨pHas 6 126 rfl rfl, pHas 6 128 rfl rfl, pHas 0 71 rfl rfl⟩
set_option maxRecDepth 100000 in
theorem pca_304 : pCaF (21, 36, 1, 243, 2, 6130, 6131, 1012, 6133, 6132) := ⟨pHas 6 130 rfl rfl, pHas 6 131 rfl rfl, pHas 6 132 rfl rfl⟩
set_option maxRecDepth 100000 in
theorem pca_305 : pCaF (9, 200, 1, 242, 2, 6134, 6136, 1012, 6137, 72) := ⟨pHas 6 134 rfl rfl, pHas 6 136 rfl rfl, pHas 0 72 rfl rfl⟩
set_option maxRecDepth 100000 in
theorem pca_306 : pCaF (21, 40, 1, 245, 2, 6138, 6139, 1012, 6141, 6140) := ⟨pHas 6 138 rfl rfl, pHas 6 139 rfl rfl, pHas 6 140 rfl rfl⟩
set_option maxRecDepth 100000 in
theorem pca_307 : pCaF (9, 203, 1, 244, 1, 6142, 6144, 1012, 6145, 73) := ⟨pHas 6 142 rfl rfl, pHas 6 144 rfl rfl, pHas 0 73 rfl rfl⟩
set_option maxRecDepth 100000 in
theorem pca_308 : pCaF (21, 44, 1, 246, 2, 6146, 6147, 1012, 6149, 6148) := ⟨pHas 6 146 rfl rfl, pHas 6 147 rfl rfl, pHas 6 148 rfl rfl⟩
set_option maxRecDepth 100000 in
theorem pca_309 : pCaF (21, 49, 1, 253, 1, 6150, 6151, 1012, 6153, 6152) := ⟨pHas 6 150 rfl rfl, pHas 6 151 rfl rfl, pHas 6 152 rfl rfl⟩
set_option maxRecDepth 100000 in
theorem pca_310 : pCaF (9, 224, 1, 252, 0, 6154, 6156, 1012, 6157, 74) := ⟨pHas 6 154 rfl rfl, pHas 6 156 rfl rfl, pHas 0 74 rfl rfl⟩
set_option maxRecDepth 100000 in
theorem pca_311 : pCaF (9, 218, 1, 251, 0, 6158, 6160, 1012, 6161, 75) := ⟨pHas 6 158 rfl rfl, pHas 6 160 rfl rfl, pHas 0 75 rfl rfl⟩
set_option maxRecDepth 100000 in
theorem pca_312 : pCaF (9, 212, 1, 250, 1, 6162, 6164, 1012, 6165, 76) := ⟨pHas 6 162 rfl rfl, pHas 6 164 rfl rfl, pHas 0 76 rfl rfl⟩
set_option maxRecDepth 100000 in
theorem pca_313 : pCaF (9, 206, 1, 247, 2, 6166, 6168, 1012, 6169, 77) := ⟨pHas 6 166 rfl rfl, pHas 6 168 rfl rfl, pHas 0 77 rfl rfl⟩
set_option maxRecDepth 100000 in
theorem pca_314 : pCaF (9, 215, 1, 249, 1, 6170, 6172, 1012, 6173, 78) := ⟨pHas 6 170 rfl rfl, pHas 6 172 rfl rfl, pHas 0 78 rfl rfl⟩
set_option maxRecDepth 100000 in
theorem pca_315 : pCaF (9, 209, 1, 248, 2, 6174, 6176, 1012, 6177, 79) := ⟨pHas 6 174 rfl rfl, pHas 6 176 rfl rfl, pHas 0 79 rfl rfl⟩
set_option maxRecDepth 100000 in
theorem pca_316 : pCaF (9, 221, 2, 190, 2, 6178, 6179, 1012, 6180, 0) := ⟨pHas 6 178 rfl rfl, pHas 6 179 rfl rfl⟩
set_option maxRecDepth 100000 in
theorem pca_317 : pCaF (21, 54, 1, 255, 0, 6181, 6182, 1012, 6184, 6183) := ⟨pHas 6 181 rfl rfl, pHas 6 182 rfl rfl, pHas 6 183 rfl rfl⟩
set_option maxRecDepth 100000 in
theorem pca_318 : pCaF (9, 231, 1, 254, 1, 6185, 6187, 1012, 6188, 80) := ⟨pHas 6 185 rfl rfl, pHas 6 187 rfl rfl, pHas 0 80 rfl rfl⟩
set_option maxRecDepth 100000 in
theorem pca_319 : pCaF (9, 228, 1, 281, 1, 6189, 6191, 1012, 6192, 81) := ⟨pHas 6 189 rfl rfl, pHas 6 191 rfl rfl, pHas 0 81 rfl rfl⟩
set_option maxRecDepth 100000 in
theorem pca_320 : pCaF (9, 287, 1, 280, 1, 6193, 6195, 1012, 6196, 82) := ⟨pHas 6 193 rfl rfl, pHas 6 195 rfl rfl, pHas 0 82 rfl rfl⟩
set_option maxRecDepth 100000 in
theorem pca_321 : pCaF (9, 234, 1, 213, 2, 6197, 6199, 1012, 6200, 83) := ⟨pHas 6 197 rfl rfl, pHas 6 199 rfl rfl, pHas 0 83 rfl rfl⟩
set_option maxRecDepth 100000 in
theorem pca_322 : pCaF (9, 290, 1, 279, 2, 6201, 6203, 1012, 6204, 84) := ⟨pHas 6 201 rfl rfl, pHas 6 203 rfl rfl, pHas 0 84 rfl rfl⟩
set_option maxRecDepth 100000 in
theorem pca_323 : pCaF (21, 66, 1, 256, 1, 6205, 6206, 1012, 6208, 6207) := ⟨pHas 6 205 rfl rfl, pHas 6 206 rfl rfl, pHas 6 207 rfl rfl⟩
set_option maxRecDepth 100000 in
theorem pca_324 : pCaF (21, 74, 1, 260, 1, 6209, 6210, 1012, 6212, 6211) := ⟨pHas 6 209 rfl rfl, pHas 6 210 rfl rfl, pHas 6 211 rfl rfl⟩
set_option maxRecDepth 100000 in
theorem pca_325 : pCaF (9, 237, 1, 257, 0, 6213, 6215, 1012, 6216, 85) := ⟨pHas 6 213 rfl rfl, pHas 6 215 rfl rfl, pHas 0 85 rfl rfl⟩
set_option maxRecDepth 100000 in
theorem pca_326 : pCaF (9, 240, 1, 258, 0, 6217, 6219, 1012, 6220, 86) := ⟨pHas 6 217 rfl rfl, pHas 6 219 rfl rfl, pHas 0 86 rfl rfl⟩
set_option maxRecDepth 100000 in
theorem pca_327 : pCaF (9, 243, 1, 259, 1, 6221, 6223, 1012, 6224, 87) := ⟨pHas 6 221 rfl rfl, pHas 6 223 rfl rfl, pHas 0 87 rfl rfl⟩
set_option maxRecDepth 100000 in
theorem pca_328 : pCaF (9, 246, 1, 289, 0, 6225, 6227, 1012, 6228, 88) := ⟨pHas 6 225 rfl rfl, pHas 6 227 rfl rfl, pHas 0 88 rfl rfl⟩
set_option maxRecDepth 100000 in
theorem pca_329 : pCaF (9, 299, 1, 288, 2, 6229, 6231, 1012, 6232, 89) := ⟨pHas 6 229 rfl rfl, pHas 6 231 rfl rfl, pHas 0 89 rfl rfl⟩
set_option maxRecDepth 100000 in
theorem pca_330 : pCaF (9, 272, 1, 266, 2, 6233, 6235, 1012, 6236, 90) := ⟨pHas 6 233 rfl rfl, pHas 6 235 rfl rfl, pHas 0 90 rfl rfl⟩
set_option maxRecDepth 100000 in
theorem pca_331 : pCaF (9, 249, 1, 319, 0, 6237, 6239, 1012, 7000, 91) := ⟨pHas 6 237 rfl rfl, pHas 6 239 rfl rfl, pHas 0 91 rfl rfl⟩
set_option maxRecDepth 100000 in
theorem pca_332 : pCaF (9, 348, 1, 318, 2, 7001, 7003, 1012, 7004, 92) := ⟨pHas 7 1 rfl rfl, pHas 7 3 rfl rfl, pHas 0 92 rfl rfl⟩
set_option maxRecDepth 100000 in
theorem pca_333 : pCaF (9, 345, 1, 317, 3, 7005, 7007, 1012, 7008, 93) := ⟨pHas 7 5 rfl rfl, pHas 7 7 rfl rfl, pHas 0 93 rfl rfl⟩
set_option maxRecDepth 100000 in
theorem pca_334 : pCaF (9, 252, 1, 296, 0, 7009, 7011, 1012, 7012, 94) := ⟨pHas 7 9 rfl rfl, pHas 7 11 rfl rfl, pHas 0 94 rfl rfl⟩
set_option maxRecDepth 100000 in
theorem pca_335 : pCaF (9, 308, 1, 294, 1, 7013, 7015, 1012, 7016, 95) := ⟨pHas 7 13 rfl rfl, pHas 7 15 rfl rfl, pHas 0 95 rfl rfl⟩
set_option maxRecDepth 100000 in
theorem pca_336 : pCaF (9, 281, 1, 274, 2, 7017, 7019, 1012, 7020, 96) := ⟨pHas 7 17 rfl rfl, pHas 7 19 rfl rfl, pHas 0 96 rfl rfl⟩
set_option maxRecDepth 100000 in
theorem pca_337 : pCaF (9, 278, 1, 273, 3, 7021, 7023, 1012, 7024, 97) := ⟨pHas 7 21 rfl rfl, pHas 7 23 rfl rfl, pHas 0 97 rfl rfl⟩
set_option maxRecDepth 100000 in
theorem pca_338 : pCaF (9, 255, 1, 298, 1, 7025, 7027, 1012, 7028, 98) := ⟨pHas 7 25 rfl rfl, pHas 7 27 rfl rfl, pHas 0 98 rfl rfl⟩
set_option maxRecDepth 100000 in
theorem pca_339 : pCaF (9, 314, 1, 299, 3, 7029, 7031, 1012, 7032, 99) := ⟨pHas 7 29 rfl rfl, pHas 7 31 rfl rfl, pHas 0 99 rfl rfl⟩
set_option maxRecDepth 100000 in
theorem pca_340 : pCaF (9, 259, 1, 300, 0, 7033, 7035, 1012, 7036, 100) := ⟨pHas 7 33 rfl rfl, pHas 7 35 rfl rfl, pHas 0 100 rfl rfl⟩
set_option maxRecDepth 100000 in
theorem pca_341 : pCaF (9, 317, 1, 301, 2, 7037, 7039, 1012, 7040, 101) := ⟨pHas 7 37 rfl rfl, pHas 7 39 rfl rfl, pHas 0 101 rfl rfl⟩
set_option maxRecDepth 100000 in
theorem pca_342 : pCaF (21, 78, 1, 262, 2, 7041, 7042, 1012, 7044, 7043) := ⟨pHas 7 41 rfl rfl, pHas 7 42 rfl rfl, pHas 7 43 rfl rfl⟩
set_option maxRecDepth 100000 in
theorem pca_343 : pCaF (9, 263, 1, 261, 1, 7046, 7048, 1012, 7049, 102) := ⟨pHas 7 46 rfl rfl, pHas 7 48 rfl rfl, pHas 0 102 rfl rfl⟩
set_option maxRecDepth 100000 in
theorem pca_344 : pCaF (9, 266, 1, 194, 1, 7050, 7052, 1012, 7053, 103) := ⟨pHas 7 50 rfl rfl, pHas 7 52 rfl rfl, pHas 0 103 rfl rfl⟩
set_option maxRecDepth 100000 in
theorem pca_345 : pCaF (21, 82, 1, 263, 2, 7054, 7055, 1012, 7057, 7056) := ⟨pHas 7 54 rfl rfl, pHas 7 55 rfl rfl, pHas 7 56 rfl rfl⟩
set_option maxRecDepth 100000 in
theorem pca_346 : pCaF (21, 86, 1, 265, 2, 7058, 7059, 1012, 7061, 7060) := ⟨pHas 7 58 rfl rfl, pHas 7 59 rfl rfl, pHas 7 60 rfl rfl⟩
set_option maxRecDepth 100000 in
theorem pca_347 : pCaF (9, 269, 1, 264, 1, 7062, 7064, 1012, 7065, 104) := ⟨pHas 7 62 rfl rfl, pHas 7 64 rfl rfl, pHas 0 104 rfl rfl⟩
set_option maxRecDepth 100000 in
theorem pca_348 : pCaF (21, 90, 1, 267, 2, 7066, 7067, 1012, 7069, 7068) := ⟨pHas 7 66 rfl rfl, pHas 7 67 rfl rfl, pHas 7 68 rfl rfl⟩
set_option maxRecDepth 100000 in
theorem pca_349 : pCaF (21, 94, 1, 268, 1, 7070, 7071, 1012, 7073, 7072) := ⟨pHas 7 70 rfl rfl, pHas 7 71 rfl rfl, pHas 7 72 rfl rfl⟩
set_option maxRecDepth 100000 in
theorem pca_350 : pCaF (21, 99, 1, 269, 3, 7074, 7075, 1012, 7077, 7076) := ⟨pHas 7 74 rfl rfl, pHas 7 75 rfl rfl, pHas 7 76 rfl rfl⟩
set_option maxRecDepth 100000 in
theorem pca_351 : pCaF (9, 275, 1, 270, 2, 7078, 7080, 1012, 7081, 105) := ⟨pHas 7 78 rfl rfl, pHas 7 80 rfl rfl, pHas 0 105 rfl rfl⟩
set_option maxRecDepth 100000 in
theorem pca_352 : pCaF (21, 103, 1, 271, 2, 7082, 7083, 1012, 7085, 7084) := ⟨pHas 7 82 rfl rfl, pHas 7 83 rfl rfl, pHas 7 84 rfl rfl⟩
set_option maxRecDepth 100000 in
theorem pca_353 : pCaF (21, 107, 1, 272, 2, 7086, 7087, 1012, 7089, 7088) := ⟨pHas 7 86 rfl rfl, pHas 7 87 rfl rfl, pHas 7 88 rfl rfl⟩
set_option maxRecDepth 100000 in
theorem pca_354 : pCaF (21, 111, 1, 275, 2, 7090, 7091, 1012, 7093, 7092) := ⟨pHas 7 90 rfl rfl, pHas 7 91 rfl rfl, pHas 7 92 rfl rfl⟩
set_option maxRecDepth 100000 in
theorem pca_355 : pCaF (21, 115, 1, 276, 2, 7094, 7095, 1012, 7097, 7096) := ⟨pHas 7 94 rfl rfl, pHas 7 95 rfl rfl, pHas 7 96 rfl rfl⟩
set_option maxRecDepth 100000 in
theorem pca_356 : pCaF (21, 120, 1, 278, 4, 7098, 7099, 1012, 7101, 7100) := ⟨pHas 7 98 rfl rfl, pHas 7 99 rfl rfl, pHas 7 100 rfl rfl⟩
set_option maxRecDepth 100000 in
theorem pca_357 : pCaF (9, 284, 1, 277, 3, 7102, 7104, 1012, 7105, 106) := ⟨pHas 7 102 rfl rfl, pHas 7 104 rfl rfl, pHas 0 106 rfl rfl⟩
set_option maxRecDepth 100000 in
theorem pca_358 : pCaF (21, 124, 1, 282, 2, 7106, 7107, 1012, 7109, 7108) := ⟨pHas 7 106 rfl rfl, pHas 7 107 rfl rfl, pHas 7 108 rfl rfl⟩
set_option maxRecDepth 100000 in
theorem pca_359 : pCaF (21, 129, 1, 284, 2, 7110, 7111, 1012, 7113, 7112) := ⟨pHas 7 110 rfl rfl, pHas 7 111 rfl rfl, pHas 7 112 rfl rfl⟩
set_option maxRecDepth 100000 in
theorem pca_360 : pCaF (9, 293, 1, 283, 1, 7114, 7116, 1012, 7117, 107) := ⟨pHas 7 114 rfl rfl, pHas 7 116 rfl rfl, pHas 0 107 rfl rfl⟩
set_option maxRecDepth 100000 in
theorem pca_361 : pCaF (21, 133, 1, 285, 2, 7118, 7119, 1012, 7121, 7120) := ⟨pHas 7 118 rfl rfl, pHas 7 119 rfl rfl, pHas 7 120 rfl rfl⟩
set_option maxRecDepth 100000 in
theorem pca_362 : pCaF (21, 137, 1, 286, 2, 7122, 7123, 1012, 7125, 7124) := ⟨pHas 7 122 rfl rfl, pHas 7 123 rfl rfl, pHas 7 124 rfl rfl⟩
set_option maxRecDepth 100000 in
theorem pca_363 : pCaF (21, 142, 1, 287, 1, 7126, 7127, 1012, 7129, 7128) := ⟨pHas 7 126 rfl rfl, pHas 7 127 rfl rfl, pHas 7 128 rfl rfl⟩
set_option maxRecDepth 100000 in
theorem pca_364 : pCaF (9, 296, 1, 286, 2, 7130, 7123, 1012, 7125, 7124) := ⟨pHas 7 130 rfl rfl, pHas 7 123 rfl rfl, pHas 7 124 rfl rfl⟩
set_option maxRecDepth 100000 in
theorem pca_365 : pCaF (21, 146, 1, 290, 1, 7131, 7132, 1012, 7134, 7133) := ⟨pHas 7 131 rfl rfl, pHas 7 132 rfl rfl, pHas 7 133 rfl rfl⟩
set_option maxRecDepth 100000 in
theorem pca_366 : pCaF (21, 150, 1, 291, 2, 7135, 7136, 1012, 7138, 7137) := ⟨pHas 7 135 rfl rfl, pHas 7 136 rfl rfl, pHas 7 137 rfl rfl⟩
set_option maxRecDepth 100000 in
theorem pca_367 : pCaF (9, 302, 1, 292, 1, 7139, 7141, 1012, 7142, 108) := ⟨pHas 7 139 rfl rfl, pHas 7 141 rfl rfl, pHas 0 108 rfl rfl⟩
set_option maxRecDepth 100000 in
theorem pca_368 : pCaF (9, 305, 1, 293, 1, 7143, 7145, 1012, 7146, 109) := ⟨pHas 7 143 rfl rfl, pHas 7 145 rfl rfl, pHas 0 109 rfl rfl⟩
set_option maxRecDepth 100000 in
theorem pca_369 : pCaF (9, 311, 1, 295, 1, 7147, 7149, 1012, 7150, 110) := ⟨pHas 7 147 rfl rfl, pHas 7 149 rfl rfl, pHas 0 110 rfl rfl⟩
set_option maxRecDepth 100000 in
theorem pca_370 : pCaF (21, 206, 1, 297, 0, 7151, 7152, 1012, 7154, 7153) := ⟨pHas 7 151 rfl rfl, pHas 7 152 rfl rfl, pHas 7 153 rfl rfl⟩
set_option maxRecDepth 100000 in
theorem pca_371 : pCaF (21, 190, 1, 302, 1, 7155, 7156, 1012, 7158, 7157) := ⟨pHas 7 155 rfl rfl, pHas 7 156 rfl rfl, pHas 7 157 rfl rfl⟩
set_option maxRecDepth 100000 in
theorem pca_372 : pCaF (21, 194, 1, 304, 1, 7159, 7160, 1012, 7162, 7161) := ⟨pHas 7 159 rfl rfl, pHas 7 160 rfl rfl, pHas 7 161 rfl rfl⟩
set_option maxRecDepth 100000 in
theorem pca_373 : pCaF (9, 320, 1, 303, 1, 7163, 7165, 1012, 7166, 111) := ⟨pHas 7 163 rfl rfl, pHas 7 165 rfl rfl, pHas 0 111 rfl rfl⟩
set_option maxRecDepth 100000 in
theorem pca_374 : pCaF (21, 186, 1, 307, 3, 7167, 7168, 1012, 7170, 7169) := ⟨pHas 7 167 rfl rfl, pHas 7 168 rfl rfl, pHas 7 169 rfl rfl⟩
set_option maxRecDepth 100000 in
theorem pca_375 : pCaF (9, 326, 1, 306, 1, 7171, 7173, 1012, 7174, 112) := ⟨pHas 7 171 rfl rfl, pHas 7 173 rfl rfl, pHas 0 112 rfl rfl⟩
set_option maxRecDepth 100000 in
theorem pca_376 : pCaF (9, 323, 1, 305, 2, 7175, 7177, 1012, 7178, 113) := ⟨pHas 7 175 rfl rfl, pHas 7 177 rfl rfl, pHas 0 113 rfl rfl⟩
set_option maxRecDepth 100000 in
theorem pca_377 : pCaF (21, 198, 1, 309, 4, 7179, 7180, 1012, 7182, 7181) := ⟨pHas 7 179 rfl rfl, pHas 7 180 rfl rfl, pHas 7 181 rfl rfl⟩
set_option maxRecDepth 100000 in
theorem pca_378 : pCaF (9, 329, 1, 308, 6, 7183, 7185, 1012, 7186, 114) := ⟨pHas 7 183 rfl rfl, pHas 7 185 rfl rfl, pHas 0 114 rfl rfl⟩
set_option maxRecDepth 100000 in
theorem pca_379 : pCaF (21, 154, 1, 310, 2, 7187, 7188, 1012, 7190, 7189) := ⟨pHas 7 187 rfl rfl, pHas 7 188 rfl rfl, pHas 7 189 rfl rfl⟩
set_option maxRecDepth 100000 in
theorem pca_380 : pCaF (9, 333, 1, 311, 3, 7191, 7193, 1012, 7194, 115) := ⟨pHas 7 191 rfl rfl, pHas 7 193 rfl rfl, pHas 0 115 rfl rfl⟩
set_option maxRecDepth 100000 in
theorem pca_381 : pCaF (21, 158, 1, 312, 1, 7195, 7196, 1012, 7198, 7197) := ⟨pHas 7 195 rfl rfl, pHas 7 196 rfl rfl, pHas 7 197 rfl rfl⟩
set_option maxRecDepth 100000 in
theorem pca_382 : pCaF (21, 162, 1, 313, 1, 7199, 7200, 1012, 7202, 7201) := ⟨pHas 7 199 rfl rfl, pHas 7 200 rfl rfl, pHas 7 201 rfl rfl⟩
set_option maxRecDepth 100000 in
theorem pca_383 : pCaF (21, 166, 1, 315, 2, 7203, 7204, 1012, 7206, 7205) := ⟨pHas 7 203 rfl rfl, pHas 7 204 rfl rfl, pHas 7 205 rfl rfl⟩
set_option maxRecDepth 100000 in
theorem pca_384 : pCaF (9, 342, 1, 314, 0, 7207, 7209, 1012, 7210, 116) := ⟨pHas 7 207 rfl rfl, pHas 7 209 rfl rfl, pHas 0 116 rfl rfl⟩
set_option maxRecDepth 100000 in
theorem pca_385 : pCaF (21, 170, 1, 316, 3, 7211, 7212, 1012, 7214, 7213) := ⟨pHas 7 211 rfl rfl, pHas 7 212 rfl rfl, pHas 7 213 rfl rfl⟩
set_option maxRecDepth 100000 in
theorem pca_386 : pCaF (21, 174, 1, 320, 1, 7215, 7216, 1012, 7218, 7217) := ⟨pHas 7 215 rfl rfl, pHas 7 216 rfl rfl, pHas 7 217 rfl rfl⟩
set_option maxRecDepth 100000 in
theorem pca_387 : pCaF (21, 178, 1, 321, 0, 7219, 7220, 1012, 7222, 7221) := ⟨pHas 7 219 rfl rfl, pHas 7 220 rfl rfl, pHas 7 221 rfl rfl⟩
set_option maxRecDepth 100000 in
theorem pca_388 : pCaF (21, 182, 1, 322, 3, 7223, 7224, 1012, 7226, 7225) := ⟨pHas 7 223 rfl rfl, pHas 7 224 rfl rfl, pHas 7 225 rfl rfl⟩
set_option maxRecDepth 100000 in
theorem pca_389 : pCaF (21, 210, 1, 323, 2, 7227, 7228, 1012, 7230, 7229) := ⟨pHas 7 227 rfl rfl, pHas 7 228 rfl rfl, pHas 7 229 rfl rfl⟩
set_option maxRecDepth 100000 in
theorem pca_390 : pCaF (21, 214, 1, 324, 1, 7231, 7232, 1012, 7234, 7233) := ⟨pHas 7 231 rfl rfl, pHas 7 232 rfl rfl, pHas 7 233 rfl rfl⟩
set_option maxRecDepth 100000 in
theorem pca_391 : pCaF (21, 218, 1, 326, 2, 7235, 7236, 1012, 7238, 7237) := ⟨pHas 7 235 rfl rfl, pHas 7 236 rfl rfl, pHas 7 237 rfl rfl⟩
set_option maxRecDepth 100000 in
theorem pca_392 : pCaF (9, 351, 1, 325, 1, 7239, 8001, 1012, 8002, 117) := ⟨pHas 7 239 rfl rfl, pHas 8 1 rfl rfl, pHas 0 117 rfl rfl⟩
set_option maxRecDepth 100000 in
theorem pca_393 : pCaF (21, 223, 1, 327, 0, 8003, 8004, 1012, 8006, 8005) := ⟨pHas 8 3 rfl rfl, pHas 8 4 rfl rfl, pHas 8 5 rfl rfl⟩
set_option maxRecDepth 100000 in
theorem pca_394 : pCaF (21, 228, 1, 330, 5, 8007, 8008, 1012, 8010, 8009) := ⟨pHas 8 7 rfl rfl, pHas 8 8 rfl rfl, pHas 8 9 rfl rfl⟩
set_option maxRecDepth 100000 in
theorem pca_395 : pCaF (9, 354, 1, 328, 1, 8011, 8013, 1012, 8014, 118) := ⟨pHas 8 11 rfl rfl, pHas 8 13 rfl rfl, pHas 0 118 rfl rfl⟩
set_option maxRecDepth 100000 in
theorem pca_396 : pCaF (9, 357, 1, 329, 1, 8015, 8017, 1012, 8018, 119) := ⟨pHas 8 15 rfl rfl, pHas 8 17 rfl rfl, pHas 0 119 rfl rfl⟩
set_option maxRecDepth 100000 in
theorem pca_397 : pCaF (21, 232, 1, 332, 1, 8019, 8020, 1012, 8022, 8021) := ⟨pHas 8 19 rfl rfl, pHas 8 20 rfl rfl, pHas 8 21 rfl rfl⟩
set_option maxRecDepth 100000 in
theorem pca_398 : pCaF (9, 360, 1, 331, 1, 8023, 8025, 1012, 8026, 120) := ⟨pHas 8 23 rfl rfl, pHas 8 25 rfl rfl, pHas 0 120 rfl rfl⟩
set_option maxRecDepth 100000 in
theorem pca_399 : pCaF (21, 236, 1, 336, 2, 8027, 8028, 1012, 8030, 8029) := ⟨pHas 8 27 rfl rfl, pHas 8 28 rfl rfl, pHas 8 29 rfl rfl⟩
set_option maxRecDepth 100000 in
theorem pca_400 : pCaF (9, 376, 1, 333, 0, 8031, 8033, 1012, 8034, 121) := ⟨pHas 8 31 rfl rfl, pHas 8 33 rfl rfl, pHas 0 121 rfl rfl⟩
set_option maxRecDepth 100000 in
theorem pca_401 : pCaF (9, 363, 1, 222, 0, 8035, 8037, 1012, 8038, 122) := ⟨pHas 8 35 rfl rfl, pHas 8 37 rfl rfl, pHas 0 122 rfl rfl⟩
set_option maxRecDepth 100000 in
theorem pca_402 : pCaF (9, 379, 1, 335, 0, 8039, 8041, 1012, 8042, 123) := ⟨pHas 8 39 rfl rfl, pHas 8 41 rfl rfl, pHas 0 123 rfl rfl⟩
set_option maxRecDepth 100000 in
theorem pca_403 : pCaF (9, 369, 2, 334, 3, 8043, 8044, 1012, 8045, 0) := ⟨pHas 8 43 rfl rfl, pHas 8 44 rfl rfl⟩
set_option maxRecDepth 100000 in
theorem pca_404 : pCaF (9, 373, 1, 223, 0, 8046, 8048, 1012, 8049, 124) := ⟨pHas 8 46 rfl rfl, pHas 8 48 rfl rfl, pHas 0 124 rfl rfl⟩
set_option maxRecDepth 100000 in
theorem pca_405 : pCaF (21, 240, 1, 337, 1, 8050, 8051, 1012, 8053, 8052) := ⟨pHas 8 50 rfl rfl, pHas 8 51 rfl rfl, pHas 8 52 rfl rfl⟩
set_option maxRecDepth 100000 in
theorem pca_406 : pCaF (21, 244, 1, 338, 2, 8054, 8055, 1012, 8057, 8056) := ⟨pHas 8 54 rfl rfl, pHas 8 55 rfl rfl, pHas 8 56 rfl rfl⟩
set_option maxRecDepth 100000 in
theorem pca_407 : pCaF (21, 248, 1, 339, 2, 8058, 8059, 1012, 8061, 8060) := ⟨pHas 8 58 rfl rfl, pHas 8 59 rfl rfl, pHas 8 60 rfl rfl⟩
set_option maxRecDepth 100000 in
theorem pca_408 : pCaF (21, 252, 1, 340, 0, 8062, 8063, 1012, 8065, 8064) := ⟨pHas 8 62 rfl rfl, pHas 8 63 rfl rfl, pHas 8 64 rfl rfl⟩
set_option maxRecDepth 100000 in
theorem pca_409 : pCaF (9, 382, 2, 347, 1, 8066, 8067, 1017, 8068, 0) := ⟨pHas 8 66 rfl rfl, pHas 8 67 rfl rfl⟩
set_option maxRecDepth 100000 in
theorem pca_410 : pCaF (12, 122, 2, 346, 1, 8069, 8070, 1017, 8071, 0) := ⟨pHas 8 69 rfl rfl, pHas 8 70 rfl rfl⟩
set_option maxRecDepth 100000 in
theorem pca_411 : pCaF (12, 134, 8, 0, 1, 8072, 8074, 8073, 1017, 0) := ⟨pHas 8 72 rfl rfl, pHas 8 74 rfl rfl, pHas 8 73 rfl rfl, pHas 1 17 rfl rfl⟩
set_option maxRecDepth 100000 in
theorem pca_412 : pCaF (21, 202, 1, 342, 0, 8076, 8077, 1012, 8079, 8078) := ⟨pHas 8 76 rfl rfl, pHas 8 77 rfl rfl, pHas 8 78 rfl rfl⟩
set_option maxRecDepth 100000 in
theorem pca_413 : pCaF (21, 256, 1, 343, 0, 8080, 8081, 1012, 8083, 8082) := ⟨pHas 8 80 rfl rfl, pHas 8 81 rfl rfl, pHas 8 82 rfl rfl⟩
set_option maxRecDepth 100000 in
theorem pca_414 : pCaF (21, 260, 1, 344, 0, 8084, 8085, 1012, 8087, 8086) := ⟨pHas 8 84 rfl rfl, pHas 8 85 rfl rfl, pHas 8 86 rfl rfl⟩
set_option maxRecDepth 100000 in
theorem pca_415 : pCaF (21, 264, 1, 345, 0, 8088, 8089, 1012, 8091, 8090) := ⟨pHas 8 88 rfl rfl, pHas 8 89 rfl rfl, pHas 8 90 rfl rfl⟩
set_option maxRecDepth 100000 in
theorem pCa_c0 : ∀ q ∈ pCaL0, pCaF q := List.forall_mem_cons.mpr ⟨pca_0, List.forall_mem_cons.mpr ⟨pca_1, List.forall_mem_cons.mpr ⟨pca_2, List.forall_mem_cons.mpr ⟨pca_3, List.forall_mem_cons.mpr ⟨pca_4, List.forall_mem_cons.mpr ⟨pca_5, List.forall_mem_cons.mpr ⟨pca_6, List.forall_mem_cons.mpr ⟨pca_7, List.forall_mem_cons.mpr ⟨pca_8, List.forall_mem_cons.mpr ⟨pca_9, List.forall_mem_cons.mpr ⟨pca_10, List.forall_mem_cons.mpr ⟨pca_11, List.forall_mem_cons.mpr ⟨pca_12, List.forall_mem_cons.mpr ⟨pca_13, List.forall_mem_cons.mpr ⟨pca_14, List.forall_mem_cons.mpr ⟨pca_15, List.forall_mem_cons.mpr ⟨pca_16, List.forall_mem_cons.mpr ⟨pca_17, List.forall_mem_cons.mpr ⟨pca_18, List.forall_mem_cons.mpr ⟨pca_19, List.forall_mem_cons.mpr ⟨pca_20, List.forall_mem_cons.mpr ⟨pca_21, List.forall_mem_cons.mpr ⟨pca_22, List.forall_mem_cons.mpr ⟨pca_23, List.forall_mem_cons.mpr ⟨pca_24, (fun _ h => absurd h List.not_mem_nil)⟩⟩⟩⟩⟩⟩⟩⟩⟩⟩⟩⟩⟩⟩⟩⟩⟩⟩⟩⟩⟩⟩⟩⟩⟩
set_option maxRecDepth 100000 in
theorem pCa_c1 : ∀ q ∈ pCaL1, pCaF q := List.forall_mem_cons.mpr ⟨pca_25, List.forall_mem_cons.mpr ⟨pca_26, List.forall_mem_cons.mpr ⟨pca_27, List.forall_mem_cons.mpr ⟨pca_28, List.forall_mem_cons.mpr ⟨pca_29, List.forall_mem_cons.mpr ⟨pca_30, List.forall_mem_cons.mpr ⟨pca_31, List.forall_mem_cons.mpr ⟨pca_32, List.forall_mem_cons.mpr ⟨pca_33, List.forall_mem_cons.mpr ⟨pca_34, List.forall_mem_cons.mpr ⟨pca_35, List.forall_mem_cons.mpr ⟨pca_36, List.forall_mem_cons.mpr ⟨pca_37, List.forall_mem_cons.mpr ⟨pca_38, List.forall_mem_cons.mpr ⟨pca_39, List.forall_mem_cons.mpr ⟨pca_40, List.forall_mem_cons.mpr ⟨pca_41, List.forall_mem_cons.mpr ⟨pca_42, List.forall_mem_cons.mpr ⟨pca_43, List.forall_mem_cons.mpr ⟨pca_44, List.forall_mem_cons.mpr ⟨pca_45, List.forall_mem_cons.mpr ⟨pca_46, List.forall_mem_cons.mpr ⟨pca_47, List.forall_mem_cons.mpr ⟨pca_48, List.forall_mem_cons.mpr ⟨pca_49, (fun _ h => absurd h List.not_mem_nil)⟩⟩⟩⟩⟩⟩⟩⟩⟩⟩⟩⟩⟩⟩⟩⟩⟩⟩⟩⟩⟩⟩⟩⟩⟩
set_option maxRecDepth 100000 in
theorem pCa_c2 : ∀ q ∈ pCaL2, pCaF q := List.forall_mem_cons.mpr ⟨pca_50, List.forall_mem_cons.mpr ⟨pca_51, List.forall_mem_cons.mpr ⟨pca_52, List.forall_mem_cons.mpr ⟨pca_53, List.forall_mem_cons.mpr ⟨pca_54, List.forall_mem_cons.mpr ⟨pca_55, List.forall_mem_cons.mpr ⟨pca_56, List.forall_mem_cons.mpr ⟨pca_57, List.forall_mem_cons.mpr ⟨pca_58, List.forall_mem_cons.mpr ⟨pca_59, List.forall_mem_cons.mpr ⟨pca_60, List.forall_mem_cons.mpr ⟨pca_61, List.forall_mem_cons.mpr ⟨pca_62, List.forall_mem_cons.mpr ⟨pca_63, List.forall_mem_cons.mpr ⟨pca_64, List.forall_mem_cons.mpr ⟨pca_65, List.forall_mem_cons.mpr ⟨pca_66, List.forall_mem_cons.mpr ⟨pca_67, List.forall_mem_cons.mpr ⟨pca_68, List.forall_mem_cons.mpr ⟨pca_69, List.forall_mem_cons.mpr ⟨pca_70, List.forall_mem_cons.mpr ⟨pca_71, List.forall_mem_cons.mpr ⟨pca_72, List.forall_mem_cons.mpr ⟨pca_73, List.forall_mem_cons.mpr ⟨pca_74, (fun _ h => absurd h List.not_mem_nil)⟩⟩⟩⟩⟩⟩⟩⟩⟩⟩⟩⟩⟩⟩⟩⟩⟩⟩⟩⟩⟩⟩⟩⟩⟩
set_option maxRecDepth 100000 in
theorem pCa_c3 : ∀ q ∈ pCaL3, pCaF q := List.forall_mem_cons.mpr ⟨pca_75, List.forall_mem_cons.mpr ⟨pca_76, List.forall_mem_cons.mpr ⟨pca_77, List.forall_mem_cons.mpr ⟨pca_78, List.forall_mem_cons.mpr ⟨pca_79, List.forall_mem_cons.mpr ⟨pca_80, List.forall_mem_cons.mpr ⟨pca_81, List.forall_mem_cons.mpr ⟨pca_82, List.forall_mem_cons.mpr ⟨pca_83, List.forall_mem_cons.mpr ⟨pca_84, List.forall_mem_cons.mpr ⟨pca_85, List.forall_mem_cons.mpr ⟨pca_86, List.forall_mem_cons.mpr ⟨pca_87, List.forall_mem_cons.mpr ⟨pca_88, List.forall_mem_cons.mpr ⟨pca_89, List.forall_mem_cons.mpr ⟨pca_90, List.forall_mem_cons.mpr ⟨pca_91, List.forall_mem_cons.mpr ⟨pca_92, List.forall_mem_cons.mpr ⟨pca_93, List.forall_mem_cons.mpr ⟨pca_94, List.forall_mem_cons.mpr ⟨pca_95, List.forall_mem_cons.mpr ⟨pca_96, List.forall_mem_cons.mpr ⟨pca_97, List.forall_mem_cons.mpr ⟨pca_98, List.forall_mem_cons.mpr ⟨pca_99, (fun _ h => absurd h List.not_mem_nil)⟩⟩⟩⟩⟩⟩⟩⟩⟩⟩⟩⟩⟩⟩⟩⟩⟩⟩⟩⟩⟩⟩⟩⟩⟩
set_option maxRecDepth 100000 in
theorem pCa_c4 : ∀ q ∈ pCaL4, pCaF q := List.forall_mem_cons.mpr ⟨pca_100, List.forall_mem_cons.mpr ⟨pca_101, List.forall_mem_cons.mpr ⟨pca_102, List.forall_mem_cons.mpr ⟨pca_103, List.forall_mem_cons.mpr ⟨pca_104, List.forall_mem_cons.mpr ⟨pca_105, List.forall_mem_cons.mpr ⟨pca_106, List.forall_mem_cons.mpr ⟨pca_107, List.forall_mem_cons.mpr ⟨pca_108, List.forall_mem_cons.mpr ⟨pca_109, List.forall_mem_cons.mpr ⟨pca_110, List.forall_mem_cons.mpr ⟨pca_111, List.forall_mem_cons.mpr ⟨pca_112, List.forall_mem_cons.mpr ⟨pca_113, List.forall_mem_cons.mpr ⟨pca_114, List.forall_mem_cons.mpr ⟨pca_115, List.forall_mem_cons.mpr ⟨pca_116, List.forall_mem_cons.mpr ⟨pca_117, List.forall_mem_cons.mpr ⟨pca_118, List.forall_mem_cons.mpr ⟨pca_119, List.forall_mem_cons.mpr ⟨pca_120, List.forall_mem_cons.mpr ⟨pca_121, List.forall_mem_cons.mpr ⟨pca_122, List.forall_mem_cons.mpr ⟨pca_123, List.forall_mem_cons.mpr ⟨pca_124, (fun _ h => absurd h List.not_mem_nil)⟩⟩⟩⟩⟩⟩⟩⟩⟩⟩⟩⟩⟩⟩⟩⟩⟩⟩⟩⟩⟩⟩⟩⟩⟩
set_option maxRecDepth 100000 in
theorem pCa_c5 : ∀ q ∈ pCaL5, pCaF q := List.forall_mem_cons.mpr ⟨pca_125, List.forall_mem_cons.mpr ⟨pca_126, List.forall_mem_cons.mpr ⟨pca_127, List.forall_mem_cons.mpr ⟨pca_128, List.forall_mem_cons.mpr ⟨pca_129, List.forall_mem_cons.mpr ⟨pca_130, List.forall_mem_cons.mpr ⟨pca_131, List.forall_mem_cons.mpr ⟨pca_132, List.forall_mem_cons.mpr ⟨pca_133, List.forall_mem_cons.mpr ⟨pca_134, List.forall_mem_cons.mpr ⟨pca_135, List.forall_mem_cons.mpr ⟨pca_136, List.forall_mem_cons.mpr ⟨pca_137, List.forall_mem_cons.mpr ⟨pca_138, List.forall_mem_cons.mpr ⟨pca_139, List.forall_mem_cons.mpr ⟨pca_140, List.forall_mem_cons.mpr ⟨pca_141, List.forall_mem_cons.mpr ⟨pca_142, List.forall_mem_cons.mpr ⟨pca_143, List.forall_mem_cons.mpr ⟨pca_144, List.forall_mem_cons.mpr ⟨pca_145, List.forall_mem_cons.mpr ⟨pca_146, List.forall_mem_cons.mpr ⟨pca_147, List.forall_mem_cons.mpr ⟨pca_148, List.forall_mem_cons.mpr ⟨pca_149, (fun _ h => absurd h List.not_mem_nil)⟩⟩⟩⟩⟩⟩⟩⟩⟩⟩⟩⟩⟩⟩⟩⟩⟩⟩⟩⟩⟩⟩⟩⟩⟩
set_option maxRecDepth 100000 in
theorem pCa_c6 : ∀ q ∈ pCaL6, pCaF q := List.forall_mem_cons.mpr ⟨pca_150, List.forall_mem_cons.mpr ⟨pca_151, List.forall_mem_cons.mpr ⟨pca_152, List.forall_mem_cons.mpr ⟨pca_153, List.forall_mem_cons.mpr ⟨pca_154, List.forall_mem_cons.mpr ⟨pca_155, List.forall_mem_cons.mpr ⟨pca_156, List.forall_mem_cons.mpr ⟨pca_157, List.forall_mem_cons.mpr ⟨pca_158, List.forall_mem_cons.mpr ⟨pca_159, List.forall_mem_cons.mpr ⟨pca_160, List.forall_mem_cons.mpr ⟨pca_161, List.forall_mem_cons.mpr ⟨pca_162, List.forall_mem_cons.mpr ⟨pca_163, List.forall_mem_cons.mpr ⟨pca_164, List.forall_mem_cons.mpr ⟨pca_165, List.forall_mem_cons.mpr ⟨pca_166, List.forall_mem_cons.mpr ⟨pca_167, List.forall_mem_cons.mpr ⟨pca_168, List.forall_mem_cons.mpr ⟨pca_169, List.forall_mem_cons.mpr ⟨pca_170, List.forall_mem_cons.mpr ⟨pca_171, List.forall_mem_cons.mpr ⟨pca_172, List.forall_mem_cons.mpr ⟨pca_173, List.forall_mem_cons.mpr ⟨pca_174, (fun _ h => absurd h List.not_mem_nil)⟩⟩⟩⟩⟩⟩⟩⟩⟩⟩⟩⟩⟩⟩⟩⟩⟩⟩⟩⟩⟩⟩⟩⟩⟩
set_option maxRecDepth 100000 in
theorem pCa_c7 : ∀ q ∈ pCaL7, pCaF q := List.forall_mem_cons.mpr ⟨pca_175, List.forall_mem_cons.mpr ⟨pca_176, List.forall_mem_cons.mpr ⟨pca_177, List.forall_mem_cons.mpr ⟨pca_178, List.forall_mem_cons.mpr ⟨pca_179, List.forall_mem_cons.mpr ⟨pca_180, List.forall_mem_cons.mpr ⟨pca_181, List.forall_mem_cons.mpr ⟨pca_182, List.forall_mem_cons.mpr ⟨pca_183, List.forall_mem_cons.mpr ⟨pca_184, List.forall_mem_cons.mpr ⟨pca_185, List.forall_mem_cons.mpr ⟨pca_186, List.forall_mem_cons.mpr ⟨pca_187, List.forall_mem_cons.mpr ⟨pca_188, List.forall_mem_cons.mpr ⟨pca_189, List.forall_mem_cons.mpr ⟨pca_190, List.forall_mem_cons.mpr ⟨pca_191, List.forall_mem_cons.mpr ⟨pca_192, List.forall_mem_cons.mpr ⟨pca_193, List.forall_mem_cons.mpr ⟨pca_194, List.forall_mem_cons.mpr ⟨pca_195, List.forall_mem_cons.mpr ⟨pca_196, List.forall_mem_cons.mpr ⟨pca_197, List.forall_mem_cons.mpr ⟨pca_198, List.forall_mem_cons.mpr ⟨pca_199, (fun _ h => absurd h List.not_mem_nil)⟩⟩⟩⟩⟩⟩⟩⟩⟩⟩⟩⟩⟩⟩⟩⟩⟩⟩⟩⟩⟩⟩⟩⟩⟩
set_option maxRecDepth 100000 in
theorem pCa_c8 : ∀ q ∈ pCaL8, pCaF q := List.forall_mem_cons.mpr ⟨pca_200, List.forall_mem_cons.mpr ⟨pca_201, List.forall_mem_cons.mpr ⟨pca_202, List.forall_mem_cons.mpr ⟨pca_203, List.forall_mem_cons.mpr ⟨pca_204, List.forall_mem_cons.mpr ⟨pca_205, List.forall_mem_cons.mpr ⟨pca_206, List.forall_mem_cons.mpr ⟨pca_207, List.forall_mem_cons.mpr ⟨pca_208, List.forall_mem_cons.mpr ⟨pca_209, List.forall_mem_cons.mpr ⟨pca_210, List.forall_mem_cons.mpr ⟨pca_211, List.forall_mem_cons.mpr ⟨pca_212, List.forall_mem_cons.mpr ⟨pca_213, List.forall_mem_cons.mpr ⟨pca_214, List.forall_mem_cons.mpr ⟨pca_215, List.forall_mem_cons.mpr ⟨pca_216, List.forall_mem_cons.mpr ⟨pca_217, List.forall_mem_cons.mpr ⟨pca_218, List.forall_mem_cons.mpr ⟨pca_219, List.forall_mem_cons.mpr ⟨pca_220, List.forall_mem_cons.mpr ⟨pca_221, List.forall_mem_cons.mpr ⟨pca_222, List.forall_mem_cons.mpr ⟨pca_223, List.forall_mem_cons.mpr ⟨pca_224, (fun _ h => absurd h List.not_mem_nil)⟩⟩⟩⟩⟩⟩⟩⟩⟩⟩⟩⟩⟩⟩⟩⟩⟩⟩⟩⟩⟩⟩⟩⟩⟩
set_option maxRecDepth 100000 in
theorem pCa_c9 : ∀ q ∈ pCaL9, pCaF q := List.forall_mem_cons.mpr ⟨pca_225, List.forall_mem_cons.mpr ⟨pca_226, List.forall_mem_cons.mpr ⟨pca_227, List.forall_mem_cons.mpr ⟨pca_228, List.forall_mem_cons.mpr ⟨pca_229, List.forall_mem_cons.mpr ⟨pca_230, List.forall_mem_cons.mpr ⟨pca_231, List.forall_mem_cons.mpr ⟨pca_232, List.forall_mem_cons.mpr ⟨pca_233, List.forall_mem_cons.mpr ⟨pca_234, List.forall_mem_cons.mpr ⟨pca_235, List.forall_mem_cons.mpr ⟨pca_236, List.forall_mem_cons.mpr ⟨pca_237, List.forall_mem_cons.mpr ⟨pca_238, List.forall_mem_cons.mpr ⟨pca_239, List.forall_mem_cons.mpr ⟨pca_240, List.forall_mem_cons.mpr ⟨pca_241, List.forall_mem_cons.mpr ⟨pca_242, List.forall_mem_cons.mpr ⟨pca_243, List.forall_mem_cons.mpr ⟨pca_244, List.forall_mem_cons.mpr ⟨pca_245, List.forall_mem_cons.mpr ⟨pca_246, List.forall_mem_cons.mpr ⟨pca_247, List.forall_mem_cons.mpr ⟨pca_248, List.forall_mem_cons.mpr ⟨pca_249, (fun _ h => absurd h List.not_mem_nil)⟩⟩⟩⟩⟩⟩⟩⟩⟩⟩⟩⟩⟩⟩⟩⟩⟩⟩⟩⟩⟩⟩⟩⟩⟩
set_option maxRecDepth 100000 in
theorem pCa_c10 : ∀ q ∈ pCaL10, pCaF q := List.forall_mem_cons.mpr ⟨pca_250, List.forall_mem_cons.mpr ⟨pca_251, List.forall_mem_cons.mpr ⟨pca_252, List.forall_mem_cons.mpr ⟨pca_253, List.forall_mem_cons.mpr ⟨pca_254, List.forall_mem_cons.mpr ⟨pca_255, List.forall_mem_cons.mpr ⟨pca_256, List.forall_mem_cons.mpr ⟨pca_257, List.forall_mem_cons.mpr ⟨pca_258, List.forall_mem_cons.mpr ⟨pca_259, List.forall_mem_cons.mpr ⟨pca_260, List.forall_mem_cons.mpr ⟨pca_261, List.forall_mem_cons.mpr ⟨pca_262, List.forall_mem_cons.mpr ⟨pca_263, List.forall_mem_cons.mpr ⟨pca_264, List.forall_mem_cons.mpr ⟨pca_265, List.forall_mem_cons.mpr ⟨pca_266, List.forall_mem_cons.mpr ⟨pca_267, List.forall_mem_cons.mpr ⟨pca_268, List.forall_mem_cons.mpr ⟨pca_269, List.forall_mem_cons.mpr ⟨pca_270, List.forall_mem_cons.mpr ⟨pca_271, List.forall_mem_cons.mpr ⟨pca_272, List.forall_mem_cons.mpr ⟨pca_273, List.forall_mem_cons.mpr ⟨pca_274, (fun _ h => absurd h List.not_mem_nil)⟩⟩⟩⟩⟩⟩⟩⟩⟩⟩⟩⟩⟩⟩⟩⟩⟩⟩⟩⟩⟩⟩⟩⟩⟩
set_option maxRecDepth 100000 in
theorem pCa_c11 : ∀ q ∈ pCaL11, pCaF q := List.forall_mem_cons.mpr ⟨pca_275, List.forall_mem_cons.mpr ⟨pca_276, List.forall_mem_cons.mpr ⟨pca_277, List.forall_mem_cons.mpr ⟨pca_278, List.forall_mem_cons.mpr ⟨pca_279, List.forall_mem_cons.mpr ⟨pca_280, List.forall_mem_cons.mpr ⟨pca_281, List.forall_mem_cons.mpr ⟨pca_282, List.forall_mem_cons.mpr ⟨pca_283, List.forall_mem_cons.mpr ⟨pca_284, List.forall_mem_cons.mpr ⟨pca_285, List.forall_mem_cons.mpr ⟨pca_286, List.forall_mem_cons.mpr ⟨pca_287, List.forall_mem_cons.mpr ⟨pca_288, List.forall_mem_cons.mpr ⟨pca_289, List.forall_mem_cons.mpr ⟨pca_290, List.forall_mem_cons.mpr ⟨pca_291, List.forall_mem_cons.mpr ⟨pca_292, List.forall_mem_cons.mpr ⟨pca_293, List.forall_mem_cons.mpr ⟨pca_294, List.forall_mem_cons.mpr ⟨pca_295, List.forall_mem_cons.mpr ⟨pca_296, List.forall_mem_cons.mpr ⟨pca_297, List.forall_mem_cons.mpr ⟨pca_298, List.forall_mem_cons.mpr ⟨pca_299, (fun _ h => absurd h List.not_mem_nil)⟩⟩⟩⟩⟩⟩⟩⟩⟩⟩⟩⟩⟩⟩⟩⟩⟩⟩⟩⟩⟩⟩⟩⟩⟩
set_option maxRecDepth 100000 in
theorem pCa_c12 : ∀ q ∈ pCaL12, pCaF q := List.forall_mem_cons.mpr ⟨pca_300, List.forall_mem_cons.mpr ⟨pca_301, List.forall_mem_cons.mpr ⟨pca_302, List.forall_mem_cons.mpr ⟨pca_303, List.forall_mem_cons.mpr ⟨pca_304, List.forall_mem_cons.mpr ⟨pca_305, List.forall_mem_cons.mpr ⟨pca_306, List.forall_mem_cons.mpr ⟨pca_307, List.forall_mem_cons.mpr ⟨pca_308, List.forall_mem_cons.mpr ⟨pca_309, List.forall_mem_cons.mpr ⟨pca_310, List.forall_mem_cons.mpr ⟨pca_311, List.forall_mem_cons.mpr ⟨pca_312, List.forall_mem_cons.mpr ⟨pca_313, List.forall_mem_cons.mpr ⟨pca_314, List.forall_mem_cons.mpr ⟨pca_315, List.forall_mem_cons.mpr ⟨pca_316, List.forall_mem_cons.mpr ⟨pca_317, List.forall_mem_cons.mpr ⟨pca_318, List.forall_mem_cons.mpr ⟨pca_319, List.forall_mem_cons.mpr ⟨pca_320, List.forall_mem_cons.mpr ⟨pca_321, List.forall_mem_cons.mpr ⟨pca_322, List.forall_mem_cons.mpr ⟨pca_323, List.forall_mem_cons.mpr ⟨pca_324, (fun _ h => absurd h List.not_mem_nil)⟩⟩⟩⟩⟩⟩⟩⟩⟩⟩⟩⟩⟩⟩⟩⟩⟩⟩⟩⟩⟩⟩⟩⟩⟩
set_option maxRecDepth 100000 in
theorem pCa_c13 : ∀ q ∈ pCaL13, pCaF q := List.forall_mem_cons.mpr ⟨pca_325, List.forall_mem_cons.mpr ⟨pca_326, List.forall_mem_cons.mpr ⟨pca_327, List.forall_mem_cons.mpr ⟨pca_328, List.forall_mem_cons.mpr ⟨pca_329, List.forall_mem_cons.mpr ⟨pca_330, List.forall_mem_cons.mpr ⟨pca_331, List.forall_mem_cons.mpr ⟨pca_332, List.forall_mem_cons.mpr ⟨pca_333, List.forall_mem_cons.mpr ⟨pca_334, List.forall_mem_cons.mpr ⟨pca_335, List.forall_mem_cons.mpr ⟨pca_336, List.forall_mem_cons.mpr ⟨pca_337, List.forall_mem_cons.mpr ⟨pca_338, List.forall_mem_cons.mpr ⟨pca_339, List.forall_mem_cons.mpr ⟨pca_340, List.forall_mem_cons.mpr ⟨pca_341, List.forall_mem_cons.mpr ⟨pca_342, List.forall_mem_cons.mpr ⟨pca_343, List.forall_mem_cons.mpr ⟨pca_344, List.forall_mem_cons.mpr ⟨pca_345, List.forall_mem_cons.mpr ⟨pca_346, List.forall_mem_cons.mpr ⟨pca_347, List.forall_mem_cons.mpr ⟨pca_348, List.forall_mem_cons.mpr ⟨pca_349, (fun _ h => absurd h List.not_mem_nil)⟩⟩⟩⟩⟩⟩⟩⟩⟩⟩⟩⟩⟩⟩⟩⟩⟩⟩⟩⟩⟩⟩⟩⟩⟩
set_option maxRecDepth 100000 in
theorem pCa_c14 : ∀ q ∈ pCaL14, pCaF q := List.forall_mem_cons.mpr ⟨pca_350, List.forall_mem_cons.mpr ⟨pca_351, List.forall_mem_cons.mpr ⟨pca_352, List.forall_mem_cons.mpr ⟨pca_353, List.forall_mem_cons.mpr ⟨pca_354, List.forall_mem_cons.mpr ⟨pca_355, List.forall_mem_cons.mpr ⟨pca_356, List.forall_mem_cons.mpr ⟨pca_357, List.forall_mem_cons.mpr ⟨pca_358, List.forall_mem_cons.mpr ⟨pca_359, List.forall_mem_cons.mpr ⟨pca_360, List.forall_mem_cons.mpr ⟨pca_361, List.forall_mem_cons.mpr ⟨pca_362, List.forall_mem_cons.mpr ⟨pca_363, List.forall_mem_cons.mpr ⟨pca_364, List.forall_mem_cons.mpr ⟨pca_365, List.forall_mem_cons.mpr ⟨pca_366, List.forall_mem_cons.mpr ⟨pca_367, List.forall_mem_cons.mpr ⟨pca_368, List.forall_mem_cons.mpr ⟨pca_369, List.forall_mem_cons.mpr ⟨pca_370, List.forall_mem_cons.mpr ⟨pca_371, List.forall_mem_cons.mpr ⟨pca_372, List.forall_mem_cons.mpr ⟨pca_373, List.forall_mem_cons.mpr ⟨pca_374, (fun _ h => absurd h List.not_mem_nil)⟩⟩⟩⟩⟩⟩⟩⟩⟩⟩⟩⟩⟩⟩⟩⟩⟩⟩⟩⟩⟩⟩⟩⟩⟩
set_option maxRecDepth 100000 in
theorem pCa_c15 : ∀ q ∈ pCaL15, pCaF q := List.forall_mem_cons.mpr ⟨pca_375, List.forall_mem_cons.mpr ⟨pca_376, List.forall_mem_cons.mpr ⟨pca_377, List.forall_mem_cons.mpr ⟨pca_378, List.forall_mem_cons.mpr ⟨pca_379, List.forall_mem_cons.mpr ⟨pca_380, List.forall_mem_cons.mpr ⟨pca_381, List.forall_mem_cons.mpr ⟨pca_382, List.forall_mem_cons.mpr ⟨pca_383, List.forall_mem_cons.mpr ⟨pca_384, List.forall_mem_cons.mpr ⟨pca_385, List.forall_mem_cons.mpr ⟨pca_386, List.forall_mem_cons.mpr ⟨pca_387, List.forall_mem_cons.mpr ⟨pca_388, List.forall_mem_cons.mpr ⟨pca_389, List.forall_mem_cons.mpr ⟨pca_390, List.forall_mem_cons.mpr ⟨pca_391, List.forall_mem_cons.mpr ⟨pca_392, List.forall_mem_cons.mpr ⟨pca_393, List.forall_mem_cons.mpr ⟨pca_394, List.forall_mem_cons.mpr ⟨pca_395, List.forall_mem_cons.mpr ⟨pca_396, List.forall_mem_cons.mpr ⟨pca_397, List.forall_mem_cons.mpr ⟨pca_398, List.forall_mem_cons.mpr ⟨pca_399, (fun _ h => absurd h List.not_mem_nil)⟩⟩⟩⟩⟩⟩⟩⟩⟩⟩⟩⟩⟩⟩⟩⟩⟩⟩⟩⟩⟩⟩⟩⟩⟩
set_option maxRecDepth 100000 in
theorem pCa_c16 : ∀ q ∈ pCaL16, pCaF q := List.forall_mem_cons.mpr ⟨pca_400, List.forall_mem_cons.mpr ⟨pca_401, List.forall_mem_cons.mpr ⟨pca_402, List.forall_mem_cons.mpr ⟨pca_403, List.forall_mem_cons.mpr ⟨pca_404, List.forall_mem_cons.mpr ⟨pca_405, List.forall_mem_cons.mpr ⟨pca_406, List.forall_mem_cons.mpr ⟨pca_407, List.forall_mem_cons.mpr ⟨pca_408, List.forall_mem_cons.mpr ⟨pca_409, List.forall_mem_cons.mpr ⟨pca_410, List.forall_mem_cons.mpr ⟨pca_411, List.forall_mem_cons.mpr ⟨pca_412, List.forall_mem_cons.mpr ⟨pca_413, List.forall_mem_cons.mpr ⟨pca_414, List.forall_mem_cons.mpr ⟨pca_415, (fun _ h => absurd h List.not_mem_nil)⟩⟩⟩⟩⟩⟩⟩⟩⟩⟩⟩⟩⟩⟩⟩⟩
set_option maxRecDepth 100000 in
theorem pCa_all : ∀ q ∈ pCaL, pCaF q := by
  intro q h
  simp only [pCaL, List.mem_append] at h
  rcases h with h | h | h | h | h | h | h | h | h | h | h | h | h | h | h | h | h
  · exact pCa_c0 q h
  · exact pCa_c1 q h
  · exact pCa_c2 q h
  · exact pCa_c3 q h
  · exact pCa_c4 q h
  · exact pCa_c5 q h
  · exact pCa_c6 q h
  · exact pCa_c7 q h
  · exact pCa_c8 q h
  · exact pCa_c9 q h
  · exact pCa_c10 q h
  · exact pCa_c11 q h
  · exact pCa_c12 q h
  · exact pCa_c13 q h
  · exact pCa_c14 q h
  · exact pCa_c15 q h
  · exact pCa_c16 q h
set_option maxRecDepth 100000 in
theorem pAc0 : Cond.arrayClass .int ∈ pG0 := pHas 1 81 rfl rfl
set_option maxRecDepth 100000 in
theorem pAc1 : Cond.arrayClass .long ∈ pG0 := pHas 1 82 rfl rfl
set_option maxRecDepth 100000 in
theorem pAc2 : Cond.arrayClass .boolean ∈ pG0 := pHas 6 47 rfl rfl
set_option maxRecDepth 100000 in
theorem pme_0 : pMeF 0 := ⟨pHas 1 235 rfl rfl, pHas 1 9 rfl rfl, by decide +kernel, rfl⟩
set_option maxRecDepth 100000 in
theorem pme_1 : pMeF 1 := ⟨pHas 5 65 rfl rfl, pHas 1 9 rfl rfl, by decide +kernel, rfl⟩
set_option maxRecDepth 100000 in
theorem pme_2 : pMeF 2 := ⟨pHas 5 70 rfl rfl, pHas 1 9 rfl rfl, by decide +kernel, rfl⟩
set_option maxRecDepth 100000 in
theorem pme_3 : pMeF 3 := ⟨pHas 5 73 rfl rfl, pHas 1 9 rfl rfl, by decide +kernel, rfl⟩
set_option maxRecDepth 100000 in
theorem pme_4 : pMeF 4 := ⟨pHas 1 30 rfl rfl, pHas 1 2 rfl rfl, by decide +kernel, rfl⟩
set_option maxRecDepth 100000 in
theorem pme_5 : pMeF 5 := ⟨pHas 2 9 rfl rfl, pHas 1 2 rfl rfl, by decide +kernel, rfl⟩
set_option maxRecDepth 100000 in
theorem pme_6 : pMeF 6 := ⟨pHas 5 83 rfl rfl, pHas 1 2 rfl rfl, by decide +kernel, rfl⟩
set_option maxRecDepth 100000 in
theorem pme_7 : pMeF 7 := ⟨pHas 3 154 rfl rfl, pHas 1 2 rfl rfl, by decide +kernel, rfl⟩
set_option maxRecDepth 100000 in
theorem pme_8 : pMeF 8 := ⟨pHas 2 123 rfl rfl, pHas 1 2 rfl rfl, by decide +kernel, rfl⟩
set_option maxRecDepth 100000 in
theorem pme_9 : pMeF 9 := ⟨pHas 2 129 rfl rfl, pHas 1 2 rfl rfl, by decide +kernel, rfl⟩
set_option maxRecDepth 100000 in
theorem pme_10 : pMeF 10 := ⟨pHas 2 158 rfl rfl, pHas 1 2 rfl rfl, by decide +kernel, rfl⟩
set_option maxRecDepth 100000 in
theorem pme_11 : pMeF 11 := ⟨pHas 2 218 rfl rfl, pHas 1 2 rfl rfl, by decide +kernel, rfl⟩
set_option maxRecDepth 100000 in
theorem pme_12 : pMeF 12 := ⟨pHas 2 238 rfl rfl, pHas 1 2 rfl rfl, by decide +kernel, rfl⟩
set_option maxRecDepth 100000 in
theorem pme_13 : pMeF 13 := ⟨pHas 3 2 rfl rfl, pHas 1 2 rfl rfl, by decide +kernel, rfl⟩
set_option maxRecDepth 100000 in
theorem pme_14 : pMeF 14 := ⟨pHas 3 17 rfl rfl, pHas 1 2 rfl rfl, by decide +kernel, rfl⟩
set_option maxRecDepth 100000 in
theorem pme_15 : pMeF 15 := ⟨pHas 3 44 rfl rfl, pHas 1 2 rfl rfl, by decide +kernel, rfl⟩
set_option maxRecDepth 100000 in
theorem pme_16 : pMeF 16 := ⟨pHas 3 55 rfl rfl, pHas 1 2 rfl rfl, by decide +kernel, rfl⟩
set_option maxRecDepth 100000 in
theorem pme_17 : pMeF 17 := ⟨pHas 3 63 rfl rfl, pHas 1 2 rfl rfl, by decide +kernel, rfl⟩
set_option maxRecDepth 100000 in
theorem pme_18 : pMeF 18 := ⟨pHas 3 67 rfl rfl, pHas 1 2 rfl rfl, by decide +kernel, rfl⟩
set_option maxRecDepth 100000 in
theorem pme_19 : pMeF 19 := ⟨pHas 2 24 rfl rfl, pHas 1 2 rfl rfl, by decide +kernel, rfl⟩
set_option maxRecDepth 100000 in
theorem pme_20 : pMeF 20 := ⟨pHas 2 154 rfl rfl, pHas 1 2 rfl rfl, by decide +kernel, rfl⟩
set_option maxRecDepth 100000 in
theorem pme_21 : pMeF 21 := ⟨pHas 2 167 rfl rfl, pHas 1 2 rfl rfl, by decide +kernel, rfl⟩
set_option maxRecDepth 100000 in
theorem pme_22 : pMeF 22 := ⟨pHas 2 171 rfl rfl, pHas 1 2 rfl rfl, by decide +kernel, rfl⟩
set_option maxRecDepth 100000 in
theorem pme_23 : pMeF 23 := ⟨pHas 2 184 rfl rfl, pHas 1 2 rfl rfl, by decide +kernel, rfl⟩
set_option maxRecDepth 100000 in
theorem pme_24 : pMeF 24 := ⟨pHas 2 206 rfl rfl, pHas 1 2 rfl rfl, by decide +kernel, rfl⟩
set_option maxRecDepth 100000 in
theorem pme_25 : pMeF 25 := ⟨pHas 2 190 rfl rfl, pHas 1 2 rfl rfl, by decide +kernel, rfl⟩
set_option maxRecDepth 100000 in
theorem pme_26 : pMeF 26 := ⟨pHas 2 194 rfl rfl, pHas 1 2 rfl rfl, by decide +kernel, rfl⟩
set_option maxRecDepth 100000 in
theorem pme_27 : pMeF 27 := ⟨pHas 2 28 rfl rfl, pHas 1 2 rfl rfl, by decide +kernel, rfl⟩
set_option maxRecDepth 100000 in
theorem pme_28 : pMeF 28 := ⟨pHas 3 48 rfl rfl, pHas 1 2 rfl rfl, by decide +kernel, rfl⟩
set_option maxRecDepth 100000 in
theorem pme_29 : pMeF 29 := ⟨pHas 2 198 rfl rfl, pHas 1 2 rfl rfl, by decide +kernel, rfl⟩
set_option maxRecDepth 100000 in
theorem pme_30 : pMeF 30 := ⟨pHas 4 178 rfl rfl, pHas 1 2 rfl rfl, by decide +kernel, rfl⟩
set_option maxRecDepth 100000 in
theorem pme_31 : pMeF 31 := ⟨pHas 2 32 rfl rfl, pHas 1 2 rfl rfl, by decide +kernel, rfl⟩
set_option maxRecDepth 100000 in
theorem pme_32 : pMeF 32 := ⟨pHas 2 43 rfl rfl, pHas 1 2 rfl rfl, by decide +kernel, rfl⟩
set_option maxRecDepth 100000 in
theorem pme_33 : pMeF 33 := ⟨pHas 2 47 rfl rfl, pHas 1 2 rfl rfl, by decide +kernel, rfl⟩
set_option maxRecDepth 100000 in
theorem pme_34 : pMeF 34 := ⟨pHas 4 37 rfl rfl, pHas 1 2 rfl rfl, by decide +kernel, rfl⟩
set_option maxRecDepth 100000 in
theorem pme_35 : pMeF 35 := ⟨pHas 2 146 rfl rfl, pHas 1 2 rfl rfl, by decide +kernel, rfl⟩
set_option maxRecDepth 100000 in
theorem pme_36 : pMeF 36 := ⟨pHas 2 230 rfl rfl, pHas 1 2 rfl rfl, by decide +kernel, rfl⟩
set_option maxRecDepth 100000 in
theorem pme_37 : pMeF 37 := ⟨pHas 4 9 rfl rfl, pHas 1 2 rfl rfl, by decide +kernel, rfl⟩
set_option maxRecDepth 100000 in
theorem pme_38 : pMeF 38 := ⟨pHas 4 5 rfl rfl, pHas 1 2 rfl rfl, by decide +kernel, rfl⟩
set_option maxRecDepth 100000 in
theorem pme_39 : pMeF 39 := ⟨pHas 3 96 rfl rfl, pHas 1 2 rfl rfl, by decide +kernel, rfl⟩
set_option maxRecDepth 100000 in
theorem pme_40 : pMeF 40 := ⟨pHas 2 142 rfl rfl, pHas 1 2 rfl rfl, by decide +kernel, rfl⟩
set_option maxRecDepth 100000 in
theorem pme_41 : pMeF 41 := ⟨pHas 3 104 rfl rfl, pHas 1 2 rfl rfl, by decide +kernel, rfl⟩
set_option maxRecDepth 100000 in
theorem pme_42 : pMeF 42 := ⟨pHas 4 162 rfl rfl, pHas 1 2 rfl rfl, by decide +kernel, rfl⟩
set_option maxRecDepth 100000 in
theorem pme_43 : pMeF 43 := ⟨pHas 2 138 rfl rfl, pHas 1 2 rfl rfl, by decide +kernel, rfl⟩
set_option maxRecDepth 100000 in
theorem pme_44 : pMeF 44 := ⟨pHas 2 133 rfl rfl, pHas 1 2 rfl rfl, by decide +kernel, rfl⟩
set_option maxRecDepth 100000 in
theorem pme_45 : pMeF 45 := ⟨pHas 2 222 rfl rfl, pHas 1 2 rfl rfl, by decide +kernel, rfl⟩
set_option maxRecDepth 100000 in
theorem pme_46 : pMeF 46 := ⟨pHas 2 226 rfl rfl, pHas 1 2 rfl rfl, by decide +kernel, rfl⟩
set_option maxRecDepth 100000 in
theorem pme_47 : pMeF 47 := ⟨pHas 3 21 rfl rfl, pHas 1 2 rfl rfl, by decide +kernel, rfl⟩
set_option maxRecDepth 100000 in
theorem pme_48 : pMeF 48 := ⟨pHas 4 110 rfl rfl, pHas 1 2 rfl rfl, by decide +kernel, rfl⟩
set_option maxRecDepth 100000 in
theorem pme_49 : pMeF 49 := ⟨pHas 3 197 rfl rfl, pHas 1 2 rfl rfl, by decide +kernel, rfl⟩
set_option maxRecDepth 100000 in
theorem pme_50 : pMeF 50 := ⟨pHas 3 201 rfl rfl, pHas 1 2 rfl rfl, by decide +kernel, rfl⟩
set_option maxRecDepth 100000 in
theorem pme_51 : pMeF 51 := ⟨pHas 3 209 rfl rfl, pHas 1 2 rfl rfl, by decide +kernel, rfl⟩
set_option maxRecDepth 100000 in
theorem pme_52 : pMeF 52 := ⟨pHas 3 205 rfl rfl, pHas 1 2 rfl rfl, by decide +kernel, rfl⟩
set_option maxRecDepth 100000 in
theorem pme_53 : pMeF 53 := ⟨pHas 3 213 rfl rfl, pHas 1 2 rfl rfl, by decide +kernel, rfl⟩
set_option maxRecDepth 100000 in
theorem pme_54 : pMeF 54 := ⟨pHas 3 100 rfl rfl, pHas 1 2 rfl rfl, by decide +kernel, rfl⟩
set_option maxRecDepth 100000 in
theorem pme_55 : pMeF 55 := ⟨pHas 3 92 rfl rfl, pHas 1 2 rfl rfl, by decide +kernel, rfl⟩
set_option maxRecDepth 100000 in
theorem pme_56 : pMeF 56 := ⟨pHas 5 36 rfl rfl, pHas 1 2 rfl rfl, by decide +kernel, rfl⟩
set_option maxRecDepth 100000 in
theorem pme_57 : pMeF 57 := ⟨pHas 1 199 rfl rfl, pHas 1 7 rfl rfl, by decide +kernel, rfl⟩
set_option maxRecDepth 100000 in
theorem pme_58 : pMeF 58 := ⟨pHas 5 48 rfl rfl, pHas 1 7 rfl rfl, by decide +kernel, rfl⟩
set_option maxRecDepth 100000 in
theorem pme_59 : pMeF 59 := ⟨pHas 5 53 rfl rfl, pHas 1 7 rfl rfl, by decide +kernel, rfl⟩
set_option maxRecDepth 100000 in
theorem pme_60 : pMeF 60 := ⟨pHas 5 57 rfl rfl, pHas 1 7 rfl rfl, by decide +kernel, rfl⟩
set_option maxRecDepth 100000 in
theorem pme_61 : pMeF 61 := ⟨pHas 4 78 rfl rfl, pHas 1 7 rfl rfl, by decide +kernel, rfl⟩
set_option maxRecDepth 100000 in
theorem pme_62 : pMeF 62 := ⟨pHas 4 83 rfl rfl, pHas 1 7 rfl rfl, by decide +kernel, rfl⟩
set_option maxRecDepth 100000 in
theorem pme_63 : pMeF 63 := ⟨pHas 1 146 rfl rfl, pHas 1 4 rfl rfl, by decide +kernel, rfl⟩
set_option maxRecDepth 100000 in
theorem pme_64 : pMeF 64 := ⟨pHas 2 114 rfl rfl, pHas 1 4 rfl rfl, by decide +kernel, rfl⟩
set_option maxRecDepth 100000 in
theorem pme_65 : pMeF 65 := ⟨pHas 2 118 rfl rfl, pHas 1 4 rfl rfl, by decide +kernel, rfl⟩
set_option maxRecDepth 100000 in
theorem pme_66 : pMeF 66 := ⟨pHas 3 142 rfl rfl, pHas 1 4 rfl rfl, by decide +kernel, rfl⟩
set_option maxRecDepth 100000 in
theorem pme_67 : pMeF 67 := ⟨pHas 2 51 rfl rfl, pHas 1 4 rfl rfl, by decide +kernel, rfl⟩
set_option maxRecDepth 100000 in
theorem pme_68 : pMeF 68 := ⟨pHas 3 146 rfl rfl, pHas 1 4 rfl rfl, by decide +kernel, rfl⟩
set_option maxRecDepth 100000 in
theorem pme_69 : pMeF 69 := ⟨pHas 3 166 rfl rfl, pHas 1 4 rfl rfl, by decide +kernel, rfl⟩
set_option maxRecDepth 100000 in
theorem pme_70 : pMeF 70 := ⟨pHas 3 189 rfl rfl, pHas 1 4 rfl rfl, by decide +kernel, rfl⟩
set_option maxRecDepth 100000 in
theorem pme_71 : pMeF 71 := ⟨pHas 1 163 rfl rfl, pHas 1 5 rfl rfl, by decide +kernel, rfl⟩
set_option maxRecDepth 100000 in
theorem pme_72 : pMeF 72 := ⟨pHas 3 236 rfl rfl, pHas 1 5 rfl rfl, by decide +kernel, rfl⟩
set_option maxRecDepth 100000 in
theorem pme_73 : pMeF 73 := ⟨pHas 4 1 rfl rfl, pHas 1 5 rfl rfl, by decide +kernel, rfl⟩
set_option maxRecDepth 100000 in
theorem pme_74 : pMeF 74 := ⟨pHas 4 14 rfl rfl, pHas 1 5 rfl rfl, by decide +kernel, rfl⟩
set_option maxRecDepth 100000 in
theorem pme_75 : pMeF 75 := ⟨pHas 4 136 rfl rfl, pHas 1 5 rfl rfl, by decide +kernel, rfl⟩
set_option maxRecDepth 100000 in
theorem pme_76 : pMeF 76 := ⟨pHas 4 140 rfl rfl, pHas 1 5 rfl rfl, by decide +kernel, rfl⟩
set_option maxRecDepth 100000 in
theorem pme_77 : pMeF 77 := ⟨pHas 4 145 rfl rfl, pHas 1 5 rfl rfl, by decide +kernel, rfl⟩
set_option maxRecDepth 100000 in
theorem pme_78 : pMeF 78 := ⟨pHas 1 36 rfl rfl, pHas 1 3 rfl rfl, by decide +kernel, rfl⟩
set_option maxRecDepth 100000 in
theorem pme_79 : pMeF 79 := ⟨pHas 5 87 rfl rfl, pHas 1 3 rfl rfl, by decide +kernel, rfl⟩
set_option maxRecDepth 100000 in
theorem pme_80 : pMeF 80 := ⟨pHas 2 55 rfl rfl, pHas 1 3 rfl rfl, by decide +kernel, rfl⟩
set_option maxRecDepth 100000 in
theorem pme_81 : pMeF 81 := ⟨pHas 3 150 rfl rfl, pHas 1 3 rfl rfl, by decide +kernel, rfl⟩
set_option maxRecDepth 100000 in
theorem pme_82 : pMeF 82 := ⟨pHas 2 39 rfl rfl, pHas 1 3 rfl rfl, by decide +kernel, rfl⟩
set_option maxRecDepth 100000 in
theorem pme_83 : pMeF 83 := ⟨pHas 3 170 rfl rfl, pHas 1 3 rfl rfl, by decide +kernel, rfl⟩
set_option maxRecDepth 100000 in
theorem pme_84 : pMeF 84 := ⟨pHas 2 13 rfl rfl, pHas 1 3 rfl rfl, by decide +kernel, rfl⟩
set_option maxRecDepth 100000 in
theorem pme_85 : pMeF 85 := ⟨pHas 2 234 rfl rfl, pHas 1 3 rfl rfl, by decide +kernel, rfl⟩
set_option maxRecDepth 100000 in
theorem pme_86 : pMeF 86 := ⟨pHas 2 105 rfl rfl, pHas 1 3 rfl rfl, by decide +kernel, rfl⟩
set_option maxRecDepth 100000 in
theorem pme_87 : pMeF 87 := ⟨pHas 2 110 rfl rfl, pHas 1 3 rfl rfl, by decide +kernel, rfl⟩
set_option maxRecDepth 100000 in
theorem pme_88 : pMeF 88 := ⟨pHas 2 98 rfl rfl, pHas 1 3 rfl rfl, by decide +kernel, rfl⟩
set_option maxRecDepth 100000 in
theorem pme_89 : pMeF 89 := ⟨pHas 2 214 rfl rfl, pHas 1 3 rfl rfl, by decide +kernel, rfl⟩
set_option maxRecDepth 100000 in
theorem pme_90 : pMeF 90 := ⟨pHas 4 24 rfl rfl, pHas 1 3 rfl rfl, by decide +kernel, rfl⟩
set_option maxRecDepth 100000 in
theorem pme_91 : pMeF 91 := ⟨pHas 2 175 rfl rfl, pHas 1 3 rfl rfl, by decide +kernel, rfl⟩
set_option maxRecDepth 100000 in
theorem pme_92 : pMeF 92 := ⟨pHas 2 20 rfl rfl, pHas 1 3 rfl rfl, by decide +kernel, rfl⟩
set_option maxRecDepth 100000 in
theorem pme_93 : pMeF 93 := ⟨pHas 2 179 rfl rfl, pHas 1 3 rfl rfl, by decide +kernel, rfl⟩
set_option maxRecDepth 100000 in
theorem pme_94 : pMeF 94 := ⟨pHas 3 75 rfl rfl, pHas 1 3 rfl rfl, by decide +kernel, rfl⟩
set_option maxRecDepth 100000 in
theorem pme_95 : pMeF 95 := ⟨pHas 2 150 rfl rfl, pHas 1 3 rfl rfl, by decide +kernel, rfl⟩
set_option maxRecDepth 100000 in
theorem pme_96 : pMeF 96 := ⟨pHas 2 162 rfl rfl, pHas 1 3 rfl rfl, by decide +kernel, rfl⟩
set_option maxRecDepth 100000 in
theorem pme_97 : pMeF 97 := ⟨pHas 3 108 rfl rfl, pHas 1 3 rfl rfl, by decide +kernel, rfl⟩
set_option maxRecDepth 100000 in
theorem pme_98 : pMeF 98 := ⟨pHas 2 202 rfl rfl, pHas 1 3 rfl rfl, by decide +kernel, rfl⟩
set_option maxRecDepth 100000 in
theorem pme_99 : pMeF 99 := ⟨pHas 3 25 rfl rfl, pHas 1 3 rfl rfl, by decide +kernel, rfl⟩
set_option maxRecDepth 100000 in
theorem pme_100 : pMeF 100 := ⟨pHas 3 34 rfl rfl, pHas 1 3 rfl rfl, by decide +kernel, rfl⟩
set_option maxRecDepth 100000 in
theorem pme_101 : pMeF 101 := ⟨pHas 3 30 rfl rfl, pHas 1 3 rfl rfl, by decide +kernel, rfl⟩
set_option maxRecDepth 100000 in
theorem pme_102 : pMeF 102 := ⟨pHas 1 217 rfl rfl, pHas 1 8 rfl rfl, by decide +kernel, rfl⟩
set_option maxRecDepth 100000 in
theorem pme_103 : pMeF 103 := ⟨pHas 4 200 rfl rfl, pHas 1 8 rfl rfl, by decide +kernel, rfl⟩
set_option maxRecDepth 100000 in
theorem pme_104 : pMeF 104 := ⟨pHas 4 204 rfl rfl, pHas 1 8 rfl rfl, by decide +kernel, rfl⟩
set_option maxRecDepth 100000 in
theorem pme_105 : pMeF 105 := ⟨pHas 4 209 rfl rfl, pHas 1 8 rfl rfl, by decide +kernel, rfl⟩
set_option maxRecDepth 100000 in
theorem pme_106 : pMeF 106 := ⟨pHas 1 185 rfl rfl, pHas 1 6 rfl rfl, by decide +kernel, rfl⟩
set_option maxRecDepth 100000 in
theorem pme_107 : pMeF 107 := ⟨pHas 4 98 rfl rfl, pHas 1 6 rfl rfl, by decide +kernel, rfl⟩
set_option maxRecDepth 100000 in
theorem pme_108 : pMeF 108 := ⟨pHas 4 101 rfl rfl, pHas 1 6 rfl rfl, by decide +kernel, rfl⟩
set_option maxRecDepth 100000 in
theorem pme_109 : pMeF 109 := ⟨pHas 4 217 rfl rfl, pHas 1 6 rfl rfl, by decide +kernel, rfl⟩
set_option maxRecDepth 100000 in
theorem pme_110 : pMeF 110 := ⟨pHas 4 239 rfl rfl, pHas 1 6 rfl rfl, by decide +kernel, rfl⟩
set_option maxRecDepth 100000 in
theorem pme_111 : pMeF 111 := ⟨pHas 5 4 rfl rfl, pHas 1 6 rfl rfl, by decide +kernel, rfl⟩
set_option maxRecDepth 100000 in
theorem pme_112 : pMeF 112 := ⟨pHas 4 222 rfl rfl, pHas 1 6 rfl rfl, by decide +kernel, rfl⟩
set_option maxRecDepth 100000 in
theorem pme_113 : pMeF 113 := ⟨pHas 4 226 rfl rfl, pHas 1 6 rfl rfl, by decide +kernel, rfl⟩
set_option maxRecDepth 100000 in
theorem pme_114 : pMeF 114 := ⟨pHas 1 22 rfl rfl, pHas 1 1 rfl rfl, by decide +kernel, rfl⟩
set_option maxRecDepth 100000 in
theorem pme_115 : pMeF 115 := ⟨pHas 2 94 rfl rfl, pHas 1 1 rfl rfl, by decide +kernel, rfl⟩
set_option maxRecDepth 100000 in
theorem pme_116 : pMeF 116 := ⟨pHas 2 210 rfl rfl, pHas 1 1 rfl rfl, by decide +kernel, rfl⟩
set_option maxRecDepth 100000 in
theorem pme_117 : pMeF 117 := ⟨pHas 3 6 rfl rfl, pHas 1 1 rfl rfl, by decide +kernel, rfl⟩
set_option maxRecDepth 100000 in
theorem pme_118 : pMeF 118 := ⟨pHas 3 13 rfl rfl, pHas 1 1 rfl rfl, by decide +kernel, rfl⟩
set_option maxRecDepth 100000 in
theorem pme_119 : pMeF 119 := ⟨pHas 3 59 rfl rfl, pHas 1 1 rfl rfl, by decide +kernel, rfl⟩
set_option maxRecDepth 100000 in
theorem pme_120 : pMeF 120 := ⟨pHas 3 71 rfl rfl, pHas 1 1 rfl rfl, by decide +kernel, rfl⟩
set_option maxRecDepth 100000 in
theorem pme_121 : pMeF 121 := ⟨pHas 3 79 rfl rfl, pHas 1 1 rfl rfl, by decide +kernel, rfl⟩
set_option maxRecDepth 100000 in
theorem pme_122 : pMeF 122 := ⟨pHas 3 84 rfl rfl, pHas 1 1 rfl rfl, by decide +kernel, rfl⟩
set_option maxRecDepth 100000 in
theorem pme_123 : pMeF 123 := ⟨pHas 3 88 rfl rfl, pHas 1 1 rfl rfl, by decide +kernel, rfl⟩
set_option maxRecDepth 100000 in
theorem pme_124 : pMeF 124 := ⟨pHas 3 117 rfl rfl, pHas 1 1 rfl rfl, by decide +kernel, rfl⟩
set_option maxRecDepth 100000 in
theorem pme_125 : pMeF 125 := ⟨pHas 3 121 rfl rfl, pHas 1 1 rfl rfl, by decide +kernel, rfl⟩
set_option maxRecDepth 100000 in
theorem pme_126 : pMeF 126 := ⟨pHas 3 126 rfl rfl, pHas 1 1 rfl rfl, by decide +kernel, rfl⟩
set_option maxRecDepth 100000 in
theorem pme_127 : pMeF 127 := ⟨pHas 3 130 rfl rfl, pHas 1 1 rfl rfl, by decide +kernel, rfl⟩
set_option maxRecDepth 100000 in
theorem pme_128 : pMeF 128 := ⟨pHas 3 134 rfl rfl, pHas 1 1 rfl rfl, by decide +kernel, rfl⟩
set_option maxRecDepth 100000 in
theorem pme_129 : pMeF 129 := ⟨pHas 3 138 rfl rfl, pHas 1 1 rfl rfl, by decide +kernel, rfl⟩
set_option maxRecDepth 100000 in
theorem pme_130 : pMeF 130 := ⟨pHas 3 158 rfl rfl, pHas 1 1 rfl rfl, by decide +kernel, rfl⟩
set_option maxRecDepth 100000 in
theorem pme_131 : pMeF 131 := ⟨pHas 3 162 rfl rfl, pHas 1 1 rfl rfl, by decide +kernel, rfl⟩
set_option maxRecDepth 100000 in
theorem pme_132 : pMeF 132 := ⟨pHas 3 180 rfl rfl, pHas 1 1 rfl rfl, by decide +kernel, rfl⟩
set_option maxRecDepth 100000 in
theorem pme_133 : pMeF 133 := ⟨pHas 3 185 rfl rfl, pHas 1 1 rfl rfl, by decide +kernel, rfl⟩
set_option maxRecDepth 100000 in
theorem pme_134 : pMeF 134 := ⟨pHas 3 193 rfl rfl, pHas 1 1 rfl rfl, by decide +kernel, rfl⟩
set_option maxRecDepth 100000 in
theorem pme_135 : pMeF 135 := ⟨pHas 3 232 rfl rfl, pHas 1 1 rfl rfl, by decide +kernel, rfl⟩
set_option maxRecDepth 100000 in
theorem pme_136 : pMeF 136 := ⟨pHas 4 18 rfl rfl, pHas 1 1 rfl rfl, by decide +kernel, rfl⟩
set_option maxRecDepth 100000 in
theorem pme_137 : pMeF 137 := ⟨pHas 4 29 rfl rfl, pHas 1 1 rfl rfl, by decide +kernel, rfl⟩
set_option maxRecDepth 100000 in
theorem pme_138 : pMeF 138 := ⟨pHas 4 33 rfl rfl, pHas 1 1 rfl rfl, by decide +kernel, rfl⟩
set_option maxRecDepth 100000 in
theorem pme_139 : pMeF 139 := ⟨pHas 4 41 rfl rfl, pHas 1 1 rfl rfl, by decide +kernel, rfl⟩
set_option maxRecDepth 100000 in
theorem pme_140 : pMeF 140 := ⟨pHas 4 46 rfl rfl, pHas 1 1 rfl rfl, by decide +kernel, rfl⟩
set_option maxRecDepth 100000 in
theorem pme_141 : pMeF 141 := ⟨pHas 4 51 rfl rfl, pHas 1 1 rfl rfl, by decide +kernel, rfl⟩
set_option maxRecDepth 100000 in
theorem pme_142 : pMeF 142 := ⟨pHas 4 55 rfl rfl, pHas 1 1 rfl rfl, by decide +kernel, rfl⟩
set_option maxRecDepth 100000 in
theorem pme_143 : pMeF 143 := ⟨pHas 4 59 rfl rfl, pHas 1 1 rfl rfl, by decide +kernel, rfl⟩
set_option maxRecDepth 100000 in
theorem pme_144 : pMeF 144 := ⟨pHas 4 64 rfl rfl, pHas 1 1 rfl rfl, by decide +kernel, rfl⟩
set_option maxRecDepth 100000 in
theorem pme_145 : pMeF 145 := ⟨pHas 4 69 rfl rfl, pHas 1 1 rfl rfl, by decide +kernel, rfl⟩
set_option maxRecDepth 100000 in
theorem pme_146 : pMeF 146 := ⟨pHas 4 74 rfl rfl, pHas 1 1 rfl rfl, by decide +kernel, rfl⟩
set_option maxRecDepth 100000 in
theorem pme_147 : pMeF 147 := ⟨pHas 4 90 rfl rfl, pHas 1 1 rfl rfl, by decide +kernel, rfl⟩
set_option maxRecDepth 100000 in
theorem pme_148 : pMeF 148 := ⟨pHas 4 94 rfl rfl, pHas 1 1 rfl rfl, by decide +kernel, rfl⟩
set_option maxRecDepth 100000 in
theorem pme_149 : pMeF 149 := ⟨pHas 4 106 rfl rfl, pHas 1 1 rfl rfl, by decide +kernel, rfl⟩
set_option maxRecDepth 100000 in
theorem pme_150 : pMeF 150 := ⟨pHas 4 115 rfl rfl, pHas 1 1 rfl rfl, by decide +kernel, rfl⟩
set_option maxRecDepth 100000 in
theorem pme_151 : pMeF 151 := ⟨pHas 4 119 rfl rfl, pHas 1 1 rfl rfl, by decide +kernel, rfl⟩
set_option maxRecDepth 100000 in
theorem pme_152 : pMeF 152 := ⟨pHas 4 124 rfl rfl, pHas 1 1 rfl rfl, by decide +kernel, rfl⟩
set_option maxRecDepth 100000 in
theorem pme_153 : pMeF 153 := ⟨pHas 4 128 rfl rfl, pHas 1 1 rfl rfl, by decide +kernel, rfl⟩
set_option maxRecDepth 100000 in
theorem pme_154 : pMeF 154 := ⟨pHas 4 132 rfl rfl, pHas 1 1 rfl rfl, by decide +kernel, rfl⟩
set_option maxRecDepth 100000 in
theorem pme_155 : pMeF 155 := ⟨pHas 4 150 rfl rfl, pHas 1 1 rfl rfl, by decide +kernel, rfl⟩
set_option maxRecDepth 100000 in
theorem pme_156 : pMeF 156 := ⟨pHas 4 154 rfl rfl, pHas 1 1 rfl rfl, by decide +kernel, rfl⟩
set_option maxRecDepth 100000 in
theorem pme_157 : pMeF 157 := ⟨pHas 4 158 rfl rfl, pHas 1 1 rfl rfl, by decide +kernel, rfl⟩
set_option maxRecDepth 100000 in
theorem pme_158 : pMeF 158 := ⟨pHas 4 166 rfl rfl, pHas 1 1 rfl rfl, by decide +kernel, rfl⟩
set_option maxRecDepth 100000 in
theorem pme_159 : pMeF 159 := ⟨pHas 4 170 rfl rfl, pHas 1 1 rfl rfl, by decide +kernel, rfl⟩
set_option maxRecDepth 100000 in
theorem pme_160 : pMeF 160 := ⟨pHas 4 174 rfl rfl, pHas 1 1 rfl rfl, by decide +kernel, rfl⟩
set_option maxRecDepth 100000 in
theorem pme_161 : pMeF 161 := ⟨pHas 4 185 rfl rfl, pHas 1 1 rfl rfl, by decide +kernel, rfl⟩
set_option maxRecDepth 100000 in
theorem pme_162 : pMeF 162 := ⟨pHas 4 188 rfl rfl, pHas 1 1 rfl rfl, by decide +kernel, rfl⟩
set_option maxRecDepth 100000 in
theorem pme_163 : pMeF 163 := ⟨pHas 4 196 rfl rfl, pHas 1 1 rfl rfl, by decide +kernel, rfl⟩
set_option maxRecDepth 100000 in
theorem pme_164 : pMeF 164 := ⟨pHas 4 213 rfl rfl, pHas 1 1 rfl rfl, by decide +kernel, rfl⟩
set_option maxRecDepth 100000 in
theorem pme_165 : pMeF 165 := ⟨pHas 4 235 rfl rfl, pHas 1 1 rfl rfl, by decide +kernel, rfl⟩
set_option maxRecDepth 100000 in
theorem pme_166 : pMeF 166 := ⟨pHas 5 8 rfl rfl, pHas 1 1 rfl rfl, by decide +kernel, rfl⟩
set_option maxRecDepth 100000 in
theorem pme_167 : pMeF 167 := ⟨pHas 5 12 rfl rfl, pHas 1 1 rfl rfl, by decide +kernel, rfl⟩
set_option maxRecDepth 100000 in
theorem pme_168 : pMeF 168 := ⟨pHas 5 17 rfl rfl, pHas 1 1 rfl rfl, by decide +kernel, rfl⟩
set_option maxRecDepth 100000 in
theorem pme_169 : pMeF 169 := ⟨pHas 3 220 rfl rfl, pHas 1 1 rfl rfl, by decide +kernel, rfl⟩
set_option maxRecDepth 100000 in
theorem pme_170 : pMeF 170 := ⟨pHas 3 224 rfl rfl, pHas 1 1 rfl rfl, by decide +kernel, rfl⟩
set_option maxRecDepth 100000 in
theorem pme_171 : pMeF 171 := ⟨pHas 5 21 rfl rfl, pHas 1 1 rfl rfl, by decide +kernel, rfl⟩
set_option maxRecDepth 100000 in
theorem pme_172 : pMeF 172 := ⟨pHas 5 28 rfl rfl, pHas 1 1 rfl rfl, by decide +kernel, rfl⟩
set_option maxRecDepth 100000 in
theorem pme_173 : pMeF 173 := ⟨pHas 5 32 rfl rfl, pHas 1 1 rfl rfl, by decide +kernel, rfl⟩
set_option maxRecDepth 100000 in
theorem pme_174 : pMeF 174 := ⟨pHas 5 40 rfl rfl, pHas 1 1 rfl rfl, by decide +kernel, rfl⟩
set_option maxRecDepth 100000 in
theorem pme_175 : pMeF 175 := ⟨pHas 5 44 rfl rfl, pHas 1 1 rfl rfl, by decide +kernel, rfl⟩
set_option maxRecDepth 100000 in
theorem pme_176 : pMeF 176 := ⟨pHas 5 61 rfl rfl, pHas 1 1 rfl rfl, by decide +kernel, rfl⟩
set_option maxRecDepth 100000 in
theorem pme_177 : pMeF 177 := ⟨pHas 5 79 rfl rfl, pHas 1 1 rfl rfl, by decide +kernel, rfl⟩
set_option maxRecDepth 100000 in
theorem pme_178 : pMeF 178 := ⟨pHas 5 96 rfl rfl, pHas 1 1 rfl rfl, by decide +kernel, rfl⟩
set_option maxRecDepth 100000 in
theorem pme_179 : pMeF 179 := ⟨pHas 5 100 rfl rfl, pHas 1 1 rfl rfl, by decide +kernel, rfl⟩
set_option maxRecDepth 100000 in
theorem pme_180 : pMeF 180 := ⟨pHas 5 104 rfl rfl, pHas 1 1 rfl rfl, by decide +kernel, rfl⟩
set_option maxRecDepth 100000 in
theorem pme_181 : pMeF 181 := ⟨pHas 5 92 rfl rfl, pHas 1 1 rfl rfl, by decide +kernel, rfl⟩
set_option maxRecDepth 100000 in
theorem pme_182 : pMeF 182 := ⟨pHas 2 101 rfl rfl, pHas 1 1 rfl rfl, by decide +kernel, rfl⟩
set_option maxRecDepth 100000 in
theorem pme_183 : pMeF 183 := ⟨pHas 3 40 rfl rfl, pHas 1 1 rfl rfl, by decide +kernel, rfl⟩
set_option maxRecDepth 100000 in
theorem pme_184 : pMeF 184 := ⟨pHas 3 37 rfl rfl, pHas 1 1 rfl rfl, by decide +kernel, rfl⟩
set_option maxRecDepth 100000 in
theorem pme_185 : pMeF 185 := ⟨pHas 4 231 rfl rfl, pHas 1 1 rfl rfl, by decide +kernel, rfl⟩
set_option maxRecDepth 100000 in
theorem pme_186 : pMeF 186 := ⟨pHas 5 109 rfl rfl, pHas 1 12 rfl rfl, by decide +kernel, rfl⟩
set_option maxRecDepth 100000 in
theorem pme_187 : pMeF 187 := ⟨pHas 5 228 rfl rfl, pHas 1 12 rfl rfl, by decide +kernel, rfl⟩
set_option maxRecDepth 100000 in
theorem pme_188 : pMeF 188 := ⟨pHas 5 162 rfl rfl, pHas 1 12 rfl rfl, by decide +kernel, rfl⟩
set_option maxRecDepth 100000 in
theorem pme_189 : pMeF 189 := ⟨pHas 6 54 rfl rfl, pHas 1 12 rfl rfl, by decide +kernel, rfl⟩
set_option maxRecDepth 100000 in
theorem pme_190 : pMeF 190 := ⟨pHas 6 180 rfl rfl, pHas 1 12 rfl rfl, by decide +kernel, rfl⟩
set_option maxRecDepth 100000 in
theorem pme_191 : pMeF 191 := ⟨pHas 5 159 rfl rfl, pHas 1 12 rfl rfl, by decide +kernel, rfl⟩
set_option maxRecDepth 100000 in
theorem pme_192 : pMeF 192 := ⟨pHas 5 143 rfl rfl, pHas 1 12 rfl rfl, by decide +kernel, rfl⟩
set_option maxRecDepth 100000 in
theorem pme_193 : pMeF 193 := ⟨pHas 5 147 rfl rfl, pHas 1 12 rfl rfl, by decide +kernel, rfl⟩
set_option maxRecDepth 100000 in
theorem pme_194 : pMeF 194 := ⟨pHas 7 53 rfl rfl, pHas 1 12 rfl rfl, by decide +kernel, rfl⟩
set_option maxRecDepth 100000 in
theorem pme_195 : pMeF 195 := ⟨pHas 5 115 rfl rfl, pHas 1 12 rfl rfl, by decide +kernel, rfl⟩
set_option maxRecDepth 100000 in
theorem pme_196 : pMeF 196 := ⟨pHas 5 135 rfl rfl, pHas 1 12 rfl rfl, by decide +kernel, rfl⟩
set_option maxRecDepth 100000 in
theorem pme_197 : pMeF 197 := ⟨pHas 5 119 rfl rfl, pHas 1 12 rfl rfl, by decide +kernel, rfl⟩
set_option maxRecDepth 100000 in
theorem pme_198 : pMeF 198 := ⟨pHas 6 81 rfl rfl, pHas 1 12 rfl rfl, by decide +kernel, rfl⟩
set_option maxRecDepth 100000 in
theorem pme_199 : pMeF 199 := ⟨pHas 6 85 rfl rfl, pHas 1 12 rfl rfl, by decide +kernel, rfl⟩
set_option maxRecDepth 100000 in
theorem pme_200 : pMeF 200 := ⟨pHas 5 209 rfl rfl, pHas 1 12 rfl rfl, by decide +kernel, rfl⟩
set_option maxRecDepth 100000 in
theorem pme_201 : pMeF 201 := ⟨pHas 5 139 rfl rfl, pHas 1 12 rfl rfl, by decide +kernel, rfl⟩
set_option maxRecDepth 100000 in
theorem pme_202 : pMeF 202 := ⟨pHas 5 166 rfl rfl, pHas 1 12 rfl rfl, by decide +kernel, rfl⟩
set_option maxRecDepth 100000 in
theorem pme_203 : pMeF 203 := ⟨pHas 5 178 rfl rfl, pHas 1 12 rfl rfl, by decide +kernel, rfl⟩
set_option maxRecDepth 100000 in
theorem pme_204 : pMeF 204 := ⟨pHas 5 182 rfl rfl, pHas 1 12 rfl rfl, by decide +kernel, rfl⟩
set_option maxRecDepth 100000 in
theorem pme_205 : pMeF 205 := ⟨pHas 5 193 rfl rfl, pHas 1 12 rfl rfl, by decide +kernel, rfl⟩
set_option maxRecDepth 100000 in
theorem pme_206 : pMeF 206 := ⟨pHas 5 190 rfl rfl, pHas 1 12 rfl rfl, by decide +kernel, rfl⟩
set_option maxRecDepth 100000 in
theorem pme_207 : pMeF 207 := ⟨pHas 5 174 rfl rfl, pHas 1 12 rfl rfl, by decide +kernel, rfl⟩
set_option maxRecDepth 100000 in
theorem pme_208 : pMeF 208 := ⟨pHas 5 186 rfl rfl, pHas 1 12 rfl rfl, by decide +kernel, rfl⟩
set_option maxRecDepth 100000 in
theorem pme_209 : pMeF 209 := ⟨pHas 5 170 rfl rfl, pHas 1 12 rfl rfl, by decide +kernel, rfl⟩
set_option maxRecDepth 100000 in
theorem pme_210 : pMeF 210 := ⟨pHas 5 205 rfl rfl, pHas 1 12 rfl rfl, by decide +kernel, rfl⟩
set_option maxRecDepth 100000 in
theorem pme_211 : pMeF 211 := ⟨pHas 5 201 rfl rfl, pHas 1 12 rfl rfl, by decide +kernel, rfl⟩
set_option maxRecDepth 100000 in
theorem pme_212 : pMeF 212 := ⟨pHas 5 151 rfl rfl, pHas 1 12 rfl rfl, by decide +kernel, rfl⟩
set_option maxRecDepth 100000 in
theorem pme_213 : pMeF 213 := ⟨pHas 6 200 rfl rfl, pHas 1 12 rfl rfl, by decide +kernel, rfl⟩
set_option maxRecDepth 100000 in
theorem pme_214 : pMeF 214 := ⟨pHas 5 197 rfl rfl, pHas 1 12 rfl rfl, by decide +kernel, rfl⟩
set_option maxRecDepth 100000 in
theorem pme_215 : pMeF 215 := ⟨pHas 5 155 rfl rfl, pHas 1 12 rfl rfl, by decide +kernel, rfl⟩
set_option maxRecDepth 100000 in
theorem pme_216 : pMeF 216 := ⟨pHas 5 213 rfl rfl, pHas 1 12 rfl rfl, by decide +kernel, rfl⟩
set_option maxRecDepth 100000 in
theorem pme_217 : pMeF 217 := ⟨pHas 5 131 rfl rfl, pHas 1 12 rfl rfl, by decide +kernel, rfl⟩
set_option maxRecDepth 100000 in
theorem pme_218 : pMeF 218 := ⟨pHas 5 127 rfl rfl, pHas 1 12 rfl rfl, by decide +kernel, rfl⟩
set_option maxRecDepth 100000 in
theorem pme_219 : pMeF 219 := ⟨pHas 5 123 rfl rfl, pHas 1 12 rfl rfl, by decide +kernel, rfl⟩
set_option maxRecDepth 100000 in
theorem pme_220 : pMeF 220 := ⟨pHas 5 217 rfl rfl, pHas 1 12 rfl rfl, by decide +kernel, rfl⟩
set_option maxRecDepth 100000 in
theorem pme_221 : pMeF 221 := ⟨pHas 5 221 rfl rfl, pHas 1 12 rfl rfl, by decide +kernel, rfl⟩
set_option maxRecDepth 100000 in
theorem pme_222 : pMeF 222 := ⟨pHas 8 38 rfl rfl, pHas 1 12 rfl rfl, by decide +kernel, rfl⟩
set_option maxRecDepth 100000 in
theorem pme_223 : pMeF 223 := ⟨pHas 8 49 rfl rfl, pHas 1 12 rfl rfl, by decide +kernel, rfl⟩
set_option maxRecDepth 100000 in
theorem pme_224 : pMeF 224 := ⟨pHas 6 61 rfl rfl, pHas 1 12 rfl rfl, by decide +kernel, rfl⟩
set_option maxRecDepth 100000 in
theorem pme_225 : pMeF 225 := ⟨pHas 6 58 rfl rfl, pHas 1 12 rfl rfl, by decide +kernel, rfl⟩
set_option maxRecDepth 100000 in
theorem pme_226 : pMeF 226 := ⟨pHas 6 51 rfl rfl, pHas 1 12 rfl rfl, by decide +kernel, rfl⟩
set_option maxRecDepth 100000 in
theorem pme_227 : pMeF 227 := ⟨pHas 6 65 rfl rfl, pHas 1 12 rfl rfl, by decide +kernel, rfl⟩
set_option maxRecDepth 100000 in
theorem pme_228 : pMeF 228 := ⟨pHas 6 69 rfl rfl, pHas 1 12 rfl rfl, by decide +kernel, rfl⟩
set_option maxRecDepth 100000 in
theorem pme_229 : pMeF 229 := ⟨pHas 6 93 rfl rfl, pHas 1 12 rfl rfl, by decide +kernel, rfl⟩
set_option maxRecDepth 100000 in
theorem pme_230 : pMeF 230 := ⟨pHas 6 89 rfl rfl, pHas 1 12 rfl rfl, by decide +kernel, rfl⟩
set_option maxRecDepth 100000 in
theorem pme_231 : pMeF 231 := ⟨pHas 6 77 rfl rfl, pHas 1 12 rfl rfl, by decide +kernel, rfl⟩
set_option maxRecDepth 100000 in
theorem pme_232 : pMeF 232 := ⟨pHas 6 73 rfl rfl, pHas 1 12 rfl rfl, by decide +kernel, rfl⟩
set_option maxRecDepth 100000 in
theorem pme_233 : pMeF 233 := ⟨pHas 6 105 rfl rfl, pHas 1 12 rfl rfl, by decide +kernel, rfl⟩
set_option maxRecDepth 100000 in
theorem pme_234 : pMeF 234 := ⟨pHas 6 101 rfl rfl, pHas 1 12 rfl rfl, by decide +kernel, rfl⟩
set_option maxRecDepth 100000 in
theorem pme_235 : pMeF 235 := ⟨pHas 6 109 rfl rfl, pHas 1 12 rfl rfl, by decide +kernel, rfl⟩
set_option maxRecDepth 100000 in
theorem pme_236 : pMeF 236 := ⟨pHas 6 97 rfl rfl, pHas 1 12 rfl rfl, by decide +kernel, rfl⟩
set_option maxRecDepth 100000 in
theorem pme_237 : pMeF 237 := ⟨pHas 6 117 rfl rfl, pHas 1 12 rfl rfl, by decide +kernel, rfl⟩
set_option maxRecDepth 100000 in
theorem pme_238 : pMeF 238 := ⟨pHas 6 113 rfl rfl, pHas 1 12 rfl rfl, by decide +kernel, rfl⟩
set_option maxRecDepth 100000 in
theorem pme_239 : pMeF 239 := ⟨pHas 6 129 rfl rfl, pHas 1 12 rfl rfl, by decide +kernel, rfl⟩
set_option maxRecDepth 100000 in
theorem pme_240 : pMeF 240 := ⟨pHas 6 125 rfl rfl, pHas 1 12 rfl rfl, by decide +kernel, rfl⟩
set_option maxRecDepth 100000 in
theorem pme_241 : pMeF 241 := ⟨pHas 6 121 rfl rfl, pHas 1 12 rfl rfl, by decide +kernel, rfl⟩
set_option maxRecDepth 100000 in
theorem pme_242 : pMeF 242 := ⟨pHas 6 137 rfl rfl, pHas 1 12 rfl rfl, by decide +kernel, rfl⟩
set_option maxRecDepth 100000 in
theorem pme_243 : pMeF 243 := ⟨pHas 6 133 rfl rfl, pHas 1 12 rfl rfl, by decide +kernel, rfl⟩
set_option maxRecDepth 100000 in
theorem pme_244 : pMeF 244 := ⟨pHas 6 145 rfl rfl, pHas 1 12 rfl rfl, by decide +kernel, rfl⟩
set_option maxRecDepth 100000 in
theorem pme_245 : pMeF 245 := ⟨pHas 6 141 rfl rfl, pHas 1 12 rfl rfl, by decide +kernel, rfl⟩
set_option maxRecDepth 100000 in
theorem pme_246 : pMeF 246 := ⟨pHas 6 149 rfl rfl, pHas 1 12 rfl rfl, by decide +kernel, rfl⟩
set_option maxRecDepth 100000 in
theorem pme_247 : pMeF 247 := ⟨pHas 6 169 rfl rfl, pHas 1 12 rfl rfl, by decide +kernel, rfl⟩
set_option maxRecDepth 100000 in
theorem pme_248 : pMeF 248 := ⟨pHas 6 177 rfl rfl, pHas 1 12 rfl rfl, by decide +kernel, rfl⟩
set_option maxRecDepth 100000 in
theorem pme_249 : pMeF 249 := ⟨pHas 6 173 rfl rfl, pHas 1 12 rfl rfl, by decide +kernel, rfl⟩
set_option maxRecDepth 100000 in
theorem pme_250 : pMeF 250 := ⟨pHas 6 165 rfl rfl, pHas 1 12 rfl rfl, by decide +kernel, rfl⟩
set_option maxRecDepth 100000 in
theorem pme_251 : pMeF 251 := ⟨pHas 6 161 rfl rfl, pHas 1 12 rfl rfl, by decide +kernel, rfl⟩
set_option maxRecDepth 100000 in
theorem pme_252 : pMeF 252 := ⟨pHas 6 157 rfl rfl, pHas 1 12 rfl rfl, by decide +kernel, rfl⟩
set_option maxRecDepth 100000 in
theorem pme_253 : pMeF 253 := ⟨pHas 6 153 rfl rfl, pHas 1 12 rfl rfl, by decide +kernel, rfl⟩
set_option maxRecDepth 100000 in
theorem pme_254 : pMeF 254 := ⟨pHas 6 188 rfl rfl, pHas 1 12 rfl rfl, by decide +kernel, rfl⟩
set_option maxRecDepth 100000 in
theorem pme_255 : pMeF 255 := ⟨pHas 6 184 rfl rfl, pHas 1 12 rfl rfl, by decide +kernel, rfl⟩
set_option maxRecDepth 100000 in
theorem pme_256 : pMeF 256 := ⟨pHas 6 208 rfl rfl, pHas 1 12 rfl rfl, by decide +kernel, rfl⟩
set_option maxRecDepth 100000 in
theorem pme_257 : pMeF 257 := ⟨pHas 6 216 rfl rfl, pHas 1 12 rfl rfl, by decide +kernel, rfl⟩
set_option maxRecDepth 100000 in
theorem pme_258 : pMeF 258 := ⟨pHas 6 220 rfl rfl, pHas 1 12 rfl rfl, by decide +kernel, rfl⟩
set_option maxRecDepth 100000 in
theorem pme_259 : pMeF 259 := ⟨pHas 6 224 rfl rfl, pHas 1 12 rfl rfl, by decide +kernel, rfl⟩
set_option maxRecDepth 100000 in
theorem pme_260 : pMeF 260 := ⟨pHas 6 212 rfl rfl, pHas 1 12 rfl rfl, by decide +kernel, rfl⟩
set_option maxRecDepth 100000 in
theorem pme_261 : pMeF 261 := ⟨pHas 7 49 rfl rfl, pHas 1 12 rfl rfl, by decide +kernel, rfl⟩
set_option maxRecDepth 100000 in
theorem pme_262 : pMeF 262 := ⟨pHas 7 44 rfl rfl, pHas 1 12 rfl rfl, by decide +kernel, rfl⟩
set_option maxRecDepth 100000 in
theorem pme_263 : pMeF 263 := ⟨pHas 7 57 rfl rfl, pHas 1 12 rfl rfl, by decide +kernel, rfl⟩
set_option maxRecDepth 100000 in
theorem pme_264 : pMeF 264 := ⟨pHas 7 65 rfl rfl, pHas 1 12 rfl rfl, by decide +kernel, rfl⟩
set_option maxRecDepth 100000 in
theorem pme_265 : pMeF 265 := ⟨pHas 7 61 rfl rfl, pHas 1 12 rfl rfl, by decide +kernel, rfl⟩
set_option maxRecDepth 100000 in
theorem pme_266 : pMeF 266 := ⟨pHas 6 236 rfl rfl, pHas 1 12 rfl rfl, by decide +kernel, rfl⟩
set_option maxRecDepth 100000 in
theorem pme_267 : pMeF 267 := ⟨pHas 7 69 rfl rfl, pHas 1 12 rfl rfl, by decide +kernel, rfl⟩
set_option maxRecDepth 100000 in
theorem pme_268 : pMeF 268 := ⟨pHas 7 73 rfl rfl, pHas 1 12 rfl rfl, by decide +kernel, rfl⟩
set_option maxRecDepth 100000 in
theorem pme_269 : pMeF 269 := ⟨pHas 7 77 rfl rfl, pHas 1 12 rfl rfl, by decide +kernel, rfl⟩
set_option maxRecDepth 100000 in
theorem pme_270 : pMeF 270 := ⟨pHas 7 81 rfl rfl, pHas 1 12 rfl rfl, by decide +kernel, rfl⟩
set_option maxRecDepth 100000 in
theorem pme_271 : pMeF 271 := ⟨pHas 7 85 rfl rfl, pHas 1 12 rfl rfl, by decide +kernel, rfl⟩
set_option maxRecDepth 100000 in
theorem pme_272 : pMeF 272 := ⟨pHas 7 89 rfl rfl, pHas 1 12 rfl rfl, by decide +kernel, rfl⟩
set_option maxRecDepth 100000 in
theorem pme_273 : pMeF 273 := ⟨pHas 7 24 rfl rfl, pHas 1 12 rfl rfl, by decide +kernel, rfl⟩
set_option maxRecDepth 100000 in
theorem pme_274 : pMeF 274 := ⟨pHas 7 20 rfl rfl, pHas 1 12 rfl rfl, by decide +kernel, rfl⟩
set_option maxRecDepth 100000 in
theorem pme_275 : pMeF 275 := ⟨pHas 7 93 rfl rfl, pHas 1 12 rfl rfl, by decide +kernel, rfl⟩
set_option maxRecDepth 100000 in
theorem pme_276 : pMeF 276 := ⟨pHas 7 97 rfl rfl, pHas 1 12 rfl rfl, by decide +kernel, rfl⟩
set_option maxRecDepth 100000 in
theorem pme_277 : pMeF 277 := ⟨pHas 7 105 rfl rfl, pHas 1 12 rfl rfl, by decide +kernel, rfl⟩
set_option maxRecDepth 100000 in
theorem pme_278 : pMeF 278 := ⟨pHas 7 101 rfl rfl, pHas 1 12 rfl rfl, by decide +kernel, rfl⟩
set_option maxRecDepth 100000 in
theorem pme_279 : pMeF 279 := ⟨pHas 6 204 rfl rfl, pHas 1 12 rfl rfl, by decide +kernel, rfl⟩
set_option maxRecDepth 100000 in
theorem pme_280 : pMeF 280 := ⟨pHas 6 196 rfl rfl, pHas 1 12 rfl rfl, by decide +kernel, rfl⟩
set_option maxRecDepth 100000 in
theorem pme_281 : pMeF 281 := ⟨pHas 6 192 rfl rfl, pHas 1 12 rfl rfl, by decide +kernel, rfl⟩
set_option maxRecDepth 100000 in
theorem pme_282 : pMeF 282 := ⟨pHas 7 109 rfl rfl, pHas 1 12 rfl rfl, by decide +kernel, rfl⟩
set_option maxRecDepth 100000 in
theorem pme_283 : pMeF 283 := ⟨pHas 7 117 rfl rfl, pHas 1 12 rfl rfl, by decide +kernel, rfl⟩
set_option maxRecDepth 100000 in
theorem pme_284 : pMeF 284 := ⟨pHas 7 113 rfl rfl, pHas 1 12 rfl rfl, by decide +kernel, rfl⟩
set_option maxRecDepth 100000 in
theorem pme_285 : pMeF 285 := ⟨pHas 7 121 rfl rfl, pHas 1 12 rfl rfl, by decide +kernel, rfl⟩
set_option maxRecDepth 100000 in
theorem pme_286 : pMeF 286 := ⟨pHas 7 125 rfl rfl, pHas 1 12 rfl rfl, by decide +kernel, rfl⟩
set_option maxRecDepth 100000 in
theorem pme_287 : pMeF 287 := ⟨pHas 7 129 rfl rfl, pHas 1 12 rfl rfl, by decide +kernel, rfl⟩
set_option maxRecDepth 100000 in
theorem pme_288 : pMeF 288 := ⟨pHas 6 232 rfl rfl, pHas 1 12 rfl rfl, by decide +kernel, rfl⟩
set_option maxRecDepth 100000 in
theorem pme_289 : pMeF 289 := ⟨pHas 6 228 rfl rfl, pHas 1 12 rfl rfl, by decide +kernel, rfl⟩
set_option maxRecDepth 100000 in
theorem pme_290 : pMeF 290 := ⟨pHas 7 134 rfl rfl, pHas 1 12 rfl rfl, by decide +kernel, rfl⟩
set_option maxRecDepth 100000 in
theorem pme_291 : pMeF 291 := ⟨pHas 7 138 rfl rfl, pHas 1 12 rfl rfl, by decide +kernel, rfl⟩
set_option maxRecDepth 100000 in
theorem pme_292 : pMeF 292 := ⟨pHas 7 142 rfl rfl, pHas 1 12 rfl rfl, by decide +kernel, rfl⟩
set_option maxRecDepth 100000 in
theorem pme_293 : pMeF 293 := ⟨pHas 7 146 rfl rfl, pHas 1 12 rfl rfl, by decide +kernel, rfl⟩
set_option maxRecDepth 100000 in
theorem pme_294 : pMeF 294 := ⟨pHas 7 16 rfl rfl, pHas 1 12 rfl rfl, by decide +kernel, rfl⟩
set_option maxRecDepth 100000 in
theorem pme_295 : pMeF 295 := ⟨pHas 7 150 rfl rfl, pHas 1 12 rfl rfl, by decide +kernel, rfl⟩
set_option maxRecDepth 100000 in
theorem pme_296 : pMeF 296 := ⟨pHas 7 12 rfl rfl, pHas 1 12 rfl rfl, by decide +kernel, rfl⟩
set_option maxRecDepth 100000 in
theorem pme_297 : pMeF 297 := ⟨pHas 7 154 rfl rfl, pHas 1 12 rfl rfl, by decide +kernel, rfl⟩
set_option maxRecDepth 100000 in
theorem pme_298 : pMeF 298 := ⟨pHas 7 28 rfl rfl, pHas 1 12 rfl rfl, by decide +kernel, rfl⟩
set_option maxRecDepth 100000 in
theorem pme_299 : pMeF 299 := ⟨pHas 7 32 rfl rfl, pHas 1 12 rfl rfl, by decide +kernel, rfl⟩
set_option maxRecDepth 100000 in
theorem pme_300 : pMeF 300 := ⟨pHas 7 36 rfl rfl, pHas 1 12 rfl rfl, by decide +kernel, rfl⟩
set_option maxRecDepth 100000 in
theorem pme_301 : pMeF 301 := ⟨pHas 7 40 rfl rfl, pHas 1 12 rfl rfl, by decide +kernel, rfl⟩
set_option maxRecDepth 100000 in
theorem pme_302 : pMeF 302 := ⟨pHas 7 158 rfl rfl, pHas 1 12 rfl rfl, by decide +kernel, rfl⟩
set_option maxRecDepth 100000 in
theorem pme_303 : pMeF 303 := ⟨pHas 7 166 rfl rfl, pHas 1 12 rfl rfl, by decide +kernel, rfl⟩
set_option maxRecDepth 100000 in
theorem pme_304 : pMeF 304 := ⟨pHas 7 162 rfl rfl, pHas 1 12 rfl rfl, by decide +kernel, rfl⟩
set_option maxRecDepth 100000 in
theorem pme_305 : pMeF 305 := ⟨pHas 7 178 rfl rfl, pHas 1 12 rfl rfl, by decide +kernel, rfl⟩
set_option maxRecDepth 100000 in
theorem pme_306 : pMeF 306 := ⟨pHas 7 174 rfl rfl, pHas 1 12 rfl rfl, by decide +kernel, rfl⟩
set_option maxRecDepth 100000 in
theorem pme_307 : pMeF 307 := ⟨pHas 7 170 rfl rfl, pHas 1 12 rfl rfl, by decide +kernel, rfl⟩
set_option maxRecDepth 100000 in
theorem pme_308 : pMeF 308 := ⟨pHas 7 186 rfl rfl, pHas 1 12 rfl rfl, by decide +kernel, rfl⟩
set_option maxRecDepth 100000 in
theorem pme_309 : pMeF 309 := ⟨pHas 7 182 rfl rfl, pHas 1 12 rfl rfl, by decide +kernel, rfl⟩
set_option maxRecDepth 100000 in
theorem pme_310 : pMeF 310 := ⟨pHas 7 190 rfl rfl, pHas 1 12 rfl rfl, by decide +kernel, rfl⟩
set_option maxRecDepth 100000 in
theorem pme_311 : pMeF 311 := ⟨pHas 7 194 rfl rfl, pHas 1 12 rfl rfl, by decide +kernel, rfl⟩
set_option maxRecDepth 100000 in
theorem pme_312 : pMeF 312 := ⟨pHas 7 198 rfl rfl, pHas 1 12 rfl rfl, by decide +kernel, rfl⟩
set_option maxRecDepth 100000 in
theorem pme_313 : pMeF 313 := ⟨pHas 7 202 rfl rfl, pHas 1 12 rfl rfl, by decide +kernel, rfl⟩
set_option maxRecDepth 100000 in
theorem pme_314 : pMeF 314 := ⟨pHas 7 210 rfl rfl, pHas 1 12 rfl rfl, by decide +kernel, rfl⟩
set_option maxRecDepth 100000 in
theorem pme_315 : pMeF 315 := ⟨pHas 7 206 rfl rfl, pHas 1 12 rfl rfl, by decide +kernel, rfl⟩
set_option maxRecDepth 100000 in
theorem pme_316 : pMeF 316 := ⟨pHas 7 214 rfl rfl, pHas 1 12 rfl rfl, by decide +kernel, rfl⟩
set_option maxRecDepth 100000 in
theorem pme_317 : pMeF 317 := ⟨pHas 7 8 rfl rfl, pHas 1 12 rfl rfl, by decide +kernel, rfl⟩
set_option maxRecDepth 100000 in
theorem pme_318 : pMeF 318 := ⟨pHas 7 4 rfl rfl, pHas 1 12 rfl rfl, by decide +kernel, rfl⟩
set_option maxRecDepth 100000 in
theorem pme_319 : pMeF 319 := ⟨pHas 7 0 rfl rfl, pHas 1 12 rfl rfl, by decide +kernel, rfl⟩
set_option maxRecDepth 100000 in
theorem pme_320 : pMeF 320 := ⟨pHas 7 218 rfl rfl, pHas 1 12 rfl rfl, by decide +kernel, rfl⟩
set_option maxRecDepth 100000 in
theorem pme_321 : pMeF 321 := ⟨pHas 7 222 rfl rfl, pHas 1 12 rfl rfl, by decide +kernel, rfl⟩
set_option maxRecDepth 100000 in
theorem pme_322 : pMeF 322 := ⟨pHas 7 226 rfl rfl, pHas 1 12 rfl rfl, by decide +kernel, rfl⟩
set_option maxRecDepth 100000 in
theorem pme_323 : pMeF 323 := ⟨pHas 7 230 rfl rfl, pHas 1 12 rfl rfl, by decide +kernel, rfl⟩
set_option maxRecDepth 100000 in
theorem pme_324 : pMeF 324 := ⟨pHas 7 234 rfl rfl, pHas 1 12 rfl rfl, by decide +kernel, rfl⟩
set_option maxRecDepth 100000 in
theorem pme_325 : pMeF 325 := ⟨pHas 8 2 rfl rfl, pHas 1 12 rfl rfl, by decide +kernel, rfl⟩
set_option maxRecDepth 100000 in
theorem pme_326 : pMeF 326 := ⟨pHas 7 238 rfl rfl, pHas 1 12 rfl rfl, by decide +kernel, rfl⟩
set_option maxRecDepth 100000 in
theorem pme_327 : pMeF 327 := ⟨pHas 8 6 rfl rfl, pHas 1 12 rfl rfl, by decide +kernel, rfl⟩
set_option maxRecDepth 100000 in
theorem pme_328 : pMeF 328 := ⟨pHas 8 14 rfl rfl, pHas 1 12 rfl rfl, by decide +kernel, rfl⟩
set_option maxRecDepth 100000 in
theorem pme_329 : pMeF 329 := ⟨pHas 8 18 rfl rfl, pHas 1 12 rfl rfl, by decide +kernel, rfl⟩
set_option maxRecDepth 100000 in
theorem pme_330 : pMeF 330 := ⟨pHas 8 10 rfl rfl, pHas 1 12 rfl rfl, by decide +kernel, rfl⟩
set_option maxRecDepth 100000 in
theorem pme_331 : pMeF 331 := ⟨pHas 8 26 rfl rfl, pHas 1 12 rfl rfl, by decide +kernel, rfl⟩
set_option maxRecDepth 100000 in
theorem pme_332 : pMeF 332 := ⟨pHas 8 22 rfl rfl, pHas 1 12 rfl rfl, by decide +kernel, rfl⟩
set_option maxRecDepth 100000 in
theorem pme_333 : pMeF 333 := ⟨pHas 8 34 rfl rfl, pHas 1 12 rfl rfl, by decide +kernel, rfl⟩
set_option maxRecDepth 100000 in
theorem pme_334 : pMeF 334 := ⟨pHas 8 45 rfl rfl, pHas 1 12 rfl rfl, by decide +kernel, rfl⟩
set_option maxRecDepth 100000 in
theorem pme_335 : pMeF 335 := ⟨pHas 8 42 rfl rfl, pHas 1 12 rfl rfl, by decide +kernel, rfl⟩
set_option maxRecDepth 100000 in
theorem pme_336 : pMeF 336 := ⟨pHas 8 30 rfl rfl, pHas 1 12 rfl rfl, by decide +kernel, rfl⟩
set_option maxRecDepth 100000 in
theorem pme_337 : pMeF 337 := ⟨pHas 8 53 rfl rfl, pHas 1 12 rfl rfl, by decide +kernel, rfl⟩
set_option maxRecDepth 100000 in
theorem pme_338 : pMeF 338 := ⟨pHas 8 57 rfl rfl, pHas 1 12 rfl rfl, by decide +kernel, rfl⟩
set_option maxRecDepth 100000 in
theorem pme_339 : pMeF 339 := ⟨pHas 8 61 rfl rfl, pHas 1 12 rfl rfl, by decide +kernel, rfl⟩
set_option maxRecDepth 100000 in
theorem pme_340 : pMeF 340 := ⟨pHas 8 65 rfl rfl, pHas 1 12 rfl rfl, by decide +kernel, rfl⟩
set_option maxRecDepth 100000 in
theorem pme_341 : pMeF 341 := ⟨pHas 5 225 rfl rfl, pHas 1 12 rfl rfl, by decide +kernel, rfl⟩
set_option maxRecDepth 100000 in
theorem pme_342 : pMeF 342 := ⟨pHas 8 79 rfl rfl, pHas 1 12 rfl rfl, by decide +kernel, rfl⟩
set_option maxRecDepth 100000 in
theorem pme_343 : pMeF 343 := ⟨pHas 8 83 rfl rfl, pHas 1 12 rfl rfl, by decide +kernel, rfl⟩
set_option maxRecDepth 100000 in
theorem pme_344 : pMeF 344 := ⟨pHas 8 87 rfl rfl, pHas 1 12 rfl rfl, by decide +kernel, rfl⟩
set_option maxRecDepth 100000 in
theorem pme_345 : pMeF 345 := ⟨pHas 8 91 rfl rfl, pHas 1 12 rfl rfl, by decide +kernel, rfl⟩
set_option maxRecDepth 100000 in
theorem pme_346 : pMeF 346 := ⟨pHas 8 71 rfl rfl, pHas 1 17 rfl rfl, by decide +kernel, rfl⟩
set_option maxRecDepth 100000 in
theorem pme_347 : pMeF 347 := ⟨pHas 8 68 rfl rfl, pHas 1 17 rfl rfl, by decide +kernel, rfl⟩
set_option maxRecDepth 100000 in
theorem pme_348 : pMeF 348 := ⟨pHas 3 216 rfl rfl, pHas 1 16 rfl rfl, by decide +kernel, rfl⟩
set_option maxRecDepth 100000 in
theorem pme_349 : pMeF 349 := ⟨pHas 4 181 rfl rfl, pHas 1 15 rfl rfl, by decide +kernel, rfl⟩
set_option maxRecDepth 100000 in
theorem pme_350 : pMeF 350 := ⟨pHas 3 173 rfl rfl, pHas 1 15 rfl rfl, by decide +kernel, rfl⟩
set_option maxRecDepth 100000 in
theorem pme_351 : pMeF 351 := ⟨pHas 3 113 rfl rfl, pHas 1 13 rfl rfl, by decide +kernel, rfl⟩
set_option maxRecDepth 100000 in
theorem pme_352 : pMeF 352 := ⟨pHas 5 24 rfl rfl, pHas 1 13 rfl rfl, by decide +kernel, rfl⟩
set_option maxRecDepth 100000 in
theorem pme_353 : pMeF 353 := ⟨pHas 3 51 rfl rfl, pHas 1 13 rfl rfl, by decide +kernel, rfl⟩
set_option maxRecDepth 100000 in
theorem pme_354 : pMeF 354 := ⟨pHas 3 228 rfl rfl, pHas 1 13 rfl rfl, by decide +kernel, rfl⟩
set_option maxRecDepth 100000 in
theorem pme_355 : pMeF 355 := ⟨pHas 2 35 rfl rfl, pHas 1 10 rfl rfl, by decide +kernel, rfl⟩
set_option maxRecDepth 100000 in
theorem pme_356 : pMeF 356 := ⟨pHas 2 16 rfl rfl, pHas 1 10 rfl rfl, by decide +kernel, rfl⟩
set_option maxRecDepth 100000 in
theorem pMe_l : ∀ j ∈ ([0, 1, 2, 3, 4, 5, 6, 7, 8, 9, 10, 11, 12, 13, 14, 15, 16, 17, 18, 19, 20, 21, 22, 23, 24, 25, 26, 27, 28, 29, 30, 31, 32, 33, 34, 35, 36, 37, 38, 39, 40, 41, 42, 43, 44, 45, 46, 47, 48, 49, 50, 51, 52, 53, 54, 55, 56, 57, 58, 59, 60, 61, 62, 63, 64, 65, 66, 67, 68, 69, 70, 71, 72, 73, 74, 75, 76, 77, 78, 79, 80, 81, 82, 83, 84, 85, 86, 87, 88, 89, 90, 91, 92, 93, 94, 95, 96, 97, 98, 99, 100, 101, 102, 103, 104, 105, 106, 107, 108, 109, 110, 111, 112, 113, 114, 115, 116, 117, 118, 119, 120, 121, 122, 123, 124, 125, 126, 127, 128, 129, 130, 131, 132, 133, 134, 135, 136, 137, 138, 139, 140, 141, 142, 143, 144, 145, 146, 147, 148, 149, 150, 151, 152, 153, 154, 155, 156, 157, 158, 159, 160, 161, 162, 163, 164, 165, 166, 167, 168, 169, 170, 171, 172, 173, 174, 175, 176, 177, 178, 179, 180, 181, 182, 183, 184, 185, 186, 187, 188, 189, 190, 191, 192, 193, 194, 195, 196, 197, 198, 199, 200, 201, 202, 203, 204, 205, 206, 207, 208, 209, 210, 211, 212, 213, 214, 215, 216, 217, 218, 219, 220, 221, 222, 223, 224, 225, 226, 227, 228, 229, 230, 231, 232, 233, 234, 235, 236, 237, 238, 239, 240, 241, 242, 243, 244, 245, 246, 247, 248, 249, 250, 251, 252, 253, 254, 255, 256, 257, 258, 259, 260, 261, 262, 263, 264, 265, 266, 267, 268, 269, 270, 271, 272, 273, 274, 275, 276, 277, 278, 279, 280, 281, 282, 283, 284, 285, 286, 287, 288, 289, 290, 291, 292, 293, 294, 295, 296, 297, 298, 299, 300, 301, 302, 303, 304, 305, 306, 307, 308, 309, 310, 311, 312, 313, 314, 315, 316, 317, 318, 319, 320, 321, 322, 323, 324, 325, 326, 327, 328, 329, 330, 331, 332, 333, 334, 335, 336, 337, 338, 339, 340, 341, 342, 343, 344, 345, 346, 347, 348, 349, 350, 351, 352, 353, 354, 355, 356] : List Nat), pMeF j := List.forall_mem_cons.mpr ⟨pme_0, List.forall_mem_cons.mpr ⟨pme_1, List.forall_mem_cons.mpr ⟨pme_2, List.forall_mem_cons.mpr ⟨pme_3, List.forall_mem_cons.mpr ⟨pme_4, List.forall_mem_cons.mpr ⟨pme_5, List.forall_mem_cons.mpr ⟨pme_6, List.forall_mem_cons.mpr ⟨pme_7, List.forall_mem_cons.mpr ⟨pme_8, List.forall_mem_cons.mpr ⟨pme_9, List.forall_mem_cons.mpr ⟨pme_10, List.forall_mem_cons.mpr ⟨pme_11, List.forall_mem_cons.mpr ⟨pme_12, List.forall_mem_cons.mpr ⟨pme_13, List.forall_mem_cons.mpr ⟨pme_14, List.forall_mem_cons.mpr ⟨pme_15, List.forall_mem_cons.mpr ⟨pme_16, List.forall_mem_cons.mpr ⟨pme_17, List.forall_mem_cons.mpr ⟨pme_18, List.forall_mem_cons.mpr ⟨pme_19, List.forall_mem_cons.mpr ⟨pme_20, List.forall_mem_cons.mpr ⟨pme_21, List.forall_mem_cons.mpr ⟨pme_22, List.forall_mem_cons.mpr ⟨pme_23, List.forall_mem_cons.mpr ⟨pme_24, List.forall_mem_cons.mpr ⟨pme_25, List.forall_mem_cons.mpr ⟨pme_26, List.forall_mem_cons.mpr ⟨pme_27, List.forall_mem_cons.mpr ⟨pme_28, List.forall_mem_cons.mpr ⟨pme_29, List.forall_mem_cons.mpr ⟨pme_30, List.forall_mem_cons.mpr ⟨pme_31, List.forall_mem_cons.mpr ⟨pme_32, List.forall_mem_cons.mpr ⟨pme_33, List.forall_mem_cons.mpr ⟨pme_34, List.forall_mem_cons.mpr ⟨pme_35, List.forall_mem_cons.mpr ⟨pme_36, List.forall_mem_cons.mpr ⟨pme_37, List.forall_mem_cons.mpr ⟨pme_38, List.forall_mem_cons.mpr ⟨pme_39, List.forall_mem_cons.mpr ⟨pme_40, List.forall_mem_cons.mpr ⟨pme_41, List.forall_mem_cons.mpr ⟨pme_42, List.forall_mem_cons.mpr ⟨pme_43, List.forall_mem_cons.mpr ⟨pme_44, List.forall_mem_cons.mpr ⟨pme_45, List.forall_mem_cons.mpr ⟨pme_46, List.forall_mem_cons.mpr ⟨pme_47, List.forall_mem_cons.mpr ⟨pme_48, List.forall_mem_cons.mpr ⟨pme_49, List.forall_mem_cons.mpr ⟨pme_50, List.forall_mem_cons.mpr ⟨pme_51, List.forall_mem_cons.mpr ⟨pme_52, List.forall_mem_cons.mpr ⟨pme_53, List.forall_mem_cons.mpr ⟨pme_54, List.forall_mem_cons.mpr ⟨pme_55, List.forall_mem_cons.mpr ⟨pme_56, List.forall_mem_cons.mpr ⟨pme_57, List.forall_mem_cons.mpr ⟨pme_58, List.forall_mem_cons.mpr ⟨pme_59, List.forall_mem_cons.mpr ⟨pme_60, List.forall_mem_cons.mpr ⟨pme_61, List.forall_mem_cons.mpr ⟨pme_62, List.forall_mem_cons.mpr ⟨pme_63, List.forall_mem_cons.mpr ⟨pme_64, List.forall_mem_cons.mpr ⟨pme_65, List.forall_mem_cons.mpr ⟨pme_66, List.forall_mem_cons.mpr ⟨pme_67, List.forall_mem_cons.mpr ⟨pme_68, List.forall_mem_cons.mpr ⟨pme_69, List.forall_mem_cons.mpr ⟨pme_70, List.forall_mem_cons.mpr ⟨pme_71, List.forall_mem_cons.mpr ⟨pme_72, List.forall_mem_cons.mpr ⟨pme_73, List.forall_mem_cons.mpr ⟨pme_74, List.forall_mem_cons.mpr ⟨pme_75, List.forall_mem_cons.mpr ⟨pme_76, List.forall_mem_cons.mpr ⟨pme_77, List.forall_mem_cons.mpr ⟨pme_78, List.forall_mem_cons.mpr ⟨pme_79, List.forall_mem_cons.mpr ⟨pme_80, List.forall_mem_cons.mpr ⟨pme_81, List.forall_mem_cons.mpr ⟨pme_82, List.forall_mem_cons.mpr ⟨pme_83, List.forall_mem_cons.mpr ⟨pme_84, List.forall_mem_cons.mpr ⟨pme_85, List.forall_mem_cons.mpr ⟨pme_86, List.forall_mem_cons.mpr ⟨pme_87, List.forall_mem_cons.mpr ⟨pme_88, List.forall_mem_cons.mpr ⟨pme_89, List.forall_mem_cons.mpr ⟨pme_90, List.forall_mem_cons.mpr ⟨pme_91, List.forall_mem_cons.mpr ⟨pme_92, List.forall_mem_cons.mpr ⟨pme_93, List.forall_mem_cons.mpr ⟨pme_94, List.forall_mem_cons.mpr ⟨pme_95, List.forall_mem_cons.mpr ⟨pme_96, List.forall_mem_cons.mpr ⟨pme_97, List.forall_mem_cons.mpr ⟨pme_98, List.forall_mem_cons.mpr ⟨pme_99, List.forall_mem_cons.mpr ⟨pme_100, List.forall_mem_cons.mpr ⟨pme_101, List.forall_mem_cons.mpr ⟨pme_102, List.forall_mem_cons.mpr ⟨pme_103, List.forall_mem_cons.mpr ⟨pme_104, List.forall_mem_cons.mpr ⟨pme_105, List.forall_mem_cons.mpr ⟨pme_106, List.forall_mem_cons.mpr ⟨pme_107, List.forall_mem_cons.mpr ⟨pme_108, List.forall_mem_cons.mpr ⟨pme_109, List.forall_mem_cons.mpr ⟨pme_110, List.forall_mem_cons.mpr ⟨pme_111, List.forall_mem_cons.mpr ⟨pme_112, List.forall_mem_cons.mpr ⟨pme_113, List.forall_mem_cons.mpr ⟨pme_114, List.forall_mem_cons.mpr ⟨pme_115, List.forall_mem_cons.mpr ⟨pme_116, List.forall_mem_cons.mpr ⟨pme_117, List.forall_mem_cons.mpr ⟨pme_118, List.forall_mem_cons.mpr ⟨pme_119, List.forall_mem_cons.mpr ⟨pme_120, List.forall_mem_cons.mpr ⟨pme_121, List.forall_mem_cons.mpr ⟨pme_122, List.forall_mem_cons.mpr ⟨pme_123, List.forall_mem_cons.mpr ⟨pme_124, List.forall_mem_cons.mpr ⟨pme_125, List.forall_mem_cons.mpr ⟨pme_126, List.forall_mem_cons.mpr ⟨pme_127, List.forall_mem_cons.mpr ⟨pme_128, List.forall_mem_cons.mpr ⟨pme_129, List.forall_mem_cons.mpr ⟨pme_130, List.forall_mem_cons.mpr ⟨pme_131, List.forall_mem_cons.mpr ⟨pme_132, List.forall_mem_cons.mpr ⟨pme_133, List.forall_mem_cons.mpr ⟨pme_134, List.forall_mem_cons.mpr ⟨pme_135, List.forall_mem_cons.mpr ⟨pme_136, List.forall_mem_cons.mpr ⟨pme_137, List.forall_mem_cons.mpr ⟨pme_138, List.forall_mem_cons.mpr ⟨pme_139, List.forall_mem_cons.mpr ⟨pme_140, List.forall_mem_cons.mpr ⟨pme_141, List.forall_mem_cons.mpr ⟨pme_142, List.forall_mem_cons.mpr ⟨pme_143, List.forall_mem_cons.mpr ⟨pme_144, List.forall_mem_cons.mpr ⟨pme_145, List.forall_mem_cons.mpr ⟨pme_146, List.forall_mem_cons.mpr ⟨pme_147, List.forall_mem_cons.mpr ⟨pme_148, List.forall_mem_cons.mpr ⟨pme_149, List.forall_mem_cons.mpr ⟨pme_150, List.forall_mem_cons.mpr ⟨pme_151, List.forall_mem_cons.mpr ⟨pme_152, List.forall_mem_cons.mpr ⟨pme_153, List.forall_mem_cons.mpr ⟨pme_154, List.forall_mem_cons.mpr ⟨pme_155, List.forall_mem_cons.mpr ⟨pme_156, List.forall_mem_cons.mpr ⟨pme_157, List.forall_mem_cons.mpr ⟨pme_158, List.forall_mem_cons.mpr ⟨pme_159, List.forall_mem_cons.mpr ⟨pme_160, List.forall_mem_cons.mpr ⟨pme_161, List.forall_mem_cons.mpr ⟨pme_162, List.forall_mem_cons.mpr ⟨pme_163, List.forall_mem_cons.mpr ⟨pme_164, List.forall_mem_cons.mpr ⟨pme_165, List.forall_mem_cons.mpr ⟨pme_166, List.forall_mem_cons.mpr ⟨pme_167, List.forall_mem_cons.mpr ⟨pme_168, List.forall_mem_cons.mpr ⟨pme_169, List.forall_mem_cons.mpr ⟨pme_170, List.forall_mem_cons.mpr ⟨pme_171, List.forall_mem_cons.mpr ⟨pme_172, List.forall_mem_cons.mpr ⟨pme_173, List.forall_mem_cons.mpr ⟨pme_174, List.forall_mem_cons.mpr ⟨pme_175, List.forall_mem_cons.mpr ⟨pme_176, List.forall_mem_cons.mpr ⟨pme_177, List.forall_mem_cons.mpr ⟨pme_178, List.forall_mem_cons.mpr ⟨pme_179, List.forall_mem_cons.mpr ⟨pme_180, List.forall_mem_cons.mpr ⟨pme_181, List.forall_mem_cons.mpr ⟨pme_182, List.forall_mem_cons.mpr ⟨pme_183, List.forall_mem_cons.mpr ⟨pme_184, List.forall_mem_cons.mpr ⟨pme_185, List.forall_mem_cons.mpr ⟨pme_186, List.forall_mem_cons.mpr ⟨pme_187, List.forall_mem_cons.mpr ⟨pme_188, List.forall_mem_cons.mpr ⟨pme_189, List.forall_mem_cons.mpr ⟨pme_190, List.forall_mem_cons.mpr ⟨pme_191, List.forall_mem_cons.mpr ⟨pme_192, List.forall_mem_cons.mpr ⟨pme_193, List.forall_mem_cons.mpr ⟨pme_194, List.forall_mem_cons.mpr ⟨pme_195, List.forall_mem_cons.mpr ⟨pme_196, List.forall_mem_cons.mpr ⟨pme_197, List.forall_mem_cons.mpr ⟨pme_198, List.forall_mem_cons.mpr ⟨pme_199, List.forall_mem_cons.mpr ⟨pme_200, List.forall_mem_cons.mpr ⟨pme_201, List.forall_mem_cons.mpr ⟨pme_202, List.forall_mem_cons.mpr ⟨pme_203, List.forall_mem_cons.mpr ⟨pme_204, List.forall_mem_cons.mpr ⟨pme_205, List.forall_mem_cons.mpr ⟨pme_206, List.forall_mem_cons.mpr ⟨pme_207, List.forall_mem_cons.mpr ⟨pme_208, List.forall_mem_cons.mpr ⟨pme_209, List.forall_mem_cons.mpr ⟨pme_210, List.forall_mem_cons.mpr ⟨pme_211, List.forall_mem_cons.mpr ⟨pme_212, List.forall_mem_cons.mpr ⟨pme_213, List.forall_mem_cons.mpr ⟨pme_214, List.forall_mem_cons.mpr ⟨pme_215, List.forall_mem_cons.mpr ⟨pme_216, List.forall_mem_cons.mpr ⟨pme_217, List.forall_mem_cons.mpr ⟨pme_218, List.forall_mem_cons.mpr ⟨pme_219, List.forall_mem_cons.mpr ⟨pme_220, List.forall_mem_cons.mpr ⟨pme_221, List.forall_mem_cons.mpr ⟨pme_222, List.forall_mem_cons.mpr ⟨pme_223, List.forall_mem_cons.mpr ⟨pme_224, List.forall_mem_cons.mpr ⟨pme_225, List.forall_mem_cons.mpr ⟨pme_226, List.forall_mem_cons.mpr ⟨pme_227, List.forall_mem_cons.mpr ⟨pme_228, List.forall_mem_cons.mpr ⟨pme_229, List.forall_mem_cons.mpr ⟨pme_230, List.forall_mem_cons.mpr ⟨pme_231, List.forall_mem_cons.mpr ⟨pme_232, List.forall_mem_cons.mpr ⟨pme_233, List.forall_mem_cons.mpr ⟨pme_234, List.forall_mem_cons.mpr ⟨pme_235, List.forall_mem_cons.mpr ⟨pme_236, List.forall_mem_cons.mpr ⟨pme_237, List.forall_mem_cons.mpr ⟨pme_238, List.forall_mem_cons.mpr ⟨pme_239, List.forall_mem_cons.mpr ⟨pme_240, List.forall_mem_cons.mpr ⟨pme_241, List.forall_mem_cons.mpr ⟨pme_242, List.forall_mem_cons.mpr ⟨pme_243, List.forall_mem_cons.mpr ⟨pme_244, List.forall_mem_cons.mpr ⟨pme_245, List.forall_mem_cons.mpr ⟨pme_246, List.forall_mem_cons.mpr ⟨pme_247, List.forall_mem_cons.mpr ⟨pme_248, List.forall_mem_cons.mpr ⟨pme_249, List.forall_mem_cons.mpr ⟨pme_250, List.forall_mem_cons.mpr ⟨pme_251, List.forall_mem_cons.mpr ⟨pme_252, List.forall_mem_cons.mpr ⟨pme_253, List.forall_mem_cons.mpr ⟨pme_254, List.forall_mem_cons.mpr ⟨pme_255, List.forall_mem_cons.mpr ⟨pme_256, List.forall_mem_cons.mpr ⟨pme_257, List.forall_mem_cons.mpr ⟨pme_258, List.forall_mem_cons.mpr ⟨pme_259, List.forall_mem_cons.mpr ⟨pme_260, List.forall_mem_cons.mpr ⟨pme_261, List.forall_mem_cons.mpr ⟨pme_262, List.forall_mem_cons.mpr ⟨pme_263, List.forall_mem_cons.mpr ⟨pme_264, List.forall_mem_cons.mpr ⟨pme_265, List.forall_mem_cons.mpr ⟨pme_266, List.forall_mem_cons.mpr ⟨pme_267, List.forall_mem_cons.mpr ⟨pme_268, List.forall_mem_cons.mpr ⟨pme_269, List.forall_mem_cons.mpr ⟨pme_270, List.forall_mem_cons.mpr ⟨pme_271, List.forall_mem_cons.mpr ⟨pme_272, List.forall_mem_cons.mpr ⟨pme_273, List.forall_mem_cons.mpr ⟨pme_274, List.forall_mem_cons.mpr ⟨pme_275, List.forall_mem_cons.mpr ⟨pme_276, List.forall_mem_cons.mpr ⟨pme_277, List.forall_mem_cons.mpr ⟨pme_278, List.forall_mem_cons.mpr ⟨pme_279, List.forall_mem_cons.mpr ⟨pme_280, List.forall_mem_cons.mpr ⟨pme_281, List.forall_mem_cons.mpr ⟨pme_282, List.forall_mem_cons.mpr ⟨pme_283, List.forall_mem_cons.mpr ⟨pme_284, List.forall_mem_cons.mpr ⟨pme_285, List.forall_mem_cons.mpr ⟨pme_286, List.forall_mem_cons.mpr ⟨pme_287, List.forall_mem_cons.mpr ⟨pme_288, List.forall_mem_cons.mpr ⟨pme_289, List.forall_mem_cons.mpr ⟨pme_290, List.forall_mem_cons.mpr ⟨pme_291, List.forall_mem_cons.mpr ⟨pme_292, List.forall_mem_cons.mpr ⟨pme_293, List.forall_mem_cons.mpr ⟨pme_294, List.forall_mem_cons.mpr ⟨pme_295, List.forall_mem_cons.mpr ⟨pme_296, List.forall_mem_cons.mpr ⟨pme_297, List.forall_mem_cons.mpr ⟨pme_298, List.forall_mem_cons.mpr ⟨pme_299, List.forall_mem_cons.mpr ⟨pme_300, List.forall_mem_cons.mpr ⟨pme_301, List.forall_mem_cons.mpr ⟨pme_302, List.forall_mem_cons.mpr ⟨pme_303, List.forall_mem_cons.mpr ⟨pme_304, List.forall_mem_cons.mpr ⟨pme_305, List.forall_mem_cons.mpr ⟨pme_306, List.forall_mem_cons.mpr ⟨pme_307, List.forall_mem_cons.mpr ⟨pme_308, List.forall_mem_cons.mpr ⟨pme_309, List.forall_mem_cons.mpr ⟨pme_310, List.forall_mem_cons.mpr ⟨pme_311, List.forall_mem_cons.mpr ⟨pme_312, List.forall_mem_cons.mpr ⟨pme_313, List.forall_mem_cons.mpr ⟨pme_314, List.forall_mem_cons.mpr ⟨pme_315, List.forall_mem_cons.mpr ⟨pme_316, List.forall_mem_cons.mpr ⟨pme_317, List.forall_mem_cons.mpr ⟨pme_318, List.forall_mem_cons.mpr ⟨pme_319, List.forall_mem_cons.mpr ⟨pme_320, List.forall_mem_cons.mpr ⟨pme_321, List.forall_mem_cons.mpr ⟨pme_322, List.forall_mem_cons.mpr ⟨pme_323, List.forall_mem_cons.mpr ⟨pme_324, List.forall_mem_cons.mpr ⟨pme_325, List.forall_mem_cons.mpr ⟨pme_326, List.forall_mem_cons.mpr ⟨pme_327, List.forall_mem_cons.mpr ⟨pme_328, List.forall_mem_cons.mpr ⟨pme_329, List.forall_mem_cons.mpr ⟨pme_330, List.forall_mem_cons.mpr ⟨pme_331, List.forall_mem_cons.mpr ⟨pme_332, List.forall_mem_cons.mpr ⟨pme_333, List.forall_mem_cons.mpr ⟨pme_334, List.forall_mem_cons.mpr ⟨pme_335, List.forall_mem_cons.mpr ⟨pme_336, List.forall_mem_cons.mpr ⟨pme_337, List.forall_mem_cons.mpr ⟨pme_338, List.forall_mem_cons.mpr ⟨pme_339, List.forall_mem_cons.mpr ⟨pme_340, List.forall_mem_cons.mpr ⟨pme_341, List.forall_mem_cons.mpr ⟨pme_342, List.forall_mem_cons.mpr ⟨pme_343, List.forall_mem_cons.mpr ⟨pme_344, List.forall_mem_cons.mpr ⟨pme_345, List.forall_mem_cons.mpr ⟨pme_346, List.forall_mem_cons.mpr ⟨pme_347, List.forall_mem_cons.mpr ⟨pme_348, List.forall_mem_cons.mpr ⟨pme_349, List.forall_mem_cons.mpr ⟨pme_350, List.forall_mem_cons.mpr ⟨pme_351, List.forall_mem_cons.mpr ⟨pme_352, List.forall_mem_cons.mpr ⟨pme_353, List.forall_mem_cons.mpr ⟨pme_354, List.forall_mem_cons.mpr ⟨pme_355, List.forall_mem_cons.mpr ⟨pme_356, (fun _ h => absurd h List.not_mem_nil)⟩⟩⟩⟩⟩⟩⟩⟩⟩⟩⟩⟩⟩⟩⟩⟩⟩⟩⟩⟩⟩⟩⟩⟩⟩⟩⟩⟩⟩⟩⟩⟩⟩⟩⟩⟩⟩⟩⟩⟩⟩⟩⟩⟩⟩⟩⟩⟩⟩⟩⟩⟩⟩⟩⟩⟩⟩⟩⟩⟩⟩⟩⟩⟩⟩⟩⟩⟩⟩⟩⟩⟩⟩⟩⟩⟩⟩⟩⟩⟩⟩⟩⟩⟩⟩⟩⟩⟩⟩⟩⟩⟩⟩⟩⟩⟩⟩⟩⟩⟩⟩⟩⟩⟩⟩⟩⟩⟩⟩⟩⟩⟩⟩⟩⟩⟩⟩⟩⟩⟩⟩⟩⟩⟩⟩⟩⟩⟩⟩⟩⟩⟩⟩⟩⟩⟩⟩⟩⟩⟩⟩⟩⟩⟩⟩⟩⟩⟩⟩⟩⟩⟩⟩⟩⟩⟩⟩⟩⟩⟩⟩⟩⟩⟩⟩⟩⟩⟩⟩⟩⟩⟩⟩⟩⟩⟩⟩⟩⟩⟩⟩⟩⟩⟩⟩⟩⟩⟩⟩⟩⟩⟩⟩⟩⟩⟩⟩⟩⟩⟩⟩⟩⟩⟩⟩⟩⟩⟩⟩⟩⟩⟩⟩⟩⟩⟩⟩⟩⟩⟩⟩⟩⟩⟩⟩⟩⟩⟩⟩⟩⟩⟩⟩⟩⟩⟩⟩⟩⟩⟩⟩⟩⟩⟩⟩⟩⟩⟩⟩⟩⟩⟩⟩⟩⟩⟩⟩⟩⟩⟩⟩⟩⟩⟩⟩⟩⟩⟩⟩⟩⟩⟩⟩⟩⟩⟩⟩⟩⟩⟩⟩⟩⟩⟩⟩⟩⟩⟩⟩⟩⟩⟩⟩⟩⟩⟩⟩⟩⟩⟩⟩⟩⟩⟩⟩⟩⟩⟩⟩⟩⟩⟩⟩⟩⟩⟩⟩⟩⟩⟩⟩⟩⟩⟩⟩⟩⟩⟩⟩⟩⟩⟩⟩⟩⟩⟩⟩⟩⟩⟩⟩⟩⟩⟩⟩⟩⟩⟩⟩⟩⟩⟩⟩⟩⟩⟩⟩
set_option maxRecDepth 100000 in
theorem pMe_all (j : Nat) (h : j < 357) : pMeF j := pMe_l j (by have h2 := List.mem_range.mpr h; rwa [show List.range 357 = [0, 1, 2, 3, 4, 5, 6, 7, 8, 9, 10, 11, 12, 13, 14, 15, 16, 17, 18, 19, 20, 21, 22, 23, 24, 25, 26, 27, 28, 29, 30, 31, 32, 33, 34, 35, 36, 37, 38, 39, 40, 41, 42, 43, 44, 45, 46, 47, 48, 49, 50, 51, 52, 53, 54, 55, 56, 57, 58, 59, 60, 61, 62, 63, 64, 65, 66, 67, 68, 69, 70, 71, 72, 73, 74, 75, 76, 77, 78, 79, 80, 81, 82, 83, 84, 85, 86, 87, 88, 89, 90, 91, 92, 93, 94, 95, 96, 97, 98, 99, 100, 101, 102, 103, 104, 105, 106, 107, 108, 109, 110, 111, 112, 113, 114, 115, 116, 117, 118, 119, 120, 121, 122, 123, 124, 125, 126, 127, 128, 129, 130, 131, 132, 133, 134, 135, 136, 137, 138, 139, 140, 141, 142, 143, 144, 145, 146, 147, 148, 149, 150, 151, 152, 153, 154, 155, 156, 157, 158, 159, 160, 161, 162, 163, 164, 165, 166, 167, 168, 169, 170, 171, 172, 173, 174, 175, 176, 177, 178, 179, 180, 181, 182, 183, 184, 185, 186, 187, 188, 189, 190, 191, 192, 193, 194, 195, 196, 197, 198, 199, 200, 201, 202, 203, 204, 205, 206, 207, 208, 209, 210, 211, 212, 213, 214, 215, 216, 217, 218, 219, 220, 221, 222, 223, 224, 225, 226, 227, 228, 229, 230, 231, 232, 233, 234, 235, 236, 237, 238, 239, 240, 241, 242, 243, 244, 245, 246, 247, 248, 249, 250, 251, 252, 253, 254, 255, 256, 257, 258, 259, 260, 261, 262, 263, 264, 265, 266, 267, 268, 269, 270, 271, 272, 273, 274, 275, 276, 277, 278, 279, 280, 281, 282, 283, 284, 285, 286, 287, 288, 289, 290, 291, 292, 293, 294, 295, 296, 297, 298, 299, 300, 301, 302, 303, 304, 305, 306, 307, 308, 309, 310, 311, 312, 313, 314, 315, 316, 317, 318, 319, 320, 321, 322, 323, 324, 325, 326, 327, 328, 329, 330, 331, 332, 333, 334, 335, 336, 337, 338, 339, 340, 341, 342, 343, 344, 345, 346, 347, 348, 349, 350, 351, 352, 353, 354, 355, 356] from by decide +kernel] at h2)
