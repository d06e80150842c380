/-! FACTS OF THE TABLES: what each pool entry links, which words a method has. By program (wip/tools/gen3.py). -/
def pMd : MethodName × ByteArray × Nat × Option FieldType × Nat := (⟨"", "", ""⟩, ByteArray.empty, 0, none, 0)
def pY (i : Nat) : MethodName := (pMs.getD i pMd).1
def pB (i : Nat) : ByteArray := (pMs.getD i pMd).2.1
def pX (i : Nat) : Nat := (pMs.getD i pMd).2.2.1
def pR (i : Nat) : Option FieldType := (pMs.getD i pMd).2.2.2.1
def pO (i : Nat) : Nat := (pMs.getD i pMd).2.2.2.2
def pN (o : Nat) : String := pON.getD o ""
def pFr (i : Nat) : Nat := (pRmL.getD i (0, 0, 0, 0)).1
def pLo (i : Nat) : Nat := (pRmL.getD i (0, 0, 0, 0)).2.2.2
def pG0 : List Cond := lw_tbl.filter goodWord
def pNestW : Cond → Bool
  | .methodLinkNest _ _ _ _ => true
  | .castable _ _ => true
  | .arrayOver _ => true
  | _ => false
def pN0 : List Cond := lw_tbl.filter pNestW
def pWs (i : Nat) : List Cond := .code (pY i) (pB i) (pX i) (pR i) :: pG0
theorem pG0_good {w : Cond} (h : w ∈ pG0) : goodWord w = true := (List.mem_filter.mp h).2
theorem pG0_in {w : Cond} (h : w ∈ pG0) : w ∈ lw_tbl := (List.mem_filter.mp h).1
theorem pN0_in {w : Cond} (h : w ∈ pN0) : w ∈ lw_tbl := (List.mem_filter.mp h).1
theorem pHas (b k : Nat) {w : Cond} (h : (pBl b)[k]? = some w) (g : goodWord w = true) : w ∈ pG0 := List.mem_filter.mpr ⟨pBl_in (List.mem_of_getElem? h), g⟩
theorem pHasN (b k : Nat) {w : Cond} (h : (pBl b)[k]? = some w) (g : pNestW w = true) : w ∈ pN0 := List.mem_filter.mpr ⟨pBl_in (List.mem_of_getElem? h), g⟩
def pFlF (q : Nat × Nat × Nat × Nat × Nat) : Prop := ∃ c : vw_C, vwCl[q.2.2.1]? = some c ∧ q.2.2.2.1 < c.2.2 ∧ Cond.fieldLink (pN q.1) q.2.1 c.1 (c.2.1 q.2.2.2.1).2.1 (c.2.1 q.2.2.2.1).2.2.1 ∈ pG0 ∧ (c.2.1 q.2.2.2.1).1 = c.1
def pNwF (q : Nat × Nat × Nat × Nat × Nat × Nat) : Prop := ∃ c : vw_C, vwCl[q.2.2.1]? = some c ∧ Cond.classLink (pN q.1) q.2.1 c.1 ∈ pG0 ∧ Cond.instantiable c.1 c.2.2 ∈ pG0 ∧ Cond.initialized c.1 ∈ pG0
def pKiF (q : Nat × Nat × Int32 × Nat) : Prop := Cond.constant (pN q.1) q.2.1 q.2.2.1 ∈ pG0
def pKlF (q : Nat × Nat × Int64 × Nat) : Prop := Cond.constantLong (pN q.1) q.2.1 q.2.2.1 ∈ pG0
def pKdF (q : Nat × Nat × UInt64 × Nat) : Prop := Cond.constantDouble (pN q.1) q.2.1 q.2.2.1 ∈ pG0
def pHost (o : Nat) : String := bif Nat.beq o 9 || Nat.beq o 17 then "SquareMeshLaw" else "SquareMesh"
def pClA : MethodName := ⟨"[I", "clone", "()Ljava/lang/Object;"⟩
def pClO : MethodName := ⟨"java/lang/Object", "clone", "()Ljava/lang/Object;"⟩
def pd2rl : MethodName := ⟨"java/lang/Double", "doubleToRawLongBits", "(D)J"⟩
def pCaF (q : Nat × Nat × Nat × Nat × Nat × Nat × Nat × Nat × Nat × Nat) : Prop := match q.2.2.1 with
  | 0 => Cond.methodLink (pN q.1) q.2.1 Lib.objectInit ∈ pG0 ∧ Cond.instanceMethod Lib.objectInit ∈ pG0
  | 1 => Cond.methodLink (pN q.1) q.2.1 (pY q.2.2.2.1) ∈ pG0 ∧ Cond.instanceMethod (pY q.2.2.2.1) ∈ pG0 ∧ Cond.selects (pY q.2.2.2.1).cls (pY q.2.2.2.1) (pY q.2.2.2.1) ∈ pG0
  | 2 => Cond.methodLink (pN q.1) q.2.1 (pY q.2.2.2.1) ∈ pG0 ∧ Cond.static (pY q.2.2.2.1) ∈ pG0
  | 3 => Cond.methodLink (pN q.1) q.2.1 (pY q.2.2.2.1) ∈ pG0 ∧ Cond.instanceMethod (pY q.2.2.2.1) ∈ pG0 ∧ (pY q.2.2.2.1).name = "<init>" ∧ pR q.2.2.2.1 = none
  | 4 => Cond.methodLinkNest (pN q.1) q.2.1 (pY q.2.2.2.1) (pHost q.1) ∈ pN0 ∧ Cond.static (pY q.2.2.2.1) ∈ pG0
  | 5 => Cond.methodLinkNest (pN q.1) q.2.1 (pY q.2.2.2.1) (pHost q.1) ∈ pN0 ∧ Cond.instanceMethod (pY q.2.2.2.1) ∈ pG0 ∧ (pY q.2.2.2.1).name = "<init>" ∧ pR q.2.2.2.1 = none
  | 7 => Cond.methodLink (pN q.1) q.2.1 arraycopyName ∈ pG0 ∧ Cond.native arraycopyName ∈ pG0 ∧ Cond.static arraycopyName ∈ pG0 ∧ Cond.initialized "java/lang/System" ∈ pG0
  | 8 => Cond.methodLink (pN q.1) q.2.1 pd2rl ∈ pG0 ∧ Cond.native pd2rl ∈ pG0 ∧ Cond.static pd2rl ∈ pG0 ∧ Cond.initialized "java/lang/Double" ∈ pG0
  | 9 => Cond.methodLink (pN q.1) q.2.1 pClA ∈ pG0 ∧ Cond.native pClO ∈ pG0 ∧ Cond.instanceMethod pClO ∈ pG0 ∧ Cond.sameMethod "[I" "java/lang/Object" "clone" "()Ljava/lang/Object;" ∈ pG0 ∧ Cond.selects "[I" pClA pClO ∈ pG0
  | _ => True
def pCkN (k : Nat) : String := match k with
  | 0 => "[I"
  | 1 => "[J"
  | 2 => "[[I"
  | _ => "SquareMeshLaw$Sheet"
def pCkF (q : Nat × Nat × Nat) : Prop := Cond.classLink (pN q.1) q.2.1 (pCkN q.2.2) ∈ pG0
def pMeF (j : Nat) : Prop := Cond.code (pY j) (pB j) (pX j) (pR j) ∈ pG0 ∧ Cond.initialized (pY j).cls ∈ pG0 ∧ plainFor (pY j) = true ∧ (pY j).cls = pN (pO j)
set_option maxRecDepth 100000 in
theorem pfl_0 : pFlF (5, 9, 5, 0, 1036) := ⟨_, rfl, Nat.le_of_ble_eq_true rfl, pHas 1 36 rfl rfl, rfl⟩
set_option maxRecDepth 100000 in
theorem pfl_1 : pFlF (8, 147, 5, 0, 1037) := ⟨_, rfl, Nat.le_of_ble_eq_true rfl, pHas 1 37 rfl rfl, rfl⟩
set_option maxRecDepth 100000 in
theorem pfl_2 : pFlF (1, 162, 5, 0, 1038) := ⟨_, rfl, Nat.le_of_ble_eq_true rfl, pHas 1 38 rfl rfl, rfl⟩
set_option maxRecDepth 100000 in
theorem pfl_3 : pFlF (5, 15, 5, 1, 1039) := ⟨_, rfl, Nat.le_of_ble_eq_true rfl, pHas 1 39 rfl rfl, rfl⟩
set_option maxRecDepth 100000 in
theorem pfl_4 : pFlF (8, 155, 5, 1, 1040) := ⟨_, rfl, Nat.le_of_ble_eq_true rfl, pHas 1 40 rfl rfl, rfl⟩
set_option maxRecDepth 100000 in
theorem pfl_5 : pFlF (1, 165, 5, 1, 1041) := ⟨_, rfl, Nat.le_of_ble_eq_true rfl, pHas 1 41 rfl rfl, rfl⟩
set_option maxRecDepth 100000 in
theorem pfl_6 : pFlF (5, 18, 5, 2, 1042) := ⟨_, rfl, Nat.le_of_ble_eq_true rfl, pHas 1 42 rfl rfl, rfl⟩
set_option maxRecDepth 100000 in
theorem pfl_7 : pFlF (1, 93, 5, 2, 1043) := ⟨_, rfl, Nat.le_of_ble_eq_true rfl, pHas 1 43 rfl rfl, rfl⟩
set_option maxRecDepth 100000 in
theorem pfl_8 : pFlF (8, 130, 5, 2, 1044) := ⟨_, rfl, Nat.le_of_ble_eq_true rfl, pHas 1 44 rfl rfl, rfl⟩
set_option maxRecDepth 100000 in
theorem pfl_9 : pFlF (5, 21, 5, 3, 1045) := ⟨_, rfl, Nat.le_of_ble_eq_true rfl, pHas 1 45 rfl rfl, rfl⟩
set_option maxRecDepth 100000 in
theorem pfl_10 : pFlF (8, 243, 5, 3, 1046) := ⟨_, rfl, Nat.le_of_ble_eq_true rfl, pHas 1 46 rfl rfl, rfl⟩
set_option maxRecDepth 100000 in
theorem pfl_11 : pFlF (5, 25, 5, 4, 1047) := ⟨_, rfl, Nat.le_of_ble_eq_true rfl, pHas 1 47 rfl rfl, rfl⟩
set_option maxRecDepth 100000 in
theorem pfl_12 : pFlF (4, 49, 5, 4, 1048) := ⟨_, rfl, Nat.le_of_ble_eq_true rfl, pHas 1 48 rfl rfl, rfl⟩
set_option maxRecDepth 100000 in
theorem pfl_13 : pFlF (8, 171, 5, 4, 1049) := ⟨_, rfl, Nat.le_of_ble_eq_true rfl, pHas 1 49 rfl rfl, rfl⟩
set_option maxRecDepth 100000 in
theorem pfl_14 : pFlF (5, 28, 5, 5, 1050) := ⟨_, rfl, Nat.le_of_ble_eq_true rfl, pHas 1 50 rfl rfl, rfl⟩
set_option maxRecDepth 100000 in
theorem pfl_15 : pFlF (4, 52, 5, 5, 1051) := ⟨_, rfl, Nat.le_of_ble_eq_true rfl, pHas 1 51 rfl rfl, rfl⟩
set_option maxRecDepth 100000 in
theorem pfl_16 : pFlF (8, 174, 5, 5, 1052) := ⟨_, rfl, Nat.le_of_ble_eq_true rfl, pHas 1 52 rfl rfl, rfl⟩
set_option maxRecDepth 100000 in
theorem pfl_17 : pFlF (5, 37, 5, 6, 1053) := ⟨_, rfl, Nat.le_of_ble_eq_true rfl, pHas 1 53 rfl rfl, rfl⟩
set_option maxRecDepth 100000 in
theorem pfl_18 : pFlF (4, 44, 5, 7, 1054) := ⟨_, rfl, Nat.le_of_ble_eq_true rfl, pHas 1 54 rfl rfl, rfl⟩
set_option maxRecDepth 100000 in
theorem pfl_19 : pFlF (5, 41, 5, 7, 1055) := ⟨_, rfl, Nat.le_of_ble_eq_true rfl, pHas 1 55 rfl rfl, rfl⟩
set_option maxRecDepth 100000 in
theorem pfl_20 : pFlF (8, 167, 5, 7, 1056) := ⟨_, rfl, Nat.le_of_ble_eq_true rfl, pHas 1 56 rfl rfl, rfl⟩
set_option maxRecDepth 100000 in
theorem pfl_21 : pFlF (1, 51, 5, 8, 1057) := ⟨_, rfl, Nat.le_of_ble_eq_true rfl, pHas 1 57 rfl rfl, rfl⟩
set_option maxRecDepth 100000 in
theorem pfl_22 : pFlF (5, 45, 5, 8, 1058) := ⟨_, rfl, Nat.le_of_ble_eq_true rfl, pHas 1 58 rfl rfl, rfl⟩
set_option maxRecDepth 100000 in
theorem pfl_23 : pFlF (8, 177, 5, 8, 1059) := ⟨_, rfl, Nat.le_of_ble_eq_true rfl, pHas 1 59 rfl rfl, rfl⟩
set_option maxRecDepth 100000 in
theorem pfl_24 : pFlF (1, 12, 1, 0, 1081) := ⟨_, rfl, Nat.le_of_ble_eq_true rfl, pHas 1 81 rfl rfl, rfl⟩
set_option maxRecDepth 100000 in
theorem pfl_25 : pFlF (8, 75, 1, 0, 1082) := ⟨_, rfl, Nat.le_of_ble_eq_true rfl, pHas 1 82 rfl rfl, rfl⟩
set_option maxRecDepth 100000 in
theorem pfl_26 : pFlF (4, 40, 1, 0, 1083) := ⟨_, rfl, Nat.le_of_ble_eq_true rfl, pHas 1 83 rfl rfl, rfl⟩
set_option maxRecDepth 100000 in
theorem pfl_27 : pFlF (3, 39, 1, 0, 1084) := ⟨_, rfl, Nat.le_of_ble_eq_true rfl, pHas 1 84 rfl rfl, rfl⟩
set_option maxRecDepth 100000 in
theorem pfl_28 : pFlF (1, 18, 1, 1, 1085) := ⟨_, rfl, Nat.le_of_ble_eq_true rfl, pHas 1 85 rfl rfl, rfl⟩
set_option maxRecDepth 100000 in
theorem pfl_29 : pFlF (8, 258, 1, 1, 1086) := ⟨_, rfl, Nat.le_of_ble_eq_true rfl, pHas 1 86 rfl rfl, rfl⟩
set_option maxRecDepth 100000 in
theorem pfl_30 : pFlF (1, 22, 1, 2, 1087) := ⟨_, rfl, Nat.le_of_ble_eq_true rfl, pHas 1 87 rfl rfl, rfl⟩
set_option maxRecDepth 100000 in
theorem pfl_31 : pFlF (8, 261, 1, 2, 1088) := ⟨_, rfl, Nat.le_of_ble_eq_true rfl, pHas 1 88 rfl rfl, rfl⟩
set_option maxRecDepth 100000 in
theorem pfl_32 : pFlF (1, 25, 1, 3, 1089) := ⟨_, rfl, Nat.le_of_ble_eq_true rfl, pHas 1 89 rfl rfl, rfl⟩
set_option maxRecDepth 100000 in
theorem pfl_33 : pFlF (3, 54, 1, 3, 1090) := ⟨_, rfl, Nat.le_of_ble_eq_true rfl, pHas 1 90 rfl rfl, rfl⟩
set_option maxRecDepth 100000 in
theorem pfl_34 : pFlF (1, 28, 1, 4, 1091) := ⟨_, rfl, Nat.le_of_ble_eq_true rfl, pHas 1 91 rfl rfl, rfl⟩
set_option maxRecDepth 100000 in
theorem pfl_35 : pFlF (1, 31, 1, 5, 1092) := ⟨_, rfl, Nat.le_of_ble_eq_true rfl, pHas 1 92 rfl rfl, rfl⟩
set_option maxRecDepth 100000 in
theorem pfl_36 : pFlF (8, 233, 1, 5, 1093) := ⟨_, rfl, Nat.le_of_ble_eq_true rfl, pHas 1 93 rfl rfl, rfl⟩
set_option maxRecDepth 100000 in
theorem pfl_37 : pFlF (1, 35, 1, 6, 1094) := ⟨_, rfl, Nat.le_of_ble_eq_true rfl, pHas 1 94 rfl rfl, rfl⟩
set_option maxRecDepth 100000 in
theorem pfl_38 : pFlF (8, 164, 1, 6, 1095) := ⟨_, rfl, Nat.le_of_ble_eq_true rfl, pHas 1 95 rfl rfl, rfl⟩
set_option maxRecDepth 100000 in
theorem pfl_39 : pFlF (4, 31, 1, 7, 1096) := ⟨_, rfl, Nat.le_of_ble_eq_true rfl, pHas 1 96 rfl rfl, rfl⟩
set_option maxRecDepth 100000 in
theorem pfl_40 : pFlF (3, 51, 1, 7, 1097) := ⟨_, rfl, Nat.le_of_ble_eq_true rfl, pHas 1 97 rfl rfl, rfl⟩
set_option maxRecDepth 100000 in
theorem pfl_41 : pFlF (8, 197, 1, 7, 1098) := ⟨_, rfl, Nat.le_of_ble_eq_true rfl, pHas 1 98 rfl rfl, rfl⟩
set_option maxRecDepth 100000 in
theorem pfl_42 : pFlF (1, 78, 1, 7, 1099) := ⟨_, rfl, Nat.le_of_ble_eq_true rfl, pHas 1 99 rfl rfl, rfl⟩
set_option maxRecDepth 100000 in
theorem pfl_43 : pFlF (1, 155, 1, 8, 1100) := ⟨_, rfl, Nat.le_of_ble_eq_true rfl, pHas 1 100 rfl rfl, rfl⟩
set_option maxRecDepth 100000 in
theorem pfl_44 : pFlF (8, 204, 1, 8, 1101) := ⟨_, rfl, Nat.le_of_ble_eq_true rfl, pHas 1 101 rfl rfl, rfl⟩
set_option maxRecDepth 100000 in
theorem pfl_45 : pFlF (1, 38, 1, 9, 1102) := ⟨_, rfl, Nat.le_of_ble_eq_true rfl, pHas 1 102 rfl rfl, rfl⟩
set_option maxRecDepth 100000 in
theorem pfl_46 : pFlF (1, 41, 1, 10, 1103) := ⟨_, rfl, Nat.le_of_ble_eq_true rfl, pHas 1 103 rfl rfl, rfl⟩
set_option maxRecDepth 100000 in
theorem pfl_47 : pFlF (1, 44, 1, 11, 1104) := ⟨_, rfl, Nat.le_of_ble_eq_true rfl, pHas 1 104 rfl rfl, rfl⟩
set_option maxRecDepth 100000 in
theorem pfl_48 : pFlF (1, 185, 1, 12, 1105) := ⟨_, rfl, Nat.le_of_ble_eq_true rfl, pHas 1 105 rfl rfl, rfl⟩
set_option maxRecDepth 100000 in
theorem pfl_49 : pFlF (3, 9, 3, 0, 1139) := ⟨_, rfl, Nat.le_of_ble_eq_true rfl, pHas 1 139 rfl rfl, rfl⟩
set_option maxRecDepth 100000 in
theorem pfl_50 : pFlF (3, 15, 3, 1, 1140) := ⟨_, rfl, Nat.le_of_ble_eq_true rfl, pHas 1 140 rfl rfl, rfl⟩
set_option maxRecDepth 100000 in
theorem pfl_51 : pFlF (3, 19, 3, 2, 1141) := ⟨_, rfl, Nat.le_of_ble_eq_true rfl, pHas 1 141 rfl rfl, rfl⟩
set_option maxRecDepth 100000 in
theorem pfl_52 : pFlF (8, 184, 3, 2, 1142) := ⟨_, rfl, Nat.le_of_ble_eq_true rfl, pHas 1 142 rfl rfl, rfl⟩
set_option maxRecDepth 100000 in
theorem pfl_53 : pFlF (4, 9, 4, 0, 1156) := ⟨_, rfl, Nat.le_of_ble_eq_true rfl, pHas 1 156 rfl rfl, rfl⟩
set_option maxRecDepth 100000 in
theorem pfl_54 : pFlF (4, 15, 4, 1, 1157) := ⟨_, rfl, Nat.le_of_ble_eq_true rfl, pHas 1 157 rfl rfl, rfl⟩
set_option maxRecDepth 100000 in
theorem pfl_55 : pFlF (4, 21, 4, 2, 1158) := ⟨_, rfl, Nat.le_of_ble_eq_true rfl, pHas 1 158 rfl rfl, rfl⟩
set_option maxRecDepth 100000 in
theorem pfl_56 : pFlF (8, 228, 4, 2, 1159) := ⟨_, rfl, Nat.le_of_ble_eq_true rfl, pHas 1 159 rfl rfl, rfl⟩
set_option maxRecDepth 100000 in
theorem pfl_57 : pFlF (4, 18, 4, 3, 1160) := ⟨_, rfl, Nat.le_of_ble_eq_true rfl, pHas 1 160 rfl rfl, rfl⟩
set_option maxRecDepth 100000 in
theorem pfl_58 : pFlF (7, 9, 7, 0, 1176) := ⟨_, rfl, Nat.le_of_ble_eq_true rfl, pHas 1 176 rfl rfl, rfl⟩
set_option maxRecDepth 100000 in
theorem pfl_59 : pFlF (7, 15, 7, 1, 1177) := ⟨_, rfl, Nat.le_of_ble_eq_true rfl, pHas 1 177 rfl rfl, rfl⟩
set_option maxRecDepth 100000 in
theorem pfl_60 : pFlF (2, 9, 2, 0, 1189) := ⟨_, rfl, Nat.le_of_ble_eq_true rfl, pHas 1 189 rfl rfl, rfl⟩
set_option maxRecDepth 100000 in
theorem pfl_61 : pFlF (2, 15, 2, 2, 1190) := ⟨_, rfl, Nat.le_of_ble_eq_true rfl, pHas 1 190 rfl rfl, rfl⟩
set_option maxRecDepth 100000 in
theorem pfl_62 : pFlF (6, 9, 6, 0, 1204) := ⟨_, rfl, Nat.le_of_ble_eq_true rfl, pHas 1 204 rfl rfl, rfl⟩
set_option maxRecDepth 100000 in
theorem pfl_63 : pFlF (6, 15, 6, 2, 1205) := ⟨_, rfl, Nat.le_of_ble_eq_true rfl, pHas 1 205 rfl rfl, rfl⟩
set_option maxRecDepth 100000 in
theorem pfl_64 : pFlF (0, 9, 0, 0, 1219) := ⟨_, rfl, Nat.le_of_ble_eq_true rfl, pHas 1 219 rfl rfl, rfl⟩
set_option maxRecDepth 100000 in
theorem pfl_65 : pFlF (8, 12, 8, 0, 2039) := ⟨_, rfl, Nat.le_of_ble_eq_true rfl, pHas 2 39 rfl rfl, rfl⟩
set_option maxRecDepth 100000 in
theorem pfl_66 : pFlF (8, 16, 8, 1, 2040) := ⟨_, rfl, Nat.le_of_ble_eq_true rfl, pHas 2 40 rfl rfl, rfl⟩
set_option maxRecDepth 100000 in
theorem pfl_67 : pFlF (8, 22, 8, 2, 2041) := ⟨_, rfl, Nat.le_of_ble_eq_true rfl, pHas 2 41 rfl rfl, rfl⟩
set_option maxRecDepth 100000 in
theorem pfl_68 : pFlF (8, 26, 8, 3, 2042) := ⟨_, rfl, Nat.le_of_ble_eq_true rfl, pHas 2 42 rfl rfl, rfl⟩
set_option maxRecDepth 100000 in
theorem pfl_69 : pFlF (8, 32, 8, 4, 2043) := ⟨_, rfl, Nat.le_of_ble_eq_true rfl, pHas 2 43 rfl rfl, rfl⟩
set_option maxRecDepth 100000 in
theorem pfl_70 : pFlF (8, 39, 8, 5, 2044) := ⟨_, rfl, Nat.le_of_ble_eq_true rfl, pHas 2 44 rfl rfl, rfl⟩
set_option maxRecDepth 100000 in
theorem pfl_71 : pFlF (8, 46, 8, 6, 2045) := ⟨_, rfl, Nat.le_of_ble_eq_true rfl, pHas 2 45 rfl rfl, rfl⟩
set_option maxRecDepth 100000 in
theorem pfl_72 : pFlF (8, 53, 8, 7, 2046) := ⟨_, rfl, Nat.le_of_ble_eq_true rfl, pHas 2 46 rfl rfl, rfl⟩
set_option maxRecDepth 100000 in
theorem pfl_73 : pFlF (8, 60, 8, 8, 2047) := ⟨_, rfl, Nat.le_of_ble_eq_true rfl, pHas 2 47 rfl rfl, rfl⟩
set_option maxRecDepth 100000 in
theorem pfl_74 : pFlF (8, 64, 8, 9, 2048) := ⟨_, rfl, Nat.le_of_ble_eq_true rfl, pHas 2 48 rfl rfl, rfl⟩
set_option maxRecDepth 100000 in
theorem pfl_75 : pFlF (9, 9, 9, 0, 3149) := ⟨_, rfl, Nat.le_of_ble_eq_true rfl, pHas 3 149 rfl rfl, rfl⟩
set_option maxRecDepth 100000 in
theorem pfl_76 : pFlF (17, 39, 9, 0, 3150) := ⟨_, rfl, Nat.le_of_ble_eq_true rfl, pHas 3 150 rfl rfl, rfl⟩
set_option maxRecDepth 100000 in
theorem pfl_77 : pFlF (9, 16, 9, 1, 3151) := ⟨_, rfl, Nat.le_of_ble_eq_true rfl, pHas 3 151 rfl rfl, rfl⟩
set_option maxRecDepth 100000 in
theorem pfl_78 : pFlF (17, 55, 9, 1, 3152) := ⟨_, rfl, Nat.le_of_ble_eq_true rfl, pHas 3 152 rfl rfl, rfl⟩
set_option maxRecDepth 100000 in
theorem pfl_79 : pFlF (9, 19, 9, 2, 3153) := ⟨_, rfl, Nat.le_of_ble_eq_true rfl, pHas 3 153 rfl rfl, rfl⟩
set_option maxRecDepth 100000 in
theorem pfl_80 : pFlF (17, 95, 9, 2, 3154) := ⟨_, rfl, Nat.le_of_ble_eq_true rfl, pHas 3 154 rfl rfl, rfl⟩
set_option maxRecDepth 100000 in
theorem pfl_81 : pFlF (9, 22, 9, 3, 3155) := ⟨_, rfl, Nat.le_of_ble_eq_true rfl, pHas 3 155 rfl rfl, rfl⟩
set_option maxRecDepth 100000 in
theorem pfl_82 : pFlF (17, 91, 9, 3, 3156) := ⟨_, rfl, Nat.le_of_ble_eq_true rfl, pHas 3 156 rfl rfl, rfl⟩
set_option maxRecDepth 100000 in
theorem pFl_all : ∀ q ∈ pFlL, pFlF q := List.forall_mem_cons.mpr ⟨pfl_0, List.forall_mem_cons.mpr ⟨pfl_1, List.forall_mem_cons.mpr ⟨pfl_2, List.forall_mem_cons.mpr ⟨pfl_3, List.forall_mem_cons.mpr ⟨pfl_4, List.forall_mem_cons.mpr ⟨pfl_5, List.forall_mem_cons.mpr ⟨pfl_6, List.forall_mem_cons.mpr ⟨pfl_7, List.forall_mem_cons.mpr ⟨pfl_8, List.forall_mem_cons.mpr ⟨pfl_9, List.forall_mem_cons.mpr ⟨pfl_10, List.forall_mem_cons.mpr ⟨pfl_11, List.forall_mem_cons.mpr ⟨pfl_12, List.forall_mem_cons.mpr ⟨pfl_13, List.forall_mem_cons.mpr ⟨pfl_14, List.forall_mem_cons.mpr ⟨pfl_15, List.forall_mem_cons.mpr ⟨pfl_16, List.forall_mem_cons.mpr ⟨pfl_17, List.forall_mem_cons.mpr ⟨pfl_18, List.forall_mem_cons.mpr ⟨pfl_19, List.forall_mem_cons.mpr ⟨pfl_20, List.forall_mem_cons.mpr ⟨pfl_21, List.forall_mem_cons.mpr ⟨pfl_22, List.forall_mem_cons.mpr ⟨pfl_23, List.forall_mem_cons.mpr ⟨pfl_24, List.forall_mem_cons.mpr ⟨pfl_25, List.forall_mem_cons.mpr ⟨pfl_26, List.forall_mem_cons.mpr ⟨pfl_27, List.forall_mem_cons.mpr ⟨pfl_28, List.forall_mem_cons.mpr ⟨pfl_29, List.forall_mem_cons.mpr ⟨pfl_30, List.forall_mem_cons.mpr ⟨pfl_31, List.forall_mem_cons.mpr ⟨pfl_32, List.forall_mem_cons.mpr ⟨pfl_33, List.forall_mem_cons.mpr ⟨pfl_34, List.forall_mem_cons.mpr ⟨pfl_35, List.forall_mem_cons.mpr ⟨pfl_36, List.forall_mem_cons.mpr ⟨pfl_37, List.forall_mem_cons.mpr ⟨pfl_38, List.forall_mem_cons.mpr ⟨pfl_39, List.forall_mem_cons.mpr ⟨pfl_40, List.forall_mem_cons.mpr ⟨pfl_41, List.forall_mem_cons.mpr ⟨pfl_42, List.forall_mem_cons.mpr ⟨pfl_43, List.forall_mem_cons.mpr ⟨pfl_44, List.forall_mem_cons.mpr ⟨pfl_45, List.forall_mem_cons.mpr ⟨pfl_46, List.forall_mem_cons.mpr ⟨pfl_47, List.forall_mem_cons.mpr ⟨pfl_48, List.forall_mem_cons.mpr ⟨pfl_49, List.forall_mem_cons.mpr ⟨pfl_50, List.forall_mem_cons.mpr ⟨pfl_51, List.forall_mem_cons.mpr ⟨pfl_52, List.forall_mem_cons.mpr ⟨pfl_53, List.forall_mem_cons.mpr ⟨pfl_54, List.forall_mem_cons.mpr ⟨pfl_55, List.forall_mem_cons.mpr ⟨pfl_56, List.forall_mem_cons.mpr ⟨pfl_57, List.forall_mem_cons.mpr ⟨pfl_58, List.forall_mem_cons.mpr ⟨pfl_59, List.forall_mem_cons.mpr ⟨pfl_60, List.forall_mem_cons.mpr ⟨pfl_61, List.forall_mem_cons.mpr ⟨pfl_62, List.forall_mem_cons.mpr ⟨pfl_63, List.forall_mem_cons.mpr ⟨pfl_64, List.forall_mem_cons.mpr ⟨pfl_65, List.forall_mem_cons.mpr ⟨pfl_66, List.forall_mem_cons.mpr ⟨pfl_67, List.forall_mem_cons.mpr ⟨pfl_68, List.forall_mem_cons.mpr ⟨pfl_69, List.forall_mem_cons.mpr ⟨pfl_70, List.forall_mem_cons.mpr ⟨pfl_71, List.forall_mem_cons.mpr ⟨pfl_72, List.forall_mem_cons.mpr ⟨pfl_73, List.forall_mem_cons.mpr ⟨pfl_74, List.forall_mem_cons.mpr ⟨pfl_75, List.forall_mem_cons.mpr ⟨pfl_76, List.forall_mem_cons.mpr ⟨pfl_77, List.forall_mem_cons.mpr ⟨pfl_78, List.forall_mem_cons.mpr ⟨pfl_79, List.forall_mem_cons.mpr ⟨pfl_80, List.forall_mem_cons.mpr ⟨pfl_81, List.forall_mem_cons.mpr ⟨pfl_82, (fun _ h => absurd h List.not_mem_nil)⟩⟩⟩⟩⟩⟩⟩⟩⟩⟩⟩⟩⟩⟩⟩⟩⟩⟩⟩⟩⟩⟩⟩⟩⟩⟩⟩⟩⟩⟩⟩⟩⟩⟩⟩⟩⟩⟩⟩⟩⟩⟩⟩⟩⟩⟩⟩⟩⟩⟩⟩⟩⟩⟩⟩⟩⟩⟩⟩⟩⟩⟩⟩⟩⟩⟩⟩⟩⟩⟩⟩⟩⟩⟩⟩⟩⟩⟩⟩⟩⟩⟩⟩
set_option maxRecDepth 100000 in
theorem pnw_0 : pNwF (17, 29, 8, 1016, 1017, 1001) := ⟨_, rfl, pHas 1 16 rfl rfl, pHas 1 17 rfl rfl, pHas 1 1 rfl rfl⟩
set_option maxRecDepth 100000 in
theorem pnw_1 : pNwF (8, 9, 1, 1024, 1025, 1002) := ⟨_, rfl, pHas 1 24 rfl rfl, pHas 1 25 rfl rfl, pHas 1 2 rfl rfl⟩
set_option maxRecDepth 100000 in
theorem pnw_2 : pNwF (1, 9, 5, 1030, 1031, 1003) := ⟨_, rfl, pHas 1 30 rfl rfl, pHas 1 31 rfl rfl, pHas 1 3 rfl rfl⟩
set_option maxRecDepth 100000 in
theorem pnw_3 : pNwF (8, 19, 3, 1133, 1134, 1004) := ⟨_, rfl, pHas 1 133 rfl rfl, pHas 1 134 rfl rfl, pHas 1 4 rfl rfl⟩
set_option maxRecDepth 100000 in
theorem pnw_4 : pNwF (8, 29, 4, 1150, 1151, 1005) := ⟨_, rfl, pHas 1 150 rfl rfl, pHas 1 151 rfl rfl, pHas 1 5 rfl rfl⟩
set_option maxRecDepth 100000 in
theorem pnw_5 : pNwF (8, 36, 7, 1170, 1171, 1006) := ⟨_, rfl, pHas 1 170 rfl rfl, pHas 1 171 rfl rfl, pHas 1 6 rfl rfl⟩
set_option maxRecDepth 100000 in
theorem pnw_6 : pNwF (8, 43, 2, 1183, 1184, 1007) := ⟨_, rfl, pHas 1 183 rfl rfl, pHas 1 184 rfl rfl, pHas 1 7 rfl rfl⟩
set_option maxRecDepth 100000 in
theorem pnw_7 : pNwF (8, 50, 6, 1198, 1199, 1008) := ⟨_, rfl, pHas 1 198 rfl rfl, pHas 1 199 rfl rfl, pHas 1 8 rfl rfl⟩
set_option maxRecDepth 100000 in
theorem pnw_8 : pNwF (8, 57, 0, 1213, 1214, 1009) := ⟨_, rfl, pHas 1 213 rfl rfl, pHas 1 214 rfl rfl, pHas 1 9 rfl rfl⟩
set_option maxRecDepth 100000 in
theorem pnw_9 : pNwF (17, 40, 9, 3136, 3137, 1012) := ⟨_, rfl, pHas 3 136 rfl rfl, pHas 3 137 rfl rfl, pHas 1 12 rfl rfl⟩
set_option maxRecDepth 100000 in
theorem pnw_10 : pNwF (9, 10, 9, 3170, 3137, 1012) := ⟨_, rfl, pHas 3 170 rfl rfl, pHas 3 137 rfl rfl, pHas 1 12 rfl rfl⟩
set_option maxRecDepth 100000 in
theorem pNw_all : ∀ q ∈ pNwL, pNwF q := List.forall_mem_cons.mpr ⟨pnw_0, List.forall_mem_cons.mpr ⟨pnw_1, List.forall_mem_cons.mpr ⟨pnw_2, List.forall_mem_cons.mpr ⟨pnw_3, List.forall_mem_cons.mpr ⟨pnw_4, List.forall_mem_cons.mpr ⟨pnw_5, List.forall_mem_cons.mpr ⟨pnw_6, List.forall_mem_cons.mpr ⟨pnw_7, List.forall_mem_cons.mpr ⟨pnw_8, List.forall_mem_cons.mpr ⟨pnw_9, List.forall_mem_cons.mpr ⟨pnw_10, (fun _ h => absurd h List.not_mem_nil)⟩⟩⟩⟩⟩⟩⟩⟩⟩⟩⟩
set_option maxRecDepth 100000 in
theorem pki_0 : pKiF (1, 148, 1000000, 2164) := pHas 2 164 rfl rfl
set_option maxRecDepth 100000 in
theorem pki_1 : pKiF (17, 7, 2147483647, 3236) := pHas 3 236 rfl rfl
set_option maxRecDepth 100000 in
theorem pki_2 : pKiF (8, 232, -100000, 4004) := pHas 4 4 rfl rfl
set_option maxRecDepth 100000 in
theorem pki_3 : pKiF (17, 105, -100000, 4011) := pHas 4 11 rfl rfl
set_option maxRecDepth 100000 in
theorem pki_4 : pKiF (12, 264, 65536, 4151) := pHas 4 151 rfl rfl
set_option maxRecDepth 100000 in
theorem pki_5 : pKiF (17, 98, 8000000, 4157) := pHas 4 157 rfl rfl
set_option maxRecDepth 100000 in
theorem pKi_all : ∀ q ∈ pKiL, pKiF q := List.forall_mem_cons.mpr ⟨pki_0, List.forall_mem_cons.mpr ⟨pki_1, List.forall_mem_cons.mpr ⟨pki_2, List.forall_mem_cons.mpr ⟨pki_3, List.forall_mem_cons.mpr ⟨pki_4, List.forall_mem_cons.mpr ⟨pki_5, (fun _ h => absurd h List.not_mem_nil)⟩⟩⟩⟩⟩⟩
set_option maxRecDepth 100000 in
theorem pkl_0 : pKlF (5, 54, -1, 2159) := pHas 2 159 rfl rfl
set_option maxRecDepth 100000 in
theorem pkl_1 : pKlF (1, 188, -1, 2165) := pHas 2 165 rfl rfl
set_option maxRecDepth 100000 in
theorem pkl_2 : pKlF (13, 314, 6148914691236517205, 3123) := pHas 3 123 rfl rfl
set_option maxRecDepth 100000 in
theorem pkl_3 : pKlF (13, 316, 3689348814741910323, 3124) := pHas 3 124 rfl rfl
set_option maxRecDepth 100000 in
theorem pkl_4 : pKlF (13, 318, 1085102592571150095, 3125) := pHas 3 125 rfl rfl
set_option maxRecDepth 100000 in
theorem pKl_all : ∀ q ∈ pKlL, pKlF q := List.forall_mem_cons.mpr ⟨pkl_0, List.forall_mem_cons.mpr ⟨pkl_1, List.forall_mem_cons.mpr ⟨pkl_2, List.forall_mem_cons.mpr ⟨pkl_3, List.forall_mem_cons.mpr ⟨pkl_4, (fun _ h => absurd h List.not_mem_nil)⟩⟩⟩⟩⟩
set_option maxRecDepth 100000 in
theorem pKd_all : ∀ q ∈ pKdL, pKdF q := (fun _ h => absurd h List.not_mem_nil)
set_option maxRecDepth 100000 in
theorem pca_0 : pCaF (17, 119, 3, 86, 0, 1018, 1019, 1001, 1020, 0) := ⟨pHas 1 18 rfl rfl, pHas 1 19 rfl rfl, rfl, rfl⟩
set_option maxRecDepth 100000 in
theorem pca_1 : pCaF (8, 3, 0, 0, 0, 1021, 1022, 0, 0, 0) := ⟨pHas 1 21 rfl rfl, pHas 1 22 rfl rfl⟩
set_option maxRecDepth 100000 in
theorem pca_2 : pCaF (8, 11, 5, 1, 0, 1026, 1027, 1002, 1028, 0) := ⟨pHasN 1 26 rfl rfl, pHas 1 27 rfl rfl, rfl, rfl⟩
set_option maxRecDepth 100000 in
theorem pca_3 : pCaF (1, 3, 0, 0, 0, 1029, 1022, 0, 0, 0) := ⟨pHas 1 29 rfl rfl, pHas 1 22 rfl rfl⟩
set_option maxRecDepth 100000 in
theorem pca_4 : pCaF (1, 11, 5, 61, 0, 1032, 1033, 1003, 1034, 0) := ⟨pHasN 1 32 rfl rfl, pHas 1 33 rfl rfl, rfl, rfl⟩
set_option maxRecDepth 100000 in
theorem pca_5 : pCaF (5, 3, 0, 0, 0, 1035, 1022, 0, 0, 0) := ⟨pHas 1 35 rfl rfl, pHas 1 22 rfl rfl⟩
set_option maxRecDepth 100000 in
theorem pca_6 : pCaF (8, 21, 5, 50, 0, 1135, 1136, 1004, 1137, 0) := ⟨pHasN 1 135 rfl rfl, pHas 1 136 rfl rfl, rfl, rfl⟩
set_option maxRecDepth 100000 in
theorem pca_7 : pCaF (3, 3, 0, 0, 0, 1138, 1022, 0, 0, 0) := ⟨pHas 1 138 rfl rfl, pHas 1 22 rfl rfl⟩
set_option maxRecDepth 100000 in
theorem pca_8 : pCaF (8, 31, 5, 57, 0, 1152, 1153, 1005, 1154, 0) := ⟨pHasN 1 152 rfl rfl, pHas 1 153 rfl rfl, rfl, rfl⟩
set_option maxRecDepth 100000 in
theorem pca_9 : pCaF (4, 3, 0, 0, 0, 1155, 1022, 0, 0, 0) := ⟨pHas 1 155 rfl rfl, pHas 1 22 rfl rfl⟩
set_option maxRecDepth 100000 in
theorem pca_10 : pCaF (8, 38, 5, 85, 0, 1172, 1173, 1006, 1174, 0) := ⟨pHasN 1 172 rfl rfl, pHas 1 173 rfl rfl, rfl, rfl⟩
set_option maxRecDepth 100000 in
theorem pca_11 : pCaF (7, 3, 0, 0, 0, 1175, 1022, 0, 0, 0) := ⟨pHas 1 175 rfl rfl, pHas 1 22 rfl rfl⟩
set_option maxRecDepth 100000 in
theorem pca_12 : pCaF (8, 45, 5, 49, 0, 1185, 1186, 1007, 1187, 0) := ⟨pHasN 1 185 rfl rfl, pHas 1 186 rfl rfl, rfl, rfl⟩
set_option maxRecDepth 100000 in
theorem pca_13 : pCaF (2, 3, 0, 0, 0, 1188, 1022, 0, 0, 0) := ⟨pHas 1 188 rfl rfl, pHas 1 22 rfl rfl⟩
set_option maxRecDepth 100000 in
theorem pca_14 : pCaF (8, 52, 5, 84, 0, 1200, 1201, 1008, 1202, 0) := ⟨pHasN 1 200 rfl rfl, pHas 1 201 rfl rfl, rfl, rfl⟩
set_option maxRecDepth 100000 in
theorem pca_15 : pCaF (6, 3, 0, 0, 0, 1203, 1022, 0, 0, 0) := ⟨pHas 1 203 rfl rfl, pHas 1 22 rfl rfl⟩
set_option maxRecDepth 100000 in
theorem pca_16 : pCaF (8, 59, 5, 0, 0, 1215, 1216, 1009, 1217, 0) := ⟨pHasN 1 215 rfl rfl, pHas 1 216 rfl rfl, rfl, rfl⟩
set_option maxRecDepth 100000 in
theorem pca_17 : pCaF (0, 3, 0, 0, 0, 1218, 1022, 0, 0, 0) := ⟨pHas 1 218 rfl rfl, pHas 1 22 rfl rfl⟩
set_option maxRecDepth 100000 in
theorem pca_18 : pCaF (8, 68, 1, 2, 0, 1225, 1226, 1002, 1228, 1227) := ⟨pHas 1 225 rfl rfl, pHas 1 226 rfl rfl, pHas 1 227 rfl rfl⟩
set_option maxRecDepth 100000 in
theorem pca_19 : pCaF (1, 47, 1, 66, 3, 1229, 1230, 1003, 1232, 1231) := ⟨pHas 1 229 rfl rfl, pHas 1 230 rfl rfl, pHas 1 231 rfl rfl⟩
set_option maxRecDepth 100000 in
theorem pca_20 : pCaF (1, 55, 2, 144, 2, 1233, 1234, 1010, 1235, 0) := ⟨pHas 1 233 rfl rfl, pHas 1 234 rfl rfl⟩
set_option maxRecDepth 100000 in
theorem pca_21 : pCaF (1, 61, 1, 74, 2, 1236, 1237, 1003, 1239, 1238) := ⟨pHas 1 236 rfl rfl, pHas 1 237 rfl rfl, pHas 1 238 rfl rfl⟩
set_option maxRecDepth 100000 in
theorem pca_22 : pCaF (1, 65, 1, 15, 3, 2000, 2002, 1002, 2003, 0) := ⟨pHas 2 0 rfl rfl, pHas 2 2 rfl rfl, pHas 0 0 rfl rfl⟩
set_option maxRecDepth 100000 in
theorem pca_23 : pCaF (1, 68, 1, 23, 0, 2004, 2006, 1002, 2007, 1) := ⟨pHas 2 4 rfl rfl, pHas 2 6 rfl rfl, pHas 0 1 rfl rfl⟩
set_option maxRecDepth 100000 in
theorem pca_24 : pCaF (1, 71, 1, 26, 0, 2008, 2010, 1002, 2011, 2) := ⟨pHas 2 8 rfl rfl, pHas 2 10 rfl rfl, pHas 0 2 rfl rfl⟩
set_option maxRecDepth 100000 in
theorem pca_25 : pCaF (1, 201, 2, 143, 2, 2012, 2013, 1010, 2014, 0) := ⟨pHas 2 12 rfl rfl, pHas 2 13 rfl rfl⟩
set_option maxRecDepth 100000 in
theorem pca_26 : pCaF (1, 175, 1, 64, 1, 2015, 2016, 1003, 2018, 2017) := ⟨pHas 2 15 rfl rfl, pHas 2 16 rfl rfl, pHas 2 17 rfl rfl⟩
set_option maxRecDepth 100000 in
theorem pca_27 : pCaF (1, 204, 1, 27, 2, 2019, 2021, 1002, 2022, 3) := ⟨pHas 2 19 rfl rfl, pHas 2 21 rfl rfl, pHas 0 3 rfl rfl⟩
set_option maxRecDepth 100000 in
theorem pca_28 : pCaF (1, 207, 1, 28, 3, 2023, 2025, 1002, 2026, 4) := ⟨pHas 2 23 rfl rfl, pHas 2 25 rfl rfl, pHas 0 4 rfl rfl⟩
set_option maxRecDepth 100000 in
theorem pca_29 : pCaF (8, 71, 1, 54, 1, 2027, 2028, 1004, 2030, 2029) := ⟨pHas 2 27 rfl rfl, pHas 2 28 rfl rfl, pHas 2 29 rfl rfl⟩
set_option maxRecDepth 100000 in
theorem pca_30 : pCaF (3, 45, 1, 62, 4, 2031, 2032, 1003, 2034, 2033) := ⟨pHas 2 31 rfl rfl, pHas 2 32 rfl rfl, pHas 2 33 rfl rfl⟩
set_option maxRecDepth 100000 in
theorem pca_31 : pCaF (5, 31, 7, 0, 5, 2035, 2037, 2036, 1011, 0) := ⟨pHas 2 35 rfl rfl, pHas 2 37 rfl rfl, pHas 2 36 rfl rfl, pHas 1 11 rfl rfl⟩
set_option maxRecDepth 100000 in
theorem pca_32 : pCaF (3, 30, 7, 0, 5, 2038, 2037, 2036, 1011, 0) := ⟨pHas 2 38 rfl rfl, pHas 2 37 rfl rfl, pHas 2 36 rfl rfl, pHas 1 11 rfl rfl⟩
set_option maxRecDepth 100000 in
theorem pca_33 : pCaF (17, 137, 1, 87, 2, 2070, 2071, 1001, 2073, 2072) := ⟨pHas 2 70 rfl rfl, pHas 2 71 rfl rfl, pHas 2 72 rfl rfl⟩
set_option maxRecDepth 100000 in
theorem pca_34 : pCaF (8, 79, 1, 70, 2, 2074, 2075, 1003, 2077, 2076) := ⟨pHas 2 74 rfl rfl, pHas 2 75 rfl rfl, pHas 2 76 rfl rfl⟩
set_option maxRecDepth 100000 in
theorem pca_35 : pCaF (5, 60, 4, 120, 2, 2078, 2079, 1001, 2080, 0) := ⟨pHasN 2 78 rfl rfl, pHas 2 79 rfl rfl⟩
set_option maxRecDepth 100000 in
theorem pca_36 : pCaF (5, 64, 1, 68, 2, 2081, 2082, 1003, 2084, 2083) := ⟨pHas 2 81 rfl rfl, pHas 2 82 rfl rfl, pHas 2 83 rfl rfl⟩
set_option maxRecDepth 100000 in
theorem pca_37 : pCaF (5, 56, 1, 64, 1, 2085, 2016, 1003, 2018, 2017) := ⟨pHas 2 85 rfl rfl, pHas 2 16 rfl rfl, pHas 2 17 rfl rfl⟩
set_option maxRecDepth 100000 in
theorem pca_38 : pCaF (5, 68, 1, 69, 0, 2086, 2087, 1003, 2089, 2088) := ⟨pHas 2 86 rfl rfl, pHas 2 87 rfl rfl, pHas 2 88 rfl rfl⟩
set_option maxRecDepth 100000 in
theorem pca_39 : pCaF (8, 85, 1, 51, 1, 2090, 2091, 1004, 2093, 2092) := ⟨pHas 2 90 rfl rfl, pHas 2 91 rfl rfl, pHas 2 92 rfl rfl⟩
set_option maxRecDepth 100000 in
theorem pca_40 : pCaF (3, 23, 1, 52, 0, 2094, 2096, 1004, 2097, 5) := ⟨pHas 2 94 rfl rfl, pHas 2 96 rfl rfl, pHas 0 5 rfl rfl⟩
set_option maxRecDepth 100000 in
theorem pca_41 : pCaF (3, 26, 1, 54, 1, 2098, 2028, 1004, 2030, 2029) := ⟨pHas 2 98 rfl rfl, pHas 2 28 rfl rfl, pHas 2 29 rfl rfl⟩
set_option maxRecDepth 100000 in
theorem pca_42 : pCaF (8, 88, 1, 4, 2, 2099, 2100, 1002, 2102, 2101) := ⟨pHas 2 99 rfl rfl, pHas 2 100 rfl rfl, pHas 2 101 rfl rfl⟩
set_option maxRecDepth 100000 in
theorem pca_43 : pCaF (1, 85, 1, 70, 2, 2103, 2075, 1003, 2077, 2076) := ⟨pHas 2 103 rfl rfl, pHas 2 75 rfl rfl, pHas 2 76 rfl rfl⟩
set_option maxRecDepth 100000 in
theorem pca_44 : pCaF (1, 89, 1, 69, 0, 2104, 2087, 1003, 2089, 2088) := ⟨pHas 2 104 rfl rfl, pHas 2 87 rfl rfl, pHas 2 88 rfl rfl⟩
set_option maxRecDepth 100000 in
theorem pca_45 : pCaF (1, 96, 1, 5, 3, 2105, 2106, 1002, 2108, 2107) := ⟨pHas 2 105 rfl rfl, pHas 2 106 rfl rfl, pHas 2 107 rfl rfl⟩
set_option maxRecDepth 100000 in
theorem pca_46 : pCaF (1, 99, 1, 38, 2, 2109, 2110, 1002, 2112, 2111) := ⟨pHas 2 109 rfl rfl, pHas 2 110 rfl rfl, pHas 2 111 rfl rfl⟩
set_option maxRecDepth 100000 in
theorem pca_47 : pCaF (1, 219, 4, 120, 2, 2113, 2079, 1001, 2080, 0) := ⟨pHasN 2 113 rfl rfl, pHas 2 79 rfl rfl⟩
set_option maxRecDepth 100000 in
theorem pca_48 : pCaF (1, 222, 1, 37, 3, 2114, 2115, 1002, 2117, 2116) := ⟨pHas 2 114 rfl rfl, pHas 2 115 rfl rfl, pHas 2 116 rfl rfl⟩
set_option maxRecDepth 100000 in
theorem pca_49 : pCaF (1, 216, 1, 35, 4, 2118, 2119, 1002, 2121, 2120) := ⟨pHas 2 118 rfl rfl, pHas 2 119 rfl rfl, pHas 2 120 rfl rfl⟩
set_option maxRecDepth 100000 in
theorem pca_50 : pCaF (1, 103, 1, 30, 2, 2122, 2123, 1002, 2125, 2124) := ⟨pHas 2 122 rfl rfl, pHas 2 123 rfl rfl, pHas 2 124 rfl rfl⟩
set_option maxRecDepth 100000 in
theorem pca_51 : pCaF (1, 210, 1, 77, 4, 2126, 2127, 1003, 2129, 2128) := ⟨pHas 2 126 rfl rfl, pHas 2 127 rfl rfl, pHas 2 128 rfl rfl⟩
set_option maxRecDepth 100000 in
theorem pca_52 : pCaF (1, 106, 1, 16, 3, 2130, 2132, 1002, 2133, 6) := ⟨pHas 2 130 rfl rfl, pHas 2 132 rfl rfl, pHas 0 6 rfl rfl⟩
set_option maxRecDepth 100000 in
theorem pca_53 : pCaF (1, 109, 1, 6, 3, 2134, 2136, 1002, 2137, 7) := ⟨pHas 2 134 rfl rfl, pHas 2 136 rfl rfl, pHas 0 7 rfl rfl⟩
set_option maxRecDepth 100000 in
theorem pca_54 : pCaF (1, 115, 1, 78, 3, 2138, 2139, 1003, 2141, 2140) := ⟨pHas 2 138 rfl rfl, pHas 2 139 rfl rfl, pHas 2 140 rfl rfl⟩
set_option maxRecDepth 100000 in
theorem pca_55 : pCaF (5, 78, 1, 77, 4, 2142, 2127, 1003, 2129, 2128) := ⟨pHas 2 142 rfl rfl, pHas 2 127 rfl rfl, pHas 2 128 rfl rfl⟩
set_option maxRecDepth 100000 in
theorem pca_56 : pCaF (1, 119, 1, 17, 3, 2143, 2145, 1002, 2146, 8) := ⟨pHas 2 143 rfl rfl, pHas 2 145 rfl rfl, pHas 0 8 rfl rfl⟩
set_option maxRecDepth 100000 in
theorem pca_57 : pCaF (1, 182, 1, 18, 2, 2147, 2149, 1002, 2150, 9) := ⟨pHas 2 147 rfl rfl, pHas 2 149 rfl rfl, pHas 0 9 rfl rfl⟩
set_option maxRecDepth 100000 in
theorem pca_58 : pCaF (1, 122, 1, 73, 2, 2151, 2152, 1003, 2154, 2153) := ⟨pHas 2 151 rfl rfl, pHas 2 152 rfl rfl, pHas 2 153 rfl rfl⟩
set_option maxRecDepth 100000 in
theorem pca_59 : pCaF (1, 125, 1, 75, 2, 2155, 2156, 1003, 2158, 2157) := ⟨pHas 2 155 rfl rfl, pHas 2 156 rfl rfl, pHas 2 157 rfl rfl⟩
set_option maxRecDepth 100000 in
theorem pca_60 : pCaF (1, 112, 1, 19, 0, 2160, 2162, 1002, 2163, 10) := ⟨pHas 2 160 rfl rfl, pHas 2 162 rfl rfl, pHas 0 10 rfl rfl⟩
set_option maxRecDepth 100000 in
theorem pca_61 : pCaF (1, 179, 1, 21, 2, 2166, 2168, 1002, 2169, 11) := ⟨pHas 2 166 rfl rfl, pHas 2 168 rfl rfl, pHas 0 11 rfl rfl⟩
set_option maxRecDepth 100000 in
theorem pca_62 : pCaF (1, 190, 1, 22, 2, 2170, 2172, 1002, 2173, 12) := ⟨pHas 2 170 rfl rfl, pHas 2 172 rfl rfl, pHas 0 12 rfl rfl⟩
set_option maxRecDepth 100000 in
theorem pca_63 : pCaF (1, 168, 1, 25, 6, 2174, 2176, 1002, 2177, 13) := ⟨pHas 2 174 rfl rfl, pHas 2 176 rfl rfl, pHas 0 13 rfl rfl⟩
set_option maxRecDepth 100000 in
theorem pca_64 : pCaF (1, 193, 1, 80, 2, 2178, 2179, 1003, 2181, 2180) := ⟨pHas 2 178 rfl rfl, pHas 2 179 rfl rfl, pHas 2 180 rfl rfl⟩
set_option maxRecDepth 100000 in
theorem pca_65 : pCaF (1, 172, 1, 20, 2, 2182, 2184, 1002, 2185, 14) := ⟨pHas 2 182 rfl rfl, pHas 2 184 rfl rfl, pHas 0 14 rfl rfl⟩
set_option maxRecDepth 100000 in
theorem pca_66 : pCaF (17, 146, 1, 88, 1, 2186, 2187, 1001, 2189, 2188) := ⟨pHas 2 186 rfl rfl, pHas 2 187 rfl rfl, pHas 2 188 rfl rfl⟩
set_option maxRecDepth 100000 in
theorem pca_67 : pCaF (8, 92, 1, 71, 1, 2190, 2191, 1003, 2193, 2192) := ⟨pHas 2 190 rfl rfl, pHas 2 191 rfl rfl, pHas 2 192 rfl rfl⟩
set_option maxRecDepth 100000 in
theorem pca_68 : pCaF (8, 96, 1, 7, 1, 2194, 2195, 1002, 2197, 2196) := ⟨pHas 2 194 rfl rfl, pHas 2 195 rfl rfl, pHas 2 196 rfl rfl⟩
set_option maxRecDepth 100000 in
theorem pca_69 : pCaF (1, 128, 1, 39, 1, 2198, 2199, 1002, 2201, 2200) := ⟨pHas 2 198 rfl rfl, pHas 2 199 rfl rfl, pHas 2 200 rfl rfl⟩
set_option maxRecDepth 100000 in
theorem pca_70 : pCaF (1, 226, 1, 40, 1, 2202, 2204, 1002, 2205, 15) := ⟨pHas 2 202 rfl rfl, pHas 2 204 rfl rfl, pHas 0 15 rfl rfl⟩
set_option maxRecDepth 100000 in
theorem pca_71 : pCaF (1, 149, 1, 31, 2, 2206, 2207, 1002, 2209, 2208) := ⟨pHas 2 206 rfl rfl, pHas 2 207 rfl rfl, pHas 2 208 rfl rfl⟩
set_option maxRecDepth 100000 in
theorem pca_72 : pCaF (1, 132, 1, 67, 1, 2210, 2211, 1003, 2213, 2212) := ⟨pHas 2 210 rfl rfl, pHas 2 211 rfl rfl, pHas 2 212 rfl rfl⟩
set_option maxRecDepth 100000 in
theorem pca_73 : pCaF (1, 136, 1, 8, 1, 2214, 2216, 1002, 2217, 16) := ⟨pHas 2 214 rfl rfl, pHas 2 216 rfl rfl, pHas 0 16 rfl rfl⟩
set_option maxRecDepth 100000 in
theorem pca_74 : pCaF (1, 139, 1, 9, 2, 2218, 2220, 1002, 2221, 17) := ⟨pHas 2 218 rfl rfl, pHas 2 220 rfl rfl, pHas 0 17 rfl rfl⟩
set_option maxRecDepth 100000 in
theorem pca_75 : pCaF (17, 149, 1, 89, 3, 2222, 2223, 1001, 2225, 2224) := ⟨pHas 2 222 rfl rfl, pHas 2 223 rfl rfl, pHas 2 224 rfl rfl⟩
set_option maxRecDepth 100000 in
theorem pca_76 : pCaF (8, 100, 2, 120, 2, 2226, 2079, 1001, 2080, 0) := ⟨pHas 2 226 rfl rfl, pHas 2 79 rfl rfl⟩
set_option maxRecDepth 100000 in
theorem pca_77 : pCaF (8, 103, 1, 68, 2, 2227, 2082, 1003, 2084, 2083) := ⟨pHas 2 227 rfl rfl, pHas 2 82 rfl rfl, pHas 2 83 rfl rfl⟩
set_option maxRecDepth 100000 in
theorem pca_78 : pCaF (8, 106, 1, 5, 3, 2228, 2106, 1002, 2108, 2107) := ⟨pHas 2 228 rfl rfl, pHas 2 106 rfl rfl, pHas 2 107 rfl rfl⟩
set_option maxRecDepth 100000 in
theorem pca_79 : pCaF (17, 160, 1, 90, 2, 2229, 2230, 1001, 2232, 2231) := ⟨pHas 2 229 rfl rfl, pHas 2 230 rfl rfl, pHas 2 231 rfl rfl⟩
set_option maxRecDepth 100000 in
theorem pca_80 : pCaF (8, 110, 1, 10, 2, 2233, 2234, 1002, 2236, 2235) := ⟨pHas 2 233 rfl rfl, pHas 2 234 rfl rfl, pHas 2 235 rfl rfl⟩
set_option maxRecDepth 100000 in
theorem pca_81 : pCaF (1, 142, 1, 41, 2, 2237, 2238, 1002, 3000, 2239) := ⟨pHas 2 237 rfl rfl, pHas 2 238 rfl rfl, pHas 2 239 rfl rfl⟩
set_option maxRecDepth 100000 in
theorem pca_82 : pCaF (1, 229, 1, 81, 3, 3001, 3002, 1003, 3004, 3003) := ⟨pHas 3 1 rfl rfl, pHas 3 2 rfl rfl, pHas 3 3 rfl rfl⟩
set_option maxRecDepth 100000 in
theorem pca_83 : pCaF (5, 82, 1, 78, 3, 3005, 2139, 1003, 2141, 2140) := ⟨pHas 3 5 rfl rfl, pHas 2 139 rfl rfl, pHas 2 140 rfl rfl⟩
set_option maxRecDepth 100000 in
theorem pca_84 : pCaF (1, 158, 1, 83, 4, 3006, 3007, 1003, 3009, 3008) := ⟨pHas 3 6 rfl rfl, pHas 3 7 rfl rfl, pHas 3 8 rfl rfl⟩
set_option maxRecDepth 100000 in
theorem pca_85 : pCaF (5, 92, 1, 82, 6, 3010, 3011, 1003, 3013, 3012) := ⟨pHas 3 10 rfl rfl, pHas 3 11 rfl rfl, pHas 3 12 rfl rfl⟩
set_option maxRecDepth 100000 in
theorem pca_86 : pCaF (5, 85, 4, 122, 2, 3014, 3015, 1001, 3016, 0) := ⟨pHasN 3 14 rfl rfl, pHas 3 15 rfl rfl⟩
set_option maxRecDepth 100000 in
theorem pca_87 : pCaF (5, 88, 4, 121, 6, 3017, 3018, 1001, 3019, 0) := ⟨pHasN 3 17 rfl rfl, pHas 3 18 rfl rfl⟩
set_option maxRecDepth 100000 in
theorem pca_88 : pCaF (8, 113, 1, 11, 2, 3020, 3021, 1002, 3023, 3022) := ⟨pHas 3 20 rfl rfl, pHas 3 21 rfl rfl, pHas 3 22 rfl rfl⟩
set_option maxRecDepth 100000 in
theorem pca_89 : pCaF (1, 145, 1, 24, 2, 3024, 3026, 1002, 3027, 18) := ⟨pHas 3 24 rfl rfl, pHas 3 26 rfl rfl, pHas 0 18 rfl rfl⟩
set_option maxRecDepth 100000 in
theorem pca_90 : pCaF (1, 196, 2, 139, 1, 3028, 3029, 1014, 3030, 0) := ⟨pHas 3 28 rfl rfl, pHas 3 29 rfl rfl⟩
set_option maxRecDepth 100000 in
theorem pca_91 : pCaF (1, 152, 1, 12, 2, 3031, 3033, 1002, 3034, 19) := ⟨pHas 3 31 rfl rfl, pHas 3 33 rfl rfl, pHas 0 19 rfl rfl⟩
set_option maxRecDepth 100000 in
theorem pca_92 : pCaF (17, 167, 1, 91, 2, 3035, 3036, 1001, 3038, 3037) := ⟨pHas 3 35 rfl rfl, pHas 3 36 rfl rfl, pHas 3 37 rfl rfl⟩
set_option maxRecDepth 100000 in
theorem pca_93 : pCaF (8, 117, 1, 13, 2, 3039, 3040, 1002, 3042, 3041) := ⟨pHas 3 39 rfl rfl, pHas 3 40 rfl rfl, pHas 3 41 rfl rfl⟩
set_option maxRecDepth 100000 in
theorem pca_94 : pCaF (8, 120, 1, 14, 2, 3043, 3044, 1002, 3046, 3045) := ⟨pHas 3 43 rfl rfl, pHas 3 44 rfl rfl, pHas 3 45 rfl rfl⟩
set_option maxRecDepth 100000 in
theorem pca_95 : pCaF (17, 172, 1, 92, 2, 3047, 3048, 1001, 3050, 3049) := ⟨pHas 3 47 rfl rfl, pHas 3 48 rfl rfl, pHas 3 49 rfl rfl⟩
set_option maxRecDepth 100000 in
theorem pca_96 : pCaF (8, 123, 1, 76, 1, 3051, 3052, 1003, 3054, 3053) := ⟨pHas 3 51 rfl rfl, pHas 3 52 rfl rfl, pHas 3 53 rfl rfl⟩
set_option maxRecDepth 100000 in
theorem pca_97 : pCaF (17, 175, 1, 93, 2, 3055, 3056, 1001, 3058, 3057) := ⟨pHas 3 55 rfl rfl, pHas 3 56 rfl rfl, pHas 3 57 rfl rfl⟩
set_option maxRecDepth 100000 in
theorem pca_98 : pCaF (8, 127, 1, 64, 1, 3059, 2016, 1003, 2018, 2017) := ⟨pHas 3 59 rfl rfl, pHas 2 16 rfl rfl, pHas 2 17 rfl rfl⟩
set_option maxRecDepth 100000 in
theorem pca_99 : pCaF (17, 189, 1, 96, 0, 3060, 3061, 1001, 3063, 3062) := ⟨pHas 3 60 rfl rfl, pHas 3 61 rfl rfl, pHas 3 62 rfl rfl⟩
set_option maxRecDepth 100000 in
theorem pca_100 : pCaF (8, 158, 1, 97, 1, 3064, 3066, 1001, 3067, 20) := ⟨pHas 3 64 rfl rfl, pHas 3 66 rfl rfl, pHas 0 20 rfl rfl⟩
set_option maxRecDepth 100000 in
theorem pca_101 : pCaF (8, 161, 1, 39, 1, 3068, 2199, 1002, 2201, 2200) := ⟨pHas 3 68 rfl rfl, pHas 2 199 rfl rfl, pHas 2 200 rfl rfl⟩
set_option maxRecDepth 100000 in
theorem pca_102 : pCaF (8, 150, 2, 138, 2, 3069, 3070, 1014, 3071, 0) := ⟨pHas 3 69 rfl rfl, pHas 3 70 rfl rfl⟩
set_option maxRecDepth 100000 in
theorem pca_103 : pCaF (17, 192, 1, 98, 2, 3072, 3073, 1001, 3075, 3074) := ⟨pHas 3 72 rfl rfl, pHas 3 73 rfl rfl, pHas 3 74 rfl rfl⟩
set_option maxRecDepth 100000 in
theorem pca_104 : pCaF (17, 195, 1, 99, 0, 3076, 3077, 1001, 3079, 3078) := ⟨pHas 3 76 rfl rfl, pHas 3 77 rfl rfl, pHas 3 78 rfl rfl⟩
set_option maxRecDepth 100000 in
theorem pca_105 : pCaF (17, 198, 1, 100, 1, 3080, 3081, 1001, 3083, 3082) := ⟨pHas 3 80 rfl rfl, pHas 3 81 rfl rfl, pHas 3 82 rfl rfl⟩
set_option maxRecDepth 100000 in
theorem pca_106 : pCaF (17, 201, 1, 101, 0, 3084, 3085, 1001, 3087, 3086) := ⟨pHas 3 84 rfl rfl, pHas 3 85 rfl rfl, pHas 3 86 rfl rfl⟩
set_option maxRecDepth 100000 in
theorem pca_107 : pCaF (8, 180, 1, 53, 1, 3088, 3089, 1004, 3091, 3090) := ⟨pHas 3 88 rfl rfl, pHas 3 89 rfl rfl, pHas 3 90 rfl rfl⟩
set_option maxRecDepth 100000 in
theorem pca_108 : pCaF (3, 36, 1, 55, 1, 3092, 3093, 1004, 3095, 3094) := ⟨pHas 3 92 rfl rfl, pHas 3 93 rfl rfl, pHas 3 94 rfl rfl⟩
set_option maxRecDepth 100000 in
theorem pca_109 : pCaF (3, 57, 1, 63, 4, 3096, 3097, 1003, 3099, 3098) := ⟨pHas 3 96 rfl rfl, pHas 3 97 rfl rfl, pHas 3 98 rfl rfl⟩
set_option maxRecDepth 100000 in
theorem pca_110 : pCaF (3, 60, 1, 3, 3, 3100, 3101, 1002, 3103, 3102) := ⟨pHas 3 100 rfl rfl, pHas 3 101 rfl rfl, pHas 3 102 rfl rfl⟩
set_option maxRecDepth 100000 in
theorem pca_111 : pCaF (17, 204, 1, 102, 0, 3104, 3105, 1001, 3107, 3106) := ⟨pHas 3 104 rfl rfl, pHas 3 105 rfl rfl, pHas 3 106 rfl rfl⟩
set_option maxRecDepth 100000 in
theorem pca_112 : pCaF (17, 207, 1, 103, 0, 3108, 3109, 1001, 3111, 3110) := ⟨pHas 3 108 rfl rfl, pHas 3 109 rfl rfl, pHas 3 110 rfl rfl⟩
set_option maxRecDepth 100000 in
theorem pca_113 : pCaF (8, 187, 1, 56, 1, 3112, 3113, 1004, 3115, 3114) := ⟨pHas 3 112 rfl rfl, pHas 3 113 rfl rfl, pHas 3 114 rfl rfl⟩
set_option maxRecDepth 100000 in
theorem pca_114 : pCaF (8, 191, 1, 65, 0, 3116, 3117, 1003, 3119, 3118) := ⟨pHas 3 116 rfl rfl, pHas 3 117 rfl rfl, pHas 3 118 rfl rfl⟩
set_option maxRecDepth 100000 in
theorem pca_115 : pCaF (5, 48, 2, 137, 1, 3120, 3121, 1013, 3122, 0) := ⟨pHas 3 120 rfl rfl, pHas 3 121 rfl rfl⟩
set_option maxRecDepth 100000 in
theorem pca_116 : pCaF (17, 210, 1, 104, 0, 3126, 3127, 1001, 3129, 3128) := ⟨pHas 3 126 rfl rfl, pHas 3 127 rfl rfl, pHas 3 128 rfl rfl⟩
set_option maxRecDepth 100000 in
theorem pca_117 : pCaF (8, 194, 1, 55, 1, 3130, 3093, 1004, 3095, 3094) := ⟨pHas 3 130 rfl rfl, pHas 3 93 rfl rfl, pHas 3 94 rfl rfl⟩
set_option maxRecDepth 100000 in
theorem pca_118 : pCaF (17, 58, 1, 113, 2, 3131, 3132, 1001, 3134, 3133) := ⟨pHas 3 131 rfl rfl, pHas 3 132 rfl rfl, pHas 3 133 rfl rfl⟩
set_option maxRecDepth 100000 in
theorem pca_119 : pCaF (8, 264, 1, 31, 2, 3135, 2207, 1002, 2209, 2208) := ⟨pHas 3 135 rfl rfl, pHas 2 207 rfl rfl, pHas 2 208 rfl rfl⟩
set_option maxRecDepth 100000 in
theorem pca_120 : pCaF (17, 120, 3, 123, 0, 3138, 3139, 1012, 3140, 0) := ⟨pHas 3 138 rfl rfl, pHas 3 139 rfl rfl, rfl, rfl⟩
set_option maxRecDepth 100000 in
theorem pca_121 : pCaF (9, 1, 0, 0, 0, 3141, 1022, 0, 0, 0) := ⟨pHas 3 141 rfl rfl, pHas 1 22 rfl rfl⟩
set_option maxRecDepth 100000 in
theorem pca_122 : pCaF (9, 26, 1, 125, 3, 3145, 3146, 1012, 3148, 3147) := ⟨pHas 3 145 rfl rfl, pHas 3 146 rfl rfl, pHas 3 147 rfl rfl⟩
set_option maxRecDepth 100000 in
theorem pca_123 : pCaF (17, 128, 1, 124, 0, 3166, 3167, 1012, 3169, 3168) := ⟨pHas 3 166 rfl rfl, pHas 3 167 rfl rfl, pHas 3 168 rfl rfl⟩
set_option maxRecDepth 100000 in
theorem pca_124 : pCaF (9, 30, 3, 123, 0, 3171, 3139, 1012, 3140, 0) := ⟨pHas 3 171 rfl rfl, pHas 3 139 rfl rfl, rfl, rfl⟩
set_option maxRecDepth 100000 in
theorem pca_125 : pCaF (9, 31, 9, 0, 0, 3172, 3174, 3175, 3173, 3176) := ⟨pHas 3 172 rfl rfl, pHas 3 174 rfl rfl, pHas 3 175 rfl rfl, pHas 3 173 rfl rfl, pHas 3 176 rfl rfl⟩
set_option maxRecDepth 100000 in
theorem pca_126 : pCaF (17, 163, 1, 125, 3, 3178, 3146, 1012, 3148, 3147) := ⟨pHas 3 178 rfl rfl, pHas 3 146 rfl rfl, pHas 3 147 rfl rfl⟩
set_option maxRecDepth 100000 in
theorem pca_127 : pCaF (17, 136, 1, 126, 2, 3179, 3180, 1012, 3182, 3181) := ⟨pHas 3 179 rfl rfl, pHas 3 180 rfl rfl, pHas 3 181 rfl rfl⟩
set_option maxRecDepth 100000 in
theorem pca_128 : pCaF (17, 132, 1, 127, 0, 3183, 3184, 1012, 3186, 3185) := ⟨pHas 3 183 rfl rfl, pHas 3 184 rfl rfl, pHas 3 185 rfl rfl⟩
set_option maxRecDepth 100000 in
theorem pca_129 : pCaF (17, 153, 1, 129, 4, 3187, 3188, 1012, 3190, 3189) := ⟨pHas 3 187 rfl rfl, pHas 3 188 rfl rfl, pHas 3 189 rfl rfl⟩
set_option maxRecDepth 100000 in
theorem pca_130 : pCaF (9, 50, 1, 128, 4, 3191, 3192, 1012, 3194, 3193) := ⟨pHas 3 191 rfl rfl, pHas 3 192 rfl rfl, pHas 3 193 rfl rfl⟩
set_option maxRecDepth 100000 in
theorem pca_131 : pCaF (9, 35, 4, 146, 4, 3195, 3196, 1000, 3197, 0) := ⟨pHasN 3 195 rfl rfl, pHas 3 196 rfl rfl⟩
set_option maxRecDepth 100000 in
theorem pca_132 : pCaF (9, 41, 2, 142, 2, 3198, 3199, 1014, 3200, 0) := ⟨pHas 3 198 rfl rfl, pHas 3 199 rfl rfl⟩
set_option maxRecDepth 100000 in
theorem pca_133 : pCaF (9, 47, 2, 140, 2, 3201, 3202, 1014, 3203, 0) := ⟨pHas 3 201 rfl rfl, pHas 3 202 rfl rfl⟩
set_option maxRecDepth 100000 in
theorem pca_134 : pCaF (17, 139, 1, 130, 2, 3204, 3205, 1012, 3207, 3206) := ⟨pHas 3 204 rfl rfl, pHas 3 205 rfl rfl, pHas 3 206 rfl rfl⟩
set_option maxRecDepth 100000 in
theorem pca_135 : pCaF (9, 54, 1, 127, 0, 3208, 3184, 1012, 3186, 3185) := ⟨pHas 3 208 rfl rfl, pHas 3 184 rfl rfl, pHas 3 185 rfl rfl⟩
set_option maxRecDepth 100000 in
theorem pca_136 : pCaF (9, 58, 1, 126, 2, 3209, 3180, 1012, 3182, 3181) := ⟨pHas 3 209 rfl rfl, pHas 3 180 rfl rfl, pHas 3 181 rfl rfl⟩
set_option maxRecDepth 100000 in
theorem pca_137 : pCaF (9, 61, 1, 129, 4, 3210, 3188, 1012, 3190, 3189) := ⟨pHas 3 210 rfl rfl, pHas 3 188 rfl rfl, pHas 3 189 rfl rfl⟩
set_option maxRecDepth 100000 in
theorem pca_138 : pCaF (17, 142, 1, 131, 1, 3211, 3212, 1012, 3214, 3213) := ⟨pHas 3 211 rfl rfl, pHas 3 212 rfl rfl, pHas 3 213 rfl rfl⟩
set_option maxRecDepth 100000 in
theorem pca_139 : pCaF (17, 157, 1, 132, 2, 3215, 3216, 1012, 3218, 3217) := ⟨pHas 3 215 rfl rfl, pHas 3 216 rfl rfl, pHas 3 217 rfl rfl⟩
set_option maxRecDepth 100000 in
theorem pca_140 : pCaF (9, 65, 4, 148, 4, 3219, 3220, 1000, 3221, 0) := ⟨pHasN 3 219 rfl rfl, pHas 3 220 rfl rfl⟩
set_option maxRecDepth 100000 in
theorem pca_141 : pCaF (17, 20, 2, 147, 3, 3222, 3223, 1000, 3224, 0) := ⟨pHas 3 222 rfl rfl, pHas 3 223 rfl rfl⟩
set_option maxRecDepth 100000 in
theorem pca_142 : pCaF (17, 8, 2, 146, 4, 3225, 3196, 1000, 3197, 0) := ⟨pHas 3 225 rfl rfl, pHas 3 196 rfl rfl⟩
set_option maxRecDepth 100000 in
theorem pca_143 : pCaF (17, 14, 2, 136, 1, 3226, 3227, 1015, 3228, 0) := ⟨pHas 3 226 rfl rfl, pHas 3 227 rfl rfl⟩
set_option maxRecDepth 100000 in
theorem pca_144 : pCaF (17, 169, 1, 133, 1, 3229, 3230, 1012, 3232, 3231) := ⟨pHas 3 229 rfl rfl, pHas 3 230 rfl rfl, pHas 3 231 rfl rfl⟩
set_option maxRecDepth 100000 in
theorem pca_145 : pCaF (17, 124, 2, 145, 2, 3233, 3234, 1000, 3235, 0) := ⟨pHas 3 233 rfl rfl, pHas 3 234 rfl rfl⟩
set_option maxRecDepth 100000 in
theorem pca_146 : pCaF (17, 121, 2, 154, 2, 3237, 3238, 1000, 3239, 0) := ⟨pHas 3 237 rfl rfl, pHas 3 238 rfl rfl⟩
set_option maxRecDepth 100000 in
theorem pca_147 : pCaF (17, 102, 1, 107, 2, 4000, 4001, 1001, 4003, 4002) := ⟨pHas 4 0 rfl rfl, pHas 4 1 rfl rfl, pHas 4 2 rfl rfl⟩
set_option maxRecDepth 100000 in
theorem pca_148 : pCaF (8, 237, 2, 137, 1, 4005, 3121, 1013, 3122, 0) := ⟨pHas 4 5 rfl rfl, pHas 3 121 rfl rfl⟩
set_option maxRecDepth 100000 in
theorem pca_149 : pCaF (8, 246, 1, 72, 1, 4006, 4007, 1003, 4009, 4008) := ⟨pHas 4 6 rfl rfl, pHas 4 7 rfl rfl, pHas 4 8 rfl rfl⟩
set_option maxRecDepth 100000 in
theorem pca_150 : pCaF (5, 72, 2, 139, 1, 4010, 3029, 1014, 3030, 0) := ⟨pHas 4 10 rfl rfl, pHas 3 29 rfl rfl⟩
set_option maxRecDepth 100000 in
theorem pca_151 : pCaF (17, 106, 1, 115, 2, 4012, 4013, 1001, 4015, 4014) := ⟨pHas 4 12 rfl rfl, pHas 4 13 rfl rfl, pHas 4 14 rfl rfl⟩
set_option maxRecDepth 100000 in
theorem pca_152 : pCaF (17, 109, 2, 139, 1, 4016, 3029, 1014, 3030, 0) := ⟨pHas 4 16 rfl rfl, pHas 3 29 rfl rfl⟩
set_option maxRecDepth 100000 in
theorem pca_153 : pCaF (17, 112, 1, 108, 2, 4017, 4018, 1001, 4020, 4019) := ⟨pHas 4 17 rfl rfl, pHas 4 18 rfl rfl, pHas 4 19 rfl rfl⟩
set_option maxRecDepth 100000 in
theorem pca_154 : pCaF (17, 115, 2, 151, 2, 4021, 4022, 1000, 4023, 0) := ⟨pHas 4 21 rfl rfl, pHas 4 22 rfl rfl⟩
set_option maxRecDepth 100000 in
theorem pca_155 : pCaF (17, 28, 1, 105, 1, 4024, 4025, 1001, 4027, 4026) := ⟨pHas 4 24 rfl rfl, pHas 4 25 rfl rfl, pHas 4 26 rfl rfl⟩
set_option maxRecDepth 100000 in
theorem pca_156 : pCaF (8, 207, 1, 42, 0, 4028, 4029, 1002, 4031, 4030) := ⟨pHas 4 28 rfl rfl, pHas 4 29 rfl rfl, pHas 4 30 rfl rfl⟩
set_option maxRecDepth 100000 in
theorem pca_157 : pCaF (8, 210, 1, 43, 0, 4032, 4033, 1002, 4035, 4034) := ⟨pHas 4 32 rfl rfl, pHas 4 33 rfl rfl, pHas 4 34 rfl rfl⟩
set_option maxRecDepth 100000 in
theorem pca_158 : pCaF (8, 213, 1, 45, 0, 4036, 4037, 1002, 4039, 4038) := ⟨pHas 4 36 rfl rfl, pHas 4 37 rfl rfl, pHas 4 38 rfl rfl⟩
set_option maxRecDepth 100000 in
theorem pca_159 : pCaF (1, 236, 1, 44, 1, 4040, 4041, 1002, 4043, 4042) := ⟨pHas 4 40 rfl rfl, pHas 4 41 rfl rfl, pHas 4 42 rfl rfl⟩
set_option maxRecDepth 100000 in
theorem pca_160 : pCaF (8, 216, 1, 46, 1, 4044, 4045, 1002, 4047, 4046) := ⟨pHas 4 44 rfl rfl, pHas 4 45 rfl rfl, pHas 4 46 rfl rfl⟩
set_option maxRecDepth 100000 in
theorem pca_161 : pCaF (1, 239, 1, 47, 1, 4048, 4049, 1002, 4051, 4050) := ⟨pHas 4 48 rfl rfl, pHas 4 49 rfl rfl, pHas 4 50 rfl rfl⟩
set_option maxRecDepth 100000 in
theorem pca_162 : pCaF (1, 242, 1, 36, 2, 4052, 4053, 1002, 4055, 4054) := ⟨pHas 4 52 rfl rfl, pHas 4 53 rfl rfl, pHas 4 54 rfl rfl⟩
set_option maxRecDepth 100000 in
theorem pca_163 : pCaF (1, 213, 1, 79, 2, 4056, 4057, 1003, 4059, 4058) := ⟨pHas 4 56 rfl rfl, pHas 4 57 rfl rfl, pHas 4 58 rfl rfl⟩
set_option maxRecDepth 100000 in
theorem pca_164 : pCaF (1, 245, 2, 134, 2, 4060, 4061, 1015, 4062, 0) := ⟨pHas 4 60 rfl rfl, pHas 4 61 rfl rfl⟩
set_option maxRecDepth 100000 in
theorem pca_165 : pCaF (8, 219, 1, 118, 0, 4063, 4065, 1001, 4066, 21) := ⟨pHas 4 63 rfl rfl, pHas 4 65 rfl rfl, pHas 0 21 rfl rfl⟩
set_option maxRecDepth 100000 in
theorem pca_166 : pCaF (8, 363, 1, 119, 1, 4067, 4069, 1001, 4070, 22) := ⟨pHas 4 67 rfl rfl, pHas 4 69 rfl rfl, pHas 0 22 rfl rfl⟩
set_option maxRecDepth 100000 in
theorem pca_167 : pCaF (8, 366, 2, 140, 2, 4071, 3202, 1014, 3203, 0) := ⟨pHas 4 71 rfl rfl, pHas 3 202 rfl rfl⟩
set_option maxRecDepth 100000 in
theorem pca_168 : pCaF (8, 222, 1, 106, 1, 4072, 4074, 1001, 4075, 23) := ⟨pHas 4 72 rfl rfl, pHas 4 74 rfl rfl, pHas 0 23 rfl rfl⟩
set_option maxRecDepth 100000 in
theorem pca_169 : pCaF (8, 225, 1, 58, 1, 4076, 4077, 1005, 4079, 4078) := ⟨pHas 4 76 rfl rfl, pHas 4 77 rfl rfl, pHas 4 78 rfl rfl⟩
set_option maxRecDepth 100000 in
theorem pca_170 : pCaF (4, 25, 2, 144, 2, 4080, 1234, 1010, 1235, 0) := ⟨pHas 4 80 rfl rfl, pHas 1 234 rfl rfl⟩
set_option maxRecDepth 100000 in
theorem pca_171 : pCaF (4, 36, 1, 59, 2, 4081, 4083, 1005, 4084, 24) := ⟨pHas 4 81 rfl rfl, pHas 4 83 rfl rfl, pHas 0 24 rfl rfl⟩
set_option maxRecDepth 100000 in
theorem pca_172 : pCaF (4, 59, 1, 33, 2, 4085, 4086, 1002, 4088, 4087) := ⟨pHas 4 85 rfl rfl, pHas 4 86 rfl rfl, pHas 4 87 rfl rfl⟩
set_option maxRecDepth 100000 in
theorem pca_173 : pCaF (4, 63, 1, 32, 2, 4089, 4090, 1002, 4092, 4091) := ⟨pHas 4 89 rfl rfl, pHas 4 90 rfl rfl, pHas 4 91 rfl rfl⟩
set_option maxRecDepth 100000 in
theorem pca_174 : pCaF (4, 55, 1, 38, 2, 4093, 2110, 1002, 2112, 2111) := ⟨pHas 4 93 rfl rfl, pHas 2 110 rfl rfl, pHas 2 111 rfl rfl⟩
set_option maxRecDepth 100000 in
theorem pca_175 : pCaF (8, 229, 1, 60, 0, 4094, 4095, 1005, 4097, 4096) := ⟨pHas 4 94 rfl rfl, pHas 4 95 rfl rfl, pHas 4 96 rfl rfl⟩
set_option maxRecDepth 100000 in
theorem pca_176 : pCaF (17, 35, 1, 109, 2, 4099, 4100, 1001, 4102, 4101) := ⟨pHas 4 99 rfl rfl, pHas 4 100 rfl rfl, pHas 4 101 rfl rfl⟩
set_option maxRecDepth 100000 in
theorem pca_177 : pCaF (8, 249, 1, 29, 1, 4103, 4104, 1002, 4106, 4105) := ⟨pHas 4 103 rfl rfl, pHas 4 104 rfl rfl, pHas 4 105 rfl rfl⟩
set_option maxRecDepth 100000 in
theorem pca_178 : pCaF (8, 144, 1, 30, 2, 4107, 2123, 1002, 2125, 2124) := ⟨pHas 4 107 rfl rfl, pHas 2 123 rfl rfl, pHas 2 124 rfl rfl⟩
set_option maxRecDepth 100000 in
theorem pca_179 : pCaF (17, 44, 2, 153, 2, 4108, 4109, 1000, 4110, 0) := ⟨pHas 4 108 rfl rfl, pHas 4 109 rfl rfl⟩
set_option maxRecDepth 100000 in
theorem pca_180 : pCaF (17, 48, 1, 111, 1, 4111, 4112, 1001, 4114, 4113) := ⟨pHas 4 111 rfl rfl, pHas 4 112 rfl rfl, pHas 4 113 rfl rfl⟩
set_option maxRecDepth 100000 in
theorem pca_181 : pCaF (8, 255, 1, 34, 1, 4115, 4116, 1002, 4118, 4117) := ⟨pHas 4 115 rfl rfl, pHas 4 116 rfl rfl, pHas 4 117 rfl rfl⟩
set_option maxRecDepth 100000 in
theorem pca_182 : pCaF (17, 51, 1, 112, 3, 4119, 4120, 1001, 4122, 4121) := ⟨pHas 4 119 rfl rfl, pHas 4 120 rfl rfl, pHas 4 121 rfl rfl⟩
set_option maxRecDepth 100000 in
theorem pca_183 : pCaF (17, 62, 1, 114, 2, 4123, 4124, 1001, 4126, 4125) := ⟨pHas 4 123 rfl rfl, pHas 4 124 rfl rfl, pHas 4 125 rfl rfl⟩
set_option maxRecDepth 100000 in
theorem pca_184 : pCaF (8, 267, 1, 73, 2, 4127, 2152, 1003, 2154, 2153) := ⟨pHas 4 127 rfl rfl, pHas 2 152 rfl rfl, pHas 2 153 rfl rfl⟩
set_option maxRecDepth 100000 in
theorem pca_185 : pCaF (17, 65, 2, 149, 4, 4128, 4129, 1000, 4130, 0) := ⟨pHas 4 128 rfl rfl, pHas 4 129 rfl rfl⟩
set_option maxRecDepth 100000 in
theorem pca_186 : pCaF (17, 69, 2, 150, 2, 4134, 4135, 1000, 4136, 0) := ⟨pHas 4 134 rfl rfl, pHas 4 135 rfl rfl⟩
set_option maxRecDepth 100000 in
theorem pca_187 : pCaF (17, 73, 1, 110, 2, 4137, 4138, 1001, 4140, 4139) := ⟨pHas 4 137 rfl rfl, pHas 4 138 rfl rfl, pHas 4 139 rfl rfl⟩
set_option maxRecDepth 100000 in
theorem pca_188 : pCaF (8, 252, 1, 32, 2, 4141, 4090, 1002, 4092, 4091) := ⟨pHas 4 141 rfl rfl, pHas 4 90 rfl rfl, pHas 4 91 rfl rfl⟩
set_option maxRecDepth 100000 in
theorem pca_189 : pCaF (17, 76, 2, 152, 3, 4142, 4143, 1000, 4144, 0) := ⟨pHas 4 142 rfl rfl, pHas 4 143 rfl rfl⟩
set_option maxRecDepth 100000 in
theorem pca_190 : pCaF (17, 99, 2, 141, 2, 4145, 4146, 1014, 4147, 0) := ⟨pHas 4 145 rfl rfl, pHas 4 146 rfl rfl⟩
set_option maxRecDepth 100000 in
theorem pca_191 : pCaF (17, 80, 2, 135, 1, 4148, 4149, 1015, 4150, 0) := ⟨pHas 4 148 rfl rfl, pHas 4 149 rfl rfl⟩
set_option maxRecDepth 100000 in
theorem pca_192 : pCaF (17, 83, 1, 117, 1, 4152, 4153, 1001, 4155, 4154) := ⟨pHas 4 152 rfl rfl, pHas 4 153 rfl rfl, pHas 4 154 rfl rfl⟩
set_option maxRecDepth 100000 in
theorem pca_193 : pCaF (17, 86, 2, 140, 2, 4156, 3202, 1014, 3203, 0) := ⟨pHas 4 156 rfl rfl, pHas 3 202 rfl rfl⟩
set_option maxRecDepth 100000 in
theorem pca_194 : pCaF (17, 186, 2, 155, 2, 4158, 4159, 1000, 4160, 0) := ⟨pHas 4 158 rfl rfl, pHas 4 159 rfl rfl⟩
set_option maxRecDepth 100000 in
theorem pca_195 : pCaF (17, 178, 2, 156, 3, 4161, 4162, 1000, 4163, 0) := ⟨pHas 4 161 rfl rfl, pHas 4 162 rfl rfl⟩
set_option maxRecDepth 100000 in
theorem pca_196 : pCaF (17, 182, 2, 157, 1, 4164, 4165, 1000, 4166, 0) := ⟨pHas 4 164 rfl rfl, pHas 4 165 rfl rfl⟩
set_option maxRecDepth 100000 in
theorem pca_197 : pCaF (17, 213, 1, 116, 0, 4167, 4168, 1001, 4170, 4169) := ⟨pHas 4 167 rfl rfl, pHas 4 168 rfl rfl, pHas 4 169 rfl rfl⟩
set_option maxRecDepth 100000 in
theorem pca_198 : pCaF (8, 137, 1, 48, 0, 4171, 4172, 1002, 4174, 4173) := ⟨pHas 4 171 rfl rfl, pHas 4 172 rfl rfl, pHas 4 173 rfl rfl⟩
set_option maxRecDepth 100000 in
theorem pca_199 : pCaF (1, 250, 1, 34, 1, 4175, 4116, 1002, 4118, 4117) := ⟨pHas 4 175 rfl rfl, pHas 4 116 rfl rfl, pHas 4 117 rfl rfl⟩
set_option maxRecDepth 100000 in
theorem pca_200 : pCaF (17, 216, 1, 94, 1, 4176, 4177, 1001, 4179, 4178) := ⟨pHas 4 176 rfl rfl, pHas 4 177 rfl rfl, pHas 4 178 rfl rfl⟩
set_option maxRecDepth 100000 in
theorem pca_201 : pCaF (8, 133, 1, 95, 0, 4180, 4182, 1001, 4183, 25) := ⟨pHas 4 180 rfl rfl, pHas 4 182 rfl rfl, pHas 0 25 rfl rfl⟩
set_option maxRecDepth 100000 in
theorem pca_202 : pCaF (8, 141, 1, 47, 1, 4184, 4049, 1002, 4051, 4050) := ⟨pHas 4 184 rfl rfl, pHas 4 49 rfl rfl, pHas 4 50 rfl rfl⟩
set_option maxRecDepth 100000 in
theorem pCa_c0 : ∀ q ∈ pCaL0, pCaF q := List.forall_mem_cons.mpr ⟨pca_0, List.forall_mem_cons.mpr ⟨pca_1, List.forall_mem_cons.mpr ⟨pca_2, List.forall_mem_cons.mpr ⟨pca_3, List.forall_mem_cons.mpr ⟨pca_4, List.forall_mem_cons.mpr ⟨pca_5, List.forall_mem_cons.mpr ⟨pca_6, List.forall_mem_cons.mpr ⟨pca_7, List.forall_mem_cons.mpr ⟨pca_8, List.forall_mem_cons.mpr ⟨pca_9, List.forall_mem_cons.mpr ⟨pca_10, List.forall_mem_cons.mpr ⟨pca_11, List.forall_mem_cons.mpr ⟨pca_12, List.forall_mem_cons.mpr ⟨pca_13, List.forall_mem_cons.mpr ⟨pca_14, List.forall_mem_cons.mpr ⟨pca_15, List.forall_mem_cons.mpr ⟨pca_16, List.forall_mem_cons.mpr ⟨pca_17, List.forall_mem_cons.mpr ⟨pca_18, List.forall_mem_cons.mpr ⟨pca_19, List.forall_mem_cons.mpr ⟨pca_20, List.forall_mem_cons.mpr ⟨pca_21, List.forall_mem_cons.mpr ⟨pca_22, List.forall_mem_cons.mpr ⟨pca_23, List.forall_mem_cons.mpr ⟨pca_24, (fun _ h => absurd h List.not_mem_nil)⟩⟩⟩⟩⟩⟩⟩⟩⟩⟩⟩⟩⟩⟩⟩⟩⟩⟩⟩⟩⟩⟩⟩⟩⟩
set_option maxRecDepth 100000 in
theorem pCa_c1 : ∀ q ∈ pCaL1, pCaF q := List.forall_mem_cons.mpr ⟨pca_25, List.forall_mem_cons.mpr ⟨pca_26, List.forall_mem_cons.mpr ⟨pca_27, List.forall_mem_cons.mpr ⟨pca_28, List.forall_mem_cons.mpr ⟨pca_29, List.forall_mem_cons.mpr ⟨pca_30, List.forall_mem_cons.mpr ⟨pca_31, List.forall_mem_cons.mpr ⟨pca_32, List.forall_mem_cons.mpr ⟨pca_33, List.forall_mem_cons.mpr ⟨pca_34, List.forall_mem_cons.mpr ⟨pca_35, List.forall_mem_cons.mpr ⟨pca_36, List.forall_mem_cons.mpr ⟨pca_37, List.forall_mem_cons.mpr ⟨pca_38, List.forall_mem_cons.mpr ⟨pca_39, List.forall_mem_cons.mpr ⟨pca_40, List.forall_mem_cons.mpr ⟨pca_41, List.forall_mem_cons.mpr ⟨pca_42, List.forall_mem_cons.mpr ⟨pca_43, List.forall_mem_cons.mpr ⟨pca_44, List.forall_mem_cons.mpr ⟨pca_45, List.forall_mem_cons.mpr ⟨pca_46, List.forall_mem_cons.mpr ⟨pca_47, List.forall_mem_cons.mpr ⟨pca_48, List.forall_mem_cons.mpr ⟨pca_49, (fun _ h => absurd h List.not_mem_nil)⟩⟩⟩⟩⟩⟩⟩⟩⟩⟩⟩⟩⟩⟩⟩⟩⟩⟩⟩⟩⟩⟩⟩⟩⟩
set_option maxRecDepth 100000 in
theorem pCa_c2 : ∀ q ∈ pCaL2, pCaF q := List.forall_mem_cons.mpr ⟨pca_50, List.forall_mem_cons.mpr ⟨pca_51, List.forall_mem_cons.mpr ⟨pca_52, List.forall_mem_cons.mpr ⟨pca_53, List.forall_mem_cons.mpr ⟨pca_54, List.forall_mem_cons.mpr ⟨pca_55, List.forall_mem_cons.mpr ⟨pca_56, List.forall_mem_cons.mpr ⟨pca_57, List.forall_mem_cons.mpr ⟨pca_58, List.forall_mem_cons.mpr ⟨pca_59, List.forall_mem_cons.mpr ⟨pca_60, List.forall_mem_cons.mpr ⟨pca_61, List.forall_mem_cons.mpr ⟨pca_62, List.forall_mem_cons.mpr ⟨pca_63, List.forall_mem_cons.mpr ⟨pca_64, List.forall_mem_cons.mpr ⟨pca_65, List.forall_mem_cons.mpr ⟨pca_66, List.forall_mem_cons.mpr ⟨pca_67, List.forall_mem_cons.mpr ⟨pca_68, List.forall_mem_cons.mpr ⟨pca_69, List.forall_mem_cons.mpr ⟨pca_70, List.forall_mem_cons.mpr ⟨pca_71, List.forall_mem_cons.mpr ⟨pca_72, List.forall_mem_cons.mpr ⟨pca_73, List.forall_mem_cons.mpr ⟨pca_74, (fun _ h => absurd h List.not_mem_nil)⟩⟩⟩⟩⟩⟩⟩⟩⟩⟩⟩⟩⟩⟩⟩⟩⟩⟩⟩⟩⟩⟩⟩⟩⟩
set_option maxRecDepth 100000 in
theorem pCa_c3 : ∀ q ∈ pCaL3, pCaF q := List.forall_mem_cons.mpr ⟨pca_75, List.forall_mem_cons.mpr ⟨pca_76, List.forall_mem_cons.mpr ⟨pca_77, List.forall_mem_cons.mpr ⟨pca_78, List.forall_mem_cons.mpr ⟨pca_79, List.forall_mem_cons.mpr ⟨pca_80, List.forall_mem_cons.mpr ⟨pca_81, List.forall_mem_cons.mpr ⟨pca_82, List.forall_mem_cons.mpr ⟨pca_83, List.forall_mem_cons.mpr ⟨pca_84, List.forall_mem_cons.mpr ⟨pca_85, List.forall_mem_cons.mpr ⟨pca_86, List.forall_mem_cons.mpr ⟨pca_87, List.forall_mem_cons.mpr ⟨pca_88, List.forall_mem_cons.mpr ⟨pca_89, List.forall_mem_cons.mpr ⟨pca_90, List.forall_mem_cons.mpr ⟨pca_91, List.forall_mem_cons.mpr ⟨pca_92, List.forall_mem_cons.mpr ⟨pca_93, List.forall_mem_cons.mpr ⟨pca_94, List.forall_mem_cons.mpr ⟨pca_95, List.forall_mem_cons.mpr ⟨pca_96, List.forall_mem_cons.mpr ⟨pca_97, List.forall_mem_cons.mpr ⟨pca_98, List.forall_mem_cons.mpr ⟨pca_99, (fun _ h => absurd h List.not_mem_nil)⟩⟩⟩⟩⟩⟩⟩⟩⟩⟩⟩⟩⟩⟩⟩⟩⟩⟩⟩⟩⟩⟩⟩⟩⟩
set_option maxRecDepth 100000 in
theorem pCa_c4 : ∀ q ∈ pCaL4, pCaF q := List.forall_mem_cons.mpr ⟨pca_100, List.forall_mem_cons.mpr ⟨pca_101, List.forall_mem_cons.mpr ⟨pca_102, List.forall_mem_cons.mpr ⟨pca_103, List.forall_mem_cons.mpr ⟨pca_104, List.forall_mem_cons.mpr ⟨pca_105, List.forall_mem_cons.mpr ⟨pca_106, List.forall_mem_cons.mpr ⟨pca_107, List.forall_mem_cons.mpr ⟨pca_108, List.forall_mem_cons.mpr ⟨pca_109, List.forall_mem_cons.mpr ⟨pca_110, List.forall_mem_cons.mpr ⟨pca_111, List.forall_mem_cons.mpr ⟨pca_112, List.forall_mem_cons.mpr ⟨pca_113, List.forall_mem_cons.mpr ⟨pca_114, List.forall_mem_cons.mpr ⟨pca_115, List.forall_mem_cons.mpr ⟨pca_116, List.forall_mem_cons.mpr ⟨pca_117, List.forall_mem_cons.mpr ⟨pca_118, List.forall_mem_cons.mpr ⟨pca_119, List.forall_mem_cons.mpr ⟨pca_120, List.forall_mem_cons.mpr ⟨pca_121, List.forall_mem_cons.mpr ⟨pca_122, List.forall_mem_cons.mpr ⟨pca_123, List.forall_mem_cons.mpr ⟨pca_124, (fun _ h => absurd h List.not_mem_nil)⟩⟩⟩⟩⟩⟩⟩⟩⟩⟩⟩⟩⟩⟩⟩⟩⟩⟩⟩⟩⟩⟩⟩⟩⟩
set_option maxRecDepth 100000 in
theorem pCa_c5 : ∀ q ∈ pCaL5, pCaF q := List.forall_mem_cons.mpr ⟨pca_125, List.forall_mem_cons.mpr ⟨pca_126, List.forall_mem_cons.mpr ⟨pca_127, List.forall_mem_cons.mpr ⟨pca_128, List.forall_mem_cons.mpr ⟨pca_129, List.forall_mem_cons.mpr ⟨pca_130, List.forall_mem_cons.mpr ⟨pca_131, List.forall_mem_cons.mpr ⟨pca_132, List.forall_mem_cons.mpr ⟨pca_133, List.forall_mem_cons.mpr ⟨pca_134, List.forall_mem_cons.mpr ⟨pca_135, List.forall_mem_cons.mpr ⟨pca_136, List.forall_mem_cons.mpr ⟨pca_137, List.forall_mem_cons.mpr ⟨pca_138, List.forall_mem_cons.mpr ⟨pca_139, List.forall_mem_cons.mpr ⟨pca_140, List.forall_mem_cons.mpr ⟨pca_141, List.forall_mem_cons.mpr ⟨pca_142, List.forall_mem_cons.mpr ⟨pca_143, List.forall_mem_cons.mpr ⟨pca_144, List.forall_mem_cons.mpr ⟨pca_145, List.forall_mem_cons.mpr ⟨pca_146, List.forall_mem_cons.mpr ⟨pca_147, List.forall_mem_cons.mpr ⟨pca_148, List.forall_mem_cons.mpr ⟨pca_149, (fun _ h => absurd h List.not_mem_nil)⟩⟩⟩⟩⟩⟩⟩⟩⟩⟩⟩⟩⟩⟩⟩⟩⟩⟩⟩⟩⟩⟩⟩⟩⟩
set_option maxRecDepth 100000 in
theorem pCa_c6 : ∀ q ∈ pCaL6, pCaF q := List.forall_mem_cons.mpr ⟨pca_150, List.forall_mem_cons.mpr ⟨pca_151, List.forall_mem_cons.mpr ⟨pca_152, List.forall_mem_cons.mpr ⟨pca_153, List.forall_mem_cons.mpr ⟨pca_154, List.forall_mem_cons.mpr ⟨pca_155, List.forall_mem_cons.mpr ⟨pca_156, List.forall_mem_cons.mpr ⟨pca_157, List.forall_mem_cons.mpr ⟨pca_158, List.forall_mem_cons.mpr ⟨pca_159, List.forall_mem_cons.mpr ⟨pca_160, List.forall_mem_cons.mpr ⟨pca_161, List.forall_mem_cons.mpr ⟨pca_162, List.forall_mem_cons.mpr ⟨pca_163, List.forall_mem_cons.mpr ⟨pca_164, List.forall_mem_cons.mpr ⟨pca_165, List.forall_mem_cons.mpr ⟨pca_166, List.forall_mem_cons.mpr ⟨pca_167, List.forall_mem_cons.mpr ⟨pca_168, List.forall_mem_cons.mpr ⟨pca_169, List.forall_mem_cons.mpr ⟨pca_170, List.forall_mem_cons.mpr ⟨pca_171, List.forall_mem_cons.mpr ⟨pca_172, List.forall_mem_cons.mpr ⟨pca_173, List.forall_mem_cons.mpr ⟨pca_174, (fun _ h => absurd h List.not_mem_nil)⟩⟩⟩⟩⟩⟩⟩⟩⟩⟩⟩⟩⟩⟩⟩⟩⟩⟩⟩⟩⟩⟩⟩⟩⟩
set_option maxRecDepth 100000 in
theorem pCa_c7 : ∀ q ∈ pCaL7, pCaF q := List.forall_mem_cons.mpr ⟨pca_175, List.forall_mem_cons.mpr ⟨pca_176, List.forall_mem_cons.mpr ⟨pca_177, List.forall_mem_cons.mpr ⟨pca_178, List.forall_mem_cons.mpr ⟨pca_179, List.forall_mem_cons.mpr ⟨pca_180, List.forall_mem_cons.mpr ⟨pca_181, List.forall_mem_cons.mpr ⟨pca_182, List.forall_mem_cons.mpr ⟨pca_183, List.forall_mem_cons.mpr ⟨pca_184, List.forall_mem_cons.mpr ⟨pca_185, List.forall_mem_cons.mpr ⟨pca_186, List.forall_mem_cons.mpr ⟨pca_187, List.forall_mem_cons.mpr ⟨pca_188, List.forall_mem_cons.mpr ⟨pca_189, List.forall_mem_cons.mpr ⟨pca_190, List.forall_mem_cons.mpr ⟨pca_191, List.forall_mem_cons.mpr ⟨pca_192, List.forall_mem_cons.mpr ⟨pca_193, List.forall_mem_cons.mpr ⟨pca_194, List.forall_mem_cons.mpr ⟨pca_195, List.forall_mem_cons.mpr ⟨pca_196, List.forall_mem_cons.mpr ⟨pca_197, List.forall_mem_cons.mpr ⟨pca_198, List.forall_mem_cons.mpr ⟨pca_199, (fun _ h => absurd h List.not_mem_nil)⟩⟩⟩⟩⟩⟩⟩⟩⟩⟩⟩⟩⟩⟩⟩⟩⟩⟩⟩⟩⟩⟩⟩⟩⟩
set_option maxRecDepth 100000 in
theorem pCa_c8 : ∀ q ∈ pCaL8, pCaF q := List.forall_mem_cons.mpr ⟨pca_200, List.forall_mem_cons.mpr ⟨pca_201, List.forall_mem_cons.mpr ⟨pca_202, (fun _ h => absurd h List.not_mem_nil)⟩⟩⟩
set_option maxRecDepth 100000 in
theorem pCa_all : ∀ q ∈ pCaL, pCaF q := by
  intro q h
  simp only [pCaL, List.mem_append] at h
  rcases h with h | h | h | h | h | h | h | h | h
  · exact pCa_c0 q h
  · exact pCa_c1 q h
  · exact pCa_c2 q h
  · exact pCa_c3 q h
  · exact pCa_c4 q h
  · exact pCa_c5 q h
  · exact pCa_c6 q h
  · exact pCa_c7 q h
  · exact pCa_c8 q h
set_option maxRecDepth 100000 in
theorem pAc0 : Cond.arrayClass .int ∈ pG0 := pHas 1 79 rfl rfl
set_option maxRecDepth 100000 in
theorem pAc1 : Cond.arrayClass .long ∈ pG0 := pHas 1 80 rfl rfl
set_option maxRecDepth 100000 in
theorem pAc2 : Cond.arrayClass .boolean ∈ pG0 := pHas 4 185 rfl rfl
def pCkL : List (Nat × Nat × Nat) := [(9, 7, 0), (9, 10, 3), (9, 15, 2), (17, 24, 1), (17, 26, 0), (17, 33, 2), (17, 40, 3)]
set_option maxRecDepth 100000 in
theorem pck_0 : pCkF (9, 7, 0) := pHas 3 142 rfl rfl
set_option maxRecDepth 100000 in
theorem pck_1 : pCkF (9, 10, 3) := pHas 3 170 rfl rfl
set_option maxRecDepth 100000 in
theorem pck_2 : pCkF (9, 15, 2) := pHas 3 144 rfl rfl
set_option maxRecDepth 100000 in
theorem pck_3 : pCkF (17, 24, 1) := pHas 4 131 rfl rfl
set_option maxRecDepth 100000 in
theorem pck_4 : pCkF (17, 26, 0) := pHas 4 133 rfl rfl
set_option maxRecDepth 100000 in
theorem pck_5 : pCkF (17, 33, 2) := pHas 4 98 rfl rfl
set_option maxRecDepth 100000 in
theorem pck_6 : pCkF (17, 40, 3) := pHas 3 136 rfl rfl
set_option maxRecDepth 100000 in
theorem pCk_all : ∀ q ∈ pCkL, pCkF q := List.forall_mem_cons.mpr ⟨pck_0, List.forall_mem_cons.mpr ⟨pck_1, List.forall_mem_cons.mpr ⟨pck_2, List.forall_mem_cons.mpr ⟨pck_3, List.forall_mem_cons.mpr ⟨pck_4, List.forall_mem_cons.mpr ⟨pck_5, List.forall_mem_cons.mpr ⟨pck_6, (fun _ h => absurd h List.not_mem_nil)⟩⟩⟩⟩⟩⟩⟩
set_option maxRecDepth 100000 in
theorem pAo3 : Cond.arrayOver (.array .int) ∈ pN0 := pHasN 3 143 rfl rfl
set_option maxRecDepth 100000 in
theorem pAo4 : Cond.arrayOver (.array .long) ∈ pN0 := pHasN 4 132 rfl rfl
set_option maxRecDepth 100000 in
theorem pAo5 : Cond.arrayOver (.object "SquareMeshLaw$Sheet") ∈ pN0 := pHasN 4 186 rfl rfl
set_option maxRecDepth 100000 in
theorem pCaI : Cond.castable "[I" "java/lang/Cloneable" ∈ pN0 := pHasN 3 177 rfl rfl
set_option maxRecDepth 100000 in
theorem pme_0 : pMeF 0 := ⟨pHas 1 217 rfl rfl, pHas 1 9 rfl rfl, by decide +kernel, rfl⟩
set_option maxRecDepth 100000 in
theorem pme_1 : pMeF 1 := ⟨pHas 1 28 rfl rfl, pHas 1 2 rfl rfl, by decide +kernel, rfl⟩
set_option maxRecDepth 100000 in
theorem pme_2 : pMeF 2 := ⟨pHas 1 228 rfl rfl, pHas 1 2 rfl rfl, by decide +kernel, rfl⟩
set_option maxRecDepth 100000 in
theorem pme_3 : pMeF 3 := ⟨pHas 3 103 rfl rfl, pHas 1 2 rfl rfl, by decide +kernel, rfl⟩
set_option maxRecDepth 100000 in
theorem pme_4 : pMeF 4 := ⟨pHas 2 102 rfl rfl, pHas 1 2 rfl rfl, by decide +kernel, rfl⟩
set_option maxRecDepth 100000 in
theorem pme_5 : pMeF 5 := ⟨pHas 2 108 rfl rfl, pHas 1 2 rfl rfl, by decide +kernel, rfl⟩
set_option maxRecDepth 100000 in
theorem pme_6 : pMeF 6 := ⟨pHas 2 137 rfl rfl, pHas 1 2 rfl rfl, by decide +kernel, rfl⟩
set_option maxRecDepth 100000 in
theorem pme_7 : pMeF 7 := ⟨pHas 2 197 rfl rfl, pHas 1 2 rfl rfl, by decide +kernel, rfl⟩
set_option maxRecDepth 100000 in
theorem pme_8 : pMeF 8 := ⟨pHas 2 217 rfl rfl, pHas 1 2 rfl rfl, by decide +kernel, rfl⟩
set_option maxRecDepth 100000 in
theorem pme_9 : pMeF 9 := ⟨pHas 2 221 rfl rfl, pHas 1 2 rfl rfl, by decide +kernel, rfl⟩
set_option maxRecDepth 100000 in
theorem pme_10 : pMeF 10 := ⟨pHas 2 236 rfl rfl, pHas 1 2 rfl rfl, by decide +kernel, rfl⟩
set_option maxRecDepth 100000 in
theorem pme_11 : pMeF 11 := ⟨pHas 3 23 rfl rfl, pHas 1 2 rfl rfl, by decide +kernel, rfl⟩
set_option maxRecDepth 100000 in
theorem pme_12 : pMeF 12 := ⟨pHas 3 34 rfl rfl, pHas 1 2 rfl rfl, by decide +kernel, rfl⟩
set_option maxRecDepth 100000 in
theorem pme_13 : pMeF 13 := ⟨pHas 3 42 rfl rfl, pHas 1 2 rfl rfl, by decide +kernel, rfl⟩
set_option maxRecDepth 100000 in
theorem pme_14 : pMeF 14 := ⟨pHas 3 46 rfl rfl, pHas 1 2 rfl rfl, by decide +kernel, rfl⟩
set_option maxRecDepth 100000 in
theorem pme_15 : pMeF 15 := ⟨pHas 2 3 rfl rfl, pHas 1 2 rfl rfl, by decide +kernel, rfl⟩
set_option maxRecDepth 100000 in
theorem pme_16 : pMeF 16 := ⟨pHas 2 133 rfl rfl, pHas 1 2 rfl rfl, by decide +kernel, rfl⟩
set_option maxRecDepth 100000 in
theorem pme_17 : pMeF 17 := ⟨pHas 2 146 rfl rfl, pHas 1 2 rfl rfl, by decide +kernel, rfl⟩
set_option maxRecDepth 100000 in
theorem pme_18 : pMeF 18 := ⟨pHas 2 150 rfl rfl, pHas 1 2 rfl rfl, by decide +kernel, rfl⟩
set_option maxRecDepth 100000 in
theorem pme_19 : pMeF 19 := ⟨pHas 2 163 rfl rfl, pHas 1 2 rfl rfl, by decide +kernel, rfl⟩
set_option maxRecDepth 100000 in
theorem pme_20 : pMeF 20 := ⟨pHas 2 185 rfl rfl, pHas 1 2 rfl rfl, by decide +kernel, rfl⟩
set_option maxRecDepth 100000 in
theorem pme_21 : pMeF 21 := ⟨pHas 2 169 rfl rfl, pHas 1 2 rfl rfl, by decide +kernel, rfl⟩
set_option maxRecDepth 100000 in
theorem pme_22 : pMeF 22 := ⟨pHas 2 173 rfl rfl, pHas 1 2 rfl rfl, by decide +kernel, rfl⟩
set_option maxRecDepth 100000 in
theorem pme_23 : pMeF 23 := ⟨pHas 2 7 rfl rfl, pHas 1 2 rfl rfl, by decide +kernel, rfl⟩
set_option maxRecDepth 100000 in
theorem pme_24 : pMeF 24 := ⟨pHas 3 27 rfl rfl, pHas 1 2 rfl rfl, by decide +kernel, rfl⟩
set_option maxRecDepth 100000 in
theorem pme_25 : pMeF 25 := ⟨pHas 2 177 rfl rfl, pHas 1 2 rfl rfl, by decide +kernel, rfl⟩
set_option maxRecDepth 100000 in
theorem pme_26 : pMeF 26 := ⟨pHas 2 11 rfl rfl, pHas 1 2 rfl rfl, by decide +kernel, rfl⟩
set_option maxRecDepth 100000 in
theorem pme_27 : pMeF 27 := ⟨pHas 2 22 rfl rfl, pHas 1 2 rfl rfl, by decide +kernel, rfl⟩
set_option maxRecDepth 100000 in
theorem pme_28 : pMeF 28 := ⟨pHas 2 26 rfl rfl, pHas 1 2 rfl rfl, by decide +kernel, rfl⟩
set_option maxRecDepth 100000 in
theorem pme_29 : pMeF 29 := ⟨pHas 4 106 rfl rfl, pHas 1 2 rfl rfl, by decide +kernel, rfl⟩
set_option maxRecDepth 100000 in
theorem pme_30 : pMeF 30 := ⟨pHas 2 125 rfl rfl, pHas 1 2 rfl rfl, by decide +kernel, rfl⟩
set_option maxRecDepth 100000 in
theorem pme_31 : pMeF 31 := ⟨pHas 2 209 rfl rfl, pHas 1 2 rfl rfl, by decide +kernel, rfl⟩
set_option maxRecDepth 100000 in
theorem pme_32 : pMeF 32 := ⟨pHas 4 92 rfl rfl, pHas 1 2 rfl rfl, by decide +kernel, rfl⟩
set_option maxRecDepth 100000 in
theorem pme_33 : pMeF 33 := ⟨pHas 4 88 rfl rfl, pHas 1 2 rfl rfl, by decide +kernel, rfl⟩
set_option maxRecDepth 100000 in
theorem pme_34 : pMeF 34 := ⟨pHas 4 118 rfl rfl, pHas 1 2 rfl rfl, by decide +kernel, rfl⟩
set_option maxRecDepth 100000 in
theorem pme_35 : pMeF 35 := ⟨pHas 2 121 rfl rfl, pHas 1 2 rfl rfl, by decide +kernel, rfl⟩
set_option maxRecDepth 100000 in
theorem pme_36 : pMeF 36 := ⟨pHas 4 55 rfl rfl, pHas 1 2 rfl rfl, by decide +kernel, rfl⟩
set_option maxRecDepth 100000 in
theorem pme_37 : pMeF 37 := ⟨pHas 2 117 rfl rfl, pHas 1 2 rfl rfl, by decide +kernel, rfl⟩
set_option maxRecDepth 100000 in
theorem pme_38 : pMeF 38 := ⟨pHas 2 112 rfl rfl, pHas 1 2 rfl rfl, by decide +kernel, rfl⟩
set_option maxRecDepth 100000 in
theorem pme_39 : pMeF 39 := ⟨pHas 2 201 rfl rfl, pHas 1 2 rfl rfl, by decide +kernel, rfl⟩
set_option maxRecDepth 100000 in
theorem pme_40 : pMeF 40 := ⟨pHas 2 205 rfl rfl, pHas 1 2 rfl rfl, by decide +kernel, rfl⟩
set_option maxRecDepth 100000 in
theorem pme_41 : pMeF 41 := ⟨pHas 3 0 rfl rfl, pHas 1 2 rfl rfl, by decide +kernel, rfl⟩
set_option maxRecDepth 100000 in
theorem pme_42 : pMeF 42 := ⟨pHas 4 31 rfl rfl, pHas 1 2 rfl rfl, by decide +kernel, rfl⟩
set_option maxRecDepth 100000 in
theorem pme_43 : pMeF 43 := ⟨pHas 4 35 rfl rfl, pHas 1 2 rfl rfl, by decide +kernel, rfl⟩
set_option maxRecDepth 100000 in
theorem pme_44 : pMeF 44 := ⟨pHas 4 43 rfl rfl, pHas 1 2 rfl rfl, by decide +kernel, rfl⟩
set_option maxRecDepth 100000 in
theorem pme_45 : pMeF 45 := ⟨pHas 4 39 rfl rfl, pHas 1 2 rfl rfl, by decide +kernel, rfl⟩
set_option maxRecDepth 100000 in
theorem pme_46 : pMeF 46 := ⟨pHas 4 47 rfl rfl, pHas 1 2 rfl rfl, by decide +kernel, rfl⟩
set_option maxRecDepth 100000 in
theorem pme_47 : pMeF 47 := ⟨pHas 4 51 rfl rfl, pHas 1 2 rfl rfl, by decide +kernel, rfl⟩
set_option maxRecDepth 100000 in
theorem pme_48 : pMeF 48 := ⟨pHas 4 174 rfl rfl, pHas 1 2 rfl rfl, by decide +kernel, rfl⟩
set_option maxRecDepth 100000 in
theorem pme_49 : pMeF 49 := ⟨pHas 1 187 rfl rfl, pHas 1 7 rfl rfl, by decide +kernel, rfl⟩
set_option maxRecDepth 100000 in
theorem pme_50 : pMeF 50 := ⟨pHas 1 137 rfl rfl, pHas 1 4 rfl rfl, by decide +kernel, rfl⟩
set_option maxRecDepth 100000 in
theorem pme_51 : pMeF 51 := ⟨pHas 2 93 rfl rfl, pHas 1 4 rfl rfl, by decide +kernel, rfl⟩
set_option maxRecDepth 100000 in
theorem pme_52 : pMeF 52 := ⟨pHas 2 97 rfl rfl, pHas 1 4 rfl rfl, by decide +kernel, rfl⟩
set_option maxRecDepth 100000 in
theorem pme_53 : pMeF 53 := ⟨pHas 3 91 rfl rfl, pHas 1 4 rfl rfl, by decide +kernel, rfl⟩
set_option maxRecDepth 100000 in
theorem pme_54 : pMeF 54 := ⟨pHas 2 30 rfl rfl, pHas 1 4 rfl rfl, by decide +kernel, rfl⟩
set_option maxRecDepth 100000 in
theorem pme_55 : pMeF 55 := ⟨pHas 3 95 rfl rfl, pHas 1 4 rfl rfl, by decide +kernel, rfl⟩
set_option maxRecDepth 100000 in
theorem pme_56 : pMeF 56 := ⟨pHas 3 115 rfl rfl, pHas 1 4 rfl rfl, by decide +kernel, rfl⟩
set_option maxRecDepth 100000 in
theorem pme_57 : pMeF 57 := ⟨pHas 1 154 rfl rfl, pHas 1 5 rfl rfl, by decide +kernel, rfl⟩
set_option maxRecDepth 100000 in
theorem pme_58 : pMeF 58 := ⟨pHas 4 79 rfl rfl, pHas 1 5 rfl rfl, by decide +kernel, rfl⟩
set_option maxRecDepth 100000 in
theorem pme_59 : pMeF 59 := ⟨pHas 4 84 rfl rfl, pHas 1 5 rfl rfl, by decide +kernel, rfl⟩
set_option maxRecDepth 100000 in
theorem pme_60 : pMeF 60 := ⟨pHas 4 97 rfl rfl, pHas 1 5 rfl rfl, by decide +kernel, rfl⟩
set_option maxRecDepth 100000 in
theorem pme_61 : pMeF 61 := ⟨pHas 1 34 rfl rfl, pHas 1 3 rfl rfl, by decide +kernel, rfl⟩
set_option maxRecDepth 100000 in
theorem pme_62 : pMeF 62 := ⟨pHas 2 34 rfl rfl, pHas 1 3 rfl rfl, by decide +kernel, rfl⟩
set_option maxRecDepth 100000 in
theorem pme_63 : pMeF 63 := ⟨pHas 3 99 rfl rfl, pHas 1 3 rfl rfl, by decide +kernel, rfl⟩
set_option maxRecDepth 100000 in
theorem pme_64 : pMeF 64 := ⟨pHas 2 18 rfl rfl, pHas 1 3 rfl rfl, by decide +kernel, rfl⟩
set_option maxRecDepth 100000 in
theorem pme_65 : pMeF 65 := ⟨pHas 3 119 rfl rfl, pHas 1 3 rfl rfl, by decide +kernel, rfl⟩
set_option maxRecDepth 100000 in
theorem pme_66 : pMeF 66 := ⟨pHas 1 232 rfl rfl, pHas 1 3 rfl rfl, by decide +kernel, rfl⟩
set_option maxRecDepth 100000 in
theorem pme_67 : pMeF 67 := ⟨pHas 2 213 rfl rfl, pHas 1 3 rfl rfl, by decide +kernel, rfl⟩
set_option maxRecDepth 100000 in
theorem pme_68 : pMeF 68 := ⟨pHas 2 84 rfl rfl, pHas 1 3 rfl rfl, by decide +kernel, rfl⟩
set_option maxRecDepth 100000 in
theorem pme_69 : pMeF 69 := ⟨pHas 2 89 rfl rfl, pHas 1 3 rfl rfl, by decide +kernel, rfl⟩
set_option maxRecDepth 100000 in
theorem pme_70 : pMeF 70 := ⟨pHas 2 77 rfl rfl, pHas 1 3 rfl rfl, by decide +kernel, rfl⟩
set_option maxRecDepth 100000 in
theorem pme_71 : pMeF 71 := ⟨pHas 2 193 rfl rfl, pHas 1 3 rfl rfl, by decide +kernel, rfl⟩
set_option maxRecDepth 100000 in
theorem pme_72 : pMeF 72 := ⟨pHas 4 9 rfl rfl, pHas 1 3 rfl rfl, by decide +kernel, rfl⟩
set_option maxRecDepth 100000 in
theorem pme_73 : pMeF 73 := ⟨pHas 2 154 rfl rfl, pHas 1 3 rfl rfl, by decide +kernel, rfl⟩
set_option maxRecDepth 100000 in
theorem pme_74 : pMeF 74 := ⟨pHas 1 239 rfl rfl, pHas 1 3 rfl rfl, by decide +kernel, rfl⟩
set_option maxRecDepth 100000 in
theorem pme_75 : pMeF 75 := ⟨pHas 2 158 rfl rfl, pHas 1 3 rfl rfl, by decide +kernel, rfl⟩
set_option maxRecDepth 100000 in
theorem pme_76 : pMeF 76 := ⟨pHas 3 54 rfl rfl, pHas 1 3 rfl rfl, by decide +kernel, rfl⟩
set_option maxRecDepth 100000 in
theorem pme_77 : pMeF 77 := ⟨pHas 2 129 rfl rfl, pHas 1 3 rfl rfl, by decide +kernel, rfl⟩
set_option maxRecDepth 100000 in
theorem pme_78 : pMeF 78 := ⟨pHas 2 141 rfl rfl, pHas 1 3 rfl rfl, by decide +kernel, rfl⟩
set_option maxRecDepth 100000 in
theorem pme_79 : pMeF 79 := ⟨pHas 4 59 rfl rfl, pHas 1 3 rfl rfl, by decide +kernel, rfl⟩
set_option maxRecDepth 100000 in
theorem pme_80 : pMeF 80 := ⟨pHas 2 181 rfl rfl, pHas 1 3 rfl rfl, by decide +kernel, rfl⟩
set_option maxRecDepth 100000 in
theorem pme_81 : pMeF 81 := ⟨pHas 3 4 rfl rfl, pHas 1 3 rfl rfl, by decide +kernel, rfl⟩
set_option maxRecDepth 100000 in
theorem pme_82 : pMeF 82 := ⟨pHas 3 13 rfl rfl, pHas 1 3 rfl rfl, by decide +kernel, rfl⟩
set_option maxRecDepth 100000 in
theorem pme_83 : pMeF 83 := ⟨pHas 3 9 rfl rfl, pHas 1 3 rfl rfl, by decide +kernel, rfl⟩
set_option maxRecDepth 100000 in
theorem pme_84 : pMeF 84 := ⟨pHas 1 202 rfl rfl, pHas 1 8 rfl rfl, by decide +kernel, rfl⟩
set_option maxRecDepth 100000 in
theorem pme_85 : pMeF 85 := ⟨pHas 1 174 rfl rfl, pHas 1 6 rfl rfl, by decide +kernel, rfl⟩
set_option maxRecDepth 100000 in
theorem pme_86 : pMeF 86 := ⟨pHas 1 20 rfl rfl, pHas 1 1 rfl rfl, by decide +kernel, rfl⟩
set_option maxRecDepth 100000 in
theorem pme_87 : pMeF 87 := ⟨pHas 2 73 rfl rfl, pHas 1 1 rfl rfl, by decide +kernel, rfl⟩
set_option maxRecDepth 100000 in
theorem pme_88 : pMeF 88 := ⟨pHas 2 189 rfl rfl, pHas 1 1 rfl rfl, by decide +kernel, rfl⟩
set_option maxRecDepth 100000 in
theorem pme_89 : pMeF 89 := ⟨pHas 2 225 rfl rfl, pHas 1 1 rfl rfl, by decide +kernel, rfl⟩
set_option maxRecDepth 100000 in
theorem pme_90 : pMeF 90 := ⟨pHas 2 232 rfl rfl, pHas 1 1 rfl rfl, by decide +kernel, rfl⟩
set_option maxRecDepth 100000 in
theorem pme_91 : pMeF 91 := ⟨pHas 3 38 rfl rfl, pHas 1 1 rfl rfl, by decide +kernel, rfl⟩
set_option maxRecDepth 100000 in
theorem pme_92 : pMeF 92 := ⟨pHas 3 50 rfl rfl, pHas 1 1 rfl rfl, by decide +kernel, rfl⟩
set_option maxRecDepth 100000 in
theorem pme_93 : pMeF 93 := ⟨pHas 3 58 rfl rfl, pHas 1 1 rfl rfl, by decide +kernel, rfl⟩
set_option maxRecDepth 100000 in
theorem pme_94 : pMeF 94 := ⟨pHas 4 179 rfl rfl, pHas 1 1 rfl rfl, by decide +kernel, rfl⟩
set_option maxRecDepth 100000 in
theorem pme_95 : pMeF 95 := ⟨pHas 4 183 rfl rfl, pHas 1 1 rfl rfl, by decide +kernel, rfl⟩
set_option maxRecDepth 100000 in
theorem pme_96 : pMeF 96 := ⟨pHas 3 63 rfl rfl, pHas 1 1 rfl rfl, by decide +kernel, rfl⟩
set_option maxRecDepth 100000 in
theorem pme_97 : pMeF 97 := ⟨pHas 3 67 rfl rfl, pHas 1 1 rfl rfl, by decide +kernel, rfl⟩
set_option maxRecDepth 100000 in
theorem pme_98 : pMeF 98 := ⟨pHas 3 75 rfl rfl, pHas 1 1 rfl rfl, by decide +kernel, rfl⟩
set_option maxRecDepth 100000 in
theorem pme_99 : pMeF 99 := ⟨pHas 3 79 rfl rfl, pHas 1 1 rfl rfl, by decide +kernel, rfl⟩
set_option maxRecDepth 100000 in
theorem pme_100 : pMeF 100 := ⟨pHas 3 83 rfl rfl, pHas 1 1 rfl rfl, by decide +kernel, rfl⟩
set_option maxRecDepth 100000 in
theorem pme_101 : pMeF 101 := ⟨pHas 3 87 rfl rfl, pHas 1 1 rfl rfl, by decide +kernel, rfl⟩
set_option maxRecDepth 100000 in
theorem pme_102 : pMeF 102 := ⟨pHas 3 107 rfl rfl, pHas 1 1 rfl rfl, by decide +kernel, rfl⟩
set_option maxRecDepth 100000 in
theorem pme_103 : pMeF 103 := ⟨pHas 3 111 rfl rfl, pHas 1 1 rfl rfl, by decide +kernel, rfl⟩
set_option maxRecDepth 100000 in
theorem pme_104 : pMeF 104 := ⟨pHas 3 129 rfl rfl, pHas 1 1 rfl rfl, by decide +kernel, rfl⟩
set_option maxRecDepth 100000 in
theorem pme_105 : pMeF 105 := ⟨pHas 4 27 rfl rfl, pHas 1 1 rfl rfl, by decide +kernel, rfl⟩
set_option maxRecDepth 100000 in
theorem pme_106 : pMeF 106 := ⟨pHas 4 75 rfl rfl, pHas 1 1 rfl rfl, by decide +kernel, rfl⟩
set_option maxRecDepth 100000 in
theorem pme_107 : pMeF 107 := ⟨pHas 4 3 rfl rfl, pHas 1 1 rfl rfl, by decide +kernel, rfl⟩
set_option maxRecDepth 100000 in
theorem pme_108 : pMeF 108 := ⟨pHas 4 20 rfl rfl, pHas 1 1 rfl rfl, by decide +kernel, rfl⟩
set_option maxRecDepth 100000 in
theorem pme_109 : pMeF 109 := ⟨pHas 4 102 rfl rfl, pHas 1 1 rfl rfl, by decide +kernel, rfl⟩
set_option maxRecDepth 100000 in
theorem pme_110 : pMeF 110 := ⟨pHas 4 140 rfl rfl, pHas 1 1 rfl rfl, by decide +kernel, rfl⟩
set_option maxRecDepth 100000 in
theorem pme_111 : pMeF 111 := ⟨pHas 4 114 rfl rfl, pHas 1 1 rfl rfl, by decide +kernel, rfl⟩
set_option maxRecDepth 100000 in
theorem pme_112 : pMeF 112 := ⟨pHas 4 122 rfl rfl, pHas 1 1 rfl rfl, by decide +kernel, rfl⟩
set_option maxRecDepth 100000 in
theorem pme_113 : pMeF 113 := ⟨pHas 3 134 rfl rfl, pHas 1 1 rfl rfl, by decide +kernel, rfl⟩
set_option maxRecDepth 100000 in
theorem pme_114 : pMeF 114 := ⟨pHas 4 126 rfl rfl, pHas 1 1 rfl rfl, by decide +kernel, rfl⟩
set_option maxRecDepth 100000 in
theorem pme_115 : pMeF 115 := ⟨pHas 4 15 rfl rfl, pHas 1 1 rfl rfl, by decide +kernel, rfl⟩
set_option maxRecDepth 100000 in
theorem pme_116 : pMeF 116 := ⟨pHas 4 170 rfl rfl, pHas 1 1 rfl rfl, by decide +kernel, rfl⟩
set_option maxRecDepth 100000 in
theorem pme_117 : pMeF 117 := ⟨pHas 4 155 rfl rfl, pHas 1 1 rfl rfl, by decide +kernel, rfl⟩
set_option maxRecDepth 100000 in
theorem pme_118 : pMeF 118 := ⟨pHas 4 66 rfl rfl, pHas 1 1 rfl rfl, by decide +kernel, rfl⟩
set_option maxRecDepth 100000 in
theorem pme_119 : pMeF 119 := ⟨pHas 4 70 rfl rfl, pHas 1 1 rfl rfl, by decide +kernel, rfl⟩
set_option maxRecDepth 100000 in
theorem pme_120 : pMeF 120 := ⟨pHas 2 80 rfl rfl, pHas 1 1 rfl rfl, by decide +kernel, rfl⟩
set_option maxRecDepth 100000 in
theorem pme_121 : pMeF 121 := ⟨pHas 3 19 rfl rfl, pHas 1 1 rfl rfl, by decide +kernel, rfl⟩
set_option maxRecDepth 100000 in
theorem pme_122 : pMeF 122 := ⟨pHas 3 16 rfl rfl, pHas 1 1 rfl rfl, by decide +kernel, rfl⟩
set_option maxRecDepth 100000 in
theorem pme_123 : pMeF 123 := ⟨pHas 3 140 rfl rfl, pHas 1 12 rfl rfl, by decide +kernel, rfl⟩
set_option maxRecDepth 100000 in
theorem pme_124 : pMeF 124 := ⟨pHas 3 169 rfl rfl, pHas 1 12 rfl rfl, by decide +kernel, rfl⟩
set_option maxRecDepth 100000 in
theorem pme_125 : pMeF 125 := ⟨pHas 3 148 rfl rfl, pHas 1 12 rfl rfl, by decide +kernel, rfl⟩
set_option maxRecDepth 100000 in
theorem pme_126 : pMeF 126 := ⟨pHas 3 182 rfl rfl, pHas 1 12 rfl rfl, by decide +kernel, rfl⟩
set_option maxRecDepth 100000 in
theorem pme_127 : pMeF 127 := ⟨pHas 3 186 rfl rfl, pHas 1 12 rfl rfl, by decide +kernel, rfl⟩
set_option maxRecDepth 100000 in
theorem pme_128 : pMeF 128 := ⟨pHas 3 194 rfl rfl, pHas 1 12 rfl rfl, by decide +kernel, rfl⟩
set_option maxRecDepth 100000 in
theorem pme_129 : pMeF 129 := ⟨pHas 3 190 rfl rfl, pHas 1 12 rfl rfl, by decide +kernel, rfl⟩
set_option maxRecDepth 100000 in
theorem pme_130 : pMeF 130 := ⟨pHas 3 207 rfl rfl, pHas 1 12 rfl rfl, by decide +kernel, rfl⟩
set_option maxRecDepth 100000 in
theorem pme_131 : pMeF 131 := ⟨pHas 3 214 rfl rfl, pHas 1 12 rfl rfl, by decide +kernel, rfl⟩
set_option maxRecDepth 100000 in
theorem pme_132 : pMeF 132 := ⟨pHas 3 218 rfl rfl, pHas 1 12 rfl rfl, by decide +kernel, rfl⟩
set_option maxRecDepth 100000 in
theorem pme_133 : pMeF 133 := ⟨pHas 3 232 rfl rfl, pHas 1 12 rfl rfl, by decide +kernel, rfl⟩
set_option maxRecDepth 100000 in
theorem pme_134 : pMeF 134 := ⟨pHas 4 62 rfl rfl, pHas 1 15 rfl rfl, by decide +kernel, rfl⟩
set_option maxRecDepth 100000 in
theorem pme_135 : pMeF 135 := ⟨pHas 4 150 rfl rfl, pHas 1 15 rfl rfl, by decide +kernel, rfl⟩
set_option maxRecDepth 100000 in
theorem pme_136 : pMeF 136 := ⟨pHas 3 228 rfl rfl, pHas 1 15 rfl rfl, by decide +kernel, rfl⟩
set_option maxRecDepth 100000 in
theorem pme_137 : pMeF 137 := ⟨pHas 3 122 rfl rfl, pHas 1 13 rfl rfl, by decide +kernel, rfl⟩
set_option maxRecDepth 100000 in
theorem pme_138 : pMeF 138 := ⟨pHas 3 71 rfl rfl, pHas 1 14 rfl rfl, by decide +kernel, rfl⟩
set_option maxRecDepth 100000 in
theorem pme_139 : pMeF 139 := ⟨pHas 3 30 rfl rfl, pHas 1 14 rfl rfl, by decide +kernel, rfl⟩
set_option maxRecDepth 100000 in
theorem pme_140 : pMeF 140 := ⟨pHas 3 203 rfl rfl, pHas 1 14 rfl rfl, by decide +kernel, rfl⟩
set_option maxRecDepth 100000 in
theorem pme_141 : pMeF 141 := ⟨pHas 4 147 rfl rfl, pHas 1 14 rfl rfl, by decide +kernel, rfl⟩
set_option maxRecDepth 100000 in
theorem pme_142 : pMeF 142 := ⟨pHas 3 200 rfl rfl, pHas 1 14 rfl rfl, by decide +kernel, rfl⟩
set_option maxRecDepth 100000 in
theorem pme_143 : pMeF 143 := ⟨pHas 2 14 rfl rfl, pHas 1 10 rfl rfl, by decide +kernel, rfl⟩
set_option maxRecDepth 100000 in
theorem pme_144 : pMeF 144 := ⟨pHas 1 235 rfl rfl, pHas 1 10 rfl rfl, by decide +kernel, rfl⟩
set_option maxRecDepth 100000 in
theorem pme_145 : pMeF 145 := ⟨pHas 3 235 rfl rfl, pHas 1 0 rfl rfl, by decide +kernel, rfl⟩
set_option maxRecDepth 100000 in
theorem pme_146 : pMeF 146 := ⟨pHas 3 197 rfl rfl, pHas 1 0 rfl rfl, by decide +kernel, rfl⟩
set_option maxRecDepth 100000 in
theorem pme_147 : pMeF 147 := ⟨pHas 3 224 rfl rfl, pHas 1 0 rfl rfl, by decide +kernel, rfl⟩
set_option maxRecDepth 100000 in
theorem pme_148 : pMeF 148 := ⟨pHas 3 221 rfl rfl, pHas 1 0 rfl rfl, by decide +kernel, rfl⟩
set_option maxRecDepth 100000 in
theorem pme_149 : pMeF 149 := ⟨pHas 4 130 rfl rfl, pHas 1 0 rfl rfl, by decide +kernel, rfl⟩
set_option maxRecDepth 100000 in
theorem pme_150 : pMeF 150 := ⟨pHas 4 136 rfl rfl, pHas 1 0 rfl rfl, by decide +kernel, rfl⟩
set_option maxRecDepth 100000 in
theorem pme_151 : pMeF 151 := ⟨pHas 4 23 rfl rfl, pHas 1 0 rfl rfl, by decide +kernel, rfl⟩
set_option maxRecDepth 100000 in
theorem pme_152 : pMeF 152 := ⟨pHas 4 144 rfl rfl, pHas 1 0 rfl rfl, by decide +kernel, rfl⟩
set_option maxRecDepth 100000 in
theorem pme_153 : pMeF 153 := ⟨pHas 4 110 rfl rfl, pHas 1 0 rfl rfl, by decide +kernel, rfl⟩
set_option maxRecDepth 100000 in
theorem pme_154 : pMeF 154 := ⟨pHas 3 239 rfl rfl, pHas 1 0 rfl rfl, by decide +kernel, rfl⟩
set_option maxRecDepth 100000 in
theorem pme_155 : pMeF 155 := ⟨pHas 4 160 rfl rfl, pHas 1 0 rfl rfl, by decide +kernel, rfl⟩
set_option maxRecDepth 100000 in
theorem pme_156 : pMeF 156 := ⟨pHas 4 163 rfl rfl, pHas 1 0 rfl rfl, by decide +kernel, rfl⟩
set_option maxRecDepth 100000 in
theorem pme_157 : pMeF 157 := ⟨pHas 4 166 rfl rfl, pHas 1 0 rfl rfl, by decide +kernel, rfl⟩
set_option maxRecDepth 100000 in
theorem pMe_l : ∀ j ∈ ([0, 1, 2, 3, 4, 5, 6, 7, 8, 9, 10, 11, 12, 13, 14, 15, 16, 17, 18, 19, 20, 21, 22, 23, 24, 25, 26, 27, 28, 29, 30, 31, 32, 33, 34, 35, 36, 37, 38, 39, 40, 41, 42, 43, 44, 45, 46, 47, 48, 49, 50, 51, 52, 53, 54, 55, 56, 57, 58, 59, 60, 61, 62, 63, 64, 65, 66, 67, 68, 69, 70, 71, 72, 73, 74, 75, 76, 77, 78, 79, 80, 81, 82, 83, 84, 85, 86, 87, 88, 89, 90, 91, 92, 93, 94, 95, 96, 97, 98, 99, 100, 101, 102, 103, 104, 105, 106, 107, 108, 109, 110, 111, 112, 113, 114, 115, 116, 117, 118, 119, 120, 121, 122, 123, 124, 125, 126, 127, 128, 129, 130, 131, 132, 133, 134, 135, 136, 137, 138, 139, 140, 141, 142, 143, 144, 145, 146, 147, 148, 149, 150, 151, 152, 153, 154, 155, 156, 157] : List Nat), pMeF j := List.forall_mem_cons.mpr ⟨pme_0, List.forall_mem_cons.mpr ⟨pme_1, List.forall_mem_cons.mpr ⟨pme_2, List.forall_mem_cons.mpr ⟨pme_3, List.forall_mem_cons.mpr ⟨pme_4, List.forall_mem_cons.mpr ⟨pme_5, List.forall_mem_cons.mpr ⟨pme_6, List.forall_mem_cons.mpr ⟨pme_7, List.forall_mem_cons.mpr ⟨pme_8, List.forall_mem_cons.mpr ⟨pme_9, List.forall_mem_cons.mpr ⟨pme_10, List.forall_mem_cons.mpr ⟨pme_11, List.forall_mem_cons.mpr ⟨pme_12, List.forall_mem_cons.mpr ⟨pme_13, List.forall_mem_cons.mpr ⟨pme_14, List.forall_mem_cons.mpr ⟨pme_15, List.forall_mem_cons.mpr ⟨pme_16, List.forall_mem_cons.mpr ⟨pme_17, List.forall_mem_cons.mpr ⟨pme_18, List.forall_mem_cons.mpr ⟨pme_19, List.forall_mem_cons.mpr ⟨pme_20, List.forall_mem_cons.mpr ⟨pme_21, List.forall_mem_cons.mpr ⟨pme_22, List.forall_mem_cons.mpr ⟨pme_23, List.forall_mem_cons.mpr ⟨pme_24, List.forall_mem_cons.mpr ⟨pme_25, List.forall_mem_cons.mpr ⟨pme_26, List.forall_mem_cons.mpr ⟨pme_27, List.forall_mem_cons.mpr ⟨pme_28, List.forall_mem_cons.mpr ⟨pme_29, List.forall_mem_cons.mpr ⟨pme_30, List.forall_mem_cons.mpr ⟨pme_31, List.forall_mem_cons.mpr ⟨pme_32, List.forall_mem_cons.mpr ⟨pme_33, List.forall_mem_cons.mpr ⟨pme_34, List.forall_mem_cons.mpr ⟨pme_35, List.forall_mem_cons.mpr ⟨pme_36, List.forall_mem_cons.mpr ⟨pme_37, List.forall_mem_cons.mpr ⟨pme_38, List.forall_mem_cons.mpr ⟨pme_39, List.forall_mem_cons.mpr ⟨pme_40, List.forall_mem_cons.mpr ⟨pme_41, List.forall_mem_cons.mpr ⟨pme_42, List.forall_mem_cons.mpr ⟨pme_43, List.forall_mem_cons.mpr ⟨pme_44, List.forall_mem_cons.mpr ⟨pme_45, List.forall_mem_cons.mpr ⟨pme_46, List.forall_mem_cons.mpr ⟨pme_47, List.forall_mem_cons.mpr ⟨pme_48, List.forall_mem_cons.mpr ⟨pme_49, List.forall_mem_cons.mpr ⟨pme_50, List.forall_mem_cons.mpr ⟨pme_51, List.forall_mem_cons.mpr ⟨pme_52, List.forall_mem_cons.mpr ⟨pme_53, List.forall_mem_cons.mpr ⟨pme_54, List.forall_mem_cons.mpr ⟨pme_55, List.forall_mem_cons.mpr ⟨pme_56, List.forall_mem_cons.mpr ⟨pme_57, List.forall_mem_cons.mpr ⟨pme_58, List.forall_mem_cons.mpr ⟨pme_59, List.forall_mem_cons.mpr ⟨pme_60, List.forall_mem_cons.mpr ⟨pme_61, List.forall_mem_cons.mpr ⟨pme_62, List.forall_mem_cons.mpr ⟨pme_63, List.forall_mem_cons.mpr ⟨pme_64, List.forall_mem_cons.mpr ⟨pme_65, List.forall_mem_cons.mpr ⟨pme_66, List.forall_mem_cons.mpr ⟨pme_67, List.forall_mem_cons.mpr ⟨pme_68, List.forall_mem_cons.mpr ⟨pme_69, List.forall_mem_cons.mpr ⟨pme_70, List.forall_mem_cons.mpr ⟨pme_71, List.forall_mem_cons.mpr ⟨pme_72, List.forall_mem_cons.mpr ⟨pme_73, List.forall_mem_cons.mpr ⟨pme_74, List.forall_mem_cons.mpr ⟨pme_75, List.forall_mem_cons.mpr ⟨pme_76, List.forall_mem_cons.mpr ⟨pme_77, List.forall_mem_cons.mpr ⟨pme_78, List.forall_mem_cons.mpr ⟨pme_79, List.forall_mem_cons.mpr ⟨pme_80, List.forall_mem_cons.mpr ⟨pme_81, List.forall_mem_cons.mpr ⟨pme_82, List.forall_mem_cons.mpr ⟨pme_83, List.forall_mem_cons.mpr ⟨pme_84, List.forall_mem_cons.mpr ⟨pme_85, List.forall_mem_cons.mpr ⟨pme_86, List.forall_mem_cons.mpr ⟨pme_87, List.forall_mem_cons.mpr ⟨pme_88, List.forall_mem_cons.mpr ⟨pme_89, List.forall_mem_cons.mpr ⟨pme_90, List.forall_mem_cons.mpr ⟨pme_91, List.forall_mem_cons.mpr ⟨pme_92, List.forall_mem_cons.mpr ⟨pme_93, List.forall_mem_cons.mpr ⟨pme_94, List.forall_mem_cons.mpr ⟨pme_95, List.forall_mem_cons.mpr ⟨pme_96, List.forall_mem_cons.mpr ⟨pme_97, List.forall_mem_cons.mpr ⟨pme_98, List.forall_mem_cons.mpr ⟨pme_99, List.forall_mem_cons.mpr ⟨pme_100, List.forall_mem_cons.mpr ⟨pme_101, List.forall_mem_cons.mpr ⟨pme_102, List.forall_mem_cons.mpr ⟨pme_103, List.forall_mem_cons.mpr ⟨pme_104, List.forall_mem_cons.mpr ⟨pme_105, List.forall_mem_cons.mpr ⟨pme_106, List.forall_mem_cons.mpr ⟨pme_107, List.forall_mem_cons.mpr ⟨pme_108, List.forall_mem_cons.mpr ⟨pme_109, List.forall_mem_cons.mpr ⟨pme_110, List.forall_mem_cons.mpr ⟨pme_111, List.forall_mem_cons.mpr ⟨pme_112, List.forall_mem_cons.mpr ⟨pme_113, List.forall_mem_cons.mpr ⟨pme_114, List.forall_mem_cons.mpr ⟨pme_115, List.forall_mem_cons.mpr ⟨pme_116, List.forall_mem_cons.mpr ⟨pme_117, List.forall_mem_cons.mpr ⟨pme_118, List.forall_mem_cons.mpr ⟨pme_119, List.forall_mem_cons.mpr ⟨pme_120, List.forall_mem_cons.mpr ⟨pme_121, List.forall_mem_cons.mpr ⟨pme_122, List.forall_mem_cons.mpr ⟨pme_123, List.forall_mem_cons.mpr ⟨pme_124, List.forall_mem_cons.mpr ⟨pme_125, List.forall_mem_cons.mpr ⟨pme_126, List.forall_mem_cons.mpr ⟨pme_127, List.forall_mem_cons.mpr ⟨pme_128, List.forall_mem_cons.mpr ⟨pme_129, List.forall_mem_cons.mpr ⟨pme_130, List.forall_mem_cons.mpr ⟨pme_131, List.forall_mem_cons.mpr ⟨pme_132, List.forall_mem_cons.mpr ⟨pme_133, List.forall_mem_cons.mpr ⟨pme_134, List.forall_mem_cons.mpr ⟨pme_135, List.forall_mem_cons.mpr ⟨pme_136, List.forall_mem_cons.mpr ⟨pme_137, List.forall_mem_cons.mpr ⟨pme_138, List.forall_mem_cons.mpr ⟨pme_139, List.forall_mem_cons.mpr ⟨pme_140, List.forall_mem_cons.mpr ⟨pme_141, List.forall_mem_cons.mpr ⟨pme_142, List.forall_mem_cons.mpr ⟨pme_143, List.forall_mem_cons.mpr ⟨pme_144, List.forall_mem_cons.mpr ⟨pme_145, List.forall_mem_cons.mpr ⟨pme_146, List.forall_mem_cons.mpr ⟨pme_147, List.forall_mem_cons.mpr ⟨pme_148, List.forall_mem_cons.mpr ⟨pme_149, List.forall_mem_cons.mpr ⟨pme_150, List.forall_mem_cons.mpr ⟨pme_151, List.forall_mem_cons.mpr ⟨pme_152, List.forall_mem_cons.mpr ⟨pme_153, List.forall_mem_cons.mpr ⟨pme_154, List.forall_mem_cons.mpr ⟨pme_155, List.forall_mem_cons.mpr ⟨pme_156, List.forall_mem_cons.mpr ⟨pme_157, (fun _ h => absurd h List.not_mem_nil)⟩⟩⟩⟩⟩⟩⟩⟩⟩⟩⟩⟩⟩⟩⟩⟩⟩⟩⟩⟩⟩⟩⟩⟩⟩⟩⟩⟩⟩⟩⟩⟩⟩⟩⟩⟩⟩⟩⟩⟩⟩⟩⟩⟩⟩⟩⟩⟩⟩⟩⟩⟩⟩⟩⟩⟩⟩⟩⟩⟩⟩⟩⟩⟩⟩⟩⟩⟩⟩⟩⟩⟩⟩⟩⟩⟩⟩⟩⟩⟩⟩⟩⟩⟩⟩⟩⟩⟩⟩⟩⟩⟩⟩⟩⟩⟩⟩⟩⟩⟩⟩⟩⟩⟩⟩⟩⟩⟩⟩⟩⟩⟩⟩⟩⟩⟩⟩⟩⟩⟩⟩⟩⟩⟩⟩⟩⟩⟩⟩⟩⟩⟩⟩⟩⟩⟩⟩⟩⟩⟩⟩⟩⟩⟩⟩⟩⟩⟩⟩⟩⟩⟩⟩⟩⟩⟩⟩⟩
set_option maxRecDepth 100000 in
theorem pMe_all (j : Nat) (h : j < 158) : pMeF j := pMe_l j (by have h2 := List.mem_range.mpr h; rwa [show List.range 158 = [0, 1, 2, 3, 4, 5, 6, 7, 8, 9, 10, 11, 12, 13, 14, 15, 16, 17, 18, 19, 20, 21, 22, 23, 24, 25, 26, 27, 28, 29, 30, 31, 32, 33, 34, 35, 36, 37, 38, 39, 40, 41, 42, 43, 44, 45, 46, 47, 48, 49, 50, 51, 52, 53, 54, 55, 56, 57, 58, 59, 60, 61, 62, 63, 64, 65, 66, 67, 68, 69, 70, 71, 72, 73, 74, 75, 76, 77, 78, 79, 80, 81, 82, 83, 84, 85, 86, 87, 88, 89, 90, 91, 92, 93, 94, 95, 96, 97, 98, 99, 100, 101, 102, 103, 104, 105, 106, 107, 108, 109, 110, 111, 112, 113, 114, 115, 116, 117, 118, 119, 120, 121, 122, 123, 124, 125, 126, 127, 128, 129, 130, 131, 132, 133, 134, 135, 136, 137, 138, 139, 140, 141, 142, 143, 144, 145, 146, 147, 148, 149, 150, 151, 152, 153, 154, 155, 156, 157] from by decide +kernel] at h2)
