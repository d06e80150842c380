-- ===== PART A: goes FIRST, ahead of the names: the tables' words, and 'selects' of the private methods out of them =====
/-- a private method of a class that the tables say can be made, by its rows of tables_1 -/
def lw_okq (q : MethodName × Nat) : Prop := (q.1.cls ≠ "java/lang/invoke/MethodHandle" ∧ q.1.cls ≠ "java/lang/invoke/VarHandle") ∧ Cond.instantiable q.1.cls q.2 ∈ tables_1 ∧ Cond.privateMethod q.1 ∈ tables_1 ∧ Cond.instanceMethod q.1 ∈ tables_1
theorem lw_p0 : lw_okq (⟨"SquareMesh$Mesh", "lay", "(III)V"⟩, 13) := ⟨⟨by decide +kernel, by decide +kernel⟩, List.mem_of_getElem? (i := 26) (by decide +kernel), List.mem_of_getElem? (i := 260) (by decide +kernel), List.mem_of_getElem? (i := 261) (by decide +kernel)⟩
theorem lw_p1 : lw_okq (⟨"SquareMesh$Mesh", "liftRound", "()V"⟩, 13) := ⟨⟨by decide +kernel, by decide +kernel⟩, List.mem_of_getElem? (i := 26) (by decide +kernel), List.mem_of_getElem? (i := 264) (by decide +kernel), List.mem_of_getElem? (i := 265) (by decide +kernel)⟩
theorem lw_p2 : lw_okq (⟨"SquareMesh$Mesh", "list", "()V"⟩, 13) := ⟨⟨by decide +kernel, by decide +kernel⟩, List.mem_of_getElem? (i := 26) (by decide +kernel), List.mem_of_getElem? (i := 268) (by decide +kernel), List.mem_of_getElem? (i := 269) (by decide +kernel)⟩
theorem lw_p3 : lw_okq (⟨"SquareMesh$Mesh", "listEdge", "(II)V"⟩, 13) := ⟨⟨by decide +kernel, by decide +kernel⟩, List.mem_of_getElem? (i := 26) (by decide +kernel), List.mem_of_getElem? (i := 279) (by decide +kernel), List.mem_of_getElem? (i := 280) (by decide +kernel)⟩
theorem lw_p4 : lw_okq (⟨"SquareMesh$Mesh", "listTriangle", "(III)V"⟩, 13) := ⟨⟨by decide +kernel, by decide +kernel⟩, List.mem_of_getElem? (i := 26) (by decide +kernel), List.mem_of_getElem? (i := 283) (by decide +kernel), List.mem_of_getElem? (i := 284) (by decide +kernel)⟩
theorem lw_p5 : lw_okq (⟨"SquareMesh$Mesh", "strip", "(III)V"⟩, 13) := ⟨⟨by decide +kernel, by decide +kernel⟩, List.mem_of_getElem? (i := 26) (by decide +kernel), List.mem_of_getElem? (i := 389) (by decide +kernel), List.mem_of_getElem? (i := 390) (by decide +kernel)⟩
theorem lw_p6 : lw_okq (⟨"SquareMesh$Mesh", "join", "(III)V"⟩, 13) := ⟨⟨by decide +kernel, by decide +kernel⟩, List.mem_of_getElem? (i := 26) (by decide +kernel), List.mem_of_getElem? (i := 393) (by decide +kernel), List.mem_of_getElem? (i := 394) (by decide +kernel)⟩
theorem lw_p7 : lw_okq (⟨"SquareMesh$Mesh", "put", "(III)V"⟩, 13) := ⟨⟨by decide +kernel, by decide +kernel⟩, List.mem_of_getElem? (i := 26) (by decide +kernel), List.mem_of_getElem? (i := 402) (by decide +kernel), List.mem_of_getElem? (i := 403) (by decide +kernel)⟩
theorem lw_p8 : lw_okq (⟨"SquareMesh$Mesh", "await", "(II)V"⟩, 13) := ⟨⟨by decide +kernel, by decide +kernel⟩, List.mem_of_getElem? (i := 26) (by decide +kernel), List.mem_of_getElem? (i := 406) (by decide +kernel), List.mem_of_getElem? (i := 407) (by decide +kernel)⟩
theorem lw_p9 : lw_okq (⟨"SquareMesh$Mesh", "settle", "()V"⟩, 13) := ⟨⟨by decide +kernel, by decide +kernel⟩, List.mem_of_getElem? (i := 26) (by decide +kernel), List.mem_of_getElem? (i := 419) (by decide +kernel), List.mem_of_getElem? (i := 420) (by decide +kernel)⟩
theorem lw_p10 : lw_okq (⟨"SquareMesh$Mesh", "isInner", "(II)Z"⟩, 13) := ⟨⟨by decide +kernel, by decide +kernel⟩, List.mem_of_getElem? (i := 26) (by decide +kernel), List.mem_of_getElem? (i := 425) (by decide +kernel), List.mem_of_getElem? (i := 426) (by decide +kernel)⟩
theorem lw_p11 : lw_okq (⟨"SquareMesh$Mesh", "isAllowed", "(II)Z"⟩, 13) := ⟨⟨by decide +kernel, by decide +kernel⟩, List.mem_of_getElem? (i := 26) (by decide +kernel), List.mem_of_getElem? (i := 429) (by decide +kernel), List.mem_of_getElem? (i := 430) (by decide +kernel)⟩
theorem lw_p12 : lw_okq (⟨"SquareMesh$Mesh", "under", "(IIIIIJ)J"⟩, 13) := ⟨⟨by decide +kernel, by decide +kernel⟩, List.mem_of_getElem? (i := 26) (by decide +kernel), List.mem_of_getElem? (i := 433) (by decide +kernel), List.mem_of_getElem? (i := 434) (by decide +kernel)⟩
theorem lw_p13 : lw_okq (⟨"SquareMesh$Mesh", "flip", "(II)V"⟩, 13) := ⟨⟨by decide +kernel, by decide +kernel⟩, List.mem_of_getElem? (i := 26) (by decide +kernel), List.mem_of_getElem? (i := 441) (by decide +kernel), List.mem_of_getElem? (i := 442) (by decide +kernel)⟩
theorem lw_p14 : lw_okq (⟨"SquareMesh$Mesh", "firstOfRound", "(I)I"⟩, 13) := ⟨⟨by decide +kernel, by decide +kernel⟩, List.mem_of_getElem? (i := 26) (by decide +kernel), List.mem_of_getElem? (i := 461) (by decide +kernel), List.mem_of_getElem? (i := 462) (by decide +kernel)⟩
theorem lw_p15 : lw_okq (⟨"SquareMesh$Mesh", "cutEar", "(I)V"⟩, 13) := ⟨⟨by decide +kernel, by decide +kernel⟩, List.mem_of_getElem? (i := 26) (by decide +kernel), List.mem_of_getElem? (i := 473) (by decide +kernel), List.mem_of_getElem? (i := 474) (by decide +kernel)⟩
def lw_privs_1 : List (MethodName × Nat) := [(⟨"SquareMesh$Mesh", "lay", "(III)V"⟩, 13), (⟨"SquareMesh$Mesh", "liftRound", "()V"⟩, 13), (⟨"SquareMesh$Mesh", "list", "()V"⟩, 13), (⟨"SquareMesh$Mesh", "listEdge", "(II)V"⟩, 13), (⟨"SquareMesh$Mesh", "listTriangle", "(III)V"⟩, 13), (⟨"SquareMesh$Mesh", "strip", "(III)V"⟩, 13), (⟨"SquareMesh$Mesh", "join", "(III)V"⟩, 13), (⟨"SquareMesh$Mesh", "put", "(III)V"⟩, 13), (⟨"SquareMesh$Mesh", "await", "(II)V"⟩, 13), (⟨"SquareMesh$Mesh", "settle", "()V"⟩, 13), (⟨"SquareMesh$Mesh", "isInner", "(II)Z"⟩, 13), (⟨"SquareMesh$Mesh", "isAllowed", "(II)Z"⟩, 13), (⟨"SquareMesh$Mesh", "under", "(IIIIIJ)J"⟩, 13), (⟨"SquareMesh$Mesh", "flip", "(II)V"⟩, 13), (⟨"SquareMesh$Mesh", "firstOfRound", "(I)I"⟩, 13), (⟨"SquareMesh$Mesh", "cutEar", "(I)V"⟩, 13)]
theorem lw_r1 : ∀ q ∈ lw_privs_1, lw_okq q := List.forall_mem_cons.mpr ⟨lw_p0, List.forall_mem_cons.mpr ⟨lw_p1, List.forall_mem_cons.mpr ⟨lw_p2, List.forall_mem_cons.mpr ⟨lw_p3, List.forall_mem_cons.mpr ⟨lw_p4, List.forall_mem_cons.mpr ⟨lw_p5, List.forall_mem_cons.mpr ⟨lw_p6, List.forall_mem_cons.mpr ⟨lw_p7, List.forall_mem_cons.mpr ⟨lw_p8, List.forall_mem_cons.mpr ⟨lw_p9, List.forall_mem_cons.mpr ⟨lw_p10, List.forall_mem_cons.mpr ⟨lw_p11, List.forall_mem_cons.mpr ⟨lw_p12, List.forall_mem_cons.mpr ⟨lw_p13, List.forall_mem_cons.mpr ⟨lw_p14, List.forall_mem_cons.mpr ⟨lw_p15, fun _ h => absurd h List.not_mem_nil⟩⟩⟩⟩⟩⟩⟩⟩⟩⟩⟩⟩⟩⟩⟩⟩
theorem lw_p16 : lw_okq (⟨"SquareMesh$Mesh", "isEar", "(II)Z"⟩, 13) := ⟨⟨by decide +kernel, by decide +kernel⟩, List.mem_of_getElem? (i := 26) (by decide +kernel), List.mem_of_getElem? (i := 477) (by decide +kernel), List.mem_of_getElem? (i := 478) (by decide +kernel)⟩
theorem lw_p17 : lw_okq (⟨"SquareMesh$Mesh", "liftFrom", "(II)V"⟩, 13) := ⟨⟨by decide +kernel, by decide +kernel⟩, List.mem_of_getElem? (i := 26) (by decide +kernel), List.mem_of_getElem? (i := 523) (by decide +kernel), List.mem_of_getElem? (i := 524) (by decide +kernel)⟩
theorem lw_p18 : lw_okq (⟨"SquareMesh$Mesh", "flipCrossing", "(II)V"⟩, 13) := ⟨⟨by decide +kernel, by decide +kernel⟩, List.mem_of_getElem? (i := 26) (by decide +kernel), List.mem_of_getElem? (i := 530) (by decide +kernel), List.mem_of_getElem? (i := 531) (by decide +kernel)⟩
theorem lw_p19 : lw_okq (⟨"SquareMesh", "smoothOne", "(I)Z"⟩, 11) := ⟨⟨by decide +kernel, by decide +kernel⟩, List.mem_of_getElem? (i := 18) (by decide +kernel), List.mem_of_getElem? (i := 563) (by decide +kernel), List.mem_of_getElem? (i := 564) (by decide +kernel)⟩
theorem lw_p20 : lw_okq (⟨"SquareMesh", "paint", "()I"⟩, 11) := ⟨⟨by decide +kernel, by decide +kernel⟩, List.mem_of_getElem? (i := 18) (by decide +kernel), List.mem_of_getElem? (i := 803) (by decide +kernel), List.mem_of_getElem? (i := 804) (by decide +kernel)⟩
theorem lw_p21 : lw_okq (⟨"SquareMesh", "leastColour", "(I)I"⟩, 11) := ⟨⟨by decide +kernel, by decide +kernel⟩, List.mem_of_getElem? (i := 18) (by decide +kernel), List.mem_of_getElem? (i := 807) (by decide +kernel), List.mem_of_getElem? (i := 808) (by decide +kernel)⟩
theorem lw_p22 : lw_okq (⟨"SquareMesh", "isOfRegions", "(I)I"⟩, 11) := ⟨⟨by decide +kernel, by decide +kernel⟩, List.mem_of_getElem? (i := 18) (by decide +kernel), List.mem_of_getElem? (i := 812) (by decide +kernel), List.mem_of_getElem? (i := 813) (by decide +kernel)⟩
theorem lw_p23 : lw_okq (⟨"SquareMesh$Regions", "flood", "(LSquareMesh$Mesh;I)V"⟩, 4) := ⟨⟨by decide +kernel, by decide +kernel⟩, List.mem_of_getElem? (i := 170) (by decide +kernel), List.mem_of_getElem? (i := 821) (by decide +kernel), List.mem_of_getElem? (i := 822) (by decide +kernel)⟩
theorem lw_p24 : lw_okq (⟨"SquareMesh", "refineOnce", "()Z"⟩, 11) := ⟨⟨by decide +kernel, by decide +kernel⟩, List.mem_of_getElem? (i := 18) (by decide +kernel), List.mem_of_getElem? (i := 920) (by decide +kernel), List.mem_of_getElem? (i := 921) (by decide +kernel)⟩
def lw_privs_2 : List (MethodName × Nat) := [(⟨"SquareMesh$Mesh", "isEar", "(II)Z"⟩, 13), (⟨"SquareMesh$Mesh", "liftFrom", "(II)V"⟩, 13), (⟨"SquareMesh$Mesh", "flipCrossing", "(II)V"⟩, 13), (⟨"SquareMesh", "smoothOne", "(I)Z"⟩, 11), (⟨"SquareMesh", "paint", "()I"⟩, 11), (⟨"SquareMesh", "leastColour", "(I)I"⟩, 11), (⟨"SquareMesh", "isOfRegions", "(I)I"⟩, 11), (⟨"SquareMesh$Regions", "flood", "(LSquareMesh$Mesh;I)V"⟩, 4), (⟨"SquareMesh", "refineOnce", "()Z"⟩, 11)]
theorem lw_r2 : ∀ q ∈ lw_privs_2, lw_okq q := List.forall_mem_cons.mpr ⟨lw_p16, List.forall_mem_cons.mpr ⟨lw_p17, List.forall_mem_cons.mpr ⟨lw_p18, List.forall_mem_cons.mpr ⟨lw_p19, List.forall_mem_cons.mpr ⟨lw_p20, List.forall_mem_cons.mpr ⟨lw_p21, List.forall_mem_cons.mpr ⟨lw_p22, List.forall_mem_cons.mpr ⟨lw_p23, List.forall_mem_cons.mpr ⟨lw_p24, fun _ h => absurd h List.not_mem_nil⟩⟩⟩⟩⟩⟩⟩⟩⟩
def lw_privs : List (MethodName × Nat) := lw_privs_1 ++ (lw_privs_2)
def lw_tbl : List Cond := k2_sels lw_privs ++ tables_1
theorem lw_privs_ok : ∀ q ∈ lw_privs, lw_okq q := by
  show ∀ q ∈ lw_privs_1 ++ (lw_privs_2), lw_okq q
  exact List.forall_mem_append.mpr ⟨lw_r1, lw_r2⟩
def RX0 : String := "SquareMesh$Hull"
def TX0 : u_T := fun k => match k with
  | 0 => ("SquareMesh$Hull", "row", "[I", true)
  | _ => ("SquareMesh$Hull", "count", "I", false)
def tyX0 : Nat → FieldType := fun k => match k with
  | 0 => .array .int
  | _ => .int
theorem nmX0 : ∀ a, a < 2 → ∀ b, b < 2 → a ≠ b → (TX0 a).2.1 ≠ (TX0 b).2.1 := by decide +kernel
theorem tyX0_ok : ∀ k, k < 2 → parseFieldDescriptor (TX0 k).2.2.1 = some (tyX0 k) := by decide +kernel
abbrev cX0_init : ByteArray := prog_2_method_1_code
def yX0_init : MethodName := ⟨RX0, "<init>", "()V"⟩
def RX1 : String := "SquareMesh$Mesh"
def TX1 : u_T := fun k => match k with
  | 0 => ("SquareMesh$Mesh", "told", "LSquareMesh$Told;", true)
  | 1 => ("SquareMesh$Mesh", "apex", "[I", true)
  | 2 => ("SquareMesh$Mesh", "owner", "[I", true)
  | 3 => ("SquareMesh$Mesh", "corners", "[I", true)
  | 4 => ("SquareMesh$Mesh", "ends", "[I", true)
  | 5 => ("SquareMesh$Mesh", "near", "[J", true)
  | 6 => ("SquareMesh$Mesh", "round", "[I", true)
  | 7 => ("SquareMesh$Mesh", "triangles", "I", false)
  | 8 => ("SquareMesh$Mesh", "edges", "I", false)
  | 9 => ("SquareMesh$Mesh", "lift", "[J", true)
  | 10 => ("SquareMesh$Mesh", "waiting", "[J", true)
  | 11 => ("SquareMesh$Mesh", "queue", "[I", true)
  | _ => ("SquareMesh$Mesh", "queued", "I", false)
def tyX1 : Nat → FieldType := fun k => match k with
  | 0 => .object "SquareMesh$Told"
  | 1 => .array .int
  | 2 => .array .int
  | 3 => .array .int
  | 4 => .array .int
  | 5 => .array .long
  | 6 => .array .int
  | 7 => .int
  | 8 => .int
  | 9 => .array .long
  | 10 => .array .long
  | 11 => .array .int
  | _ => .int
theorem nmX1 : ∀ a, a < 13 → ∀ b, b < 13 → a ≠ b → (TX1 a).2.1 ≠ (TX1 b).2.1 := by decide +kernel
theorem tyX1_ok : ∀ k, k < 13 → parseFieldDescriptor (TX1 k).2.2.1 = some (tyX1 k) := by decide +kernel
abbrev cX1_init : ByteArray := prog_3_method_1_code
def yX1_init : MethodName := ⟨RX1, "<init>", "()V"⟩
abbrev cX1_start : ByteArray := prog_3_method_2_code
def yX1_start : MethodName := ⟨RX1, "start", "()V"⟩
abbrev cX1_become : ByteArray := prog_3_method_3_code
def yX1_become : MethodName := ⟨RX1, "become", "(LSquareMesh$Told;[II)V"⟩
abbrev cX1_tellPoint : ByteArray := prog_3_method_4_code
def yX1_tellPoint : MethodName := ⟨RX1, "tellPoint", "(II)I"⟩
abbrev cX1_insert : ByteArray := prog_3_method_5_code
def yX1_insert : MethodName := ⟨RX1, "insert", "(III)V"⟩
abbrev cX1_join : ByteArray := prog_3_method_6_code
def yX1_join : MethodName := ⟨RX1, "join", "(III)V"⟩
abbrev cX1_takeOut : ByteArray := prog_3_method_7_code
def yX1_takeOut : MethodName := ⟨RX1, "takeOut", "(I)V"⟩
abbrev cX1_cutEar : ByteArray := prog_3_method_8_code
def yX1_cutEar : MethodName := ⟨RX1, "cutEar", "(I)V"⟩
abbrev cX1_isEar : ByteArray := prog_3_method_9_code
def yX1_isEar : MethodName := ⟨RX1, "isEar", "(II)Z"⟩
abbrev cX1_canFix : ByteArray := prog_3_method_10_code
def yX1_canFix : MethodName := ⟨RX1, "canFix", "(II)Z"⟩
abbrev cX1_fixEdge : ByteArray := prog_3_method_11_code
def yX1_fixEdge : MethodName := ⟨RX1, "fixEdge", "(II)V"⟩
abbrev cX1_flipCrossing : ByteArray := prog_3_method_12_code
def yX1_flipCrossing : MethodName := ⟨RX1, "flipCrossing", "(II)V"⟩
abbrev cX1_canFree : ByteArray := prog_3_method_13_code
def yX1_canFree : MethodName := ⟨RX1, "canFree", "(II)Z"⟩
abbrev cX1_freeEdge : ByteArray := prog_3_method_14_code
def yX1_freeEdge : MethodName := ⟨RX1, "freeEdge", "(II)V"⟩
abbrev cX1_lay : ByteArray := prog_3_method_15_code
def yX1_lay : MethodName := ⟨RX1, "lay", "(III)V"⟩
abbrev cX1_strip : ByteArray := prog_3_method_16_code
def yX1_strip : MethodName := ⟨RX1, "strip", "(III)V"⟩
abbrev cX1_put : ByteArray := prog_3_method_17_code
def yX1_put : MethodName := ⟨RX1, "put", "(III)V"⟩
abbrev cX1_await : ByteArray := prog_3_method_18_code
def yX1_await : MethodName := ⟨RX1, "await", "(II)V"⟩
abbrev cX1_settle : ByteArray := prog_3_method_19_code
def yX1_settle : MethodName := ⟨RX1, "settle", "()V"⟩
abbrev cX1_flip : ByteArray := prog_3_method_20_code
def yX1_flip : MethodName := ⟨RX1, "flip", "(II)V"⟩
abbrev cX1_isInner : ByteArray := prog_3_method_21_code
def yX1_isInner : MethodName := ⟨RX1, "isInner", "(II)Z"⟩
abbrev cX1_isAllowed : ByteArray := prog_3_method_22_code
def yX1_isAllowed : MethodName := ⟨RX1, "isAllowed", "(II)Z"⟩
abbrev cX1_liftRound : ByteArray := prog_3_method_23_code
def yX1_liftRound : MethodName := ⟨RX1, "liftRound", "()V"⟩
abbrev cX1_liftFrom : ByteArray := prog_3_method_24_code
def yX1_liftFrom : MethodName := ⟨RX1, "liftFrom", "(II)V"⟩
abbrev cX1_under : ByteArray := prog_3_method_25_code
def yX1_under : MethodName := ⟨RX1, "under", "(IIIIIJ)J"⟩
abbrev cX1_list : ByteArray := prog_3_method_27_code
def yX1_list : MethodName := ⟨RX1, "list", "()V"⟩
abbrev cX1_listEdge : ByteArray := prog_3_method_28_code
def yX1_listEdge : MethodName := ⟨RX1, "listEdge", "(II)V"⟩
abbrev cX1_listTriangle : ByteArray := prog_3_method_29_code
def yX1_listTriangle : MethodName := ⟨RX1, "listTriangle", "(III)V"⟩
abbrev cX1_hasTriangle : ByteArray := prog_3_method_30_code
def yX1_hasTriangle : MethodName := ⟨RX1, "hasTriangle", "(I)Z"⟩
abbrev cX1_cornerOf : ByteArray := prog_3_method_31_code
def yX1_cornerOf : MethodName := ⟨RX1, "cornerOf", "(II)I"⟩
abbrev cX1_isNear : ByteArray := prog_3_method_32_code
def yX1_isNear : MethodName := ⟨RX1, "isNear", "(II)Z"⟩
abbrev cX1_across : ByteArray := prog_3_method_33_code
def yX1_across : MethodName := ⟨RX1, "across", "(II)I"⟩
abbrev cX1_isOpen : ByteArray := prog_3_method_34_code
def yX1_isOpen : MethodName := ⟨RX1, "isOpen", "(II)Z"⟩
abbrev cX1_areaOf : ByteArray := prog_3_method_35_code
def yX1_areaOf : MethodName := ⟨RX1, "areaOf", "(I)I"⟩
abbrev cX1_sideOf : ByteArray := prog_3_method_36_code
def yX1_sideOf : MethodName := ⟨RX1, "sideOf", "(IIII)I"⟩
abbrev cX1_sideSquare : ByteArray := prog_3_method_37_code
def yX1_sideSquare : MethodName := ⟨RX1, "sideSquare", "(II)I"⟩
abbrev cX1_holds : ByteArray := prog_3_method_39_code
def yX1_holds : MethodName := ⟨RX1, "holds", "(III)Z"⟩
abbrev cX1_whereIn : ByteArray := prog_3_method_40_code
def yX1_whereIn : MethodName := ⟨RX1, "whereIn", "(II)I"⟩
abbrev cX1_goRound : ByteArray := prog_3_method_41_code
def yX1_goRound : MethodName := ⟨RX1, "goRound", "(I)I"⟩
abbrev cX1_firstOfRound : ByteArray := prog_3_method_42_code
def yX1_firstOfRound : MethodName := ⟨RX1, "firstOfRound", "(I)I"⟩
abbrev cX1_isInSight : ByteArray := prog_3_method_43_code
def yX1_isInSight : MethodName := ⟨RX1, "isInSight", "(II)Z"⟩
abbrev cX1_countFixed : ByteArray := prog_3_method_45_code
def yX1_countFixed : MethodName := ⟨RX1, "countFixed", "()I"⟩
abbrev cX1_countBorder : ByteArray := prog_3_method_46_code
def yX1_countBorder : MethodName := ⟨RX1, "countBorder", "()I"⟩
abbrev cX1_isBent : ByteArray := prog_3_method_47_code
def yX1_isBent : MethodName := ⟨RX1, "isBent", "(I)Z"⟩
abbrev cX1_countBent : ByteArray := prog_3_method_48_code
def yX1_countBent : MethodName := ⟨RX1, "countBent", "()I"⟩
abbrev cX1_countAngles : ByteArray := prog_3_method_49_code
def yX1_countAngles : MethodName := ⟨RX1, "countAngles", "(I)I"⟩
abbrev cX1_longestSide : ByteArray := prog_3_method_50_code
def yX1_longestSide : MethodName := ⟨RX1, "longestSide", "(I)I"⟩
abbrev cX1_thinnestOne : ByteArray := prog_3_method_51_code
def yX1_thinnestOne : MethodName := ⟨RX1, "thinnestOne", "()I"⟩
def RX2 : String := "SquareMesh$Passages"
def TX2 : u_T := fun k => match k with
  | 0 => ("SquareMesh$Passages", "far", "[I", true)
  | 1 => ("SquareMesh$Passages", "last", "I", false)
  | _ => ("SquareMesh$Passages", "queue", "[I", true)
def tyX2 : Nat → FieldType := fun k => match k with
  | 0 => .array .int
  | 1 => .int
  | _ => .array .int
theorem nmX2 : ∀ a, a < 3 → ∀ b, b < 3 → a ≠ b → (TX2 a).2.1 ≠ (TX2 b).2.1 := by decide +kernel
theorem tyX2_ok : ∀ k, k < 3 → parseFieldDescriptor (TX2 k).2.2.1 = some (tyX2 k) := by decide +kernel
abbrev cX2_init : ByteArray := prog_4_method_1_code
def yX2_init : MethodName := ⟨RX2, "<init>", "()V"⟩
def RX3 : String := "SquareMesh$Past"
def TX3 : u_T := fun k => match k with
  | 0 => ("SquareMesh$Past", "shots", "[LSquareMesh$Shot;", true)
  | _ => ("SquareMesh$Past", "count", "I", false)
def tyX3 : Nat → FieldType := fun k => match k with
  | 0 => .array (.object "SquareMesh$Shot")
  | _ => .int
theorem nmX3 : ∀ a, a < 2 → ∀ b, b < 2 → a ≠ b → (TX3 a).2.1 ≠ (TX3 b).2.1 := by decide +kernel
theorem tyX3_ok : ∀ k, k < 2 → parseFieldDescriptor (TX3 k).2.2.1 = some (tyX3 k) := by decide +kernel
abbrev cX3_init : ByteArray := prog_5_method_1_code
def yX3_init : MethodName := ⟨RX3, "<init>", "()V"⟩
abbrev cX3_push : ByteArray := prog_5_method_2_code
def yX3_push : MethodName := ⟨RX3, "push", "(LSquareMesh$Mesh;)V"⟩
abbrev cX3_pop : ByteArray := prog_5_method_3_code
def yX3_pop : MethodName := ⟨RX3, "pop", "(LSquareMesh$Mesh;)Z"⟩
abbrev cX3_copyFrom : ByteArray := prog_5_method_4_code
def yX3_copyFrom : MethodName := ⟨RX3, "copyFrom", "(LSquareMesh$Past;)V"⟩
def RX4 : String := "SquareMesh$Regions"
def TX4 : u_T := fun k => match k with
  | 0 => ("SquareMesh$Regions", "part", "[I", true)
  | 1 => ("SquareMesh$Regions", "holesIn", "[I", true)
  | 2 => ("SquareMesh$Regions", "count", "I", false)
  | _ => ("SquareMesh$Regions", "stack", "[I", true)
def tyX4 : Nat → FieldType := fun k => match k with
  | 0 => .array .int
  | 1 => .array .int
  | 2 => .int
  | _ => .array .int
theorem nmX4 : ∀ a, a < 4 → ∀ b, b < 4 → a ≠ b → (TX4 a).2.1 ≠ (TX4 b).2.1 := by decide +kernel
theorem tyX4_ok : ∀ k, k < 4 → parseFieldDescriptor (TX4 k).2.2.1 = some (tyX4 k) := by decide +kernel
abbrev cX4_init : ByteArray := prog_6_method_1_code
def yX4_init : MethodName := ⟨RX4, "<init>", "()V"⟩
abbrev cX4_find : ByteArray := prog_6_method_2_code
def yX4_find : MethodName := ⟨RX4, "find", "(LSquareMesh$Mesh;)V"⟩
abbrev cX4_flood : ByteArray := prog_6_method_3_code
def yX4_flood : MethodName := ⟨RX4, "flood", "(LSquareMesh$Mesh;I)V"⟩
abbrev cX4_countHollow : ByteArray := prog_6_method_4_code
def yX4_countHollow : MethodName := ⟨RX4, "countHollow", "()I"⟩
def RX5 : String := "SquareMesh$Shot"
def TX5 : u_T := fun k => match k with
  | 0 => ("SquareMesh$Shot", "told", "LSquareMesh$Told;", true)
  | 1 => ("SquareMesh$Shot", "corners", "[I", true)
  | _ => ("SquareMesh$Shot", "triangles", "I", false)
def tyX5 : Nat → FieldType := fun k => match k with
  | 0 => .object "SquareMesh$Told"
  | 1 => .array .int
  | _ => .int
theorem nmX5 : ∀ a, a < 3 → ∀ b, b < 3 → a ≠ b → (TX5 a).2.1 ≠ (TX5 b).2.1 := by decide +kernel
theorem tyX5_ok : ∀ k, k < 3 → parseFieldDescriptor (TX5 k).2.2.1 = some (tyX5 k) := by decide +kernel
abbrev cX5_init : ByteArray := prog_7_method_1_code
def yX5_init : MethodName := ⟨RX5, "<init>", "()V"⟩
abbrev cX5_take : ByteArray := prog_7_method_2_code
def yX5_take : MethodName := ⟨RX5, "take", "(LSquareMesh$Mesh;)V"⟩
abbrev cX5_give : ByteArray := prog_7_method_3_code
def yX5_give : MethodName := ⟨RX5, "give", "(LSquareMesh$Mesh;)V"⟩
abbrev cX5_copyFrom : ByteArray := prog_7_method_4_code
def yX5_copyFrom : MethodName := ⟨RX5, "copyFrom", "(LSquareMesh$Shot;)V"⟩
def RX6 : String := "SquareMesh$Told"
def TX6 : u_T := fun k => match k with
  | 0 => ("SquareMesh$Told", "xs", "[I", true)
  | 1 => ("SquareMesh$Told", "ys", "[I", true)
  | 2 => ("SquareMesh$Told", "heights", "[I", true)
  | 3 => ("SquareMesh$Told", "fixed", "[J", true)
  | 4 => ("SquareMesh$Told", "holeXs", "[I", true)
  | 5 => ("SquareMesh$Told", "holeYs", "[I", true)
  | 6 => ("SquareMesh$Told", "there", "J", false)
  | 7 => ("SquareMesh$Told", "holes", "I", false)
  | _ => ("SquareMesh$Told", "g", "I", false)
def tyX6 : Nat → FieldType := fun k => match k with
  | 0 => .array .int
  | 1 => .array .int
  | 2 => .array .int
  | 3 => .array .long
  | 4 => .array .int
  | 5 => .array .int
  | 6 => .long
  | 7 => .int
  | _ => .int
theorem nmX6 : ∀ a, a < 9 → ∀ b, b < 9 → a ≠ b → (TX6 a).2.1 ≠ (TX6 b).2.1 := by decide +kernel
theorem tyX6_ok : ∀ k, k < 9 → parseFieldDescriptor (TX6 k).2.2.1 = some (tyX6 k) := by decide +kernel
abbrev cX6_init : ByteArray := prog_8_method_1_code
def yX6_init : MethodName := ⟨RX6, "<init>", "()V"⟩
abbrev cX6_copyFrom : ByteArray := prog_8_method_2_code
def yX6_copyFrom : MethodName := ⟨RX6, "copyFrom", "(LSquareMesh$Told;)V"⟩
abbrev cX6_has : ByteArray := prog_8_method_3_code
def yX6_has : MethodName := ⟨RX6, "has", "(I)Z"⟩
abbrev cX6_points : ByteArray := prog_8_method_4_code
def yX6_points : MethodName := ⟨RX6, "points", "()I"⟩
abbrev cX6_place : ByteArray := prog_8_method_5_code
def yX6_place : MethodName := ⟨RX6, "place", "(III)V"⟩
abbrev cX6_remove : ByteArray := prog_8_method_6_code
def yX6_remove : MethodName := ⟨RX6, "remove", "(I)V"⟩
abbrev cX6_atPlace : ByteArray := prog_8_method_7_code
def yX6_atPlace : MethodName := ⟨RX6, "atPlace", "(II)I"⟩
abbrev cX6_leastUnused : ByteArray := prog_8_method_8_code
def yX6_leastUnused : MethodName := ⟨RX6, "leastUnused", "()I"⟩
abbrev cX6_takes : ByteArray := prog_8_method_9_code
def yX6_takes : MethodName := ⟨RX6, "takes", "(II)Z"⟩
abbrev cX6_isLoose : ByteArray := prog_8_method_10_code
def yX6_isLoose : MethodName := ⟨RX6, "isLoose", "(I)Z"⟩
abbrev cX6_isOnBorder : ByteArray := prog_8_method_11_code
def yX6_isOnBorder : MethodName := ⟨RX6, "isOnBorder", "(I)Z"⟩
abbrev cX6_isBound : ByteArray := prog_8_method_12_code
def yX6_isBound : MethodName := ⟨RX6, "isBound", "(II)Z"⟩
abbrev cX6_bind : ByteArray := prog_8_method_13_code
def yX6_bind : MethodName := ⟨RX6, "bind", "(II)V"⟩
abbrev cX6_unbind : ByteArray := prog_8_method_14_code
def yX6_unbind : MethodName := ⟨RX6, "unbind", "(II)V"⟩
abbrev cX6_draw : ByteArray := prog_8_method_15_code
def yX6_draw : MethodName := ⟨RX6, "draw", "(I)I"⟩
abbrev cX6_side : ByteArray := prog_8_method_16_code
def yX6_side : MethodName := ⟨RX6, "side", "(IIII)I"⟩
abbrev cX6_side_ : ByteArray := prog_8_method_17_code
def yX6_side_ : MethodName := ⟨RX6, "side", "(III)I"⟩
abbrev cX6_square : ByteArray := prog_8_method_18_code
def yX6_square : MethodName := ⟨RX6, "square", "(II)I"⟩
abbrev cX6_ahead : ByteArray := prog_8_method_19_code
def yX6_ahead : MethodName := ⟨RX6, "ahead", "(II)I"⟩
abbrev cX6_isBetween : ByteArray := prog_8_method_20_code
def yX6_isBetween : MethodName := ⟨RX6, "isBetween", "(III)Z"⟩
abbrev cX6_isCut : ByteArray := prog_8_method_21_code
def yX6_isCut : MethodName := ⟨RX6, "isCut", "(IIIIII)Z"⟩
abbrev cX6_isCutBy : ByteArray := prog_8_method_22_code
def yX6_isCutBy : MethodName := ⟨RX6, "isCutBy", "(IIII)Z"⟩
def RX7 : String := "SquareMesh$Tree"
def TX7 : u_T := fun k => match k with
  | 0 => ("SquareMesh$Tree", "taken", "[I", true)
  | 1 => ("SquareMesh$Tree", "count", "I", false)
  | _ => ("SquareMesh$Tree", "part", "[I", true)
def tyX7 : Nat → FieldType := fun k => match k with
  | 0 => .array .int
  | 1 => .int
  | _ => .array .int
theorem nmX7 : ∀ a, a < 3 → ∀ b, b < 3 → a ≠ b → (TX7 a).2.1 ≠ (TX7 b).2.1 := by decide +kernel
theorem tyX7_ok : ∀ k, k < 3 → parseFieldDescriptor (TX7 k).2.2.1 = some (tyX7 k) := by decide +kernel
abbrev cX7_init : ByteArray := prog_9_method_1_code
def yX7_init : MethodName := ⟨RX7, "<init>", "()V"⟩
def RX8 : String := "SquareMesh$Ways"
def TX8 : u_T := fun k => match k with
  | 0 => ("SquareMesh$Ways", "far", "[I", true)
  | _ => ("SquareMesh$Ways", "costs", "[I", true)
def tyX8 : Nat → FieldType := fun k => match k with
  | 0 => .array .int
  | _ => .array .int
theorem nmX8 : ∀ a, a < 2 → ∀ b, b < 2 → a ≠ b → (TX8 a).2.1 ≠ (TX8 b).2.1 := by decide +kernel
theorem tyX8_ok : ∀ k, k < 2 → parseFieldDescriptor (TX8 k).2.2.1 = some (tyX8 k) := by decide +kernel
abbrev cX8_init : ByteArray := prog_10_method_1_code
def yX8_init : MethodName := ⟨RX8, "<init>", "()V"⟩
def RX9 : String := "SquareMesh"
def TX9 : u_T := fun k => match k with
  | 0 => ("SquareMesh", "mesh", "LSquareMesh$Mesh;", true)
  | 1 => ("SquareMesh", "tried", "LSquareMesh$Mesh;", true)
  | 2 => ("SquareMesh", "pictured", "LSquareMesh$Shot;", true)
  | 3 => ("SquareMesh", "past", "LSquareMesh$Past;", true)
  | 4 => ("SquareMesh", "picturedPast", "LSquareMesh$Past;", true)
  | 5 => ("SquareMesh", "regions", "LSquareMesh$Regions;", true)
  | 6 => ("SquareMesh", "ways", "LSquareMesh$Ways;", true)
  | 7 => ("SquareMesh", "passages", "LSquareMesh$Passages;", true)
  | 8 => ("SquareMesh", "grown", "LSquareMesh$Tree;", true)
  | 9 => ("SquareMesh", "wrapped", "LSquareMesh$Hull;", true)
  | _ => ("SquareMesh", "colours", "[I", true)
def tyX9 : Nat → FieldType := fun k => match k with
  | 0 => .object "SquareMesh$Mesh"
  | 1 => .object "SquareMesh$Mesh"
  | 2 => .object "SquareMesh$Shot"
  | 3 => .object "SquareMesh$Past"
  | 4 => .object "SquareMesh$Past"
  | 5 => .object "SquareMesh$Regions"
  | 6 => .object "SquareMesh$Ways"
  | 7 => .object "SquareMesh$Passages"
  | 8 => .object "SquareMesh$Tree"
  | 9 => .object "SquareMesh$Hull"
  | _ => .array .int
theorem nmX9 : ∀ a, a < 11 → ∀ b, b < 11 → a ≠ b → (TX9 a).2.1 ≠ (TX9 b).2.1 := by decide +kernel
theorem tyX9_ok : ∀ k, k < 11 → parseFieldDescriptor (TX9 k).2.2.1 = some (tyX9 k) := by decide +kernel
abbrev cX9_init : ByteArray := prog_1_method_1_code
def yX9_init : MethodName := ⟨RX9, "<init>", "()V"⟩
abbrev cX9_point : ByteArray := prog_1_method_2_code
def yX9_point : MethodName := ⟨RX9, "point", "(II)I"⟩
abbrev cX9_drop : ByteArray := prog_1_method_3_code
def yX9_drop : MethodName := ⟨RX9, "drop", "(I)Z"⟩
abbrev cX9_move : ByteArray := prog_1_method_4_code
def yX9_move : MethodName := ⟨RX9, "move", "(III)Z"⟩
abbrev cX9_fix : ByteArray := prog_1_method_5_code
def yX9_fix : MethodName := ⟨RX9, "fix", "(II)Z"⟩
abbrev cX9_free : ByteArray := prog_1_method_6_code
def yX9_free : MethodName := ⟨RX9, "free", "(II)Z"⟩
abbrev cX9_drawn : ByteArray := prog_1_method_7_code
def yX9_drawn : MethodName := ⟨RX9, "drawn", "(II)I"⟩
abbrev cX9_height : ByteArray := prog_1_method_8_code
def yX9_height : MethodName := ⟨RX9, "height", "(II)Z"⟩
abbrev cX9_refine : ByteArray := prog_1_method_9_code
def yX9_refine : MethodName := ⟨RX9, "refine", "(I)I"⟩
abbrev cX9_refineOnce : ByteArray := prog_1_method_10_code
def yX9_refineOnce : MethodName := ⟨RX9, "refineOnce", "()Z"⟩
abbrev cX9_smooth : ByteArray := prog_1_method_11_code
def yX9_smooth : MethodName := ⟨RX9, "smooth", "()I"⟩
abbrev cX9_smoothOne : ByteArray := prog_1_method_12_code
def yX9_smoothOne : MethodName := ⟨RX9, "smoothOne", "(I)Z"⟩
abbrev cX9_hole : ByteArray := prog_1_method_13_code
def yX9_hole : MethodName := ⟨RX9, "hole", "(II)I"⟩
abbrev cX9_fill : ByteArray := prog_1_method_14_code
def yX9_fill : MethodName := ⟨RX9, "fill", "()I"⟩
abbrev cX9_tell : ByteArray := prog_1_method_15_code
def yX9_tell : MethodName := ⟨RX9, "tell", "(I)Z"⟩
abbrev cX9_undo : ByteArray := prog_1_method_16_code
def yX9_undo : MethodName := ⟨RX9, "undo", "()I"⟩
abbrev cX9_steps : ByteArray := prog_1_method_17_code
def yX9_steps : MethodName := ⟨RX9, "steps", "()I"⟩
abbrev cX9_image : ByteArray := prog_1_method_18_code
def yX9_image : MethodName := ⟨RX9, "image", "()I"⟩
abbrev cX9_back : ByteArray := prog_1_method_19_code
def yX9_back : MethodName := ⟨RX9, "back", "()I"⟩
abbrev cX9_is : ByteArray := prog_1_method_21_code
def yX9_is : MethodName := ⟨RX9, "is", "(I)I"⟩
abbrev cX9_isOfRegions : ByteArray := prog_1_method_22_code
def yX9_isOfRegions : MethodName := ⟨RX9, "isOfRegions", "(I)I"⟩
abbrev cX9_of : ByteArray := prog_1_method_23_code
def yX9_of : MethodName := ⟨RX9, "of", "(II)I"⟩
abbrev cX9_at : ByteArray := prog_1_method_24_code
def yX9_at : MethodName := ⟨RX9, "at", "(II)I"⟩
abbrev cX9_corner : ByteArray := prog_1_method_25_code
def yX9_corner : MethodName := ⟨RX9, "corner", "(II)I"⟩
abbrev cX9_beyond : ByteArray := prog_1_method_26_code
def yX9_beyond : MethodName := ⟨RX9, "beyond", "(II)I"⟩
abbrev cX9_area : ByteArray := prog_1_method_27_code
def yX9_area : MethodName := ⟨RX9, "area", "(I)I"⟩
abbrev cX9_triangle : ByteArray := prog_1_method_28_code
def yX9_triangle : MethodName := ⟨RX9, "triangle", "(III)I"⟩
abbrev cX9_isEdge : ByteArray := prog_1_method_29_code
def yX9_isEdge : MethodName := ⟨RX9, "isEdge", "(II)Z"⟩
abbrev cX9_isFixed : ByteArray := prog_1_method_30_code
def yX9_isFixed : MethodName := ⟨RX9, "isFixed", "(II)Z"⟩
abbrev cX9_star : ByteArray := prog_1_method_34_code
def yX9_star : MethodName := ⟨RX9, "star", "(II)I"⟩
abbrev cX9_thinnest : ByteArray := prog_1_method_46_code
def yX9_thinnest : MethodName := ⟨RX9, "thinnest", "()I"⟩
abbrev cX9_colour : ByteArray := prog_1_method_55_code
def yX9_colour : MethodName := ⟨RX9, "colour", "(I)I"⟩
abbrev cX9_paint : ByteArray := prog_1_method_56_code
def yX9_paint : MethodName := ⟨RX9, "paint", "()I"⟩
abbrev cX9_leastColour : ByteArray := prog_1_method_57_code
def yX9_leastColour : MethodName := ⟨RX9, "leastColour", "(I)I"⟩
abbrev cX9_inSquare : ByteArray := prog_1_method_69_code
def yX9_inSquare : MethodName := ⟨RX9, "inSquare", "(II)Z"⟩
abbrev cX9_turn : ByteArray := prog_1_method_70_code
def yX9_turn : MethodName := ⟨RX9, "turn", "(IIIIII)I"⟩
abbrev cX9_areOpposite : ByteArray := prog_1_method_71_code
def yX9_areOpposite : MethodName := ⟨RX9, "areOpposite", "(II)Z"⟩
def RX10 : String := "SquareMeshLaw$Sheet"
def TX10 : u_T := fun k => match k with
  | 0 => ("SquareMeshLaw$Sheet", "point", "[[I", false)
  | 1 => ("SquareMeshLaw$Sheet", "fixed", "[[I", false)
  | 2 => ("SquareMeshLaw$Sheet", "holes", "[[I", false)
  | _ => ("SquareMeshLaw$Sheet", "g", "I", false)
def tyX10 : Nat → FieldType := fun k => match k with
  | 0 => .array (.array .int)
  | 1 => .array (.array .int)
  | 2 => .array (.array .int)
  | _ => .int
theorem nmX10 : ∀ a, a < 4 → ∀ b, b < 4 → a ≠ b → (TX10 a).2.1 ≠ (TX10 b).2.1 := by decide +kernel
theorem tyX10_ok : ∀ k, k < 4 → parseFieldDescriptor (TX10 k).2.2.1 = some (tyX10 k) := by decide +kernel
abbrev cX10_init : ByteArray := prog_12_method_1_code
def yX10_init : MethodName := ⟨RX10, "<init>", "()V"⟩
abbrev cX10_copy : ByteArray := prog_12_method_2_code
def yX10_copy : MethodName := ⟨RX10, "copy", "()LSquareMeshLaw$Sheet;"⟩
abbrev cX10_fixes : ByteArray := prog_12_method_3_code
def yX10_fixes : MethodName := ⟨RX10, "fixes", "(III)V"⟩
abbrev cX10_at : ByteArray := prog_12_method_4_code
def yX10_at : MethodName := ⟨RX10, "at", "(II)I"⟩
abbrev cX10_free : ByteArray := prog_12_method_5_code
def yX10_free : MethodName := ⟨RX10, "free", "()I"⟩
abbrev cX10_between : ByteArray := prog_12_method_6_code
def yX10_between : MethodName := ⟨RX10, "between", "(IIII)Z"⟩
abbrev cX10_lays : ByteArray := prog_12_method_7_code
def yX10_lays : MethodName := ⟨RX10, "lays", "(IIII)V"⟩
abbrev cX10_tells : ByteArray := prog_12_method_8_code
def yX10_tells : MethodName := ⟨RX10, "tells", "(II)I"⟩
abbrev cX10_goes : ByteArray := prog_12_method_9_code
def yX10_goes : MethodName := ⟨RX10, "goes", "(I)Z"⟩
abbrev cX10_sees : ByteArray := prog_12_method_10_code
def yX10_sees : MethodName := ⟨RX10, "sees", "(II)Z"⟩
abbrev cX10_draw : ByteArray := prog_12_method_11_code
def yX10_draw : MethodName := ⟨RX10, "draw", "(I)I"⟩
def RX11 : String := "SquareMeshModel"
def TX11 : u_T := fun k => match k with
  | _ => ("", "", "", false)
def tyX11 : Nat → FieldType := fun k => match k with
  | _ => .int
theorem nmX11 : ∀ a, a < 0 → ∀ b, b < 0 → a ≠ b → (TX11 a).2.1 ≠ (TX11 b).2.1 := by decide +kernel
theorem tyX11_ok : ∀ k, k < 0 → parseFieldDescriptor (TX11 k).2.2.1 = some (tyX11 k) := by decide +kernel
def RJx8e188 : String := "java/lang/Cloneable"
def TJx8e188 : u_T := fun k => match k with
  | _ => ("", "", "", false)
def tyJx8e188 : Nat → FieldType := fun k => match k with
  | _ => .int
theorem nmJx8e188 : ∀ a, a < 0 → ∀ b, b < 0 → a ≠ b → (TJx8e188 a).2.1 ≠ (TJx8e188 b).2.1 := by decide +kernel
theorem tyJx8e188_ok : ∀ k, k < 0 → parseFieldDescriptor (TJx8e188 k).2.2.1 = some (tyJx8e188 k) := by decide +kernel
def RJ6 : String := "java/lang/Integer"
def TJ6 : u_T := fun k => match k with
  | _ => ("", "", "", false)
def tyJ6 : Nat → FieldType := fun k => match k with
  | _ => .int
theorem nmJ6 : ∀ a, a < 0 → ∀ b, b < 0 → a ≠ b → (TJ6 a).2.1 ≠ (TJ6 b).2.1 := by decide +kernel
theorem tyJ6_ok : ∀ k, k < 0 → parseFieldDescriptor (TJ6 k).2.2.1 = some (tyJ6 k) := by decide +kernel
abbrev cJ6_compare_7cf53 : ByteArray := prog_15_method_40_code
def yJ6_compare_7cf53 : MethodName := ⟨RJ6, "compare", "(II)I"⟩
abbrev cJ6_numberOfTrailingZeros_0f7a4 : ByteArray := prog_15_method_48_code
def yJ6_numberOfTrailingZeros_0f7a4 : MethodName := ⟨RJ6, "numberOfTrailingZeros", "(I)I"⟩
abbrev cJ6_signum_0f7a4 : ByteArray := prog_15_method_56_code
def yJ6_signum_0f7a4 : MethodName := ⟨RJ6, "signum", "(I)I"⟩
def RJ13 : String := "java/lang/Long"
def TJ13 : u_T := fun k => match k with
  | _ => ("", "", "", false)
def tyJ13 : Nat → FieldType := fun k => match k with
  | _ => .int
theorem nmJ13 : ∀ a, a < 0 → ∀ b, b < 0 → a ≠ b → (TJ13 a).2.1 ≠ (TJ13 b).2.1 := by decide +kernel
theorem tyJ13_ok : ∀ k, k < 0 → parseFieldDescriptor (TJ13 k).2.2.1 = some (tyJ13 k) := by decide +kernel
abbrev cJ13_bitCount_95d88 : ByteArray := prog_16_method_50_code
def yJ13_bitCount_95d88 : MethodName := ⟨RJ13, "bitCount", "(J)I"⟩
def RJ9 : String := "java/lang/Math"
def TJ9 : u_T := fun k => match k with
  | _ => ("", "", "", false)
def tyJ9 : Nat → FieldType := fun k => match k with
  | _ => .int
theorem nmJ9 : ∀ a, a < 0 → ∀ b, b < 0 → a ≠ b → (TJ9 a).2.1 ≠ (TJ9 b).2.1 := by decide +kernel
theorem tyJ9_ok : ∀ k, k < 0 → parseFieldDescriptor (TJ9 k).2.2.1 = some (tyJ9 k) := by decide +kernel
abbrev cJ9_floorDiv_7cf53 : ByteArray := prog_17_method_47_code
def yJ9_floorDiv_7cf53 : MethodName := ⟨RJ9, "floorDiv", "(II)I"⟩
abbrev cJ9_abs_0f7a4 : ByteArray := prog_17_method_59_code
def yJ9_abs_0f7a4 : MethodName := ⟨RJ9, "abs", "(I)I"⟩
abbrev cJ9_max_7cf53 : ByteArray := prog_17_method_65_code
def yJ9_max_7cf53 : MethodName := ⟨RJ9, "max", "(II)I"⟩
abbrev cJ9_max_f86c9 : ByteArray := prog_17_method_66_code
def yJ9_max_f86c9 : MethodName := ⟨RJ9, "max", "(JJ)J"⟩
abbrev cJ9_min_7cf53 : ByteArray := prog_17_method_69_code
def yJ9_min_7cf53 : MethodName := ⟨RJ9, "min", "(II)I"⟩
def RJ10 : String := "java/lang/System"
def TJ10 : u_T := fun k => match k with
  | _ => ("", "", "", false)
def tyJ10 : Nat → FieldType := fun k => match k with
  | _ => .int
theorem nmJ10 : ∀ a, a < 0 → ∀ b, b < 0 → a ≠ b → (TJ10 a).2.1 ≠ (TJ10 b).2.1 := by decide +kernel
theorem tyJ10_ok : ∀ k, k < 0 → parseFieldDescriptor (TJ10 k).2.2.1 = some (tyJ10 k) := by decide +kernel
def RJ7 : String := "java/util/Arrays"
def TJ7 : u_T := fun k => match k with
  | _ => ("", "", "", false)
def tyJ7 : Nat → FieldType := fun k => match k with
  | _ => .int
theorem nmJ7 : ∀ a, a < 0 → ∀ b, b < 0 → a ≠ b → (TJ7 a).2.1 ≠ (TJ7 b).2.1 := by decide +kernel
theorem tyJ7_ok : ∀ k, k < 0 → parseFieldDescriptor (TJ7 k).2.2.1 = some (tyJ7 k) := by decide +kernel
abbrev cJ7_fill_d0a16 : ByteArray := prog_19_method_101_code
def yJ7_fill_d0a16 : MethodName := ⟨RJ7, "fill", "([JJ)V"⟩
abbrev cJ7_fill_53178 : ByteArray := prog_19_method_103_code
def yJ7_fill_53178 : MethodName := ⟨RJ7, "fill", "([II)V"⟩
def RL : String := "SquareMeshLaw"
abbrev cL_pick : ByteArray := method_2_code
def yL_pick : MethodName := ⟨RL, "pick", "([II)I"⟩
abbrev cL_side : ByteArray := method_3_code
def yL_side : MethodName := ⟨RL, "side", "([I[III)I"⟩
abbrev cL_sign : ByteArray := method_4_code
def yL_sign : MethodName := ⟨RL, "sign", "([I[I[I)I"⟩
abbrev cL_crosses : ByteArray := method_5_code
def yL_crosses : MethodName := ⟨RL, "crosses", "([I[I[I[I)Z"⟩
abbrev cL_inside : ByteArray := method_6_code
def yL_inside : MethodName := ⟨RL, "inside", "([I[I[I[I)J"⟩
abbrev cL_ahead : ByteArray := method_7_code
def yL_ahead : MethodName := ⟨RL, "ahead", "([I[I)Z"⟩
abbrev cL_mesh : ByteArray := method_8_code
def yL_mesh : MethodName := ⟨RL, "mesh", "(LSquareMesh;LSquareMeshLaw$Sheet;)Z"⟩
abbrev cL_angles : ByteArray := method_9_code
def yL_angles : MethodName := ⟨RL, "angles", "(LSquareMesh;LSquareMeshLaw$Sheet;I)[I"⟩
abbrev cL_code : ByteArray := method_10_code
def yL_code : MethodName := ⟨RL, "code", "(LSquareMesh;I)I"⟩
abbrev cL_same : ByteArray := method_11_code
def yL_same : MethodName := ⟨RL, "same", "(LSquareMesh;LSquareMeshLaw$Sheet;)Z"⟩
abbrev cL_down : ByteArray := method_12_code
def yL_down : MethodName := ⟨RL, "down", "(II)I"⟩
abbrev cL_law : ByteArray := code
def yL_law : MethodName := ⟨RL, "law", "([I)Z"⟩
abbrev cL_refines : ByteArray := method_14_code
def yL_refines : MethodName := ⟨RL, "refines", "(LSquareMesh;LSquareMeshLaw$Sheet;I)I"⟩
abbrev cL_beside : ByteArray := method_15_code
def yL_beside : MethodName := ⟨RL, "beside", "(LSquareMeshLaw$Sheet;)LSquareMesh;"⟩
abbrev vwCl : List vw_C := [(RX0, TX0, 2), (RX1, TX1, 13), (RX2, TX2, 3), (RX3, TX3, 2), (RX4, TX4, 4), (RX5, TX5, 3), (RX6, TX6, 9), (RX7, TX7, 3), (RX8, TX8, 2), (RX9, TX9, 11), (RX10, TX10, 4)]
def pBl (b : Nat) : List Cond := match b with
  | 0 => k2_sels lw_privs
  | 1 => tables_1_1
  | 2 => tables_1_2
  | 3 => tables_1_3
  | 4 => tables_1_4
  | _ => []
theorem pBl_in {b : Nat} {w : Cond} (h : w ∈ pBl b) : w ∈ lw_tbl := by
  unfold pBl at h
  unfold lw_tbl tables_1
  split at h <;> first | (simp only [List.mem_append]; simp only [h, true_or, or_true]; done) | exact absurd h List.not_mem_nil
-- ===== the tables of the plain machine, by place among lw_tbl =====
def pON : List String := ["SquareMesh$Hull", "SquareMesh$Mesh", "SquareMesh$Passages", "SquareMesh$Past", "SquareMesh$Regions", "SquareMesh$Shot", "SquareMesh$Told", "SquareMesh$Tree", "SquareMesh$Ways", "SquareMesh", "SquareMeshLaw$Sheet", "SquareMeshModel", "java/lang/Cloneable", "java/lang/Integer", "java/lang/Long", "java/lang/Math", "java/lang/System", "java/util/Arrays", "SquareMeshLaw"]
def pMs : List (MethodName × ByteArray × Nat × Option FieldType × Nat) := [
  (yX0_init, cX0_init, 1, none, 0),
  (yX1_init, cX1_init, 1, none, 1),
  (yX1_start, cX1_start, 2, none, 1),
  (yX1_become, cX1_become, 5, none, 1),
  (yX1_tellPoint, cX1_tellPoint, 4, (some .int), 1),
  (yX1_insert, cX1_insert, 8, none, 1),
  (yX1_join, cX1_join, 5, none, 1),
  (yX1_takeOut, cX1_takeOut, 4, none, 1),
  (yX1_cutEar, cX1_cutEar, 4, none, 1),
  (yX1_isEar, cX1_isEar, 9, (some .boolean), 1),
  (yX1_canFix, cX1_canFix, 3, (some .boolean), 1),
  (yX1_fixEdge, cX1_fixEdge, 4, none, 1),
  (yX1_flipCrossing, cX1_flipCrossing, 9, none, 1),
  (yX1_canFree, cX1_canFree, 3, (some .boolean), 1),
  (yX1_freeEdge, cX1_freeEdge, 3, none, 1),
  (yX1_lay, cX1_lay, 4, none, 1),
  (yX1_strip, cX1_strip, 4, none, 1),
  (yX1_put, cX1_put, 4, none, 1),
  (yX1_await, cX1_await, 5, none, 1),
  (yX1_settle, cX1_settle, 4, none, 1),
  (yX1_flip, cX1_flip, 5, none, 1),
  (yX1_isInner, cX1_isInner, 3, (some .boolean), 1),
  (yX1_isAllowed, cX1_isAllowed, 8, (some .boolean), 1),
  (yX1_liftRound, cX1_liftRound, 2, none, 1),
  (yX1_liftFrom, cX1_liftFrom, 4, none, 1),
  (yX1_under, cX1_under, 20, (some .long), 1),
  (yX1_list, cX1_list, 4, none, 1),
  (yX1_listEdge, cX1_listEdge, 3, none, 1),
  (yX1_listTriangle, cX1_listTriangle, 4, none, 1),
  (yX1_hasTriangle, cX1_hasTriangle, 2, (some .boolean), 1),
  (yX1_cornerOf, cX1_cornerOf, 3, (some .int), 1),
  (yX1_isNear, cX1_isNear, 3, (some .boolean), 1),
  (yX1_across, cX1_across, 4, (some .int), 1),
  (yX1_isOpen, cX1_isOpen, 3, (some .boolean), 1),
  (yX1_areaOf, cX1_areaOf, 2, (some .int), 1),
  (yX1_sideOf, cX1_sideOf, 5, (some .int), 1),
  (yX1_sideSquare, cX1_sideSquare, 3, (some .int), 1),
  (yX1_holds, cX1_holds, 4, (some .boolean), 1),
  (yX1_whereIn, cX1_whereIn, 4, (some .int), 1),
  (yX1_goRound, cX1_goRound, 6, (some .int), 1),
  (yX1_firstOfRound, cX1_firstOfRound, 4, (some .int), 1),
  (yX1_isInSight, cX1_isInSight, 6, (some .boolean), 1),
  (yX1_countFixed, cX1_countFixed, 3, (some .int), 1),
  (yX1_countBorder, cX1_countBorder, 3, (some .int), 1),
  (yX1_isBent, cX1_isBent, 4, (some .boolean), 1),
  (yX1_countBent, cX1_countBent, 3, (some .int), 1),
  (yX1_countAngles, cX1_countAngles, 6, (some .int), 1),
  (yX1_longestSide, cX1_longestSide, 4, (some .int), 1),
  (yX1_thinnestOne, cX1_thinnestOne, 11, (some .int), 1),
  (yX2_init, cX2_init, 1, none, 2),
  (yX3_init, cX3_init, 2, none, 3),
  (yX3_push, cX3_push, 4, none, 3),
  (yX3_pop, cX3_pop, 2, (some .boolean), 3),
  (yX3_copyFrom, cX3_copyFrom, 3, none, 3),
  (yX4_init, cX4_init, 1, none, 4),
  (yX4_find, cX4_find, 4, none, 4),
  (yX4_flood, cX4_flood, 8, none, 4),
  (yX4_countHollow, cX4_countHollow, 3, (some .int), 4),
  (yX5_init, cX5_init, 1, none, 5),
  (yX5_take, cX5_take, 2, none, 5),
  (yX5_give, cX5_give, 2, none, 5),
  (yX5_copyFrom, cX5_copyFrom, 2, none, 5),
  (yX6_init, cX6_init, 1, none, 6),
  (yX6_copyFrom, cX6_copyFrom, 2, none, 6),
  (yX6_has, cX6_has, 2, (some .boolean), 6),
  (yX6_points, cX6_points, 1, (some .int), 6),
  (yX6_place, cX6_place, 4, none, 6),
  (yX6_remove, cX6_remove, 2, none, 6),
  (yX6_atPlace, cX6_atPlace, 4, (some .int), 6),
  (yX6_leastUnused, cX6_leastUnused, 2, (some .int), 6),
  (yX6_takes, cX6_takes, 3, (some .boolean), 6),
  (yX6_isLoose, cX6_isLoose, 2, (some .boolean), 6),
  (yX6_isOnBorder, cX6_isOnBorder, 2, (some .boolean), 6),
  (yX6_isBound, cX6_isBound, 3, (some .boolean), 6),
  (yX6_bind, cX6_bind, 3, none, 6),
  (yX6_unbind, cX6_unbind, 3, none, 6),
  (yX6_draw, cX6_draw, 3, (some .int), 6),
  (yX6_side, cX6_side, 5, (some .int), 6),
  (yX6_side_, cX6_side_, 4, (some .int), 6),
  (yX6_square, cX6_square, 5, (some .int), 6),
  (yX6_ahead, cX6_ahead, 3, (some .int), 6),
  (yX6_isBetween, cX6_isBetween, 5, (some .boolean), 6),
  (yX6_isCut, cX6_isCut, 7, (some .boolean), 6),
  (yX6_isCutBy, cX6_isCutBy, 5, (some .boolean), 6),
  (yX7_init, cX7_init, 1, none, 7),
  (yX8_init, cX8_init, 1, none, 8),
  (yX9_init, cX9_init, 1, none, 9),
  (yX9_point, cX9_point, 3, (some .int), 9),
  (yX9_drop, cX9_drop, 2, (some .boolean), 9),
  (yX9_move, cX9_move, 4, (some .boolean), 9),
  (yX9_fix, cX9_fix, 3, (some .boolean), 9),
  (yX9_free, cX9_free, 3, (some .boolean), 9),
  (yX9_drawn, cX9_drawn, 7, (some .int), 9),
  (yX9_height, cX9_height, 3, (some .boolean), 9),
  (yX9_refine, cX9_refine, 4, (some .int), 9),
  (yX9_refineOnce, cX9_refineOnce, 8, (some .boolean), 9),
  (yX9_smooth, cX9_smooth, 3, (some .int), 9),
  (yX9_smoothOne, cX9_smoothOne, 7, (some .boolean), 9),
  (yX9_hole, cX9_hole, 4, (some .int), 9),
  (yX9_fill, cX9_fill, 1, (some .int), 9),
  (yX9_tell, cX9_tell, 2, (some .boolean), 9),
  (yX9_undo, cX9_undo, 1, (some .int), 9),
  (yX9_steps, cX9_steps, 1, (some .int), 9),
  (yX9_image, cX9_image, 1, (some .int), 9),
  (yX9_back, cX9_back, 1, (some .int), 9),
  (yX9_is, cX9_is, 2, (some .int), 9),
  (yX9_isOfRegions, cX9_isOfRegions, 2, (some .int), 9),
  (yX9_of, cX9_of, 4, (some .int), 9),
  (yX9_at, cX9_at, 3, (some .int), 9),
  (yX9_corner, cX9_corner, 3, (some .int), 9),
  (yX9_beyond, cX9_beyond, 3, (some .int), 9),
  (yX9_area, cX9_area, 2, (some .int), 9),
  (yX9_triangle, cX9_triangle, 4, (some .int), 9),
  (yX9_isEdge, cX9_isEdge, 3, (some .boolean), 9),
  (yX9_isFixed, cX9_isFixed, 3, (some .boolean), 9),
  (yX9_star, cX9_star, 3, (some .int), 9),
  (yX9_thinnest, cX9_thinnest, 1, (some .int), 9),
  (yX9_colour, cX9_colour, 2, (some .int), 9),
  (yX9_paint, cX9_paint, 3, (some .int), 9),
  (yX9_leastColour, cX9_leastColour, 6, (some .int), 9),
  (yX9_inSquare, cX9_inSquare, 2, (some .boolean), 9),
  (yX9_turn, cX9_turn, 6, (some .int), 9),
  (yX9_areOpposite, cX9_areOpposite, 2, (some .boolean), 9),
  (yX10_init, cX10_init, 3, none, 10),
  (yX10_copy, cX10_copy, 3, (some (.object "SquareMeshLaw$Sheet")), 10),
  (yX10_fixes, cX10_fixes, 4, none, 10),
  (yX10_at, cX10_at, 4, (some .int), 10),
  (yX10_free, cX10_free, 2, (some .int), 10),
  (yX10_between, cX10_between, 8, (some .boolean), 10),
  (yX10_lays, cX10_lays, 8, none, 10),
  (yX10_tells, cX10_tells, 4, (some .int), 10),
  (yX10_goes, cX10_goes, 3, (some .boolean), 10),
  (yX10_sees, cX10_sees, 5, (some .boolean), 10),
  (yX10_draw, cX10_draw, 2, (some .int), 10),
  (yJ6_compare_7cf53, cJ6_compare_7cf53, 2, (some .int), 13),
  (yJ6_numberOfTrailingZeros_0f7a4, cJ6_numberOfTrailingZeros_0f7a4, 2, (some .int), 13),
  (yJ6_signum_0f7a4, cJ6_signum_0f7a4, 1, (some .int), 13),
  (yJ13_bitCount_95d88, cJ13_bitCount_95d88, 2, (some .int), 14),
  (yJ9_floorDiv_7cf53, cJ9_floorDiv_7cf53, 3, (some .int), 15),
  (yJ9_abs_0f7a4, cJ9_abs_0f7a4, 1, (some .int), 15),
  (yJ9_max_7cf53, cJ9_max_7cf53, 2, (some .int), 15),
  (yJ9_max_f86c9, cJ9_max_f86c9, 4, (some .long), 15),
  (yJ9_min_7cf53, cJ9_min_7cf53, 2, (some .int), 15),
  (yJ7_fill_d0a16, cJ7_fill_d0a16, 5, none, 17),
  (yJ7_fill_53178, cJ7_fill_53178, 4, none, 17),
  (yL_pick, cL_pick, 2, (some .int), 18),
  (yL_side, cL_side, 4, (some .int), 18),
  (yL_sign, cL_sign, 3, (some .int), 18),
  (yL_crosses, cL_crosses, 4, (some .boolean), 18),
  (yL_inside, cL_inside, 11, (some .long), 18),
  (yL_ahead, cL_ahead, 2, (some .boolean), 18),
  (yL_mesh, cL_mesh, 22, (some .boolean), 18),
  (yL_angles, cL_angles, 10, (some (.array .int)), 18),
  (yL_code, cL_code, 2, (some .int), 18),
  (yL_same, cL_same, 6, (some .boolean), 18),
  (yL_down, cL_down, 2, (some .int), 18),
  (yL_law, cL_law, 24, (some .boolean), 18),
  (yL_refines, cL_refines, 21, (some .int), 18),
  (yL_beside, cL_beside, 9, (some (.object "SquareMesh")), 18)]
def pTyp : List (Nat → FieldType) := [tyX0, tyX1, tyX2, tyX3, tyX4, tyX5, tyX6, tyX7, tyX8, tyX9, tyX10]
def pTy : List FieldType := [(.int), (.long), (.object "SquareMesh$Shot"), (.array .int), (.array .long), (.boolean), (.object "SquareMeshLaw$Sheet")]
def pFlL : List (Nat × Nat × Nat × Nat × Nat) := [(6, 9, 6, 0, 1037), (9, 154, 6, 0, 1038), (1, 155, 6, 0, 1039), (6, 15, 6, 1, 1040), (9, 162, 6, 1, 1041), (1, 158, 6, 1, 1042), (6, 18, 6, 2, 1043), (1, 86, 6, 2, 1044), (9, 137, 6, 2, 1045), (6, 21, 6, 3, 1046), (9, 250, 6, 3, 1047), (6, 25, 6, 4, 1048), (4, 49, 6, 4, 1049), (9, 178, 6, 4, 1050), (6, 28, 6, 5, 1051), (4, 52, 6, 5, 1052), (9, 181, 6, 5, 1053), (6, 37, 6, 6, 1054), (4, 44, 6, 7, 1055), (6, 41, 6, 7, 1056), (9, 174, 6, 7, 1057), (1, 51, 6, 8, 1058), (6, 45, 6, 8, 1059), (9, 184, 6, 8, 1060), (1, 12, 1, 0, 1082), (9, 82, 1, 0, 1083), (5, 22, 1, 0, 1084), (4, 40, 1, 0, 1085), (1, 18, 1, 1, 1086), (9, 265, 1, 1, 1087), (1, 22, 1, 2, 1088), (9, 268, 1, 2, 1089), (1, 25, 1, 3, 1090), (5, 29, 1, 3, 1091), (1, 28, 1, 4, 1092), (1, 31, 1, 5, 1093), (9, 240, 1, 5, 1094), (1, 35, 1, 6, 1095), (9, 171, 1, 6, 1096), (4, 31, 1, 7, 1097), (5, 36, 1, 7, 1098), (9, 204, 1, 7, 1099), (1, 194, 1, 7, 1100), (1, 148, 1, 8, 1101), (9, 211, 1, 8, 1102), (1, 38, 1, 9, 1103), (1, 41, 1, 10, 1104), (1, 44, 1, 11, 1105), (1, 178, 1, 12, 1106), (5, 12, 5, 0, 1142), (5, 18, 5, 1, 1143), (5, 40, 5, 2, 1144), (3, 11, 3, 0, 1161), (3, 18, 3, 1, 1162), (9, 191, 3, 1, 1163), (4, 9, 4, 0, 1175), (4, 15, 4, 1, 1176), (4, 21, 4, 2, 1177), (9, 235, 4, 2, 1178), (4, 18, 4, 3, 1179), (8, 9, 8, 0, 1195), (8, 15, 8, 1, 1196), (2, 9, 2, 0, 1208), (2, 15, 2, 2, 1209), (7, 9, 7, 0, 1223), (7, 15, 7, 2, 1224), (0, 9, 0, 0, 1238), (9, 10, 9, 0, 2058), (9, 16, 9, 1, 2059), (9, 22, 9, 2, 2060), (9, 29, 9, 3, 2061), (9, 33, 9, 4, 2062), (9, 39, 9, 5, 2063), (9, 46, 9, 6, 2064), (9, 53, 9, 7, 2065), (9, 60, 9, 8, 2066), (9, 67, 9, 9, 2067), (9, 71, 9, 10, 2068), (10, 9, 10, 0, 3168), (18, 39, 10, 0, 3169), (10, 16, 10, 1, 3170), (18, 55, 10, 1, 3171), (10, 19, 10, 2, 3172), (18, 95, 10, 2, 3173), (10, 22, 10, 3, 3174), (18, 91, 10, 3, 3175)]
def pCaL0 : List (Nat × Nat × Nat × Nat × Nat × Nat × Nat × Nat × Nat × Nat) := [(18, 119, 3, 86, 0, 1019, 1020, 1001, 1021, 0), (9, 1, 0, 0, 0, 1022, 1023, 0, 0, 0), (9, 9, 5, 1, 0, 1027, 1028, 1002, 1029, 0), (1, 3, 0, 0, 0, 1030, 1023, 0, 0, 0), (1, 11, 5, 62, 0, 1033, 1034, 1003, 1035, 0), (6, 3, 0, 0, 0, 1036, 1023, 0, 0, 0), (9, 21, 5, 58, 0, 1136, 1137, 1004, 1138, 0), (5, 3, 0, 0, 0, 1139, 1023, 0, 0, 0), (5, 11, 5, 62, 0, 1141, 1034, 1003, 1035, 0), (9, 28, 3, 50, 0, 1154, 1155, 1005, 1156, 0), (3, 3, 0, 0, 0, 1157, 1023, 0, 0, 0), (3, 17, 5, 58, 0, 1160, 1137, 1004, 1138, 0), (9, 38, 5, 54, 0, 1171, 1172, 1006, 1173, 0), (4, 3, 0, 0, 0, 1174, 1023, 0, 0, 0), (9, 45, 5, 85, 0, 1191, 1192, 1007, 1193, 0), (8, 3, 0, 0, 0, 1194, 1023, 0, 0, 0), (9, 52, 5, 49, 0, 1204, 1205, 1008, 1206, 0), (2, 3, 0, 0, 0, 1207, 1023, 0, 0, 0), (9, 59, 5, 84, 0, 1219, 1220, 1009, 1221, 0), (7, 3, 0, 0, 0, 1222, 1023, 0, 0, 0), (9, 66, 5, 0, 0, 1234, 1235, 1010, 1236, 0), (0, 3, 0, 0, 0, 1237, 1023, 0, 0, 0), (9, 75, 1, 2, 0, 2004, 2005, 1002, 2007, 2006), (1, 47, 1, 66, 3, 2008, 2009, 1003, 2011, 2010), (1, 55, 2, 144, 2, 2012, 2013, 1011, 2014, 0)]
def pCaL1 : List (Nat × Nat × Nat × Nat × Nat × Nat × Nat × Nat × Nat × Nat) := [(1, 61, 1, 74, 2, 2015, 2016, 1003, 2018, 2017), (1, 65, 1, 15, 3, 2019, 2021, 1002, 2022, 0), (1, 68, 1, 23, 0, 2023, 2025, 1002, 2026, 1), (1, 71, 1, 26, 0, 2027, 2029, 1002, 2030, 2), (1, 197, 2, 143, 2, 2031, 2032, 1011, 2033, 0), (1, 168, 1, 64, 1, 2034, 2035, 1003, 2037, 2036), (1, 200, 1, 27, 2, 2038, 2040, 1002, 2041, 3), (1, 203, 1, 28, 3, 2042, 2044, 1002, 2045, 4), (9, 78, 1, 59, 1, 2046, 2047, 1004, 2049, 2048), (5, 25, 1, 63, 1, 2050, 2051, 1003, 2053, 2052), (6, 31, 7, 0, 5, 2054, 2056, 2055, 1012, 0), (5, 30, 7, 0, 5, 2057, 2056, 2055, 1012, 0), (18, 137, 1, 87, 2, 2092, 2093, 1001, 2095, 2094), (9, 86, 1, 70, 2, 2096, 2097, 1003, 2099, 2098), (6, 60, 4, 120, 2, 2100, 2101, 1001, 2102, 0), (6, 64, 1, 68, 2, 2103, 2104, 1003, 2106, 2105), (6, 56, 1, 64, 1, 2107, 2035, 1003, 2037, 2036), (6, 68, 1, 69, 0, 2108, 2109, 1003, 2111, 2110), (9, 92, 1, 51, 1, 2112, 2113, 1005, 2115, 2114), (3, 22, 1, 59, 1, 2116, 2047, 1004, 2049, 2048), (9, 95, 1, 4, 2, 2117, 2118, 1002, 2120, 2119), (1, 78, 1, 70, 2, 2121, 2097, 1003, 2099, 2098), (1, 82, 1, 69, 0, 2122, 2109, 1003, 2111, 2110), (1, 89, 1, 5, 3, 2123, 2124, 1002, 2126, 2125), (1, 92, 1, 38, 2, 2127, 2128, 1002, 2130, 2129)]
def pCaL2 : List (Nat × Nat × Nat × Nat × Nat × Nat × Nat × Nat × Nat × Nat) := [(1, 215, 4, 120, 2, 2131, 2101, 1001, 2102, 0), (1, 218, 1, 37, 3, 2132, 2133, 1002, 2135, 2134), (1, 212, 1, 35, 4, 2136, 2137, 1002, 2139, 2138), (1, 96, 1, 30, 2, 2140, 2141, 1002, 2143, 2142), (1, 206, 1, 77, 4, 2144, 2145, 1003, 2147, 2146), (1, 99, 1, 16, 3, 2148, 2150, 1002, 2151, 5), (1, 102, 1, 6, 3, 2152, 2154, 1002, 2155, 6), (1, 108, 1, 78, 3, 2156, 2157, 1003, 2159, 2158), (6, 78, 1, 77, 4, 2160, 2145, 1003, 2147, 2146), (1, 112, 1, 17, 3, 2161, 2163, 1002, 2164, 7), (1, 175, 1, 18, 2, 2165, 2167, 1002, 2168, 8), (1, 115, 1, 73, 2, 2169, 2170, 1003, 2172, 2171), (1, 118, 1, 75, 2, 2173, 2174, 1003, 2176, 2175), (1, 105, 1, 19, 0, 2178, 2180, 1002, 2181, 9), (1, 172, 1, 21, 2, 2184, 2186, 1002, 2187, 10), (1, 183, 1, 22, 2, 2188, 2190, 1002, 2191, 11), (1, 161, 1, 25, 6, 2192, 2194, 1002, 2195, 12), (1, 186, 1, 80, 2, 2196, 2197, 1003, 2199, 2198), (1, 165, 1, 20, 2, 2200, 2202, 1002, 2203, 13), (18, 146, 1, 88, 1, 2204, 2205, 1001, 2207, 2206), (9, 99, 1, 71, 1, 2208, 2209, 1003, 2211, 2210), (9, 103, 1, 7, 1, 2212, 2213, 1002, 2215, 2214), (1, 121, 1, 39, 1, 2216, 2217, 1002, 2219, 2218), (1, 222, 1, 40, 1, 2220, 2222, 1002, 2223, 14), (1, 142, 1, 31, 2, 2224, 2225, 1002, 2227, 2226)]
def pCaL3 : List (Nat × Nat × Nat × Nat × Nat × Nat × Nat × Nat × Nat × Nat) := [(1, 125, 1, 67, 1, 2228, 2229, 1003, 2231, 2230), (1, 129, 1, 8, 1, 2232, 2234, 1002, 2235, 15), (1, 132, 1, 9, 2, 2236, 2238, 1002, 2239, 16), (18, 149, 1, 89, 3, 3000, 3001, 1001, 3003, 3002), (9, 107, 2, 120, 2, 3004, 2101, 1001, 2102, 0), (9, 110, 1, 68, 2, 3005, 2104, 1003, 2106, 2105), (9, 113, 1, 5, 3, 3006, 2124, 1002, 2126, 2125), (18, 160, 1, 90, 2, 3007, 3008, 1001, 3010, 3009), (9, 117, 1, 10, 2, 3011, 3012, 1002, 3014, 3013), (1, 135, 1, 41, 2, 3015, 3016, 1002, 3018, 3017), (1, 225, 1, 81, 3, 3019, 3020, 1003, 3022, 3021), (6, 82, 1, 78, 3, 3023, 2157, 1003, 2159, 2158), (1, 151, 1, 83, 4, 3024, 3025, 1003, 3027, 3026), (6, 92, 1, 82, 6, 3028, 3029, 1003, 3031, 3030), (6, 85, 4, 122, 2, 3032, 3033, 1001, 3034, 0), (6, 88, 4, 121, 6, 3035, 3036, 1001, 3037, 0), (9, 120, 1, 11, 2, 3038, 3039, 1002, 3041, 3040), (1, 138, 1, 24, 2, 3042, 3044, 1002, 3045, 17), (1, 189, 2, 139, 1, 3046, 3047, 1015, 3048, 0), (1, 145, 1, 12, 2, 3049, 3051, 1002, 3052, 18), (18, 167, 1, 91, 2, 3053, 3054, 1001, 3056, 3055), (9, 124, 1, 13, 2, 3057, 3058, 1002, 3060, 3059), (9, 127, 1, 14, 2, 3061, 3062, 1002, 3064, 3063), (18, 172, 1, 92, 2, 3065, 3066, 1001, 3068, 3067), (9, 130, 1, 76, 1, 3069, 3070, 1003, 3072, 3071)]
def pCaL4 : List (Nat × Nat × Nat × Nat × Nat × Nat × Nat × Nat × Nat × Nat) := [(18, 175, 1, 93, 2, 3073, 3074, 1001, 3076, 3075), (9, 134, 1, 64, 1, 3077, 2035, 1003, 2037, 2036), (18, 189, 1, 96, 0, 3078, 3079, 1001, 3081, 3080), (9, 165, 1, 97, 1, 3082, 3084, 1001, 3085, 19), (9, 168, 1, 39, 1, 3086, 2217, 1002, 2219, 2218), (9, 157, 2, 138, 2, 3087, 3088, 1015, 3089, 0), (18, 192, 1, 98, 2, 3090, 3091, 1001, 3093, 3092), (18, 195, 1, 99, 0, 3094, 3095, 1001, 3097, 3096), (18, 198, 1, 100, 1, 3098, 3099, 1001, 3101, 3100), (18, 201, 1, 101, 0, 3102, 3103, 1001, 3105, 3104), (9, 187, 1, 52, 1, 3106, 3107, 1005, 3109, 3108), (3, 26, 1, 60, 1, 3110, 3111, 1004, 3113, 3112), (5, 41, 1, 3, 3, 3114, 3115, 1002, 3117, 3116), (1, 74, 1, 63, 1, 3118, 2051, 1003, 2053, 2052), (18, 204, 1, 102, 0, 3119, 3120, 1001, 3122, 3121), (18, 207, 1, 103, 0, 3123, 3124, 1001, 3126, 3125), (9, 194, 1, 53, 1, 3127, 3128, 1005, 3130, 3129), (3, 29, 1, 61, 1, 3131, 3132, 1004, 3134, 3133), (9, 198, 1, 65, 0, 3135, 3136, 1003, 3138, 3137), (6, 48, 2, 137, 1, 3139, 3140, 1014, 3141, 0), (18, 210, 1, 104, 0, 3145, 3146, 1001, 3148, 3147), (9, 201, 1, 60, 1, 3149, 3111, 1004, 3113, 3112), (18, 58, 1, 113, 2, 3150, 3151, 1001, 3153, 3152), (9, 271, 1, 31, 2, 3154, 2225, 1002, 2227, 2226), (18, 120, 3, 123, 0, 3157, 3158, 1013, 3159, 0)]
def pCaL5 : List (Nat × Nat × Nat × Nat × Nat × Nat × Nat × Nat × Nat × Nat) := [(10, 1, 0, 0, 0, 3160, 1023, 0, 0, 0), (10, 26, 1, 125, 3, 3164, 3165, 1013, 3167, 3166), (18, 128, 1, 124, 0, 3185, 3186, 1013, 3188, 3187), (10, 30, 3, 123, 0, 3190, 3158, 1013, 3159, 0), (18, 163, 1, 125, 3, 3197, 3165, 1013, 3167, 3166), (18, 136, 1, 126, 2, 3198, 3199, 1013, 3201, 3200), (18, 132, 1, 127, 0, 3202, 3203, 1013, 3205, 3204), (18, 153, 1, 129, 4, 3206, 3207, 1013, 3209, 3208), (10, 50, 1, 128, 4, 3210, 3211, 1013, 3213, 3212), (10, 35, 4, 146, 4, 3214, 3215, 1000, 3216, 0), (10, 41, 2, 142, 2, 3217, 3218, 1015, 3219, 0), (10, 47, 2, 140, 2, 3220, 3221, 1015, 3222, 0), (18, 139, 1, 130, 2, 3223, 3224, 1013, 3226, 3225), (10, 54, 1, 127, 0, 3227, 3203, 1013, 3205, 3204), (10, 58, 1, 126, 2, 3228, 3199, 1013, 3201, 3200), (10, 61, 1, 129, 4, 3229, 3207, 1013, 3209, 3208), (18, 142, 1, 131, 1, 3230, 3231, 1013, 3233, 3232), (18, 157, 1, 132, 2, 3234, 3235, 1013, 3237, 3236), (10, 65, 4, 148, 4, 3238, 3239, 1000, 4000, 0), (18, 20, 2, 147, 3, 4001, 4002, 1000, 4003, 0), (18, 8, 2, 146, 4, 4004, 3215, 1000, 3216, 0), (18, 14, 2, 136, 1, 4005, 4006, 1016, 4007, 0), (18, 169, 1, 133, 1, 4008, 4009, 1013, 4011, 4010), (18, 124, 2, 145, 2, 4012, 4013, 1000, 4014, 0), (18, 121, 2, 154, 2, 4016, 4017, 1000, 4018, 0)]
def pCaL6 : List (Nat × Nat × Nat × Nat × Nat × Nat × Nat × Nat × Nat × Nat) := [(18, 102, 1, 107, 2, 4019, 4020, 1001, 4022, 4021), (9, 244, 2, 137, 1, 4024, 3140, 1014, 3141, 0), (9, 253, 1, 72, 1, 4025, 4026, 1003, 4028, 4027), (6, 72, 2, 139, 1, 4029, 3047, 1015, 3048, 0), (18, 106, 1, 115, 2, 4031, 4032, 1001, 4034, 4033), (18, 109, 2, 139, 1, 4035, 3047, 1015, 3048, 0), (18, 112, 1, 108, 2, 4036, 4037, 1001, 4039, 4038), (18, 115, 2, 151, 2, 4040, 4041, 1000, 4042, 0), (18, 28, 1, 105, 1, 4043, 4044, 1001, 4046, 4045), (9, 214, 1, 42, 0, 4047, 4048, 1002, 4050, 4049), (9, 217, 1, 43, 0, 4051, 4052, 1002, 4054, 4053), (9, 220, 1, 45, 0, 4055, 4056, 1002, 4058, 4057), (1, 232, 1, 44, 1, 4059, 4060, 1002, 4062, 4061), (9, 223, 1, 46, 1, 4063, 4064, 1002, 4066, 4065), (1, 235, 1, 47, 1, 4067, 4068, 1002, 4070, 4069), (1, 238, 1, 36, 2, 4071, 4072, 1002, 4074, 4073), (1, 209, 1, 79, 2, 4075, 4076, 1003, 4078, 4077), (1, 241, 2, 134, 2, 4079, 4080, 1016, 4081, 0), (9, 226, 1, 118, 0, 4082, 4084, 1001, 4085, 20), (9, 370, 1, 119, 1, 4086, 4088, 1001, 4089, 21), (9, 373, 2, 140, 2, 4090, 3221, 1015, 3222, 0), (9, 229, 1, 106, 1, 4091, 4093, 1001, 4094, 22), (9, 232, 1, 55, 1, 4095, 4096, 1006, 4098, 4097), (4, 25, 2, 144, 2, 4099, 2013, 1011, 2014, 0), (4, 36, 1, 56, 2, 4100, 4102, 1006, 4103, 23)]
def pCaL7 : List (Nat × Nat × Nat × Nat × Nat × Nat × Nat × Nat × Nat × Nat) := [(4, 59, 1, 33, 2, 4104, 4105, 1002, 4107, 4106), (4, 63, 1, 32, 2, 4108, 4109, 1002, 4111, 4110), (4, 55, 1, 38, 2, 4112, 2128, 1002, 2130, 2129), (9, 236, 1, 57, 0, 4113, 4114, 1006, 4116, 4115), (18, 35, 1, 109, 2, 4118, 4119, 1001, 4121, 4120), (9, 256, 1, 29, 1, 4122, 4123, 1002, 4125, 4124), (9, 151, 1, 30, 2, 4126, 2141, 1002, 2143, 2142), (18, 44, 2, 153, 2, 4127, 4128, 1000, 4129, 0), (18, 48, 1, 111, 1, 4130, 4131, 1001, 4133, 4132), (9, 262, 1, 34, 1, 4134, 4135, 1002, 4137, 4136), (18, 51, 1, 112, 3, 4138, 4139, 1001, 4141, 4140), (18, 62, 1, 114, 2, 4142, 4143, 1001, 4145, 4144), (9, 274, 1, 73, 2, 4146, 2170, 1003, 2172, 2171), (18, 65, 2, 149, 4, 4147, 4148, 1000, 4149, 0), (18, 69, 2, 150, 2, 4153, 4154, 1000, 4155, 0), (18, 73, 1, 110, 2, 4156, 4157, 1001, 4159, 4158), (9, 259, 1, 32, 2, 4160, 4109, 1002, 4111, 4110), (18, 76, 2, 152, 3, 4161, 4162, 1000, 4163, 0), (18, 99, 2, 141, 2, 4164, 4165, 1015, 4166, 0), (18, 80, 2, 135, 1, 4167, 4168, 1016, 4169, 0), (18, 83, 1, 117, 1, 4171, 4172, 1001, 4174, 4173), (18, 86, 2, 140, 2, 4175, 3221, 1015, 3222, 0), (18, 186, 2, 155, 2, 4177, 4178, 1000, 4179, 0), (18, 178, 2, 157, 3, 4180, 4181, 1000, 4182, 0), (18, 182, 2, 158, 1, 4183, 4184, 1000, 4185, 0)]
def pCaL8 : List (Nat × Nat × Nat × Nat × Nat × Nat × Nat × Nat × Nat × Nat) := [(18, 213, 1, 116, 0, 4186, 4187, 1001, 4189, 4188), (9, 144, 1, 48, 0, 4190, 4191, 1002, 4193, 4192), (1, 246, 1, 34, 1, 4194, 4135, 1002, 4137, 4136), (18, 216, 1, 94, 1, 4195, 4196, 1001, 4198, 4197), (9, 140, 1, 95, 0, 4199, 4201, 1001, 4202, 24), (9, 148, 1, 47, 1, 4203, 4068, 1002, 4070, 4069)]
def pCaL : List (Nat × Nat × Nat × Nat × Nat × Nat × Nat × Nat × Nat × Nat) := pCaL0 ++ (pCaL1 ++ (pCaL2 ++ (pCaL3 ++ (pCaL4 ++ (pCaL5 ++ (pCaL6 ++ (pCaL7 ++ (pCaL8))))))))
def pNwL : List (Nat × Nat × Nat × Nat × Nat × Nat) := [(18, 29, 9, 1017, 1018, 1001), (9, 7, 1, 1025, 1026, 1002), (1, 9, 6, 1031, 1032, 1003), (9, 19, 5, 1134, 1135, 1004), (5, 9, 6, 1140, 1032, 1003), (9, 26, 3, 1152, 1153, 1005), (3, 9, 5, 1158, 1135, 1004), (9, 36, 4, 1169, 1170, 1006), (9, 43, 8, 1189, 1190, 1007), (9, 50, 2, 1202, 1203, 1008), (9, 57, 7, 1217, 1218, 1009), (9, 64, 0, 1232, 1233, 1010), (18, 40, 10, 3155, 3156, 1013), (10, 10, 10, 3189, 3156, 1013)]
def pAnL : List (Nat × Nat × Nat × Nat × Nat) := [(9, 19, 2, 1134, 1159), (3, 9, 2, 1158, 1159), (18, 40, 6, 3155, 4205), (10, 10, 6, 3189, 4205)]
def pKiL : List (Nat × Nat × Int32 × Nat) := [(1, 141, 1000000, 2182), (18, 7, 2147483647, 4015), (9, 239, -100000, 4023), (18, 105, -100000, 4030), (13, 264, 65536, 4170), (18, 98, 8000000, 4176)]
def pKlL : List (Nat × Nat × Int64 × Nat) := [(6, 54, -1, 2177), (1, 181, -1, 2183), (14, 314, 6148914691236517205, 3142), (14, 316, 3689348814741910323, 3143), (14, 318, 1085102592571150095, 3144)]
def pAcL : List (Nat × Nat) := [(0, 1080), (1, 1081), (5, 4204)]
def pRmL : List (Nat × Nat × Nat × Nat) := [(1, 1, 40, 20), (2, 16, 4793, 40), (2, 0, 0, 47), (2, 0, 0, 47), (5, 0, 0, 121), (4, 0, 0, 94), (2, 0, 0, 47), (4, 0, 0, 98), (3, 0, 0, 75), (2, 0, 0, 47), (4, 0, 0, 100), (4, 0, 0, 103), (3, 0, 0, 75), (1, 0, 0, 22), (4, 0, 0, 94), (0, 0, 0, 0), (0, 0, 0, 0), (1, 0, 0, 24), (0, 0, 0, 0), (3, 0, 0, 71), (2, 0, 0, 47), (0, 0, 0, 0), (1, 0, 0, 39), (0, 0, 0, 0), (2, 0, 0, 47), (0, 0, 0, 0), (1, 0, 0, 24), (0, 0, 0, 0), (0, 0, 0, 0), (0, 0, 0, 0), (0, 0, 0, 0), (0, 0, 0, 0), (1, 0, 0, 22), (1, 0, 0, 22), (2, 0, 0, 47), (1, 0, 0, 24), (1, 0, 0, 24), (2, 0, 0, 48), (3, 0, 0, 71), (2, 0, 0, 45), (1, 0, 0, 22), (3, 0, 0, 75), (1, 0, 0, 22), (1, 0, 0, 22), (2, 0, 0, 66), (3, 0, 0, 89), (3, 0, 0, 69), (2, 0, 0, 46), (3, 0, 0, 69), (1, 2, 148, 20), (3, 10, 430, 60), (3, 0, 0, 68), (4, 0, 0, 92), (3, 0, 0, 68), (1, 3, 222, 20), (4, 0, 0, 94), (2, 0, 0, 45), (0, 0, 0, 0), (2, 8, 407, 40), (2, 0, 0, 47), (3, 0, 0, 71), (2, 0, 0, 47), (1, 6, 176, 20), (1, 0, 0, 26), (0, 0, 0, 0), (1, 0, 0, 21), (0, 0, 0, 0), (0, 0, 0, 0), (1, 0, 0, 21), (1, 0, 0, 21), (2, 0, 0, 44), (1, 0, 0, 21), (1, 0, 0, 20), (0, 0, 0, 0), (0, 0, 0, 0), (0, 0, 0, 0), (0, 0, 0, 0), (0, 0, 0, 0), (1, 0, 0, 24), (0, 0, 0, 0), (0, 0, 0, 0), (2, 0, 0, 47), (1, 0, 0, 25), (2, 0, 0, 51), (1, 2, 80, 20), (1, 2, 153, 20), (4, 81, 11583, 81), (6, 0, 0, 144), (5, 0, 0, 121), (5, 0, 0, 121), (5, 0, 0, 126), (5, 0, 0, 116), (6, 0, 0, 144), (4, 0, 0, 91), (7, 0, 0, 171), (6, 0, 0, 144), (6, 0, 0, 147), (5, 0, 0, 121), (4, 0, 0, 91), (4, 0, 0, 91), (0, 0, 0, 0), (5, 0, 0, 113), (0, 0, 0, 0), (4, 0, 0, 90), (4, 0, 0, 92), (6, 0, 0, 138), (5, 0, 0, 117), (2, 0, 0, 41), (2, 0, 0, 44), (1, 0, 0, 22), (2, 0, 0, 45), (3, 0, 0, 68), (1, 0, 0, 21), (1, 0, 0, 22), (1, 0, 0, 22), (3, 0, 0, 70), (4, 0, 0, 99), (3, 0, 0, 69), (2, 0, 0, 47), (1, 0, 0, 22), (0, 0, 0, 0), (0, 0, 0, 0), (0, 0, 0, 0), (1, 7, 56, 23), (2, 8, 60, 45), (0, 0, 0, 0), (0, 0, 0, 0), (0, 0, 0, 0), (1, 0, 0, 23), (2, 1, 3, 50), (3, 1, 3, 77), (0, 0, 0, 0), (3, 0, 0, 68), (0, 0, 0, 0), (0, 0, 0, 0), (0, 0, 0, 0), (0, 0, 0, 0), (0, 0, 0, 0), (0, 0, 0, 0), (0, 0, 0, 0), (0, 0, 0, 0), (0, 0, 0, 0), (0, 0, 0, 0), (0, 0, 0, 0), (0, 0, 0, 0), (0, 0, 0, 0), (0, 0, 0, 0), (1, 0, 0, 23), (2, 0, 0, 45), (0, 3, 9, 0), (0, 0, 0, 0), (7, 8, 71, 159), (2, 2, 5, 44), (2, 0, 0, 44), (8, 8, 71, 200), (0, 0, 0, 0), (9, 332, 35523, 234), (8, 93, 11700, 194), (7, 92, 11697, 166)]
theorem pUw_RX0 : u_ws RX0 TX0 2 = [1239, 2001].filterMap (fun i => (pBl (i / 1000))[i % 1000]?) := by decide +kernel
theorem pUg_RX0 : (u_ws RX0 TX0 2).all goodWord = true := by decide +kernel
theorem pUw_RX1 : u_ws RX1 TX1 13 = [1107, 1109, 1111, 1113, 1115, 1117, 1119, 1121, 1123, 1125, 1127, 1129, 1131].filterMap (fun i => (pBl (i / 1000))[i % 1000]?) := by decide +kernel
theorem pUg_RX1 : (u_ws RX1 TX1 13).all goodWord = true := by decide +kernel
theorem pUw_RX2 : u_ws RX2 TX2 3 = [1210, 1212, 1214].filterMap (fun i => (pBl (i / 1000))[i % 1000]?) := by decide +kernel
theorem pUg_RX2 : (u_ws RX2 TX2 3).all goodWord = true := by decide +kernel
theorem pUw_RX3 : u_ws RX3 TX3 2 = [1164, 1166].filterMap (fun i => (pBl (i / 1000))[i % 1000]?) := by decide +kernel
theorem pUg_RX3 : (u_ws RX3 TX3 2).all goodWord = true := by decide +kernel
theorem pUw_RX4 : u_ws RX4 TX4 4 = [1180, 1182, 1184, 1186].filterMap (fun i => (pBl (i / 1000))[i % 1000]?) := by decide +kernel
theorem pUg_RX4 : (u_ws RX4 TX4 4).all goodWord = true := by decide +kernel
theorem pUw_RX5 : u_ws RX5 TX5 3 = [1145, 1147, 1149].filterMap (fun i => (pBl (i / 1000))[i % 1000]?) := by decide +kernel
theorem pUg_RX5 : (u_ws RX5 TX5 3).all goodWord = true := by decide +kernel
theorem pUw_RX6 : u_ws RX6 TX6 9 = [1061, 1063, 1065, 1067, 1069, 1071, 1073, 1075, 1077].filterMap (fun i => (pBl (i / 1000))[i % 1000]?) := by decide +kernel
theorem pUg_RX6 : (u_ws RX6 TX6 9).all goodWord = true := by decide +kernel
theorem pUw_RX7 : u_ws RX7 TX7 3 = [1225, 1227, 1229].filterMap (fun i => (pBl (i / 1000))[i % 1000]?) := by decide +kernel
theorem pUg_RX7 : (u_ws RX7 TX7 3).all goodWord = true := by decide +kernel
theorem pUw_RX8 : u_ws RX8 TX8 2 = [1197, 1199].filterMap (fun i => (pBl (i / 1000))[i % 1000]?) := by decide +kernel
theorem pUg_RX8 : (u_ws RX8 TX8 2).all goodWord = true := by decide +kernel
theorem pUw_RX9 : u_ws RX9 TX9 11 = [2069, 2071, 2073, 2075, 2077, 2079, 2081, 2083, 2085, 2087, 2089].filterMap (fun i => (pBl (i / 1000))[i % 1000]?) := by decide +kernel
theorem pUg_RX9 : (u_ws RX9 TX9 11).all goodWord = true := by decide +kernel
theorem pUw_RX10 : u_ws RX10 TX10 4 = [3176, 3178, 3180, 3182].filterMap (fun i => (pBl (i / 1000))[i % 1000]?) := by decide +kernel
theorem pUg_RX10 : (u_ws RX10 TX10 4).all goodWord = true := by decide +kernel
theorem pU_all : ∀ q ∈ vwCl, (∃ ps : List Nat, u_ws q.1 q.2.1 q.2.2 = ps.filterMap (fun i => (pBl (i / 1000))[i % 1000]?)) ∧ (u_ws q.1 q.2.1 q.2.2).all goodWord = true := by
  intro q hq
  simp only [vwCl, List.mem_cons, List.not_mem_nil, or_false] at hq
  rcases hq with rfl | rfl | rfl | rfl | rfl | rfl | rfl | rfl | rfl | rfl | rfl
  · exact ⟨⟨_, pUw_RX0⟩, pUg_RX0⟩
  · exact ⟨⟨_, pUw_RX1⟩, pUg_RX1⟩
  · exact ⟨⟨_, pUw_RX2⟩, pUg_RX2⟩
  · exact ⟨⟨_, pUw_RX3⟩, pUg_RX3⟩
  · exact ⟨⟨_, pUw_RX4⟩, pUg_RX4⟩
  · exact ⟨⟨_, pUw_RX5⟩, pUg_RX5⟩
  · exact ⟨⟨_, pUw_RX6⟩, pUg_RX6⟩
  · exact ⟨⟨_, pUw_RX7⟩, pUg_RX7⟩
  · exact ⟨⟨_, pUw_RX8⟩, pUg_RX8⟩
  · exact ⟨⟨_, pUw_RX9⟩, pUg_RX9⟩
  · exact ⟨⟨_, pUw_RX10⟩, pUg_RX10⟩
theorem pTy_all : ∀ (ci : Nat) (q : vw_C), vwCl[ci]? = some q → ∃ ty : Nat → FieldType, pTyp[ci]? = some ty ∧ (∀ k, k < q.2.2 → parseFieldDescriptor (q.2.1 k).2.2.1 = some (ty k)) ∧ (∀ a, a < q.2.2 → ∀ b, b < q.2.2 → a ≠ b → (q.2.1 a).2.1 ≠ (q.2.1 b).2.1) := by
  intro ci q hq
  match ci, hq with
  | 0, hq => cases hq; exact ⟨_, rfl, tyX0_ok, nmX0⟩
  | 1, hq => cases hq; exact ⟨_, rfl, tyX1_ok, nmX1⟩
  | 2, hq => cases hq; exact ⟨_, rfl, tyX2_ok, nmX2⟩
  | 3, hq => cases hq; exact ⟨_, rfl, tyX3_ok, nmX3⟩
  | 4, hq => cases hq; exact ⟨_, rfl, tyX4_ok, nmX4⟩
  | 5, hq => cases hq; exact ⟨_, rfl, tyX5_ok, nmX5⟩
  | 6, hq => cases hq; exact ⟨_, rfl, tyX6_ok, nmX6⟩
  | 7, hq => cases hq; exact ⟨_, rfl, tyX7_ok, nmX7⟩
  | 8, hq => cases hq; exact ⟨_, rfl, tyX8_ok, nmX8⟩
  | 9, hq => cases hq; exact ⟨_, rfl, tyX9_ok, nmX9⟩
  | 10, hq => cases hq; exact ⟨_, rfl, tyX10_ok, nmX10⟩
  | k + 11, hq => simp [vwCl] at hq
