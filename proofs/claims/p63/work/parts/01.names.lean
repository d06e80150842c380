-- ===== PART A: goes FIRST, ahead of the names: the tables' words, and 'selects' of the private methods out of them =====
/-- a private method of a class that the tables say can be made, by its rows of tables_1 -/
def lw_okq (q : MethodName × Nat) : Prop := (q.1.cls ≠ "java/lang/invoke/MethodHandle" ∧ q.1.cls ≠ "java/lang/invoke/VarHandle") ∧ Cond.instantiable q.1.cls q.2 ∈ tables_1 ∧ Cond.privateMethod q.1 ∈ tables_1 ∧ Cond.instanceMethod q.1 ∈ tables_1
theorem lw_p0 : lw_okq (⟨"SquareMesh$Mesh", "lay", "(III)V"⟩, 13) := ⟨⟨by decide +kernel, by decide +kernel⟩, List.mem_of_getElem? (i := 25) (by decide +kernel), List.mem_of_getElem? (i := 241) (by decide +kernel), List.mem_of_getElem? (i := 242) (by decide +kernel)⟩
theorem lw_p1 : lw_okq (⟨"SquareMesh$Mesh", "liftRound", "()V"⟩, 13) := ⟨⟨by decide +kernel, by decide +kernel⟩, List.mem_of_getElem? (i := 25) (by decide +kernel), List.mem_of_getElem? (i := 245) (by decide +kernel), List.mem_of_getElem? (i := 246) (by decide +kernel)⟩
theorem lw_p2 : lw_okq (⟨"SquareMesh$Mesh", "list", "()V"⟩, 13) := ⟨⟨by decide +kernel, by decide +kernel⟩, List.mem_of_getElem? (i := 25) (by decide +kernel), List.mem_of_getElem? (i := 249) (by decide +kernel), List.mem_of_getElem? (i := 250) (by decide +kernel)⟩
theorem lw_p3 : lw_okq (⟨"SquareMesh$Mesh", "listEdge", "(II)V"⟩, 13) := ⟨⟨by decide +kernel, by decide +kernel⟩, List.mem_of_getElem? (i := 25) (by decide +kernel), List.mem_of_getElem? (i := 260) (by decide +kernel), List.mem_of_getElem? (i := 261) (by decide +kernel)⟩
theorem lw_p4 : lw_okq (⟨"SquareMesh$Mesh", "listTriangle", "(III)V"⟩, 13) := ⟨⟨by decide +kernel, by decide +kernel⟩, List.mem_of_getElem? (i := 25) (by decide +kernel), List.mem_of_getElem? (i := 264) (by decide +kernel), List.mem_of_getElem? (i := 265) (by decide +kernel)⟩
theorem lw_p5 : lw_okq (⟨"SquareMesh$Past", "forgetOldest", "()V"⟩, 3) := ⟨⟨by decide +kernel, by decide +kernel⟩, List.mem_of_getElem? (i := 134) (by decide +kernel), List.mem_of_getElem? (i := 335) (by decide +kernel), List.mem_of_getElem? (i := 336) (by decide +kernel)⟩
theorem lw_p6 : lw_okq (⟨"SquareMesh$Mesh", "strip", "(III)V"⟩, 13) := ⟨⟨by decide +kernel, by decide +kernel⟩, List.mem_of_getElem? (i := 25) (by decide +kernel), List.mem_of_getElem? (i := 371) (by decide +kernel), List.mem_of_getElem? (i := 372) (by decide +kernel)⟩
theorem lw_p7 : lw_okq (⟨"SquareMesh$Mesh", "join", "(III)V"⟩, 13) := ⟨⟨by decide +kernel, by decide +kernel⟩, List.mem_of_getElem? (i := 25) (by decide +kernel), List.mem_of_getElem? (i := 375) (by decide +kernel), List.mem_of_getElem? (i := 376) (by decide +kernel)⟩
theorem lw_p8 : lw_okq (⟨"SquareMesh$Mesh", "put", "(III)V"⟩, 13) := ⟨⟨by decide +kernel, by decide +kernel⟩, List.mem_of_getElem? (i := 25) (by decide +kernel), List.mem_of_getElem? (i := 384) (by decide +kernel), List.mem_of_getElem? (i := 385) (by decide +kernel)⟩
theorem lw_p9 : lw_okq (⟨"SquareMesh$Mesh", "await", "(II)V"⟩, 13) := ⟨⟨by decide +kernel, by decide +kernel⟩, List.mem_of_getElem? (i := 25) (by decide +kernel), List.mem_of_getElem? (i := 388) (by decide +kernel), List.mem_of_getElem? (i := 389) (by decide +kernel)⟩
theorem lw_p10 : lw_okq (⟨"SquareMesh$Mesh", "settle", "()V"⟩, 13) := ⟨⟨by decide +kernel, by decide +kernel⟩, List.mem_of_getElem? (i := 25) (by decide +kernel), List.mem_of_getElem? (i := 401) (by decide +kernel), List.mem_of_getElem? (i := 402) (by decide +kernel)⟩
theorem lw_p11 : lw_okq (⟨"SquareMesh$Mesh", "isInner", "(II)Z"⟩, 13) := ⟨⟨by decide +kernel, by decide +kernel⟩, List.mem_of_getElem? (i := 25) (by decide +kernel), List.mem_of_getElem? (i := 407) (by decide +kernel), List.mem_of_getElem? (i := 408) (by decide +kernel)⟩
theorem lw_p12 : lw_okq (⟨"SquareMesh$Mesh", "isAllowed", "(II)Z"⟩, 13) := ⟨⟨by decide +kernel, by decide +kernel⟩, List.mem_of_getElem? (i := 25) (by decide +kernel), List.mem_of_getElem? (i := 411) (by decide +kernel), List.mem_of_getElem? (i := 412) (by decide +kernel)⟩
theorem lw_p13 : lw_okq (⟨"SquareMesh$Mesh", "under", "(IIIIIJ)J"⟩, 13) := ⟨⟨by decide +kernel, by decide +kernel⟩, List.mem_of_getElem? (i := 25) (by decide +kernel), List.mem_of_getElem? (i := 415) (by decide +kernel), List.mem_of_getElem? (i := 416) (by decide +kernel)⟩
theorem lw_p14 : lw_okq (⟨"SquareMesh$Mesh", "flip", "(II)V"⟩, 13) := ⟨⟨by decide +kernel, by decide +kernel⟩, List.mem_of_getElem? (i := 25) (by decide +kernel), List.mem_of_getElem? (i := 423) (by decide +kernel), List.mem_of_getElem? (i := 424) (by decide +kernel)⟩
theorem lw_p15 : lw_okq (⟨"SquareMesh$Mesh", "firstOfRound", "(I)I"⟩, 13) := ⟨⟨by decide +kernel, by decide +kernel⟩, List.mem_of_getElem? (i := 25) (by decide +kernel), List.mem_of_getElem? (i := 443) (by decide +kernel), List.mem_of_getElem? (i := 444) (by decide +kernel)⟩
def lw_privs_1 : List (MethodName × Nat) := [(⟨"SquareMesh$Mesh", "lay", "(III)V"⟩, 13), (⟨"SquareMesh$Mesh", "liftRound", "()V"⟩, 13), (⟨"SquareMesh$Mesh", "list", "()V"⟩, 13), (⟨"SquareMesh$Mesh", "listEdge", "(II)V"⟩, 13), (⟨"SquareMesh$Mesh", "listTriangle", "(III)V"⟩, 13), (⟨"SquareMesh$Past", "forgetOldest", "()V"⟩, 3), (⟨"SquareMesh$Mesh", "strip", "(III)V"⟩, 13), (⟨"SquareMesh$Mesh", "join", "(III)V"⟩, 13), (⟨"SquareMesh$Mesh", "put", "(III)V"⟩, 13), (⟨"SquareMesh$Mesh", "await", "(II)V"⟩, 13), (⟨"SquareMesh$Mesh", "settle", "()V"⟩, 13), (⟨"SquareMesh$Mesh", "isInner", "(II)Z"⟩, 13), (⟨"SquareMesh$Mesh", "isAllowed", "(II)Z"⟩, 13), (⟨"SquareMesh$Mesh", "under", "(IIIIIJ)J"⟩, 13), (⟨"SquareMesh$Mesh", "flip", "(II)V"⟩, 13), (⟨"SquareMesh$Mesh", "firstOfRound", "(I)I"⟩, 13)]
theorem lw_r1 : ∀ q ∈ lw_privs_1, lw_okq q := List.forall_mem_cons.mpr ⟨lw_p0, List.forall_mem_cons.mpr ⟨lw_p1, List.forall_mem_cons.mpr ⟨lw_p2, List.forall_mem_cons.mpr ⟨lw_p3, List.forall_mem_cons.mpr ⟨lw_p4, List.forall_mem_cons.mpr ⟨lw_p5, List.forall_mem_cons.mpr ⟨lw_p6, List.forall_mem_cons.mpr ⟨lw_p7, List.forall_mem_cons.mpr ⟨lw_p8, List.forall_mem_cons.mpr ⟨lw_p9, List.forall_mem_cons.mpr ⟨lw_p10, List.forall_mem_cons.mpr ⟨lw_p11, List.forall_mem_cons.mpr ⟨lw_p12, List.forall_mem_cons.mpr ⟨lw_p13, List.forall_mem_cons.mpr ⟨lw_p14, List.forall_mem_cons.mpr ⟨lw_p15, fun _ h => absurd h List.not_mem_nil⟩⟩⟩⟩⟩⟩⟩⟩⟩⟩⟩⟩⟩⟩⟩⟩
theorem lw_p16 : lw_okq (⟨"SquareMesh$Mesh", "cutEar", "(I)V"⟩, 13) := ⟨⟨by decide +kernel, by decide +kernel⟩, List.mem_of_getElem? (i := 25) (by decide +kernel), List.mem_of_getElem? (i := 455) (by decide +kernel), List.mem_of_getElem? (i := 456) (by decide +kernel)⟩
theorem lw_p17 : lw_okq (⟨"SquareMesh$Mesh", "isEar", "(II)Z"⟩, 13) := ⟨⟨by decide +kernel, by decide +kernel⟩, List.mem_of_getElem? (i := 25) (by decide +kernel), List.mem_of_getElem? (i := 459) (by decide +kernel), List.mem_of_getElem? (i := 460) (by decide +kernel)⟩
theorem lw_p18 : lw_okq (⟨"SquareMesh$Mesh", "liftFrom", "(II)V"⟩, 13) := ⟨⟨by decide +kernel, by decide +kernel⟩, List.mem_of_getElem? (i := 25) (by decide +kernel), List.mem_of_getElem? (i := 505) (by decide +kernel), List.mem_of_getElem? (i := 506) (by decide +kernel)⟩
theorem lw_p19 : lw_okq (⟨"SquareMesh$Mesh", "flipCrossing", "(II)V"⟩, 13) := ⟨⟨by decide +kernel, by decide +kernel⟩, List.mem_of_getElem? (i := 25) (by decide +kernel), List.mem_of_getElem? (i := 512) (by decide +kernel), List.mem_of_getElem? (i := 513) (by decide +kernel)⟩
theorem lw_p20 : lw_okq (⟨"SquareMesh", "smoothOne", "(I)Z"⟩, 10) := ⟨⟨by decide +kernel, by decide +kernel⟩, List.mem_of_getElem? (i := 17) (by decide +kernel), List.mem_of_getElem? (i := 545) (by decide +kernel), List.mem_of_getElem? (i := 546) (by decide +kernel)⟩
theorem lw_p21 : lw_okq (⟨"SquareMesh", "paint", "()I"⟩, 10) := ⟨⟨by decide +kernel, by decide +kernel⟩, List.mem_of_getElem? (i := 17) (by decide +kernel), List.mem_of_getElem? (i := 784) (by decide +kernel), List.mem_of_getElem? (i := 785) (by decide +kernel)⟩
theorem lw_p22 : lw_okq (⟨"SquareMesh", "leastColour", "(I)I"⟩, 10) := ⟨⟨by decide +kernel, by decide +kernel⟩, List.mem_of_getElem? (i := 17) (by decide +kernel), List.mem_of_getElem? (i := 788) (by decide +kernel), List.mem_of_getElem? (i := 789) (by decide +kernel)⟩
theorem lw_p23 : lw_okq (⟨"SquareMesh", "isOfRegions", "(I)I"⟩, 10) := ⟨⟨by decide +kernel, by decide +kernel⟩, List.mem_of_getElem? (i := 17) (by decide +kernel), List.mem_of_getElem? (i := 793) (by decide +kernel), List.mem_of_getElem? (i := 794) (by decide +kernel)⟩
theorem lw_p24 : lw_okq (⟨"SquareMesh$Regions", "flood", "(LSquareMesh$Mesh;I)V"⟩, 4) := ⟨⟨by decide +kernel, by decide +kernel⟩, List.mem_of_getElem? (i := 151) (by decide +kernel), List.mem_of_getElem? (i := 802) (by decide +kernel), List.mem_of_getElem? (i := 803) (by decide +kernel)⟩
theorem lw_p25 : lw_okq (⟨"SquareMesh", "refineOnce", "()Z"⟩, 10) := ⟨⟨by decide +kernel, by decide +kernel⟩, List.mem_of_getElem? (i := 17) (by decide +kernel), List.mem_of_getElem? (i := 901) (by decide +kernel), List.mem_of_getElem? (i := 902) (by decide +kernel)⟩
def lw_privs_2 : List (MethodName × Nat) := [(⟨"SquareMesh$Mesh", "cutEar", "(I)V"⟩, 13), (⟨"SquareMesh$Mesh", "isEar", "(II)Z"⟩, 13), (⟨"SquareMesh$Mesh", "liftFrom", "(II)V"⟩, 13), (⟨"SquareMesh$Mesh", "flipCrossing", "(II)V"⟩, 13), (⟨"SquareMesh", "smoothOne", "(I)Z"⟩, 10), (⟨"SquareMesh", "paint", "()I"⟩, 10), (⟨"SquareMesh", "leastColour", "(I)I"⟩, 10), (⟨"SquareMesh", "isOfRegions", "(I)I"⟩, 10), (⟨"SquareMesh$Regions", "flood", "(LSquareMesh$Mesh;I)V"⟩, 4), (⟨"SquareMesh", "refineOnce", "()Z"⟩, 10)]
theorem lw_r2 : ∀ q ∈ lw_privs_2, lw_okq q := List.forall_mem_cons.mpr ⟨lw_p16, List.forall_mem_cons.mpr ⟨lw_p17, List.forall_mem_cons.mpr ⟨lw_p18, List.forall_mem_cons.mpr ⟨lw_p19, List.forall_mem_cons.mpr ⟨lw_p20, List.forall_mem_cons.mpr ⟨lw_p21, List.forall_mem_cons.mpr ⟨lw_p22, List.forall_mem_cons.mpr ⟨lw_p23, List.forall_mem_cons.mpr ⟨lw_p24, List.forall_mem_cons.mpr ⟨lw_p25, fun _ h => absurd h List.not_mem_nil⟩⟩⟩⟩⟩⟩⟩⟩⟩⟩
def lw_privs : List (MethodName × Nat) := lw_privs_1 ++ (lw_privs_2)
def lw_tbl : List Cond := k2_sels lw_privs ++ tables_1
theorem lw_privs_ok : ∀ q ∈ lw_privs, lw_okq q := by
  show ∀ q ∈ lw_privs_1 ++ (lw_privs_2), lw_okq q
  exact List.forall_mem_append.mpr ⟨lw_r1, lw_r2⟩
def RX0 : String := "SquareMesh$Hull"
def TX0 : u_T := fun k => match k with
  | 0 => ("SquareMesh$Hull", "row", "[I", true)
  | _ => ("SquareMesh$Hull", "count", "I", false)
def tyX0 : Nat → FieldType := fun k => match k with
  | 0 => .array .int
  | _ => .int
theorem nmX0 : ∀ a, a < 2 → ∀ b, b < 2 → a ≠ b → (TX0 a).2.1 ≠ (TX0 b).2.1 := by decide +kernel
theorem tyX0_ok : ∀ k, k < 2 → parseFieldDescriptor (TX0 k).2.2.1 = some (tyX0 k) := by decide +kernel
abbrev cX0_init : ByteArray := prog_2_method_1_code
def yX0_init : MethodName := ⟨RX0, "<init>", "()V"⟩
def RX1 : String := "SquareMesh$Mesh"
def TX1 : u_T := fun k => match k with
  | 0 => ("SquareMesh$Mesh", "told", "LSquareMesh$Told;", true)
  | 1 => ("SquareMesh$Mesh", "apex", "[I", true)
  | 2 => ("SquareMesh$Mesh", "owner", "[I", true)
  | 3 => ("SquareMesh$Mesh", "corners", "[I", true)
  | 4 => ("SquareMesh$Mesh", "ends", "[I", true)
  | 5 => ("SquareMesh$Mesh", "near", "[J", true)
  | 6 => ("SquareMesh$Mesh", "round", "[I", true)
  | 7 => ("SquareMesh$Mesh", "triangles", "I", false)
  | 8 => ("SquareMesh$Mesh", "edges", "I", false)
  | 9 => ("SquareMesh$Mesh", "lift", "[J", true)
  | 10 => ("SquareMesh$Mesh", "waiting", "[J", true)
  | 11 => ("SquareMesh$Mesh", "queue", "[I", true)
  | _ => ("SquareMesh$Mesh", "queued", "I", false)
def tyX1 : Nat → FieldType := fun k => match k with
  | 0 => .object "SquareMesh$Told"
  | 1 => .array .int
  | 2 => .array .int
  | 3 => .array .int
  | 4 => .array .int
  | 5 => .array .long
  | 6 => .array .int
  | 7 => .int
  | 8 => .int
  | 9 => .array .long
  | 10 => .array .long
  | 11 => .array .int
  | _ => .int
theorem nmX1 : ∀ a, a < 13 → ∀ b, b < 13 → a ≠ b → (TX1 a).2.1 ≠ (TX1 b).2.1 := by decide +kernel
theorem tyX1_ok : ∀ k, k < 13 → parseFieldDescriptor (TX1 k).2.2.1 = some (tyX1 k) := by decide +kernel
abbrev cX1_init : ByteArray := prog_3_method_1_code
def yX1_init : MethodName := ⟨RX1, "<init>", "()V"⟩
abbrev cX1_start : ByteArray := prog_3_method_2_code
def yX1_start : MethodName := ⟨RX1, "start", "()V"⟩
abbrev cX1_layAll : ByteArray := prog_3_method_4_code
def yX1_layAll : MethodName := ⟨RX1, "layAll", "([III)V"⟩
abbrev cX1_tellPoint : ByteArray := prog_3_method_5_code
def yX1_tellPoint : MethodName := ⟨RX1, "tellPoint", "(II)I"⟩
abbrev cX1_insert : ByteArray := prog_3_method_6_code
def yX1_insert : MethodName := ⟨RX1, "insert", "(III)V"⟩
abbrev cX1_join : ByteArray := prog_3_method_7_code
def yX1_join : MethodName := ⟨RX1, "join", "(III)V"⟩
abbrev cX1_takeOut : ByteArray := prog_3_method_8_code
def yX1_takeOut : MethodName := ⟨RX1, "takeOut", "(I)V"⟩
abbrev cX1_cutEar : ByteArray := prog_3_method_9_code
def yX1_cutEar : MethodName := ⟨RX1, "cutEar", "(I)V"⟩
abbrev cX1_isEar : ByteArray := prog_3_method_10_code
def yX1_isEar : MethodName := ⟨RX1, "isEar", "(II)Z"⟩
abbrev cX1_canFix : ByteArray := prog_3_method_11_code
def yX1_canFix : MethodName := ⟨RX1, "canFix", "(II)Z"⟩
abbrev cX1_fixEdge : ByteArray := prog_3_method_12_code
def yX1_fixEdge : MethodName := ⟨RX1, "fixEdge", "(II)V"⟩
abbrev cX1_flipCrossing : ByteArray := prog_3_method_13_code
def yX1_flipCrossing : MethodName := ⟨RX1, "flipCrossing", "(II)V"⟩
abbrev cX1_canFree : ByteArray := prog_3_method_14_code
def yX1_canFree : MethodName := ⟨RX1, "canFree", "(II)Z"⟩
abbrev cX1_freeEdge : ByteArray := prog_3_method_15_code
def yX1_freeEdge : MethodName := ⟨RX1, "freeEdge", "(II)V"⟩
abbrev cX1_lay : ByteArray := prog_3_method_16_code
def yX1_lay : MethodName := ⟨RX1, "lay", "(III)V"⟩
abbrev cX1_strip : ByteArray := prog_3_method_17_code
def yX1_strip : MethodName := ⟨RX1, "strip", "(III)V"⟩
abbrev cX1_put : ByteArray := prog_3_method_18_code
def yX1_put : MethodName := ⟨RX1, "put", "(III)V"⟩
abbrev cX1_await : ByteArray := prog_3_method_19_code
def yX1_await : MethodName := ⟨RX1, "await", "(II)V"⟩
abbrev cX1_settle : ByteArray := prog_3_method_20_code
def yX1_settle : MethodName := ⟨RX1, "settle", "()V"⟩
abbrev cX1_flip : ByteArray := prog_3_method_21_code
def yX1_flip : MethodName := ⟨RX1, "flip", "(II)V"⟩
abbrev cX1_isInner : ByteArray := prog_3_method_22_code
def yX1_isInner : MethodName := ⟨RX1, "isInner", "(II)Z"⟩
abbrev cX1_isAllowed : ByteArray := prog_3_method_23_code
def yX1_isAllowed : MethodName := ⟨RX1, "isAllowed", "(II)Z"⟩
abbrev cX1_liftRound : ByteArray := prog_3_method_24_code
def yX1_liftRound : MethodName := ⟨RX1, "liftRound", "()V"⟩
abbrev cX1_liftFrom : ByteArray := prog_3_method_25_code
def yX1_liftFrom : MethodName := ⟨RX1, "liftFrom", "(II)V"⟩
abbrev cX1_under : ByteArray := prog_3_method_26_code
def yX1_under : MethodName := ⟨RX1, "under", "(IIIIIJ)J"⟩
abbrev cX1_list : ByteArray := prog_3_method_28_code
def yX1_list : MethodName := ⟨RX1, "list", "()V"⟩
abbrev cX1_listEdge : ByteArray := prog_3_method_29_code
def yX1_listEdge : MethodName := ⟨RX1, "listEdge", "(II)V"⟩
abbrev cX1_listTriangle : ByteArray := prog_3_method_30_code
def yX1_listTriangle : MethodName := ⟨RX1, "listTriangle", "(III)V"⟩
abbrev cX1_hasTriangle : ByteArray := prog_3_method_31_code
def yX1_hasTriangle : MethodName := ⟨RX1, "hasTriangle", "(I)Z"⟩
abbrev cX1_cornerOf : ByteArray := prog_3_method_32_code
def yX1_cornerOf : MethodName := ⟨RX1, "cornerOf", "(II)I"⟩
abbrev cX1_isNear : ByteArray := prog_3_method_33_code
def yX1_isNear : MethodName := ⟨RX1, "isNear", "(II)Z"⟩
abbrev cX1_across : ByteArray := prog_3_method_34_code
def yX1_across : MethodName := ⟨RX1, "across", "(II)I"⟩
abbrev cX1_isOpen : ByteArray := prog_3_method_35_code
def yX1_isOpen : MethodName := ⟨RX1, "isOpen", "(II)Z"⟩
abbrev cX1_areaOf : ByteArray := prog_3_method_36_code
def yX1_areaOf : MethodName := ⟨RX1, "areaOf", "(I)I"⟩
abbrev cX1_sideOf : ByteArray := prog_3_method_37_code
def yX1_sideOf : MethodName := ⟨RX1, "sideOf", "(IIII)I"⟩
abbrev cX1_sideSquare : ByteArray := prog_3_method_38_code
def yX1_sideSquare : MethodName := ⟨RX1, "sideSquare", "(II)I"⟩
abbrev cX1_holds : ByteArray := prog_3_method_40_code
def yX1_holds : MethodName := ⟨RX1, "holds", "(III)Z"⟩
abbrev cX1_whereIn : ByteArray := prog_3_method_41_code
def yX1_whereIn : MethodName := ⟨RX1, "whereIn", "(II)I"⟩
abbrev cX1_goRound : ByteArray := prog_3_method_42_code
def yX1_goRound : MethodName := ⟨RX1, "goRound", "(I)I"⟩
abbrev cX1_firstOfRound : ByteArray := prog_3_method_43_code
def yX1_firstOfRound : MethodName := ⟨RX1, "firstOfRound", "(I)I"⟩
abbrev cX1_isInSight : ByteArray := prog_3_method_44_code
def yX1_isInSight : MethodName := ⟨RX1, "isInSight", "(II)Z"⟩
abbrev cX1_countFixed : ByteArray := prog_3_method_46_code
def yX1_countFixed : MethodName := ⟨RX1, "countFixed", "()I"⟩
abbrev cX1_countBorder : ByteArray := prog_3_method_47_code
def yX1_countBorder : MethodName := ⟨RX1, "countBorder", "()I"⟩
abbrev cX1_isBent : ByteArray := prog_3_method_48_code
def yX1_isBent : MethodName := ⟨RX1, "isBent", "(I)Z"⟩
abbrev cX1_countBent : ByteArray := prog_3_method_49_code
def yX1_countBent : MethodName := ⟨RX1, "countBent", "()I"⟩
abbrev cX1_countAngles : ByteArray := prog_3_method_50_code
def yX1_countAngles : MethodName := ⟨RX1, "countAngles", "(I)I"⟩
abbrev cX1_longestSide : ByteArray := prog_3_method_51_code
def yX1_longestSide : MethodName := ⟨RX1, "longestSide", "(I)I"⟩
abbrev cX1_thinnestOne : ByteArray := prog_3_method_52_code
def yX1_thinnestOne : MethodName := ⟨RX1, "thinnestOne", "()I"⟩
def RX2 : String := "SquareMesh$Passages"
def TX2 : u_T := fun k => match k with
  | 0 => ("SquareMesh$Passages", "far", "[I", true)
  | 1 => ("SquareMesh$Passages", "last", "I", false)
  | _ => ("SquareMesh$Passages", "queue", "[I", true)
def tyX2 : Nat → FieldType := fun k => match k with
  | 0 => .array .int
  | 1 => .int
  | _ => .array .int
theorem nmX2 : ∀ a, a < 3 → ∀ b, b < 3 → a ≠ b → (TX2 a).2.1 ≠ (TX2 b).2.1 := by decide +kernel
theorem tyX2_ok : ∀ k, k < 3 → parseFieldDescriptor (TX2 k).2.2.1 = some (tyX2 k) := by decide +kernel
abbrev cX2_init : ByteArray := prog_4_method_1_code
def yX2_init : MethodName := ⟨RX2, "<init>", "()V"⟩
def RX3 : String := "SquareMesh$Past"
def TX3 : u_T := fun k => match k with
  | 0 => ("SquareMesh$Past", "numbers", "[I", true)
  | 1 => ("SquareMesh$Past", "bits", "[J", true)
  | _ => ("SquareMesh$Past", "count", "I", false)
def tyX3 : Nat → FieldType := fun k => match k with
  | 0 => .array .int
  | 1 => .array .long
  | _ => .int
theorem nmX3 : ∀ a, a < 3 → ∀ b, b < 3 → a ≠ b → (TX3 a).2.1 ≠ (TX3 b).2.1 := by decide +kernel
theorem tyX3_ok : ∀ k, k < 3 → parseFieldDescriptor (TX3 k).2.2.1 = some (tyX3 k) := by decide +kernel
abbrev cX3_init : ByteArray := prog_5_method_1_code
def yX3_init : MethodName := ⟨RX3, "<init>", "()V"⟩
abbrev cX3_push : ByteArray := prog_5_method_2_code
def yX3_push : MethodName := ⟨RX3, "push", "(LSquareMesh$Mesh;)V"⟩
abbrev cX3_forgetOldest : ByteArray := prog_5_method_3_code
def yX3_forgetOldest : MethodName := ⟨RX3, "forgetOldest", "()V"⟩
abbrev cX3_pop : ByteArray := prog_5_method_4_code
def yX3_pop : MethodName := ⟨RX3, "pop", "(LSquareMesh$Mesh;)Z"⟩
abbrev cX3_keepTop : ByteArray := prog_5_method_5_code
def yX3_keepTop : MethodName := ⟨RX3, "keepTop", "(LSquareMesh$Mesh;)V"⟩
abbrev cX3_giveTop : ByteArray := prog_5_method_6_code
def yX3_giveTop : MethodName := ⟨RX3, "giveTop", "(LSquareMesh$Mesh;)V"⟩
abbrev cX3_copyFrom : ByteArray := prog_5_method_7_code
def yX3_copyFrom : MethodName := ⟨RX3, "copyFrom", "(LSquareMesh$Past;)V"⟩
def RX4 : String := "SquareMesh$Regions"
def TX4 : u_T := fun k => match k with
  | 0 => ("SquareMesh$Regions", "part", "[I", true)
  | 1 => ("SquareMesh$Regions", "holesIn", "[I", true)
  | 2 => ("SquareMesh$Regions", "count", "I", false)
  | _ => ("SquareMesh$Regions", "stack", "[I", true)
def tyX4 : Nat → FieldType := fun k => match k with
  | 0 => .array .int
  | 1 => .array .int
  | 2 => .int
  | _ => .array .int
theorem nmX4 : ∀ a, a < 4 → ∀ b, b < 4 → a ≠ b → (TX4 a).2.1 ≠ (TX4 b).2.1 := by decide +kernel
theorem tyX4_ok : ∀ k, k < 4 → parseFieldDescriptor (TX4 k).2.2.1 = some (tyX4 k) := by decide +kernel
abbrev cX4_init : ByteArray := prog_6_method_1_code
def yX4_init : MethodName := ⟨RX4, "<init>", "()V"⟩
abbrev cX4_find : ByteArray := prog_6_method_2_code
def yX4_find : MethodName := ⟨RX4, "find", "(LSquareMesh$Mesh;)V"⟩
abbrev cX4_flood : ByteArray := prog_6_method_3_code
def yX4_flood : MethodName := ⟨RX4, "flood", "(LSquareMesh$Mesh;I)V"⟩
abbrev cX4_countHollow : ByteArray := prog_6_method_4_code
def yX4_countHollow : MethodName := ⟨RX4, "countHollow", "()I"⟩
def RX5 : String := "SquareMesh$Told"
def TX5 : u_T := fun k => match k with
  | 0 => ("SquareMesh$Told", "xs", "[I", true)
  | 1 => ("SquareMesh$Told", "ys", "[I", true)
  | 2 => ("SquareMesh$Told", "heights", "[I", true)
  | 3 => ("SquareMesh$Told", "fixed", "[J", true)
  | 4 => ("SquareMesh$Told", "holeXs", "[I", true)
  | 5 => ("SquareMesh$Told", "holeYs", "[I", true)
  | 6 => ("SquareMesh$Told", "there", "J", false)
  | 7 => ("SquareMesh$Told", "holes", "I", false)
  | _ => ("SquareMesh$Told", "g", "I", false)
def tyX5 : Nat → FieldType := fun k => match k with
  | 0 => .array .int
  | 1 => .array .int
  | 2 => .array .int
  | 3 => .array .long
  | 4 => .array .int
  | 5 => .array .int
  | 6 => .long
  | 7 => .int
  | _ => .int
theorem nmX5 : ∀ a, a < 9 → ∀ b, b < 9 → a ≠ b → (TX5 a).2.1 ≠ (TX5 b).2.1 := by decide +kernel
theorem tyX5_ok : ∀ k, k < 9 → parseFieldDescriptor (TX5 k).2.2.1 = some (tyX5 k) := by decide +kernel
abbrev cX5_init : ByteArray := prog_7_method_1_code
def yX5_init : MethodName := ⟨RX5, "<init>", "()V"⟩
abbrev cX5_copyTo : ByteArray := prog_7_method_3_code
def yX5_copyTo : MethodName := ⟨RX5, "copyTo", "([II[JI)V"⟩
abbrev cX5_copyFrom : ByteArray := prog_7_method_4_code
def yX5_copyFrom : MethodName := ⟨RX5, "copyFrom", "([II[JI)V"⟩
abbrev cX5_has : ByteArray := prog_7_method_5_code
def yX5_has : MethodName := ⟨RX5, "has", "(I)Z"⟩
abbrev cX5_points : ByteArray := prog_7_method_6_code
def yX5_points : MethodName := ⟨RX5, "points", "()I"⟩
abbrev cX5_place : ByteArray := prog_7_method_7_code
def yX5_place : MethodName := ⟨RX5, "place", "(III)V"⟩
abbrev cX5_remove : ByteArray := prog_7_method_8_code
def yX5_remove : MethodName := ⟨RX5, "remove", "(I)V"⟩
abbrev cX5_atPlace : ByteArray := prog_7_method_9_code
def yX5_atPlace : MethodName := ⟨RX5, "atPlace", "(II)I"⟩
abbrev cX5_leastUnused : ByteArray := prog_7_method_10_code
def yX5_leastUnused : MethodName := ⟨RX5, "leastUnused", "()I"⟩
abbrev cX5_takes : ByteArray := prog_7_method_11_code
def yX5_takes : MethodName := ⟨RX5, "takes", "(II)Z"⟩
abbrev cX5_isLoose : ByteArray := prog_7_method_12_code
def yX5_isLoose : MethodName := ⟨RX5, "isLoose", "(I)Z"⟩
abbrev cX5_isOnBorder : ByteArray := prog_7_method_13_code
def yX5_isOnBorder : MethodName := ⟨RX5, "isOnBorder", "(I)Z"⟩
abbrev cX5_isBound : ByteArray := prog_7_method_14_code
def yX5_isBound : MethodName := ⟨RX5, "isBound", "(II)Z"⟩
abbrev cX5_bind : ByteArray := prog_7_method_15_code
def yX5_bind : MethodName := ⟨RX5, "bind", "(II)V"⟩
abbrev cX5_unbind : ByteArray := prog_7_method_16_code
def yX5_unbind : MethodName := ⟨RX5, "unbind", "(II)V"⟩
abbrev cX5_draw : ByteArray := prog_7_method_17_code
def yX5_draw : MethodName := ⟨RX5, "draw", "(I)I"⟩
abbrev cX5_side : ByteArray := prog_7_method_18_code
def yX5_side : MethodName := ⟨RX5, "side", "(IIII)I"⟩
abbrev cX5_side_ : ByteArray := prog_7_method_19_code
def yX5_side_ : MethodName := ⟨RX5, "side", "(III)I"⟩
abbrev cX5_square : ByteArray := prog_7_method_20_code
def yX5_square : MethodName := ⟨RX5, "square", "(II)I"⟩
abbrev cX5_ahead : ByteArray := prog_7_method_21_code
def yX5_ahead : MethodName := ⟨RX5, "ahead", "(II)I"⟩
abbrev cX5_isBetween : ByteArray := prog_7_method_22_code
def yX5_isBetween : MethodName := ⟨RX5, "isBetween", "(III)Z"⟩
abbrev cX5_isCut : ByteArray := prog_7_method_23_code
def yX5_isCut : MethodName := ⟨RX5, "isCut", "(IIIIII)Z"⟩
abbrev cX5_isCutBy : ByteArray := prog_7_method_24_code
def yX5_isCutBy : MethodName := ⟨RX5, "isCutBy", "(IIII)Z"⟩
def RX6 : String := "SquareMesh$Tree"
def TX6 : u_T := fun k => match k with
  | 0 => ("SquareMesh$Tree", "taken", "[I", true)
  | 1 => ("SquareMesh$Tree", "count", "I", false)
  | _ => ("SquareMesh$Tree", "part", "[I", true)
def tyX6 : Nat → FieldType := fun k => match k with
  | 0 => .array .int
  | 1 => .int
  | _ => .array .int
theorem nmX6 : ∀ a, a < 3 → ∀ b, b < 3 → a ≠ b → (TX6 a).2.1 ≠ (TX6 b).2.1 := by decide +kernel
theorem tyX6_ok : ∀ k, k < 3 → parseFieldDescriptor (TX6 k).2.2.1 = some (tyX6 k) := by decide +kernel
abbrev cX6_init : ByteArray := prog_8_method_1_code
def yX6_init : MethodName := ⟨RX6, "<init>", "()V"⟩
def RX7 : String := "SquareMesh$Ways"
def TX7 : u_T := fun k => match k with
  | 0 => ("SquareMesh$Ways", "far", "[I", true)
  | _ => ("SquareMesh$Ways", "costs", "[I", true)
def tyX7 : Nat → FieldType := fun k => match k with
  | 0 => .array .int
  | _ => .array .int
theorem nmX7 : ∀ a, a < 2 → ∀ b, b < 2 → a ≠ b → (TX7 a).2.1 ≠ (TX7 b).2.1 := by decide +kernel
theorem tyX7_ok : ∀ k, k < 2 → parseFieldDescriptor (TX7 k).2.2.1 = some (tyX7 k) := by decide +kernel
abbrev cX7_init : ByteArray := prog_9_method_1_code
def yX7_init : MethodName := ⟨RX7, "<init>", "()V"⟩
def RX8 : String := "SquareMesh"
def TX8 : u_T := fun k => match k with
  | 0 => ("SquareMesh", "mesh", "LSquareMesh$Mesh;", true)
  | 1 => ("SquareMesh", "tried", "LSquareMesh$Mesh;", true)
  | 2 => ("SquareMesh", "past", "LSquareMesh$Past;", true)
  | 3 => ("SquareMesh", "pictured", "LSquareMesh$Past;", true)
  | 4 => ("SquareMesh", "regions", "LSquareMesh$Regions;", true)
  | 5 => ("SquareMesh", "ways", "LSquareMesh$Ways;", true)
  | 6 => ("SquareMesh", "passages", "LSquareMesh$Passages;", true)
  | 7 => ("SquareMesh", "grown", "LSquareMesh$Tree;", true)
  | 8 => ("SquareMesh", "wrapped", "LSquareMesh$Hull;", true)
  | _ => ("SquareMesh", "colours", "[I", true)
def tyX8 : Nat → FieldType := fun k => match k with
  | 0 => .object "SquareMesh$Mesh"
  | 1 => .object "SquareMesh$Mesh"
  | 2 => .object "SquareMesh$Past"
  | 3 => .object "SquareMesh$Past"
  | 4 => .object "SquareMesh$Regions"
  | 5 => .object "SquareMesh$Ways"
  | 6 => .object "SquareMesh$Passages"
  | 7 => .object "SquareMesh$Tree"
  | 8 => .object "SquareMesh$Hull"
  | _ => .array .int
theorem nmX8 : ∀ a, a < 10 → ∀ b, b < 10 → a ≠ b → (TX8 a).2.1 ≠ (TX8 b).2.1 := by decide +kernel
theorem tyX8_ok : ∀ k, k < 10 → parseFieldDescriptor (TX8 k).2.2.1 = some (tyX8 k) := by decide +kernel
abbrev cX8_init : ByteArray := prog_1_method_1_code
def yX8_init : MethodName := ⟨RX8, "<init>", "()V"⟩
abbrev cX8_point : ByteArray := prog_1_method_2_code
def yX8_point : MethodName := ⟨RX8, "point", "(II)I"⟩
abbrev cX8_drop : ByteArray := prog_1_method_3_code
def yX8_drop : MethodName := ⟨RX8, "drop", "(I)Z"⟩
abbrev cX8_move : ByteArray := prog_1_method_4_code
def yX8_move : MethodName := ⟨RX8, "move", "(III)Z"⟩
abbrev cX8_fix : ByteArray := prog_1_method_5_code
def yX8_fix : MethodName := ⟨RX8, "fix", "(II)Z"⟩
abbrev cX8_free : ByteArray := prog_1_method_6_code
def yX8_free : MethodName := ⟨RX8, "free", "(II)Z"⟩
abbrev cX8_drawn : ByteArray := prog_1_method_7_code
def yX8_drawn : MethodName := ⟨RX8, "drawn", "(II)I"⟩
abbrev cX8_height : ByteArray := prog_1_method_8_code
def yX8_height : MethodName := ⟨RX8, "height", "(II)Z"⟩
abbrev cX8_refine : ByteArray := prog_1_method_9_code
def yX8_refine : MethodName := ⟨RX8, "refine", "(I)I"⟩
abbrev cX8_refineOnce : ByteArray := prog_1_method_10_code
def yX8_refineOnce : MethodName := ⟨RX8, "refineOnce", "()Z"⟩
abbrev cX8_smooth : ByteArray := prog_1_method_11_code
def yX8_smooth : MethodName := ⟨RX8, "smooth", "()I"⟩
abbrev cX8_smoothOne : ByteArray := prog_1_method_12_code
def yX8_smoothOne : MethodName := ⟨RX8, "smoothOne", "(I)Z"⟩
abbrev cX8_hole : ByteArray := prog_1_method_13_code
def yX8_hole : MethodName := ⟨RX8, "hole", "(II)I"⟩
abbrev cX8_fill : ByteArray := prog_1_method_14_code
def yX8_fill : MethodName := ⟨RX8, "fill", "()I"⟩
abbrev cX8_tell : ByteArray := prog_1_method_15_code
def yX8_tell : MethodName := ⟨RX8, "tell", "(I)Z"⟩
abbrev cX8_undo : ByteArray := prog_1_method_16_code
def yX8_undo : MethodName := ⟨RX8, "undo", "()I"⟩
abbrev cX8_steps : ByteArray := prog_1_method_17_code
def yX8_steps : MethodName := ⟨RX8, "steps", "()I"⟩
abbrev cX8_image : ByteArray := prog_1_method_18_code
def yX8_image : MethodName := ⟨RX8, "image", "()I"⟩
abbrev cX8_back : ByteArray := prog_1_method_19_code
def yX8_back : MethodName := ⟨RX8, "back", "()I"⟩
abbrev cX8_is : ByteArray := prog_1_method_21_code
def yX8_is : MethodName := ⟨RX8, "is", "(I)I"⟩
abbrev cX8_isOfRegions : ByteArray := prog_1_method_22_code
def yX8_isOfRegions : MethodName := ⟨RX8, "isOfRegions", "(I)I"⟩
abbrev cX8_of : ByteArray := prog_1_method_23_code
def yX8_of : MethodName := ⟨RX8, "of", "(II)I"⟩
abbrev cX8_at : ByteArray := prog_1_method_24_code
def yX8_at : MethodName := ⟨RX8, "at", "(II)I"⟩
abbrev cX8_corner : ByteArray := prog_1_method_25_code
def yX8_corner : MethodName := ⟨RX8, "corner", "(II)I"⟩
abbrev cX8_beyond : ByteArray := prog_1_method_26_code
def yX8_beyond : MethodName := ⟨RX8, "beyond", "(II)I"⟩
abbrev cX8_area : ByteArray := prog_1_method_27_code
def yX8_area : MethodName := ⟨RX8, "area", "(I)I"⟩
abbrev cX8_triangle : ByteArray := prog_1_method_28_code
def yX8_triangle : MethodName := ⟨RX8, "triangle", "(III)I"⟩
abbrev cX8_isEdge : ByteArray := prog_1_method_29_code
def yX8_isEdge : MethodName := ⟨RX8, "isEdge", "(II)Z"⟩
abbrev cX8_isFixed : ByteArray := prog_1_method_30_code
def yX8_isFixed : MethodName := ⟨RX8, "isFixed", "(II)Z"⟩
abbrev cX8_star : ByteArray := prog_1_method_34_code
def yX8_star : MethodName := ⟨RX8, "star", "(II)I"⟩
abbrev cX8_thinnest : ByteArray := prog_1_method_46_code
def yX8_thinnest : MethodName := ⟨RX8, "thinnest", "()I"⟩
abbrev cX8_colour : ByteArray := prog_1_method_55_code
def yX8_colour : MethodName := ⟨RX8, "colour", "(I)I"⟩
abbrev cX8_paint : ByteArray := prog_1_method_56_code
def yX8_paint : MethodName := ⟨RX8, "paint", "()I"⟩
abbrev cX8_leastColour : ByteArray := prog_1_method_57_code
def yX8_leastColour : MethodName := ⟨RX8, "leastColour", "(I)I"⟩
abbrev cX8_inSquare : ByteArray := prog_1_method_69_code
def yX8_inSquare : MethodName := ⟨RX8, "inSquare", "(II)Z"⟩
abbrev cX8_turn : ByteArray := prog_1_method_70_code
def yX8_turn : MethodName := ⟨RX8, "turn", "(IIIIII)I"⟩
abbrev cX8_areOpposite : ByteArray := prog_1_method_71_code
def yX8_areOpposite : MethodName := ⟨RX8, "areOpposite", "(II)Z"⟩
def RX9 : String := "SquareMeshLaw$Sheet"
def TX9 : u_T := fun k => match k with
  | 0 => ("SquareMeshLaw$Sheet", "point", "[[I", false)
  | 1 => ("SquareMeshLaw$Sheet", "fixed", "[[I", false)
  | 2 => ("SquareMeshLaw$Sheet", "holes", "[[I", false)
  | _ => ("SquareMeshLaw$Sheet", "g", "I", false)
def tyX9 : Nat → FieldType := fun k => match k with
  | 0 => .array (.array .int)
  | 1 => .array (.array .int)
  | 2 => .array (.array .int)
  | _ => .int
theorem nmX9 : ∀ a, a < 4 → ∀ b, b < 4 → a ≠ b → (TX9 a).2.1 ≠ (TX9 b).2.1 := by decide +kernel
theorem tyX9_ok : ∀ k, k < 4 → parseFieldDescriptor (TX9 k).2.2.1 = some (tyX9 k) := by decide +kernel
abbrev cX9_init : ByteArray := prog_11_method_1_code
def yX9_init : MethodName := ⟨RX9, "<init>", "()V"⟩
abbrev cX9_copy : ByteArray := prog_11_method_2_code
def yX9_copy : MethodName := ⟨RX9, "copy", "()LSquareMeshLaw$Sheet;"⟩
abbrev cX9_fixes : ByteArray := prog_11_method_3_code
def yX9_fixes : MethodName := ⟨RX9, "fixes", "(III)V"⟩
abbrev cX9_at : ByteArray := prog_11_method_4_code
def yX9_at : MethodName := ⟨RX9, "at", "(II)I"⟩
abbrev cX9_free : ByteArray := prog_11_method_5_code
def yX9_free : MethodName := ⟨RX9, "free", "()I"⟩
abbrev cX9_between : ByteArray := prog_11_method_6_code
def yX9_between : MethodName := ⟨RX9, "between", "(IIII)Z"⟩
abbrev cX9_lays : ByteArray := prog_11_method_7_code
def yX9_lays : MethodName := ⟨RX9, "lays", "(IIII)V"⟩
abbrev cX9_tells : ByteArray := prog_11_method_8_code
def yX9_tells : MethodName := ⟨RX9, "tells", "(II)I"⟩
abbrev cX9_goes : ByteArray := prog_11_method_9_code
def yX9_goes : MethodName := ⟨RX9, "goes", "(I)Z"⟩
abbrev cX9_sees : ByteArray := prog_11_method_10_code
def yX9_sees : MethodName := ⟨RX9, "sees", "(II)Z"⟩
abbrev cX9_draw : ByteArray := prog_11_method_11_code
def yX9_draw : MethodName := ⟨RX9, "draw", "(I)I"⟩
def RX10 : String := "SquareMeshModel"
def TX10 : u_T := fun k => match k with
  | _ => ("", "", "", false)
def tyX10 : Nat → FieldType := fun k => match k with
  | _ => .int
theorem nmX10 : ∀ a, a < 0 → ∀ b, b < 0 → a ≠ b → (TX10 a).2.1 ≠ (TX10 b).2.1 := by decide +kernel
theorem tyX10_ok : ∀ k, k < 0 → parseFieldDescriptor (TX10 k).2.2.1 = some (tyX10 k) := by decide +kernel
def RJx8e188 : String := "java/lang/Cloneable"
def TJx8e188 : u_T := fun k => match k with
  | _ => ("", "", "", false)
def tyJx8e188 : Nat → FieldType := fun k => match k with
  | _ => .int
theorem nmJx8e188 : ∀ a, a < 0 → ∀ b, b < 0 → a ≠ b → (TJx8e188 a).2.1 ≠ (TJx8e188 b).2.1 := by decide +kernel
theorem tyJx8e188_ok : ∀ k, k < 0 → parseFieldDescriptor (TJx8e188 k).2.2.1 = some (tyJx8e188 k) := by decide +kernel
def RJ6 : String := "java/lang/Integer"
def TJ6 : u_T := fun k => match k with
  | _ => ("", "", "", false)
def tyJ6 : Nat → FieldType := fun k => match k with
  | _ => .int
theorem nmJ6 : ∀ a, a < 0 → ∀ b, b < 0 → a ≠ b → (TJ6 a).2.1 ≠ (TJ6 b).2.1 := by decide +kernel
theorem tyJ6_ok : ∀ k, k < 0 → parseFieldDescriptor (TJ6 k).2.2.1 = some (tyJ6 k) := by decide +kernel
abbrev cJ6_compare_7cf53 : ByteArray := prog_14_method_40_code
def yJ6_compare_7cf53 : MethodName := ⟨RJ6, "compare", "(II)I"⟩
abbrev cJ6_numberOfTrailingZeros_0f7a4 : ByteArray := prog_14_method_48_code
def yJ6_numberOfTrailingZeros_0f7a4 : MethodName := ⟨RJ6, "numberOfTrailingZeros", "(I)I"⟩
abbrev cJ6_signum_0f7a4 : ByteArray := prog_14_method_56_code
def yJ6_signum_0f7a4 : MethodName := ⟨RJ6, "signum", "(I)I"⟩
def RJ13 : String := "java/lang/Long"
def TJ13 : u_T := fun k => match k with
  | _ => ("", "", "", false)
def tyJ13 : Nat → FieldType := fun k => match k with
  | _ => .int
theorem nmJ13 : ∀ a, a < 0 → ∀ b, b < 0 → a ≠ b → (TJ13 a).2.1 ≠ (TJ13 b).2.1 := by decide +kernel
theorem tyJ13_ok : ∀ k, k < 0 → parseFieldDescriptor (TJ13 k).2.2.1 = some (tyJ13 k) := by decide +kernel
abbrev cJ13_bitCount_95d88 : ByteArray := prog_15_method_50_code
def yJ13_bitCount_95d88 : MethodName := ⟨RJ13, "bitCount", "(J)I"⟩
def RJ9 : String := "java/lang/Math"
def TJ9 : u_T := fun k => match k with
  | _ => ("", "", "", false)
def tyJ9 : Nat → FieldType := fun k => match k with
  | _ => .int
theorem nmJ9 : ∀ a, a < 0 → ∀ b, b < 0 → a ≠ b → (TJ9 a).2.1 ≠ (TJ9 b).2.1 := by decide +kernel
theorem tyJ9_ok : ∀ k, k < 0 → parseFieldDescriptor (TJ9 k).2.2.1 = some (tyJ9 k) := by decide +kernel
abbrev cJ9_floorDiv_7cf53 : ByteArray := prog_16_method_47_code
def yJ9_floorDiv_7cf53 : MethodName := ⟨RJ9, "floorDiv", "(II)I"⟩
abbrev cJ9_abs_0f7a4 : ByteArray := prog_16_method_59_code
def yJ9_abs_0f7a4 : MethodName := ⟨RJ9, "abs", "(I)I"⟩
abbrev cJ9_max_7cf53 : ByteArray := prog_16_method_65_code
def yJ9_max_7cf53 : MethodName := ⟨RJ9, "max", "(II)I"⟩
abbrev cJ9_max_f86c9 : ByteArray := prog_16_method_66_code
def yJ9_max_f86c9 : MethodName := ⟨RJ9, "max", "(JJ)J"⟩
abbrev cJ9_min_7cf53 : ByteArray := prog_16_method_69_code
def yJ9_min_7cf53 : MethodName := ⟨RJ9, "min", "(II)I"⟩
def RJ10 : String := "java/lang/System"
def TJ10 : u_T := fun k => match k with
  | _ => ("", "", "", false)
def tyJ10 : Nat → FieldType := fun k => match k with
  | _ => .int
theorem nmJ10 : ∀ a, a < 0 → ∀ b, b < 0 → a ≠ b → (TJ10 a).2.1 ≠ (TJ10 b).2.1 := by decide +kernel
theorem tyJ10_ok : ∀ k, k < 0 → parseFieldDescriptor (TJ10 k).2.2.1 = some (tyJ10 k) := by decide +kernel
def RJ7 : String := "java/util/Arrays"
def TJ7 : u_T := fun k => match k with
  | _ => ("", "", "", false)
def tyJ7 : Nat → FieldType := fun k => match k with
  | _ => .int
theorem nmJ7 : ∀ a, a < 0 → ∀ b, b < 0 → a ≠ b → (TJ7 a).2.1 ≠ (TJ7 b).2.1 := by decide +kernel
theorem tyJ7_ok : ∀ k, k < 0 → parseFieldDescriptor (TJ7 k).2.2.1 = some (tyJ7 k) := by decide +kernel
abbrev cJ7_fill_d0a16 : ByteArray := prog_18_method_101_code
def yJ7_fill_d0a16 : MethodName := ⟨RJ7, "fill", "([JJ)V"⟩
abbrev cJ7_fill_53178 : ByteArray := prog_18_method_103_code
def yJ7_fill_53178 : MethodName := ⟨RJ7, "fill", "([II)V"⟩
def RL : String := "SquareMeshLaw"
abbrev cL_pick : ByteArray := method_2_code
def yL_pick : MethodName := ⟨RL, "pick", "([II)I"⟩
abbrev cL_side : ByteArray := method_3_code
def yL_side : MethodName := ⟨RL, "side", "([I[III)I"⟩
abbrev cL_sign : ByteArray := method_4_code
def yL_sign : MethodName := ⟨RL, "sign", "([I[I[I)I"⟩
abbrev cL_crosses : ByteArray := method_5_code
def yL_crosses : MethodName := ⟨RL, "crosses", "([I[I[I[I)Z"⟩
abbrev cL_inside : ByteArray := method_6_code
def yL_inside : MethodName := ⟨RL, "inside", "([I[I[I[I)J"⟩
abbrev cL_ahead : ByteArray := method_7_code
def yL_ahead : MethodName := ⟨RL, "ahead", "([I[I)Z"⟩
abbrev cL_mesh : ByteArray := method_8_code
def yL_mesh : MethodName := ⟨RL, "mesh", "(LSquareMesh;LSquareMeshLaw$Sheet;)Z"⟩
abbrev cL_angles : ByteArray := method_9_code
def yL_angles : MethodName := ⟨RL, "angles", "(LSquareMesh;LSquareMeshLaw$Sheet;I)[I"⟩
abbrev cL_code : ByteArray := method_10_code
def yL_code : MethodName := ⟨RL, "code", "(LSquareMesh;I)I"⟩
abbrev cL_same : ByteArray := method_11_code
def yL_same : MethodName := ⟨RL, "same", "(LSquareMesh;LSquareMeshLaw$Sheet;)Z"⟩
abbrev cL_down : ByteArray := method_12_code
def yL_down : MethodName := ⟨RL, "down", "(II)I"⟩
abbrev cL_law : ByteArray := code
def yL_law : MethodName := ⟨RL, "law", "([I)Z"⟩
abbrev cL_refines : ByteArray := method_14_code
def yL_refines : MethodName := ⟨RL, "refines", "(LSquareMesh;LSquareMeshLaw$Sheet;I)I"⟩
abbrev cL_beside : ByteArray := method_15_code
def yL_beside : MethodName := ⟨RL, "beside", "(LSquareMeshLaw$Sheet;)LSquareMesh;"⟩
abbrev vwCl : List vw_C := [(RX0, TX0, 2), (RX1, TX1, 13), (RX2, TX2, 3), (RX3, TX3, 3), (RX4, TX4, 4), (RX5, TX5, 9), (RX6, TX6, 3), (RX7, TX7, 2), (RX8, TX8, 10), (RX9, TX9, 4)]
def pBl (b : Nat) : List Cond := match b with
  | 0 => k2_sels lw_privs
  | 1 => tables_1_1
  | 2 => tables_1_2
  | 3 => tables_1_3
  | 4 => tables_1_4
  | _ => []
theorem pBl_in {b : Nat} {w : Cond} (h : w ∈ pBl b) : w ∈ lw_tbl := by
  unfold pBl at h
  unfold lw_tbl tables_1
  split at h <;> first | (simp only [List.mem_append]; simp only [h, true_or, or_true]; done) | exact absurd h List.not_mem_nil
-- ===== the tables of the plain machine, by place among lw_tbl =====
def pON : List String := ["SquareMesh$Hull", "SquareMesh$Mesh", "SquareMesh$Passages", "SquareMesh$Past", "SquareMesh$Regions", "SquareMesh$Told", "SquareMesh$Tree", "SquareMesh$Ways", "SquareMesh", "SquareMeshLaw$Sheet", "SquareMeshModel", "java/lang/Cloneable", "java/lang/Integer", "java/lang/Long", "java/lang/Math", "java/lang/System", "java/util/Arrays", "SquareMeshLaw"]
def pMs : List (MethodName × ByteArray × Nat × Option FieldType × Nat) := [
  (yX0_init, cX0_init, 1, none, 0),
  (yX1_init, cX1_init, 1, none, 1),
  (yX1_start, cX1_start, 2, none, 1),
  (yX1_layAll, cX1_layAll, 6, none, 1),
  (yX1_tellPoint, cX1_tellPoint, 4, (some .int), 1),
  (yX1_insert, cX1_insert, 8, none, 1),
  (yX1_join, cX1_join, 5, none, 1),
  (yX1_takeOut, cX1_takeOut, 4, none, 1),
  (yX1_cutEar, cX1_cutEar, 4, none, 1),
  (yX1_isEar, cX1_isEar, 9, (some .boolean), 1),
  (yX1_canFix, cX1_canFix, 3, (some .boolean), 1),
  (yX1_fixEdge, cX1_fixEdge, 4, none, 1),
  (yX1_flipCrossing, cX1_flipCrossing, 9, none, 1),
  (yX1_canFree, cX1_canFree, 3, (some .boolean), 1),
  (yX1_freeEdge, cX1_freeEdge, 3, none, 1),
  (yX1_lay, cX1_lay, 4, none, 1),
  (yX1_strip, cX1_strip, 4, none, 1),
  (yX1_put, cX1_put, 4, none, 1),
  (yX1_await, cX1_await, 5, none, 1),
  (yX1_settle, cX1_settle, 4, none, 1),
  (yX1_flip, cX1_flip, 5, none, 1),
  (yX1_isInner, cX1_isInner, 3, (some .boolean), 1),
  (yX1_isAllowed, cX1_isAllowed, 8, (some .boolean), 1),
  (yX1_liftRound, cX1_liftRound, 2, none, 1),
  (yX1_liftFrom, cX1_liftFrom, 4, none, 1),
  (yX1_under, cX1_under, 20, (some .long), 1),
  (yX1_list, cX1_list, 4, none, 1),
  (yX1_listEdge, cX1_listEdge, 3, none, 1),
  (yX1_listTriangle, cX1_listTriangle, 4, none, 1),
  (yX1_hasTriangle, cX1_hasTriangle, 2, (some .boolean), 1),
  (yX1_cornerOf, cX1_cornerOf, 3, (some .int), 1),
  (yX1_isNear, cX1_isNear, 3, (some .boolean), 1),
  (yX1_across, cX1_across, 4, (some .int), 1),
  (yX1_isOpen, cX1_isOpen, 3, (some .boolean), 1),
  (yX1_areaOf, cX1_areaOf, 2, (some .int), 1),
  (yX1_sideOf, cX1_sideOf, 5, (some .int), 1),
  (yX1_sideSquare, cX1_sideSquare, 3, (some .int), 1),
  (yX1_holds, cX1_holds, 4, (some .boolean), 1),
  (yX1_whereIn, cX1_whereIn, 4, (some .int), 1),
  (yX1_goRound, cX1_goRound, 6, (some .int), 1),
  (yX1_firstOfRound, cX1_firstOfRound, 4, (some .int), 1),
  (yX1_isInSight, cX1_isInSight, 6, (some .boolean), 1),
  (yX1_countFixed, cX1_countFixed, 3, (some .int), 1),
  (yX1_countBorder, cX1_countBorder, 3, (some .int), 1),
  (yX1_isBent, cX1_isBent, 4, (some .boolean), 1),
  (yX1_countBent, cX1_countBent, 3, (some .int), 1),
  (yX1_countAngles, cX1_countAngles, 6, (some .int), 1),
  (yX1_longestSide, cX1_longestSide, 4, (some .int), 1),
  (yX1_thinnestOne, cX1_thinnestOne, 11, (some .int), 1),
  (yX2_init, cX2_init, 1, none, 2),
  (yX3_init, cX3_init, 1, none, 3),
  (yX3_push, cX3_push, 2, none, 3),
  (yX3_forgetOldest, cX3_forgetOldest, 1, none, 3),
  (yX3_pop, cX3_pop, 2, (some .boolean), 3),
  (yX3_keepTop, cX3_keepTop, 3, none, 3),
  (yX3_giveTop, cX3_giveTop, 3, none, 3),
  (yX3_copyFrom, cX3_copyFrom, 2, none, 3),
  (yX4_init, cX4_init, 1, none, 4),
  (yX4_find, cX4_find, 4, none, 4),
  (yX4_flood, cX4_flood, 8, none, 4),
  (yX4_countHollow, cX4_countHollow, 3, (some .int), 4),
  (yX5_init, cX5_init, 1, none, 5),
  (yX5_copyTo, cX5_copyTo, 5, none, 5),
  (yX5_copyFrom, cX5_copyFrom, 5, none, 5),
  (yX5_has, cX5_has, 2, (some .boolean), 5),
  (yX5_points, cX5_points, 1, (some .int), 5),
  (yX5_place, cX5_place, 4, none, 5),
  (yX5_remove, cX5_remove, 2, none, 5),
  (yX5_atPlace, cX5_atPlace, 4, (some .int), 5),
  (yX5_leastUnused, cX5_leastUnused, 2, (some .int), 5),
  (yX5_takes, cX5_takes, 3, (some .boolean), 5),
  (yX5_isLoose, cX5_isLoose, 2, (some .boolean), 5),
  (yX5_isOnBorder, cX5_isOnBorder, 2, (some .boolean), 5),
  (yX5_isBound, cX5_isBound, 3, (some .boolean), 5),
  (yX5_bind, cX5_bind, 3, none, 5),
  (yX5_unbind, cX5_unbind, 3, none, 5),
  (yX5_draw, cX5_draw, 3, (some .int), 5),
  (yX5_side, cX5_side, 5, (some .int), 5),
  (yX5_side_, cX5_side_, 4, (some .int), 5),
  (yX5_square, cX5_square, 5, (some .int), 5),
  (yX5_ahead, cX5_ahead, 3, (some .int), 5),
  (yX5_isBetween, cX5_isBetween, 5, (some .boolean), 5),
  (yX5_isCut, cX5_isCut, 7, (some .boolean), 5),
  (yX5_isCutBy, cX5_isCutBy, 5, (some .boolean), 5),
  (yX6_init, cX6_init, 1, none, 6),
  (yX7_init, cX7_init, 1, none, 7),
  (yX8_init, cX8_init, 1, none, 8),
  (yX8_point, cX8_point, 3, (some .int), 8),
  (yX8_drop, cX8_drop, 2, (some .boolean), 8),
  (yX8_move, cX8_move, 4, (some .boolean), 8),
  (yX8_fix, cX8_fix, 3, (some .boolean), 8),
  (yX8_free, cX8_free, 3, (some .boolean), 8),
  (yX8_drawn, cX8_drawn, 7, (some .int), 8),
  (yX8_height, cX8_height, 3, (some .boolean), 8),
  (yX8_refine, cX8_refine, 4, (some .int), 8),
  (yX8_refineOnce, cX8_refineOnce, 8, (some .boolean), 8),
  (yX8_smooth, cX8_smooth, 3, (some .int), 8),
  (yX8_smoothOne, cX8_smoothOne, 7, (some .boolean), 8),
  (yX8_hole, cX8_hole, 4, (some .int), 8),
  (yX8_fill, cX8_fill, 1, (some .int), 8),
  (yX8_tell, cX8_tell, 2, (some .boolean), 8),
  (yX8_undo, cX8_undo, 1, (some .int), 8),
  (yX8_steps, cX8_steps, 1, (some .int), 8),
  (yX8_image, cX8_image, 1, (some .int), 8),
  (yX8_back, cX8_back, 1, (some .int), 8),
  (yX8_is, cX8_is, 2, (some .int), 8),
  (yX8_isOfRegions, cX8_isOfRegions, 2, (some .int), 8),
  (yX8_of, cX8_of, 4, (some .int), 8),
  (yX8_at, cX8_at, 3, (some .int), 8),
  (yX8_corner, cX8_corner, 3, (some .int), 8),
  (yX8_beyond, cX8_beyond, 3, (some .int), 8),
  (yX8_area, cX8_area, 2, (some .int), 8),
  (yX8_triangle, cX8_triangle, 4, (some .int), 8),
  (yX8_isEdge, cX8_isEdge, 3, (some .boolean), 8),
  (yX8_isFixed, cX8_isFixed, 3, (some .boolean), 8),
  (yX8_star, cX8_star, 3, (some .int), 8),
  (yX8_thinnest, cX8_thinnest, 1, (some .int), 8),
  (yX8_colour, cX8_colour, 2, (some .int), 8),
  (yX8_paint, cX8_paint, 3, (some .int), 8),
  (yX8_leastColour, cX8_leastColour, 6, (some .int), 8),
  (yX8_inSquare, cX8_inSquare, 2, (some .boolean), 8),
  (yX8_turn, cX8_turn, 6, (some .int), 8),
  (yX8_areOpposite, cX8_areOpposite, 2, (some .boolean), 8),
  (yX9_init, cX9_init, 3, none, 9),
  (yX9_copy, cX9_copy, 3, (some (.object "SquareMeshLaw$Sheet")), 9),
  (yX9_fixes, cX9_fixes, 4, none, 9),
  (yX9_at, cX9_at, 4, (some .int), 9),
  (yX9_free, cX9_free, 2, (some .int), 9),
  (yX9_between, cX9_between, 8, (some .boolean), 9),
  (yX9_lays, cX9_lays, 8, none, 9),
  (yX9_tells, cX9_tells, 4, (some .int), 9),
  (yX9_goes, cX9_goes, 3, (some .boolean), 9),
  (yX9_sees, cX9_sees, 5, (some .boolean), 9),
  (yX9_draw, cX9_draw, 2, (some .int), 9),
  (yJ6_compare_7cf53, cJ6_compare_7cf53, 2, (some .int), 12),
  (yJ6_numberOfTrailingZeros_0f7a4, cJ6_numberOfTrailingZeros_0f7a4, 2, (some .int), 12),
  (yJ6_signum_0f7a4, cJ6_signum_0f7a4, 1, (some .int), 12),
  (yJ13_bitCount_95d88, cJ13_bitCount_95d88, 2, (some .int), 13),
  (yJ9_floorDiv_7cf53, cJ9_floorDiv_7cf53, 3, (some .int), 14),
  (yJ9_abs_0f7a4, cJ9_abs_0f7a4, 1, (some .int), 14),
  (yJ9_max_7cf53, cJ9_max_7cf53, 2, (some .int), 14),
  (yJ9_max_f86c9, cJ9_max_f86c9, 4, (some .long), 14),
  (yJ9_min_7cf53, cJ9_min_7cf53, 2, (some .int), 14),
  (yJ7_fill_d0a16, cJ7_fill_d0a16, 5, none, 16),
  (yJ7_fill_53178, cJ7_fill_53178, 4, none, 16),
  (yL_pick, cL_pick, 2, (some .int), 17),
  (yL_side, cL_side, 4, (some .int), 17),
  (yL_sign, cL_sign, 3, (some .int), 17),
  (yL_crosses, cL_crosses, 4, (some .boolean), 17),
  (yL_inside, cL_inside, 11, (some .long), 17),
  (yL_ahead, cL_ahead, 2, (some .boolean), 17),
  (yL_mesh, cL_mesh, 22, (some .boolean), 17),
  (yL_angles, cL_angles, 10, (some (.array .int)), 17),
  (yL_code, cL_code, 2, (some .int), 17),
  (yL_same, cL_same, 6, (some .boolean), 17),
  (yL_down, cL_down, 2, (some .int), 17),
  (yL_refines, cL_refines, 21, (some .int), 17),
  (yL_beside, cL_beside, 9, (some (.object "SquareMesh")), 17),
  (yL_law, cL_law, 24, (some .boolean), 17)]
def pTyp : List (Nat → FieldType) := [tyX0, tyX1, tyX2, tyX3, tyX4, tyX5, tyX6, tyX7, tyX8, tyX9]
def pTy : List FieldType := [(.int), (.long), (.array .int), (.array .long), (.boolean), (.object "SquareMeshLaw$Sheet")]
def pFlL : List (Nat × Nat × Nat × Nat × Nat) := [(5, 9, 5, 0, 1036), (8, 147, 5, 0, 1037), (1, 162, 5, 0, 1038), (5, 15, 5, 1, 1039), (8, 155, 5, 1, 1040), (1, 165, 5, 1, 1041), (5, 18, 5, 2, 1042), (1, 93, 5, 2, 1043), (8, 130, 5, 2, 1044), (5, 21, 5, 3, 1045), (8, 243, 5, 3, 1046), (5, 25, 5, 4, 1047), (4, 49, 5, 4, 1048), (8, 171, 5, 4, 1049), (5, 28, 5, 5, 1050), (4, 52, 5, 5, 1051), (8, 174, 5, 5, 1052), (5, 37, 5, 6, 1053), (4, 44, 5, 7, 1054), (5, 41, 5, 7, 1055), (8, 167, 5, 7, 1056), (1, 51, 5, 8, 1057), (5, 45, 5, 8, 1058), (8, 177, 5, 8, 1059), (1, 12, 1, 0, 1081), (8, 75, 1, 0, 1082), (4, 40, 1, 0, 1083), (3, 39, 1, 0, 1084), (1, 18, 1, 1, 1085), (8, 258, 1, 1, 1086), (1, 22, 1, 2, 1087), (8, 261, 1, 2, 1088), (1, 25, 1, 3, 1089), (3, 54, 1, 3, 1090), (1, 28, 1, 4, 1091), (1, 31, 1, 5, 1092), (8, 233, 1, 5, 1093), (1, 35, 1, 6, 1094), (8, 164, 1, 6, 1095), (4, 31, 1, 7, 1096), (3, 51, 1, 7, 1097), (8, 197, 1, 7, 1098), (1, 78, 1, 7, 1099), (1, 155, 1, 8, 1100), (8, 204, 1, 8, 1101), (1, 38, 1, 9, 1102), (1, 41, 1, 10, 1103), (1, 44, 1, 11, 1104), (1, 185, 1, 12, 1105), (3, 9, 3, 0, 1139), (3, 15, 3, 1, 1140), (3, 19, 3, 2, 1141), (8, 184, 3, 2, 1142), (4, 9, 4, 0, 1156), (4, 15, 4, 1, 1157), (4, 21, 4, 2, 1158), (8, 228, 4, 2, 1159), (4, 18, 4, 3, 1160), (7, 9, 7, 0, 1176), (7, 15, 7, 1, 1177), (2, 9, 2, 0, 1189), (2, 15, 2, 2, 1190), (6, 9, 6, 0, 1204), (6, 15, 6, 2, 1205), (0, 9, 0, 0, 1219), (8, 12, 8, 0, 2039), (8, 16, 8, 1, 2040), (8, 22, 8, 2, 2041), (8, 26, 8, 3, 2042), (8, 32, 8, 4, 2043), (8, 39, 8, 5, 2044), (8, 46, 8, 6, 2045), (8, 53, 8, 7, 2046), (8, 60, 8, 8, 2047), (8, 64, 8, 9, 2048), (9, 9, 9, 0, 3149), (17, 39, 9, 0, 3150), (9, 16, 9, 1, 3151), (17, 55, 9, 1, 3152), (9, 19, 9, 2, 3153), (17, 95, 9, 2, 3154), (9, 22, 9, 3, 3155), (17, 91, 9, 3, 3156)]
def pCaL0 : List (Nat × Nat × Nat × Nat × Nat × Nat × Nat × Nat × Nat × Nat) := [(17, 119, 3, 86, 0, 1018, 1019, 1001, 1020, 0), (8, 3, 0, 0, 0, 1021, 1022, 0, 0, 0), (8, 11, 5, 1, 0, 1026, 1027, 1002, 1028, 0), (1, 3, 0, 0, 0, 1029, 1022, 0, 0, 0), (1, 11, 5, 61, 0, 1032, 1033, 1003, 1034, 0), (5, 3, 0, 0, 0, 1035, 1022, 0, 0, 0), (8, 21, 5, 50, 0, 1135, 1136, 1004, 1137, 0), (3, 3, 0, 0, 0, 1138, 1022, 0, 0, 0), (8, 31, 5, 57, 0, 1152, 1153, 1005, 1154, 0), (4, 3, 0, 0, 0, 1155, 1022, 0, 0, 0), (8, 38, 5, 85, 0, 1172, 1173, 1006, 1174, 0), (7, 3, 0, 0, 0, 1175, 1022, 0, 0, 0), (8, 45, 5, 49, 0, 1185, 1186, 1007, 1187, 0), (2, 3, 0, 0, 0, 1188, 1022, 0, 0, 0), (8, 52, 5, 84, 0, 1200, 1201, 1008, 1202, 0), (6, 3, 0, 0, 0, 1203, 1022, 0, 0, 0), (8, 59, 5, 0, 0, 1215, 1216, 1009, 1217, 0), (0, 3, 0, 0, 0, 1218, 1022, 0, 0, 0), (8, 68, 1, 2, 0, 1225, 1226, 1002, 1228, 1227), (1, 47, 1, 66, 3, 1229, 1230, 1003, 1232, 1231), (1, 55, 2, 144, 2, 1233, 1234, 1010, 1235, 0), (1, 61, 1, 74, 2, 1236, 1237, 1003, 1239, 1238), (1, 65, 1, 15, 3, 2000, 2002, 1002, 2003, 0), (1, 68, 1, 23, 0, 2004, 2006, 1002, 2007, 1), (1, 71, 1, 26, 0, 2008, 2010, 1002, 2011, 2)]
def pCaL1 : List (Nat × Nat × Nat × Nat × Nat × Nat × Nat × Nat × Nat × Nat) := [(1, 201, 2, 143, 2, 2012, 2013, 1010, 2014, 0), (1, 175, 1, 64, 1, 2015, 2016, 1003, 2018, 2017), (1, 204, 1, 27, 2, 2019, 2021, 1002, 2022, 3), (1, 207, 1, 28, 3, 2023, 2025, 1002, 2026, 4), (8, 71, 1, 54, 1, 2027, 2028, 1004, 2030, 2029), (3, 45, 1, 62, 4, 2031, 2032, 1003, 2034, 2033), (5, 31, 7, 0, 5, 2035, 2037, 2036, 1011, 0), (3, 30, 7, 0, 5, 2038, 2037, 2036, 1011, 0), (17, 137, 1, 87, 2, 2070, 2071, 1001, 2073, 2072), (8, 79, 1, 70, 2, 2074, 2075, 1003, 2077, 2076), (5, 60, 4, 120, 2, 2078, 2079, 1001, 2080, 0), (5, 64, 1, 68, 2, 2081, 2082, 1003, 2084, 2083), (5, 56, 1, 64, 1, 2085, 2016, 1003, 2018, 2017), (5, 68, 1, 69, 0, 2086, 2087, 1003, 2089, 2088), (8, 85, 1, 51, 1, 2090, 2091, 1004, 2093, 2092), (3, 23, 1, 52, 0, 2094, 2096, 1004, 2097, 5), (3, 26, 1, 54, 1, 2098, 2028, 1004, 2030, 2029), (8, 88, 1, 4, 2, 2099, 2100, 1002, 2102, 2101), (1, 85, 1, 70, 2, 2103, 2075, 1003, 2077, 2076), (1, 89, 1, 69, 0, 2104, 2087, 1003, 2089, 2088), (1, 96, 1, 5, 3, 2105, 2106, 1002, 2108, 2107), (1, 99, 1, 38, 2, 2109, 2110, 1002, 2112, 2111), (1, 219, 4, 120, 2, 2113, 2079, 1001, 2080, 0), (1, 222, 1, 37, 3, 2114, 2115, 1002, 2117, 2116), (1, 216, 1, 35, 4, 2118, 2119, 1002, 2121, 2120)]
def pCaL2 : List (Nat × Nat × Nat × Nat × Nat × Nat × Nat × Nat × Nat × Nat) := [(1, 103, 1, 30, 2, 2122, 2123, 1002, 2125, 2124), (1, 210, 1, 77, 4, 2126, 2127, 1003, 2129, 2128), (1, 106, 1, 16, 3, 2130, 2132, 1002, 2133, 6), (1, 109, 1, 6, 3, 2134, 2136, 1002, 2137, 7), (1, 115, 1, 78, 3, 2138, 2139, 1003, 2141, 2140), (5, 78, 1, 77, 4, 2142, 2127, 1003, 2129, 2128), (1, 119, 1, 17, 3, 2143, 2145, 1002, 2146, 8), (1, 182, 1, 18, 2, 2147, 2149, 1002, 2150, 9), (1, 122, 1, 73, 2, 2151, 2152, 1003, 2154, 2153), (1, 125, 1, 75, 2, 2155, 2156, 1003, 2158, 2157), (1, 112, 1, 19, 0, 2160, 2162, 1002, 2163, 10), (1, 179, 1, 21, 2, 2166, 2168, 1002, 2169, 11), (1, 190, 1, 22, 2, 2170, 2172, 1002, 2173, 12), (1, 168, 1, 25, 6, 2174, 2176, 1002, 2177, 13), (1, 193, 1, 80, 2, 2178, 2179, 1003, 2181, 2180), (1, 172, 1, 20, 2, 2182, 2184, 1002, 2185, 14), (17, 146, 1, 88, 1, 2186, 2187, 1001, 2189, 2188), (8, 92, 1, 71, 1, 2190, 2191, 1003, 2193, 2192), (8, 96, 1, 7, 1, 2194, 2195, 1002, 2197, 2196), (1, 128, 1, 39, 1, 2198, 2199, 1002, 2201, 2200), (1, 226, 1, 40, 1, 2202, 2204, 1002, 2205, 15), (1, 149, 1, 31, 2, 2206, 2207, 1002, 2209, 2208), (1, 132, 1, 67, 1, 2210, 2211, 1003, 2213, 2212), (1, 136, 1, 8, 1, 2214, 2216, 1002, 2217, 16), (1, 139, 1, 9, 2, 2218, 2220, 1002, 2221, 17)]
def pCaL3 : List (Nat × Nat × Nat × Nat × Nat × Nat × Nat × Nat × Nat × Nat) := [(17, 149, 1, 89, 3, 2222, 2223, 1001, 2225, 2224), (8, 100, 2, 120, 2, 2226, 2079, 1001, 2080, 0), (8, 103, 1, 68, 2, 2227, 2082, 1003, 2084, 2083), (8, 106, 1, 5, 3, 2228, 2106, 1002, 2108, 2107), (17, 160, 1, 90, 2, 2229, 2230, 1001, 2232, 2231), (8, 110, 1, 10, 2, 2233, 2234, 1002, 2236, 2235), (1, 142, 1, 41, 2, 2237, 2238, 1002, 3000, 2239), (1, 229, 1, 81, 3, 3001, 3002, 1003, 3004, 3003), (5, 82, 1, 78, 3, 3005, 2139, 1003, 2141, 2140), (1, 158, 1, 83, 4, 3006, 3007, 1003, 3009, 3008), (5, 92, 1, 82, 6, 3010, 3011, 1003, 3013, 3012), (5, 85, 4, 122, 2, 3014, 3015, 1001, 3016, 0), (5, 88, 4, 121, 6, 3017, 3018, 1001, 3019, 0), (8, 113, 1, 11, 2, 3020, 3021, 1002, 3023, 3022), (1, 145, 1, 24, 2, 3024, 3026, 1002, 3027, 18), (1, 196, 2, 139, 1, 3028, 3029, 1014, 3030, 0), (1, 152, 1, 12, 2, 3031, 3033, 1002, 3034, 19), (17, 167, 1, 91, 2, 3035, 3036, 1001, 3038, 3037), (8, 117, 1, 13, 2, 3039, 3040, 1002, 3042, 3041), (8, 120, 1, 14, 2, 3043, 3044, 1002, 3046, 3045), (17, 172, 1, 92, 2, 3047, 3048, 1001, 3050, 3049), (8, 123, 1, 76, 1, 3051, 3052, 1003, 3054, 3053), (17, 175, 1, 93, 2, 3055, 3056, 1001, 3058, 3057), (8, 127, 1, 64, 1, 3059, 2016, 1003, 2018, 2017), (17, 189, 1, 96, 0, 3060, 3061, 1001, 3063, 3062)]
def pCaL4 : List (Nat × Nat × Nat × Nat × Nat × Nat × Nat × Nat × Nat × Nat) := [(8, 158, 1, 97, 1, 3064, 3066, 1001, 3067, 20), (8, 161, 1, 39, 1, 3068, 2199, 1002, 2201, 2200), (8, 150, 2, 138, 2, 3069, 3070, 1014, 3071, 0), (17, 192, 1, 98, 2, 3072, 3073, 1001, 3075, 3074), (17, 195, 1, 99, 0, 3076, 3077, 1001, 3079, 3078), (17, 198, 1, 100, 1, 3080, 3081, 1001, 3083, 3082), (17, 201, 1, 101, 0, 3084, 3085, 1001, 3087, 3086), (8, 180, 1, 53, 1, 3088, 3089, 1004, 3091, 3090), (3, 36, 1, 55, 1, 3092, 3093, 1004, 3095, 3094), (3, 57, 1, 63, 4, 3096, 3097, 1003, 3099, 3098), (3, 60, 1, 3, 3, 3100, 3101, 1002, 3103, 3102), (17, 204, 1, 102, 0, 3104, 3105, 1001, 3107, 3106), (17, 207, 1, 103, 0, 3108, 3109, 1001, 3111, 3110), (8, 187, 1, 56, 1, 3112, 3113, 1004, 3115, 3114), (8, 191, 1, 65, 0, 3116, 3117, 1003, 3119, 3118), (5, 48, 2, 137, 1, 3120, 3121, 1013, 3122, 0), (17, 210, 1, 104, 0, 3126, 3127, 1001, 3129, 3128), (8, 194, 1, 55, 1, 3130, 3093, 1004, 3095, 3094), (17, 58, 1, 113, 2, 3131, 3132, 1001, 3134, 3133), (8, 264, 1, 31, 2, 3135, 2207, 1002, 2209, 2208), (17, 120, 3, 123, 0, 3138, 3139, 1012, 3140, 0), (9, 1, 0, 0, 0, 3141, 1022, 0, 0, 0), (9, 26, 1, 125, 3, 3145, 3146, 1012, 3148, 3147), (17, 128, 1, 124, 0, 3166, 3167, 1012, 3169, 3168), (9, 30, 3, 123, 0, 3171, 3139, 1012, 3140, 0)]
def pCaL5 : List (Nat × Nat × Nat × Nat × Nat × Nat × Nat × Nat × Nat × Nat) := [(9, 31, 9, 0, 0, 3172, 3174, 3175, 3173, 3176), (17, 163, 1, 125, 3, 3178, 3146, 1012, 3148, 3147), (17, 136, 1, 126, 2, 3179, 3180, 1012, 3182, 3181), (17, 132, 1, 127, 0, 3183, 3184, 1012, 3186, 3185), (17, 153, 1, 129, 4, 3187, 3188, 1012, 3190, 3189), (9, 50, 1, 128, 4, 3191, 3192, 1012, 3194, 3193), (9, 35, 4, 146, 4, 3195, 3196, 1000, 3197, 0), (9, 41, 2, 142, 2, 3198, 3199, 1014, 3200, 0), (9, 47, 2, 140, 2, 3201, 3202, 1014, 3203, 0), (17, 139, 1, 130, 2, 3204, 3205, 1012, 3207, 3206), (9, 54, 1, 127, 0, 3208, 3184, 1012, 3186, 3185), (9, 58, 1, 126, 2, 3209, 3180, 1012, 3182, 3181), (9, 61, 1, 129, 4, 3210, 3188, 1012, 3190, 3189), (17, 142, 1, 131, 1, 3211, 3212, 1012, 3214, 3213), (17, 157, 1, 132, 2, 3215, 3216, 1012, 3218, 3217), (9, 65, 4, 148, 4, 3219, 3220, 1000, 3221, 0), (17, 20, 2, 147, 3, 3222, 3223, 1000, 3224, 0), (17, 8, 2, 146, 4, 3225, 3196, 1000, 3197, 0), (17, 14, 2, 136, 1, 3226, 3227, 1015, 3228, 0), (17, 169, 1, 133, 1, 3229, 3230, 1012, 3232, 3231), (17, 124, 2, 145, 2, 3233, 3234, 1000, 3235, 0), (17, 121, 2, 154, 2, 3237, 3238, 1000, 3239, 0), (17, 102, 1, 107, 2, 4000, 4001, 1001, 4003, 4002), (8, 237, 2, 137, 1, 4005, 3121, 1013, 3122, 0), (8, 246, 1, 72, 1, 4006, 4007, 1003, 4009, 4008)]
def pCaL6 : List (Nat × Nat × Nat × Nat × Nat × Nat × Nat × Nat × Nat × Nat) := [(5, 72, 2, 139, 1, 4010, 3029, 1014, 3030, 0), (17, 106, 1, 115, 2, 4012, 4013, 1001, 4015, 4014), (17, 109, 2, 139, 1, 4016, 3029, 1014, 3030, 0), (17, 112, 1, 108, 2, 4017, 4018, 1001, 4020, 4019), (17, 115, 2, 151, 2, 4021, 4022, 1000, 4023, 0), (17, 28, 1, 105, 1, 4024, 4025, 1001, 4027, 4026), (8, 207, 1, 42, 0, 4028, 4029, 1002, 4031, 4030), (8, 210, 1, 43, 0, 4032, 4033, 1002, 4035, 4034), (8, 213, 1, 45, 0, 4036, 4037, 1002, 4039, 4038), (1, 236, 1, 44, 1, 4040, 4041, 1002, 4043, 4042), (8, 216, 1, 46, 1, 4044, 4045, 1002, 4047, 4046), (1, 239, 1, 47, 1, 4048, 4049, 1002, 4051, 4050), (1, 242, 1, 36, 2, 4052, 4053, 1002, 4055, 4054), (1, 213, 1, 79, 2, 4056, 4057, 1003, 4059, 4058), (1, 245, 2, 134, 2, 4060, 4061, 1015, 4062, 0), (8, 219, 1, 118, 0, 4063, 4065, 1001, 4066, 21), (8, 363, 1, 119, 1, 4067, 4069, 1001, 4070, 22), (8, 366, 2, 140, 2, 4071, 3202, 1014, 3203, 0), (8, 222, 1, 106, 1, 4072, 4074, 1001, 4075, 23), (8, 225, 1, 58, 1, 4076, 4077, 1005, 4079, 4078), (4, 25, 2, 144, 2, 4080, 1234, 1010, 1235, 0), (4, 36, 1, 59, 2, 4081, 4083, 1005, 4084, 24), (4, 59, 1, 33, 2, 4085, 4086, 1002, 4088, 4087), (4, 63, 1, 32, 2, 4089, 4090, 1002, 4092, 4091), (4, 55, 1, 38, 2, 4093, 2110, 1002, 2112, 2111)]
def pCaL7 : List (Nat × Nat × Nat × Nat × Nat × Nat × Nat × Nat × Nat × Nat) := [(8, 229, 1, 60, 0, 4094, 4095, 1005, 4097, 4096), (17, 35, 1, 109, 2, 4099, 4100, 1001, 4102, 4101), (8, 249, 1, 29, 1, 4103, 4104, 1002, 4106, 4105), (8, 144, 1, 30, 2, 4107, 2123, 1002, 2125, 2124), (17, 44, 2, 153, 2, 4108, 4109, 1000, 4110, 0), (17, 48, 1, 111, 1, 4111, 4112, 1001, 4114, 4113), (8, 255, 1, 34, 1, 4115, 4116, 1002, 4118, 4117), (17, 51, 1, 112, 3, 4119, 4120, 1001, 4122, 4121), (17, 62, 1, 114, 2, 4123, 4124, 1001, 4126, 4125), (8, 267, 1, 73, 2, 4127, 2152, 1003, 2154, 2153), (17, 65, 2, 149, 4, 4128, 4129, 1000, 4130, 0), (17, 69, 2, 150, 2, 4134, 4135, 1000, 4136, 0), (17, 73, 1, 110, 2, 4137, 4138, 1001, 4140, 4139), (8, 252, 1, 32, 2, 4141, 4090, 1002, 4092, 4091), (17, 76, 2, 152, 3, 4142, 4143, 1000, 4144, 0), (17, 99, 2, 141, 2, 4145, 4146, 1014, 4147, 0), (17, 80, 2, 135, 1, 4148, 4149, 1015, 4150, 0), (17, 83, 1, 117, 1, 4152, 4153, 1001, 4155, 4154), (17, 86, 2, 140, 2, 4156, 3202, 1014, 3203, 0), (17, 186, 2, 155, 2, 4158, 4159, 1000, 4160, 0), (17, 178, 2, 156, 3, 4161, 4162, 1000, 4163, 0), (17, 182, 2, 157, 1, 4164, 4165, 1000, 4166, 0), (17, 213, 1, 116, 0, 4167, 4168, 1001, 4170, 4169), (8, 137, 1, 48, 0, 4171, 4172, 1002, 4174, 4173), (1, 250, 1, 34, 1, 4175, 4116, 1002, 4118, 4117)]
def pCaL8 : List (Nat × Nat × Nat × Nat × Nat × Nat × Nat × Nat × Nat × Nat) := [(17, 216, 1, 94, 1, 4176, 4177, 1001, 4179, 4178), (8, 133, 1, 95, 0, 4180, 4182, 1001, 4183, 25), (8, 141, 1, 47, 1, 4184, 4049, 1002, 4051, 4050)]
def pCaL : List (Nat × Nat × Nat × Nat × Nat × Nat × Nat × Nat × Nat × Nat) := pCaL0 ++ (pCaL1 ++ (pCaL2 ++ (pCaL3 ++ (pCaL4 ++ (pCaL5 ++ (pCaL6 ++ (pCaL7 ++ (pCaL8))))))))
def pNwL : List (Nat × Nat × Nat × Nat × Nat × Nat) := [(17, 29, 8, 1016, 1017, 1001), (8, 9, 1, 1024, 1025, 1002), (1, 9, 5, 1030, 1031, 1003), (8, 19, 3, 1133, 1134, 1004), (8, 29, 4, 1150, 1151, 1005), (8, 36, 7, 1170, 1171, 1006), (8, 43, 2, 1183, 1184, 1007), (8, 50, 6, 1198, 1199, 1008), (8, 57, 0, 1213, 1214, 1009), (17, 40, 9, 3136, 3137, 1012), (9, 10, 9, 3170, 3137, 1012)]
def pAnL : List (Nat × Nat × Nat × Nat × Nat) := [(17, 40, 5, 3136, 4186), (9, 10, 5, 3170, 4186)]
def pKiL : List (Nat × Nat × Int32 × Nat) := [(1, 148, 1000000, 2164), (17, 7, 2147483647, 3236), (8, 232, -100000, 4004), (17, 105, -100000, 4011), (12, 264, 65536, 4151), (17, 98, 8000000, 4157)]
def pKlL : List (Nat × Nat × Int64 × Nat) := [(5, 54, -1, 2159), (1, 188, -1, 2165), (13, 314, 6148914691236517205, 3123), (13, 316, 3689348814741910323, 3124), (13, 318, 1085102592571150095, 3125)]
def pKdL : List (Nat × Nat × UInt64 × Nat) := []
def pAcL : List (Nat × Nat) := [(0, 1079), (1, 1080), (4, 4185)]
def pRmL : List (Nat × Nat × Nat × Nat) := [(1, 1, 40, 20), (2, 16, 4793, 40), (2, 0, 0, 47), (2, 0, 0, 47), (5, 0, 0, 121), (4, 0, 0, 94), (2, 0, 0, 47), (4, 0, 0, 98), (3, 0, 0, 75), (2, 0, 0, 47), (4, 0, 0, 100), (4, 0, 0, 103), (3, 0, 0, 75), (1, 0, 0, 22), (4, 0, 0, 94), (0, 0, 0, 0), (0, 0, 0, 0), (1, 0, 0, 24), (0, 0, 0, 0), (3, 0, 0, 71), (2, 0, 0, 47), (0, 0, 0, 0), (1, 0, 0, 39), (0, 0, 0, 0), (2, 0, 0, 47), (0, 0, 0, 0), (1, 0, 0, 24), (0, 0, 0, 0), (0, 0, 0, 0), (0, 0, 0, 0), (0, 0, 0, 0), (0, 0, 0, 0), (1, 0, 0, 22), (1, 0, 0, 22), (2, 0, 0, 47), (1, 0, 0, 24), (1, 0, 0, 24), (2, 0, 0, 48), (3, 0, 0, 71), (2, 0, 0, 45), (1, 0, 0, 22), (3, 0, 0, 75), (1, 0, 0, 22), (1, 0, 0, 22), (2, 0, 0, 66), (3, 0, 0, 89), (3, 0, 0, 69), (2, 0, 0, 46), (3, 0, 0, 69), (1, 2, 148, 20), (1, 2, 8442, 20), (3, 0, 0, 72), (1, 0, 0, 26), (4, 0, 0, 94), (2, 0, 0, 50), (3, 0, 0, 72), (1, 0, 0, 26), (1, 3, 222, 20), (4, 0, 0, 94), (2, 0, 0, 45), (0, 0, 0, 0), (1, 6, 176, 20), (1, 0, 0, 26), (1, 0, 0, 26), (0, 0, 0, 0), (1, 0, 0, 21), (0, 0, 0, 0), (0, 0, 0, 0), (1, 0, 0, 21), (1, 0, 0, 21), (2, 0, 0, 44), (1, 0, 0, 21), (1, 0, 0, 20), (0, 0, 0, 0), (0, 0, 0, 0), (0, 0, 0, 0), (0, 0, 0, 0), (0, 0, 0, 0), (1, 0, 0, 24), (0, 0, 0, 0), (0, 0, 0, 0), (2, 0, 0, 47), (1, 0, 0, 25), (2, 0, 0, 51), (1, 2, 80, 20), (1, 2, 153, 20), (3, 56, 27199, 72), (6, 0, 0, 144), (5, 0, 0, 121), (5, 0, 0, 121), (5, 0, 0, 126), (5, 0, 0, 116), (6, 0, 0, 144), (4, 0, 0, 93), (7, 0, 0, 171), (6, 0, 0, 144), (6, 0, 0, 147), (5, 0, 0, 121), (4, 0, 0, 93), (4, 0, 0, 93), (0, 0, 0, 0), (5, 0, 0, 115), (0, 0, 0, 0), (3, 0, 0, 72), (4, 0, 0, 94), (6, 0, 0, 138), (5, 0, 0, 117), (2, 0, 0, 41), (2, 0, 0, 44), (1, 0, 0, 22), (2, 0, 0, 45), (3, 0, 0, 68), (1, 0, 0, 21), (1, 0, 0, 22), (1, 0, 0, 22), (3, 0, 0, 70), (4, 0, 0, 99), (3, 0, 0, 69), (2, 0, 0, 47), (1, 0, 0, 22), (0, 0, 0, 0), (0, 0, 0, 0), (0, 0, 0, 0), (1, 7, 56, 23), (2, 8, 60, 45), (0, 0, 0, 0), (0, 0, 0, 0), (0, 0, 0, 0), (1, 0, 0, 23), (2, 1, 3, 50), (3, 1, 3, 77), (0, 0, 0, 0), (3, 0, 0, 68), (0, 0, 0, 0), (0, 0, 0, 0), (0, 0, 0, 0), (0, 0, 0, 0), (0, 0, 0, 0), (0, 0, 0, 0), (0, 0, 0, 0), (0, 0, 0, 0), (0, 0, 0, 0), (0, 0, 0, 0), (0, 0, 0, 0), (0, 0, 0, 0), (0, 0, 0, 0), (0, 0, 0, 0), (1, 0, 0, 23), (2, 0, 0, 45), (0, 3, 9, 0), (0, 0, 0, 0), (7, 8, 71, 159), (2, 2, 5, 44), (2, 0, 0, 44), (8, 8, 71, 200), (0, 0, 0, 0), (8, 68, 27315, 194), (7, 67, 27312, 166), (9, 257, 82368, 234)]
theorem pUw_RX0 : u_ws RX0 TX0 2 = [1220, 1222].filterMap (fun i => (pBl (i / 1000))[i % 1000]?) := by decide +kernel
theorem pUg_RX0 : (u_ws RX0 TX0 2).all goodWord = true := by decide +kernel
theorem pUw_RX1 : u_ws RX1 TX1 13 = [1106, 1108, 1110, 1112, 1114, 1116, 1118, 1120, 1122, 1124, 1126, 1128, 1130].filterMap (fun i => (pBl (i / 1000))[i % 1000]?) := by decide +kernel
theorem pUg_RX1 : (u_ws RX1 TX1 13).all goodWord = true := by decide +kernel
theorem pUw_RX2 : u_ws RX2 TX2 3 = [1191, 1193, 1195].filterMap (fun i => (pBl (i / 1000))[i % 1000]?) := by decide +kernel
theorem pUg_RX2 : (u_ws RX2 TX2 3).all goodWord = true := by decide +kernel
theorem pUw_RX3 : u_ws RX3 TX3 3 = [1143, 1145, 1147].filterMap (fun i => (pBl (i / 1000))[i % 1000]?) := by decide +kernel
theorem pUg_RX3 : (u_ws RX3 TX3 3).all goodWord = true := by decide +kernel
theorem pUw_RX4 : u_ws RX4 TX4 4 = [1161, 1163, 1165, 1167].filterMap (fun i => (pBl (i / 1000))[i % 1000]?) := by decide +kernel
theorem pUg_RX4 : (u_ws RX4 TX4 4).all goodWord = true := by decide +kernel
theorem pUw_RX5 : u_ws RX5 TX5 9 = [1060, 1062, 1064, 1066, 1068, 1070, 1072, 1074, 1076].filterMap (fun i => (pBl (i / 1000))[i % 1000]?) := by decide +kernel
theorem pUg_RX5 : (u_ws RX5 TX5 9).all goodWord = true := by decide +kernel
theorem pUw_RX6 : u_ws RX6 TX6 3 = [1206, 1208, 1210].filterMap (fun i => (pBl (i / 1000))[i % 1000]?) := by decide +kernel
theorem pUg_RX6 : (u_ws RX6 TX6 3).all goodWord = true := by decide +kernel
theorem pUw_RX7 : u_ws RX7 TX7 2 = [1178, 1180].filterMap (fun i => (pBl (i / 1000))[i % 1000]?) := by decide +kernel
theorem pUg_RX7 : (u_ws RX7 TX7 2).all goodWord = true := by decide +kernel
theorem pUw_RX8 : u_ws RX8 TX8 10 = [2049, 2051, 2053, 2055, 2057, 2059, 2061, 2063, 2065, 2067].filterMap (fun i => (pBl (i / 1000))[i % 1000]?) := by decide +kernel
theorem pUg_RX8 : (u_ws RX8 TX8 10).all goodWord = true := by decide +kernel
theorem pUw_RX9 : u_ws RX9 TX9 4 = [3157, 3159, 3161, 3163].filterMap (fun i => (pBl (i / 1000))[i % 1000]?) := by decide +kernel
theorem pUg_RX9 : (u_ws RX9 TX9 4).all goodWord = true := by decide +kernel
theorem pU_all : ∀ q ∈ vwCl, (∃ ps : List Nat, u_ws q.1 q.2.1 q.2.2 = ps.filterMap (fun i => (pBl (i / 1000))[i % 1000]?)) ∧ (u_ws q.1 q.2.1 q.2.2).all goodWord = true := by
  intro q hq
  simp only [vwCl, List.mem_cons, List.not_mem_nil, or_false] at hq
  rcases hq with rfl | rfl | rfl | rfl | rfl | rfl | rfl | rfl | rfl | rfl
  · exact ⟨⟨_, pUw_RX0⟩, pUg_RX0⟩
  · exact ⟨⟨_, pUw_RX1⟩, pUg_RX1⟩
  · exact ⟨⟨_, pUw_RX2⟩, pUg_RX2⟩
  · exact ⟨⟨_, pUw_RX3⟩, pUg_RX3⟩
  · exact ⟨⟨_, pUw_RX4⟩, pUg_RX4⟩
  · exact ⟨⟨_, pUw_RX5⟩, pUg_RX5⟩
  · exact ⟨⟨_, pUw_RX6⟩, pUg_RX6⟩
  · exact ⟨⟨_, pUw_RX7⟩, pUg_RX7⟩
  · exact ⟨⟨_, pUw_RX8⟩, pUg_RX8⟩
  · exact ⟨⟨_, pUw_RX9⟩, pUg_RX9⟩
theorem pTy_all : ∀ (ci : Nat) (q : vw_C), vwCl[ci]? = some q → ∃ ty : Nat → FieldType, pTyp[ci]? = some ty ∧ (∀ k, k < q.2.2 → parseFieldDescriptor (q.2.1 k).2.2.1 = some (ty k)) ∧ (∀ a, a < q.2.2 → ∀ b, b < q.2.2 → a ≠ b → (q.2.1 a).2.1 ≠ (q.2.1 b).2.1) := by
  intro ci q hq
  match ci, hq with
  | 0, hq => cases hq; exact ⟨_, rfl, tyX0_ok, nmX0⟩
  | 1, hq => cases hq; exact ⟨_, rfl, tyX1_ok, nmX1⟩
  | 2, hq => cases hq; exact ⟨_, rfl, tyX2_ok, nmX2⟩
  | 3, hq => cases hq; exact ⟨_, rfl, tyX3_ok, nmX3⟩
  | 4, hq => cases hq; exact ⟨_, rfl, tyX4_ok, nmX4⟩
  | 5, hq => cases hq; exact ⟨_, rfl, tyX5_ok, nmX5⟩
  | 6, hq => cases hq; exact ⟨_, rfl, tyX6_ok, nmX6⟩
  | 7, hq => cases hq; exact ⟨_, rfl, tyX7_ok, nmX7⟩
  | 8, hq => cases hq; exact ⟨_, rfl, tyX8_ok, nmX8⟩
  | 9, hq => cases hq; exact ⟨_, rfl, tyX9_ok, nmX9⟩
  | k + 10, hq => simp [vwCl] at hq
