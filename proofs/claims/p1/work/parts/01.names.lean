-- ===== PART A: goes FIRST, ahead of the names: the tables' words, and 'selects' of the private methods out of them =====
/-- a private method of a class that the tables say can be made, by its rows of tables_1 -/
def lw_okq (q : MethodName × Nat) : Prop := (q.1.cls ≠ "java/lang/invoke/MethodHandle" ∧ q.1.cls ≠ "java/lang/invoke/VarHandle") ∧ Cond.instantiable q.1.cls q.2 ∈ tables_1 ∧ Cond.privateMethod q.1 ∈ tables_1 ∧ Cond.instanceMethod q.1 ∈ tables_1
theorem lw_p0 : lw_okq (⟨"SquareMesh$Mesh", "lay", "(III)V"⟩, 13) := ⟨⟨by decide +kernel, by decide +kernel⟩, List.mem_of_getElem? (i := 27) (by decide +kernel), List.mem_of_getElem? (i := 262) (by decide +kernel), List.mem_of_getElem? (i := 263) (by decide +kernel)⟩
theorem lw_p1 : lw_okq (⟨"SquareMesh$Mesh", "liftRound", "()V"⟩, 13) := ⟨⟨by decide +kernel, by decide +kernel⟩, List.mem_of_getElem? (i := 27) (by decide +kernel), List.mem_of_getElem? (i := 266) (by decide +kernel), List.mem_of_getElem? (i := 267) (by decide +kernel)⟩
theorem lw_p2 : lw_okq (⟨"SquareMesh$Mesh", "list", "()V"⟩, 13) := ⟨⟨by decide +kernel, by decide +kernel⟩, List.mem_of_getElem? (i := 27) (by decide +kernel), List.mem_of_getElem? (i := 270) (by decide +kernel), List.mem_of_getElem? (i := 271) (by decide +kernel)⟩
theorem lw_p3 : lw_okq (⟨"SquareMesh$Mesh", "listEdge", "(II)V"⟩, 13) := ⟨⟨by decide +kernel, by decide +kernel⟩, List.mem_of_getElem? (i := 27) (by decide +kernel), List.mem_of_getElem? (i := 281) (by decide +kernel), List.mem_of_getElem? (i := 282) (by decide +kernel)⟩
theorem lw_p4 : lw_okq (⟨"SquareMesh$Mesh", "listTriangle", "(III)V"⟩, 13) := ⟨⟨by decide +kernel, by decide +kernel⟩, List.mem_of_getElem? (i := 27) (by decide +kernel), List.mem_of_getElem? (i := 285) (by decide +kernel), List.mem_of_getElem? (i := 286) (by decide +kernel)⟩
theorem lw_p5 : lw_okq (⟨"SquareMesh$Past", "forgetOldest", "()V"⟩, 3) := ⟨⟨by decide +kernel, by decide +kernel⟩, List.mem_of_getElem? (i := 143) (by decide +kernel), List.mem_of_getElem? (i := 356) (by decide +kernel), List.mem_of_getElem? (i := 357) (by decide +kernel)⟩
theorem lw_p6 : lw_okq (⟨"SquareMesh$Mesh", "strip", "(III)V"⟩, 13) := ⟨⟨by decide +kernel, by decide +kernel⟩, List.mem_of_getElem? (i := 27) (by decide +kernel), List.mem_of_getElem? (i := 392) (by decide +kernel), List.mem_of_getElem? (i := 393) (by decide +kernel)⟩
theorem lw_p7 : lw_okq (⟨"SquareMesh$Mesh", "join", "(III)V"⟩, 13) := ⟨⟨by decide +kernel, by decide +kernel⟩, List.mem_of_getElem? (i := 27) (by decide +kernel), List.mem_of_getElem? (i := 396) (by decide +kernel), List.mem_of_getElem? (i := 397) (by decide +kernel)⟩
theorem lw_p8 : lw_okq (⟨"SquareMesh$Mesh", "put", "(III)V"⟩, 13) := ⟨⟨by decide +kernel, by decide +kernel⟩, List.mem_of_getElem? (i := 27) (by decide +kernel), List.mem_of_getElem? (i := 405) (by decide +kernel), List.mem_of_getElem? (i := 406) (by decide +kernel)⟩
theorem lw_p9 : lw_okq (⟨"SquareMesh$Mesh", "await", "(II)V"⟩, 13) := ⟨⟨by decide +kernel, by decide +kernel⟩, List.mem_of_getElem? (i := 27) (by decide +kernel), List.mem_of_getElem? (i := 409) (by decide +kernel), List.mem_of_getElem? (i := 410) (by decide +kernel)⟩
theorem lw_p10 : lw_okq (⟨"SquareMesh$Mesh", "settle", "()V"⟩, 13) := ⟨⟨by decide +kernel, by decide +kernel⟩, List.mem_of_getElem? (i := 27) (by decide +kernel), List.mem_of_getElem? (i := 422) (by decide +kernel), List.mem_of_getElem? (i := 423) (by decide +kernel)⟩
theorem lw_p11 : lw_okq (⟨"SquareMesh$Mesh", "isInner", "(II)Z"⟩, 13) := ⟨⟨by decide +kernel, by decide +kernel⟩, List.mem_of_getElem? (i := 27) (by decide +kernel), List.mem_of_getElem? (i := 428) (by decide +kernel), List.mem_of_getElem? (i := 429) (by decide +kernel)⟩
theorem lw_p12 : lw_okq (⟨"SquareMesh$Mesh", "isAllowed", "(II)Z"⟩, 13) := ⟨⟨by decide +kernel, by decide +kernel⟩, List.mem_of_getElem? (i := 27) (by decide +kernel), List.mem_of_getElem? (i := 432) (by decide +kernel), List.mem_of_getElem? (i := 433) (by decide +kernel)⟩
theorem lw_p13 : lw_okq (⟨"SquareMesh$Mesh", "under", "(IIIIIJ)J"⟩, 13) := ⟨⟨by decide +kernel, by decide +kernel⟩, List.mem_of_getElem? (i := 27) (by decide +kernel), List.mem_of_getElem? (i := 436) (by decide +kernel), List.mem_of_getElem? (i := 437) (by decide +kernel)⟩
theorem lw_p14 : lw_okq (⟨"SquareMesh$Mesh", "flip", "(II)V"⟩, 13) := ⟨⟨by decide +kernel, by decide +kernel⟩, List.mem_of_getElem? (i := 27) (by decide +kernel), List.mem_of_getElem? (i := 444) (by decide +kernel), List.mem_of_getElem? (i := 445) (by decide +kernel)⟩
theorem lw_p15 : lw_okq (⟨"SquareMesh$Mesh", "firstOfRound", "(I)I"⟩, 13) := ⟨⟨by decide +kernel, by decide +kernel⟩, List.mem_of_getElem? (i := 27) (by decide +kernel), List.mem_of_getElem? (i := 464) (by decide +kernel), List.mem_of_getElem? (i := 465) (by decide +kernel)⟩
def lw_privs_1 : List (MethodName × Nat) := [(⟨"SquareMesh$Mesh", "lay", "(III)V"⟩, 13), (⟨"SquareMesh$Mesh", "liftRound", "()V"⟩, 13), (⟨"SquareMesh$Mesh", "list", "()V"⟩, 13), (⟨"SquareMesh$Mesh", "listEdge", "(II)V"⟩, 13), (⟨"SquareMesh$Mesh", "listTriangle", "(III)V"⟩, 13), (⟨"SquareMesh$Past", "forgetOldest", "()V"⟩, 3), (⟨"SquareMesh$Mesh", "strip", "(III)V"⟩, 13), (⟨"SquareMesh$Mesh", "join", "(III)V"⟩, 13), (⟨"SquareMesh$Mesh", "put", "(III)V"⟩, 13), (⟨"SquareMesh$Mesh", "await", "(II)V"⟩, 13), (⟨"SquareMesh$Mesh", "settle", "()V"⟩, 13), (⟨"SquareMesh$Mesh", "isInner", "(II)Z"⟩, 13), (⟨"SquareMesh$Mesh", "isAllowed", "(II)Z"⟩, 13), (⟨"SquareMesh$Mesh", "under", "(IIIIIJ)J"⟩, 13), (⟨"SquareMesh$Mesh", "flip", "(II)V"⟩, 13), (⟨"SquareMesh$Mesh", "firstOfRound", "(I)I"⟩, 13)]
theorem lw_r1 : ∀ q ∈ lw_privs_1, lw_okq q := List.forall_mem_cons.mpr ⟨lw_p0, List.forall_mem_cons.mpr ⟨lw_p1, List.forall_mem_cons.mpr ⟨lw_p2, List.forall_mem_cons.mpr ⟨lw_p3, List.forall_mem_cons.mpr ⟨lw_p4, List.forall_mem_cons.mpr ⟨lw_p5, List.forall_mem_cons.mpr ⟨lw_p6, List.forall_mem_cons.mpr ⟨lw_p7, List.forall_mem_cons.mpr ⟨lw_p8, List.forall_mem_cons.mpr ⟨lw_p9, List.forall_mem_cons.mpr ⟨lw_p10, List.forall_mem_cons.mpr ⟨lw_p11, List.forall_mem_cons.mpr ⟨lw_p12, List.forall_mem_cons.mpr ⟨lw_p13, List.forall_mem_cons.mpr ⟨lw_p14, List.forall_mem_cons.mpr ⟨lw_p15, fun _ h => absurd h List.not_mem_nil⟩⟩⟩⟩⟩⟩⟩⟩⟩⟩⟩⟩⟩⟩⟩⟩
theorem lw_p16 : lw_okq (⟨"SquareMesh$Mesh", "cutEar", "(I)V"⟩, 13) := ⟨⟨by decide +kernel, by decide +kernel⟩, List.mem_of_getElem? (i := 27) (by decide +kernel), List.mem_of_getElem? (i := 476) (by decide +kernel), List.mem_of_getElem? (i := 477) (by decide +kernel)⟩
theorem lw_p17 : lw_okq (⟨"SquareMesh$Mesh", "isEar", "(II)Z"⟩, 13) := ⟨⟨by decide +kernel, by decide +kernel⟩, List.mem_of_getElem? (i := 27) (by decide +kernel), List.mem_of_getElem? (i := 480) (by decide +kernel), List.mem_of_getElem? (i := 481) (by decide +kernel)⟩
theorem lw_p18 : lw_okq (⟨"SquareMesh$Mesh", "liftFrom", "(II)V"⟩, 13) := ⟨⟨by decide +kernel, by decide +kernel⟩, List.mem_of_getElem? (i := 27) (by decide +kernel), List.mem_of_getElem? (i := 526) (by decide +kernel), List.mem_of_getElem? (i := 527) (by decide +kernel)⟩
theorem lw_p19 : lw_okq (⟨"SquareMesh$Mesh", "flipCrossing", "(II)V"⟩, 13) := ⟨⟨by decide +kernel, by decide +kernel⟩, List.mem_of_getElem? (i := 27) (by decide +kernel), List.mem_of_getElem? (i := 533) (by decide +kernel), List.mem_of_getElem? (i := 534) (by decide +kernel)⟩
theorem lw_p20 : lw_okq (⟨"SquareMesh", "refineOnce", "()Z"⟩, 10) := ⟨⟨by decide +kernel, by decide +kernel⟩, List.mem_of_getElem? (i := 19) (by decide +kernel), List.mem_of_getElem? (i := 566) (by decide +kernel), List.mem_of_getElem? (i := 567) (by decide +kernel)⟩
theorem lw_p21 : lw_okq (⟨"SquareMesh", "smoothOne", "(I)Z"⟩, 10) := ⟨⟨by decide +kernel, by decide +kernel⟩, List.mem_of_getElem? (i := 19) (by decide +kernel), List.mem_of_getElem? (i := 599) (by decide +kernel), List.mem_of_getElem? (i := 600) (by decide +kernel)⟩
theorem lw_p22 : lw_okq (⟨"SquareMesh", "paint", "()I"⟩, 10) := ⟨⟨by decide +kernel, by decide +kernel⟩, List.mem_of_getElem? (i := 19) (by decide +kernel), List.mem_of_getElem? (i := 698) (by decide +kernel), List.mem_of_getElem? (i := 699) (by decide +kernel)⟩
theorem lw_p23 : lw_okq (⟨"SquareMesh", "leastColour", "(I)I"⟩, 10) := ⟨⟨by decide +kernel, by decide +kernel⟩, List.mem_of_getElem? (i := 19) (by decide +kernel), List.mem_of_getElem? (i := 702) (by decide +kernel), List.mem_of_getElem? (i := 703) (by decide +kernel)⟩
theorem lw_p24 : lw_okq (⟨"SquareMesh", "isOfRegions", "(I)I"⟩, 10) := ⟨⟨by decide +kernel, by decide +kernel⟩, List.mem_of_getElem? (i := 19) (by decide +kernel), List.mem_of_getElem? (i := 710) (by decide +kernel), List.mem_of_getElem? (i := 711) (by decide +kernel)⟩
theorem lw_p25 : lw_okq (⟨"SquareMesh$Regions", "flood", "(LSquareMesh$Mesh;I)V"⟩, 4) := ⟨⟨by decide +kernel, by decide +kernel⟩, List.mem_of_getElem? (i := 160) (by decide +kernel), List.mem_of_getElem? (i := 719) (by decide +kernel), List.mem_of_getElem? (i := 720) (by decide +kernel)⟩
theorem lw_p26 : lw_okq (⟨"SquareMesh$Passages", "nextOnWalk", "(LSquareMesh$Mesh;II)I"⟩, 3) := ⟨⟨by decide +kernel, by decide +kernel⟩, List.mem_of_getElem? (i := 196) (by decide +kernel), List.mem_of_getElem? (i := 801) (by decide +kernel), List.mem_of_getElem? (i := 802) (by decide +kernel)⟩
theorem lw_p27 : lw_okq (⟨"SquareMesh$Tree", "leastJoining", "(LSquareMesh$Mesh;)I"⟩, 3) := ⟨⟨by decide +kernel, by decide +kernel⟩, List.mem_of_getElem? (i := 214) (by decide +kernel), List.mem_of_getElem? (i := 922) (by decide +kernel), List.mem_of_getElem? (i := 923) (by decide +kernel)⟩
theorem lw_p28 : lw_okq (⟨"SquareMesh$Tree", "unite", "(II)V"⟩, 3) := ⟨⟨by decide +kernel, by decide +kernel⟩, List.mem_of_getElem? (i := 214) (by decide +kernel), List.mem_of_getElem? (i := 927) (by decide +kernel), List.mem_of_getElem? (i := 928) (by decide +kernel)⟩
theorem lw_p29 : lw_okq (⟨"SquareMesh$Ways", "nextOn", "(LSquareMesh$Mesh;IZ)I"⟩, 2) := ⟨⟨by decide +kernel, by decide +kernel⟩, List.mem_of_getElem? (i := 182) (by decide +kernel), List.mem_of_getElem? (i := 944) (by decide +kernel), List.mem_of_getElem? (i := 945) (by decide +kernel)⟩
theorem lw_p30 : lw_okq (⟨"SquareMesh$Ways", "bringNearer", "(III)Z"⟩, 2) := ⟨⟨by decide +kernel, by decide +kernel⟩, List.mem_of_getElem? (i := 182) (by decide +kernel), List.mem_of_getElem? (i := 962) (by decide +kernel), List.mem_of_getElem? (i := 963) (by decide +kernel)⟩
theorem lw_p31 : lw_okq (⟨"SquareMesh$Passages", "nextOn", "(LSquareMesh$Mesh;I)I"⟩, 3) := ⟨⟨by decide +kernel, by decide +kernel⟩, List.mem_of_getElem? (i := 196) (by decide +kernel), List.mem_of_getElem? (i := 1015) (by decide +kernel), List.mem_of_getElem? (i := 1016) (by decide +kernel)⟩
def lw_privs_2 : List (MethodName × Nat) := [(⟨"SquareMesh$Mesh", "cutEar", "(I)V"⟩, 13), (⟨"SquareMesh$Mesh", "isEar", "(II)Z"⟩, 13), (⟨"SquareMesh$Mesh", "liftFrom", "(II)V"⟩, 13), (⟨"SquareMesh$Mesh", "flipCrossing", "(II)V"⟩, 13), (⟨"SquareMesh", "refineOnce", "()Z"⟩, 10), (⟨"SquareMesh", "smoothOne", "(I)Z"⟩, 10), (⟨"SquareMesh", "paint", "()I"⟩, 10), (⟨"SquareMesh", "leastColour", "(I)I"⟩, 10), (⟨"SquareMesh", "isOfRegions", "(I)I"⟩, 10), (⟨"SquareMesh$Regions", "flood", "(LSquareMesh$Mesh;I)V"⟩, 4), (⟨"SquareMesh$Passages", "nextOnWalk", "(LSquareMesh$Mesh;II)I"⟩, 3), (⟨"SquareMesh$Tree", "leastJoining", "(LSquareMesh$Mesh;)I"⟩, 3), (⟨"SquareMesh$Tree", "unite", "(II)V"⟩, 3), (⟨"SquareMesh$Ways", "nextOn", "(LSquareMesh$Mesh;IZ)I"⟩, 2), (⟨"SquareMesh$Ways", "bringNearer", "(III)Z"⟩, 2), (⟨"SquareMesh$Passages", "nextOn", "(LSquareMesh$Mesh;I)I"⟩, 3)]
theorem lw_r2 : ∀ q ∈ lw_privs_2, lw_okq q := List.forall_mem_cons.mpr ⟨lw_p16, List.forall_mem_cons.mpr ⟨lw_p17, List.forall_mem_cons.mpr ⟨lw_p18, List.forall_mem_cons.mpr ⟨lw_p19, List.forall_mem_cons.mpr ⟨lw_p20, List.forall_mem_cons.mpr ⟨lw_p21, List.forall_mem_cons.mpr ⟨lw_p22, List.forall_mem_cons.mpr ⟨lw_p23, List.forall_mem_cons.mpr ⟨lw_p24, List.forall_mem_cons.mpr ⟨lw_p25, List.forall_mem_cons.mpr ⟨lw_p26, List.forall_mem_cons.mpr ⟨lw_p27, List.forall_mem_cons.mpr ⟨lw_p28, List.forall_mem_cons.mpr ⟨lw_p29, List.forall_mem_cons.mpr ⟨lw_p30, List.forall_mem_cons.mpr ⟨lw_p31, fun _ h => absurd h List.not_mem_nil⟩⟩⟩⟩⟩⟩⟩⟩⟩⟩⟩⟩⟩⟩⟩⟩
theorem lw_p32 : lw_okq (⟨"SquareMesh", "countNew", "()I"⟩, 10) := ⟨⟨by decide +kernel, by decide +kernel⟩, List.mem_of_getElem? (i := 19) (by decide +kernel), List.mem_of_getElem? (i := 1050) (by decide +kernel), List.mem_of_getElem? (i := 1051) (by decide +kernel)⟩
theorem lw_p33 : lw_okq (⟨"SquareMeshModel", "lay", "(III)V"⟩, 19) := ⟨⟨by decide +kernel, by decide +kernel⟩, List.mem_of_getElem? (i := 1066) (by decide +kernel), List.mem_of_getElem? (i := 1073) (by decide +kernel), List.mem_of_getElem? (i := 1074) (by decide +kernel)⟩
theorem lw_p34 : lw_okq (⟨"SquareMeshModel", "fixNow", "(III)V"⟩, 19) := ⟨⟨by decide +kernel, by decide +kernel⟩, List.mem_of_getElem? (i := 1066) (by decide +kernel), List.mem_of_getElem? (i := 1077) (by decide +kernel), List.mem_of_getElem? (i := 1078) (by decide +kernel)⟩
theorem lw_p35 : lw_okq (⟨"SquareMeshModel", "layMesh", "()V"⟩, 19) := ⟨⟨by decide +kernel, by decide +kernel⟩, List.mem_of_getElem? (i := 1066) (by decide +kernel), List.mem_of_getElem? (i := 1081) (by decide +kernel), List.mem_of_getElem? (i := 1082) (by decide +kernel)⟩
theorem lw_p36 : lw_okq (⟨"SquareMeshModel", "isInward", "(II)Z"⟩, 19) := ⟨⟨by decide +kernel, by decide +kernel⟩, List.mem_of_getElem? (i := 1066) (by decide +kernel), List.mem_of_getElem? (i := 1085) (by decide +kernel), List.mem_of_getElem? (i := 1086) (by decide +kernel)⟩
theorem lw_p37 : lw_okq (⟨"SquareMeshModel", "isBorder", "(II)Z"⟩, 19) := ⟨⟨by decide +kernel, by decide +kernel⟩, List.mem_of_getElem? (i := 1066) (by decide +kernel), List.mem_of_getElem? (i := 1089) (by decide +kernel), List.mem_of_getElem? (i := 1090) (by decide +kernel)⟩
theorem lw_p38 : lw_okq (⟨"SquareMeshModel", "fixedAt", "(II)I"⟩, 19) := ⟨⟨by decide +kernel, by decide +kernel⟩, List.mem_of_getElem? (i := 1066) (by decide +kernel), List.mem_of_getElem? (i := 1093) (by decide +kernel), List.mem_of_getElem? (i := 1094) (by decide +kernel)⟩
theorem lw_p39 : lw_okq (⟨"SquareMeshModel", "sideOf", "(IIII)I"⟩, 19) := ⟨⟨by decide +kernel, by decide +kernel⟩, List.mem_of_getElem? (i := 1066) (by decide +kernel), List.mem_of_getElem? (i := 1097) (by decide +kernel), List.mem_of_getElem? (i := 1098) (by decide +kernel)⟩
theorem lw_p40 : lw_okq (⟨"SquareMeshModel", "xOf", "(I)I"⟩, 19) := ⟨⟨by decide +kernel, by decide +kernel⟩, List.mem_of_getElem? (i := 1066) (by decide +kernel), List.mem_of_getElem? (i := 1101) (by decide +kernel), List.mem_of_getElem? (i := 1102) (by decide +kernel)⟩
theorem lw_p41 : lw_okq (⟨"SquareMeshModel", "yOf", "(I)I"⟩, 19) := ⟨⟨by decide +kernel, by decide +kernel⟩, List.mem_of_getElem? (i := 1066) (by decide +kernel), List.mem_of_getElem? (i := 1105) (by decide +kernel), List.mem_of_getElem? (i := 1106) (by decide +kernel)⟩
theorem lw_p42 : lw_okq (⟨"SquareMeshModel", "leftAt", "(II)I"⟩, 19) := ⟨⟨by decide +kernel, by decide +kernel⟩, List.mem_of_getElem? (i := 1066) (by decide +kernel), List.mem_of_getElem? (i := 1109) (by decide +kernel), List.mem_of_getElem? (i := 1110) (by decide +kernel)⟩
theorem lw_p43 : lw_okq (⟨"SquareMeshModel", "cornerFor", "(II)I"⟩, 19) := ⟨⟨by decide +kernel, by decide +kernel⟩, List.mem_of_getElem? (i := 1066) (by decide +kernel), List.mem_of_getElem? (i := 1113) (by decide +kernel), List.mem_of_getElem? (i := 1114) (by decide +kernel)⟩
theorem lw_p44 : lw_okq (⟨"SquareMeshModel", "isPoint", "(I)Z"⟩, 19) := ⟨⟨by decide +kernel, by decide +kernel⟩, List.mem_of_getElem? (i := 1066) (by decide +kernel), List.mem_of_getElem? (i := 1117) (by decide +kernel), List.mem_of_getElem? (i := 1118) (by decide +kernel)⟩
theorem lw_p45 : lw_okq (⟨"SquareMeshModel", "turnOf", "(III)I"⟩, 19) := ⟨⟨by decide +kernel, by decide +kernel⟩, List.mem_of_getElem? (i := 1066) (by decide +kernel), List.mem_of_getElem? (i := 1124) (by decide +kernel), List.mem_of_getElem? (i := 1125) (by decide +kernel)⟩
theorem lw_p46 : lw_okq (⟨"SquareMeshModel", "seesNow", "(II)Z"⟩, 19) := ⟨⟨by decide +kernel, by decide +kernel⟩, List.mem_of_getElem? (i := 1066) (by decide +kernel), List.mem_of_getElem? (i := 1128) (by decide +kernel), List.mem_of_getElem? (i := 1129) (by decide +kernel)⟩
theorem lw_p47 : lw_okq (⟨"SquareMeshModel", "isClear", "(II)Z"⟩, 19) := ⟨⟨by decide +kernel, by decide +kernel⟩, List.mem_of_getElem? (i := 1066) (by decide +kernel), List.mem_of_getElem? (i := 1132) (by decide +kernel), List.mem_of_getElem? (i := 1133) (by decide +kernel)⟩
def lw_privs_3 : List (MethodName × Nat) := [(⟨"SquareMesh", "countNew", "()I"⟩, 10), (⟨"SquareMeshModel", "lay", "(III)V"⟩, 19), (⟨"SquareMeshModel", "fixNow", "(III)V"⟩, 19), (⟨"SquareMeshModel", "layMesh", "()V"⟩, 19), (⟨"SquareMeshModel", "isInward", "(II)Z"⟩, 19), (⟨"SquareMeshModel", "isBorder", "(II)Z"⟩, 19), (⟨"SquareMeshModel", "fixedAt", "(II)I"⟩, 19), (⟨"SquareMeshModel", "sideOf", "(IIII)I"⟩, 19), (⟨"SquareMeshModel", "xOf", "(I)I"⟩, 19), (⟨"SquareMeshModel", "yOf", "(I)I"⟩, 19), (⟨"SquareMeshModel", "leftAt", "(II)I"⟩, 19), (⟨"SquareMeshModel", "cornerFor", "(II)I"⟩, 19), (⟨"SquareMeshModel", "isPoint", "(I)Z"⟩, 19), (⟨"SquareMeshModel", "turnOf", "(III)I"⟩, 19), (⟨"SquareMeshModel", "seesNow", "(II)Z"⟩, 19), (⟨"SquareMeshModel", "isClear", "(II)Z"⟩, 19)]
theorem lw_r3 : ∀ q ∈ lw_privs_3, lw_okq q := List.forall_mem_cons.mpr ⟨lw_p32, List.forall_mem_cons.mpr ⟨lw_p33, List.forall_mem_cons.mpr ⟨lw_p34, List.forall_mem_cons.mpr ⟨lw_p35, List.forall_mem_cons.mpr ⟨lw_p36, List.forall_mem_cons.mpr ⟨lw_p37, List.forall_mem_cons.mpr ⟨lw_p38, List.forall_mem_cons.mpr ⟨lw_p39, List.forall_mem_cons.mpr ⟨lw_p40, List.forall_mem_cons.mpr ⟨lw_p41, List.forall_mem_cons.mpr ⟨lw_p42, List.forall_mem_cons.mpr ⟨lw_p43, List.forall_mem_cons.mpr ⟨lw_p44, List.forall_mem_cons.mpr ⟨lw_p45, List.forall_mem_cons.mpr ⟨lw_p46, List.forall_mem_cons.mpr ⟨lw_p47, fun _ h => absurd h List.not_mem_nil⟩⟩⟩⟩⟩⟩⟩⟩⟩⟩⟩⟩⟩⟩⟩⟩
theorem lw_p48 : lw_okq (⟨"SquareMeshModel", "isBetween", "(IIII)Z"⟩, 19) := ⟨⟨by decide +kernel, by decide +kernel⟩, List.mem_of_getElem? (i := 1066) (by decide +kernel), List.mem_of_getElem? (i := 1136) (by decide +kernel), List.mem_of_getElem? (i := 1137) (by decide +kernel)⟩
theorem lw_p49 : lw_okq (⟨"SquareMeshModel", "squareOf", "(II)I"⟩, 19) := ⟨⟨by decide +kernel, by decide +kernel⟩, List.mem_of_getElem? (i := 1066) (by decide +kernel), List.mem_of_getElem? (i := 1140) (by decide +kernel), List.mem_of_getElem? (i := 1141) (by decide +kernel)⟩
theorem lw_p50 : lw_okq (⟨"SquareMeshModel", "isUncut", "(II)Z"⟩, 19) := ⟨⟨by decide +kernel, by decide +kernel⟩, List.mem_of_getElem? (i := 1066) (by decide +kernel), List.mem_of_getElem? (i := 1144) (by decide +kernel), List.mem_of_getElem? (i := 1145) (by decide +kernel)⟩
theorem lw_p51 : lw_okq (⟨"SquareMeshModel", "crosses", "(IIII)Z"⟩, 19) := ⟨⟨by decide +kernel, by decide +kernel⟩, List.mem_of_getElem? (i := 1066) (by decide +kernel), List.mem_of_getElem? (i := 1148) (by decide +kernel), List.mem_of_getElem? (i := 1149) (by decide +kernel)⟩
theorem lw_p52 : lw_okq (⟨"SquareMeshModel", "isBetter", "(IIII)Z"⟩, 19) := ⟨⟨by decide +kernel, by decide +kernel⟩, List.mem_of_getElem? (i := 1066) (by decide +kernel), List.mem_of_getElem? (i := 1155) (by decide +kernel), List.mem_of_getElem? (i := 1156) (by decide +kernel)⟩
theorem lw_p53 : lw_okq (⟨"SquareMeshModel", "insideBy", "(IIII)J"⟩, 19) := ⟨⟨by decide +kernel, by decide +kernel⟩, List.mem_of_getElem? (i := 1066) (by decide +kernel), List.mem_of_getElem? (i := 1159) (by decide +kernel), List.mem_of_getElem? (i := 1160) (by decide +kernel)⟩
theorem lw_p54 : lw_okq (⟨"SquareMeshModel", "insideOf", "(IIIII)J"⟩, 19) := ⟨⟨by decide +kernel, by decide +kernel⟩, List.mem_of_getElem? (i := 1066) (by decide +kernel), List.mem_of_getElem? (i := 1163) (by decide +kernel), List.mem_of_getElem? (i := 1164) (by decide +kernel)⟩
theorem lw_p55 : lw_okq (⟨"SquareMeshModel", "isAhead", "(II)Z"⟩, 19) := ⟨⟨by decide +kernel, by decide +kernel⟩, List.mem_of_getElem? (i := 1066) (by decide +kernel), List.mem_of_getElem? (i := 1167) (by decide +kernel), List.mem_of_getElem? (i := 1168) (by decide +kernel)⟩
theorem lw_p56 : lw_okq (⟨"SquareMeshModel", "comeTriangle", "(III)V"⟩, 19) := ⟨⟨by decide +kernel, by decide +kernel⟩, List.mem_of_getElem? (i := 1066) (by decide +kernel), List.mem_of_getElem? (i := 1171) (by decide +kernel), List.mem_of_getElem? (i := 1172) (by decide +kernel)⟩
theorem lw_p57 : lw_okq (⟨"SquareMeshModel", "order", "()V"⟩, 19) := ⟨⟨by decide +kernel, by decide +kernel⟩, List.mem_of_getElem? (i := 1066) (by decide +kernel), List.mem_of_getElem? (i := 1175) (by decide +kernel), List.mem_of_getElem? (i := 1176) (by decide +kernel)⟩
theorem lw_p58 : lw_okq (⟨"SquareMeshModel", "codeOf", "(I)I"⟩, 19) := ⟨⟨by decide +kernel, by decide +kernel⟩, List.mem_of_getElem? (i := 1066) (by decide +kernel), List.mem_of_getElem? (i := 1179) (by decide +kernel), List.mem_of_getElem? (i := 1180) (by decide +kernel)⟩
theorem lw_p59 : lw_okq (⟨"SquareMeshModel", "keepImage", "()V"⟩, 19) := ⟨⟨by decide +kernel, by decide +kernel⟩, List.mem_of_getElem? (i := 1066) (by decide +kernel), List.mem_of_getElem? (i := 1183) (by decide +kernel), List.mem_of_getElem? (i := 1184) (by decide +kernel)⟩
theorem lw_p60 : lw_okq (⟨"SquareMeshModel", "keep", "()V"⟩, 19) := ⟨⟨by decide +kernel, by decide +kernel⟩, List.mem_of_getElem? (i := 1066) (by decide +kernel), List.mem_of_getElem? (i := 1256) (by decide +kernel), List.mem_of_getElem? (i := 1257) (by decide +kernel)⟩
theorem lw_p61 : lw_okq (⟨"SquareMeshModel", "canTell", "(II)Z"⟩, 19) := ⟨⟨by decide +kernel, by decide +kernel⟩, List.mem_of_getElem? (i := 1066) (by decide +kernel), List.mem_of_getElem? (i := 1275) (by decide +kernel), List.mem_of_getElem? (i := 1276) (by decide +kernel)⟩
theorem lw_p62 : lw_okq (⟨"SquareMeshModel", "pointAt", "(II)I"⟩, 19) := ⟨⟨by decide +kernel, by decide +kernel⟩, List.mem_of_getElem? (i := 1066) (by decide +kernel), List.mem_of_getElem? (i := 1279) (by decide +kernel), List.mem_of_getElem? (i := 1280) (by decide +kernel)⟩
theorem lw_p63 : lw_okq (⟨"SquareMeshModel", "freeNumber", "()I"⟩, 19) := ⟨⟨by decide +kernel, by decide +kernel⟩, List.mem_of_getElem? (i := 1066) (by decide +kernel), List.mem_of_getElem? (i := 1283) (by decide +kernel), List.mem_of_getElem? (i := 1284) (by decide +kernel)⟩
def lw_privs_4 : List (MethodName × Nat) := [(⟨"SquareMeshModel", "isBetween", "(IIII)Z"⟩, 19), (⟨"SquareMeshModel", "squareOf", "(II)I"⟩, 19), (⟨"SquareMeshModel", "isUncut", "(II)Z"⟩, 19), (⟨"SquareMeshModel", "crosses", "(IIII)Z"⟩, 19), (⟨"SquareMeshModel", "isBetter", "(IIII)Z"⟩, 19), (⟨"SquareMeshModel", "insideBy", "(IIII)J"⟩, 19), (⟨"SquareMeshModel", "insideOf", "(IIIII)J"⟩, 19), (⟨"SquareMeshModel", "isAhead", "(II)Z"⟩, 19), (⟨"SquareMeshModel", "comeTriangle", "(III)V"⟩, 19), (⟨"SquareMeshModel", "order", "()V"⟩, 19), (⟨"SquareMeshModel", "codeOf", "(I)I"⟩, 19), (⟨"SquareMeshModel", "keepImage", "()V"⟩, 19), (⟨"SquareMeshModel", "keep", "()V"⟩, 19), (⟨"SquareMeshModel", "canTell", "(II)Z"⟩, 19), (⟨"SquareMeshModel", "pointAt", "(II)I"⟩, 19), (⟨"SquareMeshModel", "freeNumber", "()I"⟩, 19)]
theorem lw_r4 : ∀ q ∈ lw_privs_4, lw_okq q := List.forall_mem_cons.mpr ⟨lw_p48, List.forall_mem_cons.mpr ⟨lw_p49, List.forall_mem_cons.mpr ⟨lw_p50, List.forall_mem_cons.mpr ⟨lw_p51, List.forall_mem_cons.mpr ⟨lw_p52, List.forall_mem_cons.mpr ⟨lw_p53, List.forall_mem_cons.mpr ⟨lw_p54, List.forall_mem_cons.mpr ⟨lw_p55, List.forall_mem_cons.mpr ⟨lw_p56, List.forall_mem_cons.mpr ⟨lw_p57, List.forall_mem_cons.mpr ⟨lw_p58, List.forall_mem_cons.mpr ⟨lw_p59, List.forall_mem_cons.mpr ⟨lw_p60, List.forall_mem_cons.mpr ⟨lw_p61, List.forall_mem_cons.mpr ⟨lw_p62, List.forall_mem_cons.mpr ⟨lw_p63, fun _ h => absurd h List.not_mem_nil⟩⟩⟩⟩⟩⟩⟩⟩⟩⟩⟩⟩⟩⟩⟩⟩
theorem lw_p64 : lw_okq (⟨"SquareMeshModel", "tellNew", "(II)I"⟩, 19) := ⟨⟨by decide +kernel, by decide +kernel⟩, List.mem_of_getElem? (i := 1066) (by decide +kernel), List.mem_of_getElem? (i := 1287) (by decide +kernel), List.mem_of_getElem? (i := 1288) (by decide +kernel)⟩
theorem lw_p65 : lw_okq (⟨"SquareMeshModel", "tellAt", "(III)V"⟩, 19) := ⟨⟨by decide +kernel, by decide +kernel⟩, List.mem_of_getElem? (i := 1066) (by decide +kernel), List.mem_of_getElem? (i := 1291) (by decide +kernel), List.mem_of_getElem? (i := 1292) (by decide +kernel)⟩
theorem lw_p66 : lw_okq (⟨"SquareMeshModel", "canGo", "(I)Z"⟩, 19) := ⟨⟨by decide +kernel, by decide +kernel⟩, List.mem_of_getElem? (i := 1066) (by decide +kernel), List.mem_of_getElem? (i := 1299) (by decide +kernel), List.mem_of_getElem? (i := 1300) (by decide +kernel)⟩
theorem lw_p67 : lw_okq (⟨"SquareMeshModel", "fixedOf", "(I)I"⟩, 19) := ⟨⟨by decide +kernel, by decide +kernel⟩, List.mem_of_getElem? (i := 1066) (by decide +kernel), List.mem_of_getElem? (i := 1303) (by decide +kernel), List.mem_of_getElem? (i := 1304) (by decide +kernel)⟩
theorem lw_p68 : lw_okq (⟨"SquareMeshModel", "takeOut", "(I)V"⟩, 19) := ⟨⟨by decide +kernel, by decide +kernel⟩, List.mem_of_getElem? (i := 1066) (by decide +kernel), List.mem_of_getElem? (i := 1307) (by decide +kernel), List.mem_of_getElem? (i := 1308) (by decide +kernel)⟩
theorem lw_p69 : lw_okq (⟨"SquareMeshModel", "moveNow", "(III)V"⟩, 19) := ⟨⟨by decide +kernel, by decide +kernel⟩, List.mem_of_getElem? (i := 1066) (by decide +kernel), List.mem_of_getElem? (i := 1315) (by decide +kernel), List.mem_of_getElem? (i := 1316) (by decide +kernel)⟩
theorem lw_p70 : lw_okq (⟨"SquareMeshModel", "canFix", "(II)Z"⟩, 19) := ⟨⟨by decide +kernel, by decide +kernel⟩, List.mem_of_getElem? (i := 1066) (by decide +kernel), List.mem_of_getElem? (i := 1323) (by decide +kernel), List.mem_of_getElem? (i := 1324) (by decide +kernel)⟩
theorem lw_p71 : lw_okq (⟨"SquareMeshModel", "areTwo", "(II)Z"⟩, 19) := ⟨⟨by decide +kernel, by decide +kernel⟩, List.mem_of_getElem? (i := 1066) (by decide +kernel), List.mem_of_getElem? (i := 1327) (by decide +kernel), List.mem_of_getElem? (i := 1328) (by decide +kernel)⟩
theorem lw_p72 : lw_okq (⟨"SquareMeshModel", "canFree", "(II)Z"⟩, 19) := ⟨⟨by decide +kernel, by decide +kernel⟩, List.mem_of_getElem? (i := 1066) (by decide +kernel), List.mem_of_getElem? (i := 1335) (by decide +kernel), List.mem_of_getElem? (i := 1336) (by decide +kernel)⟩
theorem lw_p73 : lw_okq (⟨"SquareMeshModel", "draw", "(I)I"⟩, 19) := ⟨⟨by decide +kernel, by decide +kernel⟩, List.mem_of_getElem? (i := 1066) (by decide +kernel), List.mem_of_getElem? (i := 1343) (by decide +kernel), List.mem_of_getElem? (i := 1344) (by decide +kernel)⟩
theorem lw_p74 : lw_okq (⟨"SquareMeshModel", "refineOnce", "()Z"⟩, 19) := ⟨⟨by decide +kernel, by decide +kernel⟩, List.mem_of_getElem? (i := 1066) (by decide +kernel), List.mem_of_getElem? (i := 1355) (by decide +kernel), List.mem_of_getElem? (i := 1356) (by decide +kernel)⟩
theorem lw_p75 : lw_okq (⟨"SquareMeshModel", "thinnestNow", "()I"⟩, 19) := ⟨⟨by decide +kernel, by decide +kernel⟩, List.mem_of_getElem? (i := 1066) (by decide +kernel), List.mem_of_getElem? (i := 1359) (by decide +kernel), List.mem_of_getElem? (i := 1360) (by decide +kernel)⟩
theorem lw_p76 : lw_okq (⟨"SquareMeshModel", "areaOf", "(I)I"⟩, 19) := ⟨⟨by decide +kernel, by decide +kernel⟩, List.mem_of_getElem? (i := 1066) (by decide +kernel), List.mem_of_getElem? (i := 1363) (by decide +kernel), List.mem_of_getElem? (i := 1364) (by decide +kernel)⟩
theorem lw_p77 : lw_okq (⟨"SquareMeshModel", "cornerOf", "(II)I"⟩, 19) := ⟨⟨by decide +kernel, by decide +kernel⟩, List.mem_of_getElem? (i := 1066) (by decide +kernel), List.mem_of_getElem? (i := 1367) (by decide +kernel), List.mem_of_getElem? (i := 1368) (by decide +kernel)⟩
theorem lw_p78 : lw_okq (⟨"SquareMeshModel", "longestOf", "(I)I"⟩, 19) := ⟨⟨by decide +kernel, by decide +kernel⟩, List.mem_of_getElem? (i := 1066) (by decide +kernel), List.mem_of_getElem? (i := 1371) (by decide +kernel), List.mem_of_getElem? (i := 1372) (by decide +kernel)⟩
theorem lw_p79 : lw_okq (⟨"SquareMeshModel", "edgeOf", "(II)I"⟩, 19) := ⟨⟨by decide +kernel, by decide +kernel⟩, List.mem_of_getElem? (i := 1066) (by decide +kernel), List.mem_of_getElem? (i := 1375) (by decide +kernel), List.mem_of_getElem? (i := 1376) (by decide +kernel)⟩
def lw_privs_5 : List (MethodName × Nat) := [(⟨"SquareMeshModel", "tellNew", "(II)I"⟩, 19), (⟨"SquareMeshModel", "tellAt", "(III)V"⟩, 19), (⟨"SquareMeshModel", "canGo", "(I)Z"⟩, 19), (⟨"SquareMeshModel", "fixedOf", "(I)I"⟩, 19), (⟨"SquareMeshModel", "takeOut", "(I)V"⟩, 19), (⟨"SquareMeshModel", "moveNow", "(III)V"⟩, 19), (⟨"SquareMeshModel", "canFix", "(II)Z"⟩, 19), (⟨"SquareMeshModel", "areTwo", "(II)Z"⟩, 19), (⟨"SquareMeshModel", "canFree", "(II)Z"⟩, 19), (⟨"SquareMeshModel", "draw", "(I)I"⟩, 19), (⟨"SquareMeshModel", "refineOnce", "()Z"⟩, 19), (⟨"SquareMeshModel", "thinnestNow", "()I"⟩, 19), (⟨"SquareMeshModel", "areaOf", "(I)I"⟩, 19), (⟨"SquareMeshModel", "cornerOf", "(II)I"⟩, 19), (⟨"SquareMeshModel", "longestOf", "(I)I"⟩, 19), (⟨"SquareMeshModel", "edgeOf", "(II)I"⟩, 19)]
theorem lw_r5 : ∀ q ∈ lw_privs_5, lw_okq q := List.forall_mem_cons.mpr ⟨lw_p64, List.forall_mem_cons.mpr ⟨lw_p65, List.forall_mem_cons.mpr ⟨lw_p66, List.forall_mem_cons.mpr ⟨lw_p67, List.forall_mem_cons.mpr ⟨lw_p68, List.forall_mem_cons.mpr ⟨lw_p69, List.forall_mem_cons.mpr ⟨lw_p70, List.forall_mem_cons.mpr ⟨lw_p71, List.forall_mem_cons.mpr ⟨lw_p72, List.forall_mem_cons.mpr ⟨lw_p73, List.forall_mem_cons.mpr ⟨lw_p74, List.forall_mem_cons.mpr ⟨lw_p75, List.forall_mem_cons.mpr ⟨lw_p76, List.forall_mem_cons.mpr ⟨lw_p77, List.forall_mem_cons.mpr ⟨lw_p78, List.forall_mem_cons.mpr ⟨lw_p79, fun _ h => absurd h List.not_mem_nil⟩⟩⟩⟩⟩⟩⟩⟩⟩⟩⟩⟩⟩⟩⟩⟩
theorem lw_p80 : lw_okq (⟨"SquareMeshModel", "smoothOne", "(I)Z"⟩, 19) := ⟨⟨by decide +kernel, by decide +kernel⟩, List.mem_of_getElem? (i := 1066) (by decide +kernel), List.mem_of_getElem? (i := 1386) (by decide +kernel), List.mem_of_getElem? (i := 1387) (by decide +kernel)⟩
theorem lw_p81 : lw_okq (⟨"SquareMeshModel", "layStar", "(I)I"⟩, 19) := ⟨⟨by decide +kernel, by decide +kernel⟩, List.mem_of_getElem? (i := 1066) (by decide +kernel), List.mem_of_getElem? (i := 1390) (by decide +kernel), List.mem_of_getElem? (i := 1391) (by decide +kernel)⟩
theorem lw_p82 : lw_okq (⟨"SquareMeshModel", "firstOf", "(I)I"⟩, 19) := ⟨⟨by decide +kernel, by decide +kernel⟩, List.mem_of_getElem? (i := 1066) (by decide +kernel), List.mem_of_getElem? (i := 1394) (by decide +kernel), List.mem_of_getElem? (i := 1395) (by decide +kernel)⟩
theorem lw_p83 : lw_okq (⟨"SquareMeshModel", "isEdgeNow", "(II)Z"⟩, 19) := ⟨⟨by decide +kernel, by decide +kernel⟩, List.mem_of_getElem? (i := 1066) (by decide +kernel), List.mem_of_getElem? (i := 1398) (by decide +kernel), List.mem_of_getElem? (i := 1399) (by decide +kernel)⟩
theorem lw_p84 : lw_okq (⟨"SquareMeshModel", "afterOf", "(II)I"⟩, 19) := ⟨⟨by decide +kernel, by decide +kernel⟩, List.mem_of_getElem? (i := 1066) (by decide +kernel), List.mem_of_getElem? (i := 1402) (by decide +kernel), List.mem_of_getElem? (i := 1403) (by decide +kernel)⟩
theorem lw_p85 : lw_okq (⟨"SquareMeshModel", "points", "()I"⟩, 19) := ⟨⟨by decide +kernel, by decide +kernel⟩, List.mem_of_getElem? (i := 1066) (by decide +kernel), List.mem_of_getElem? (i := 1414) (by decide +kernel), List.mem_of_getElem? (i := 1415) (by decide +kernel)⟩
theorem lw_p86 : lw_okq (⟨"SquareMeshModel", "edges", "()I"⟩, 19) := ⟨⟨by decide +kernel, by decide +kernel⟩, List.mem_of_getElem? (i := 1066) (by decide +kernel), List.mem_of_getElem? (i := 1418) (by decide +kernel), List.mem_of_getElem? (i := 1419) (by decide +kernel)⟩
theorem lw_p87 : lw_okq (⟨"SquareMeshModel", "fixedBy", "(I)I"⟩, 19) := ⟨⟨by decide +kernel, by decide +kernel⟩, List.mem_of_getElem? (i := 1066) (by decide +kernel), List.mem_of_getElem? (i := 1422) (by decide +kernel), List.mem_of_getElem? (i := 1423) (by decide +kernel)⟩
theorem lw_p88 : lw_okq (⟨"SquareMeshModel", "layRegions", "()I"⟩, 19) := ⟨⟨by decide +kernel, by decide +kernel⟩, List.mem_of_getElem? (i := 1066) (by decide +kernel), List.mem_of_getElem? (i := 1426) (by decide +kernel), List.mem_of_getElem? (i := 1427) (by decide +kernel)⟩
theorem lw_p89 : lw_okq (⟨"SquareMeshModel", "isShut", "(II)Z"⟩, 19) := ⟨⟨by decide +kernel, by decide +kernel⟩, List.mem_of_getElem? (i := 1066) (by decide +kernel), List.mem_of_getElem? (i := 1430) (by decide +kernel), List.mem_of_getElem? (i := 1431) (by decide +kernel)⟩
theorem lw_p90 : lw_okq (⟨"SquareMeshModel", "beyondOf", "(II)I"⟩, 19) := ⟨⟨by decide +kernel, by decide +kernel⟩, List.mem_of_getElem? (i := 1066) (by decide +kernel), List.mem_of_getElem? (i := 1434) (by decide +kernel), List.mem_of_getElem? (i := 1435) (by decide +kernel)⟩
theorem lw_p91 : lw_okq (⟨"SquareMeshModel", "bents", "()I"⟩, 19) := ⟨⟨by decide +kernel, by decide +kernel⟩, List.mem_of_getElem? (i := 1066) (by decide +kernel), List.mem_of_getElem? (i := 1438) (by decide +kernel), List.mem_of_getElem? (i := 1439) (by decide +kernel)⟩
theorem lw_p92 : lw_okq (⟨"SquareMeshModel", "isBent", "(II)Z"⟩, 19) := ⟨⟨by decide +kernel, by decide +kernel⟩, List.mem_of_getElem? (i := 1066) (by decide +kernel), List.mem_of_getElem? (i := 1442) (by decide +kernel), List.mem_of_getElem? (i := 1443) (by decide +kernel)⟩
theorem lw_p93 : lw_okq (⟨"SquareMeshModel", "thirdOf", "(III)I"⟩, 19) := ⟨⟨by decide +kernel, by decide +kernel⟩, List.mem_of_getElem? (i := 1066) (by decide +kernel), List.mem_of_getElem? (i := 1446) (by decide +kernel), List.mem_of_getElem? (i := 1447) (by decide +kernel)⟩
theorem lw_p94 : lw_okq (⟨"SquareMeshModel", "hollows", "()I"⟩, 19) := ⟨⟨by decide +kernel, by decide +kernel⟩, List.mem_of_getElem? (i := 1066) (by decide +kernel), List.mem_of_getElem? (i := 1450) (by decide +kernel), List.mem_of_getElem? (i := 1451) (by decide +kernel)⟩
theorem lw_p95 : lw_okq (⟨"SquareMeshModel", "holesIn", "(I)I"⟩, 19) := ⟨⟨by decide +kernel, by decide +kernel⟩, List.mem_of_getElem? (i := 1066) (by decide +kernel), List.mem_of_getElem? (i := 1454) (by decide +kernel), List.mem_of_getElem? (i := 1455) (by decide +kernel)⟩
def lw_privs_6 : List (MethodName × Nat) := [(⟨"SquareMeshModel", "smoothOne", "(I)Z"⟩, 19), (⟨"SquareMeshModel", "layStar", "(I)I"⟩, 19), (⟨"SquareMeshModel", "firstOf", "(I)I"⟩, 19), (⟨"SquareMeshModel", "isEdgeNow", "(II)Z"⟩, 19), (⟨"SquareMeshModel", "afterOf", "(II)I"⟩, 19), (⟨"SquareMeshModel", "points", "()I"⟩, 19), (⟨"SquareMeshModel", "edges", "()I"⟩, 19), (⟨"SquareMeshModel", "fixedBy", "(I)I"⟩, 19), (⟨"SquareMeshModel", "layRegions", "()I"⟩, 19), (⟨"SquareMeshModel", "isShut", "(II)Z"⟩, 19), (⟨"SquareMeshModel", "beyondOf", "(II)I"⟩, 19), (⟨"SquareMeshModel", "bents", "()I"⟩, 19), (⟨"SquareMeshModel", "isBent", "(II)Z"⟩, 19), (⟨"SquareMeshModel", "thirdOf", "(III)I"⟩, 19), (⟨"SquareMeshModel", "hollows", "()I"⟩, 19), (⟨"SquareMeshModel", "holesIn", "(I)I"⟩, 19)]
theorem lw_r6 : ∀ q ∈ lw_privs_6, lw_okq q := List.forall_mem_cons.mpr ⟨lw_p80, List.forall_mem_cons.mpr ⟨lw_p81, List.forall_mem_cons.mpr ⟨lw_p82, List.forall_mem_cons.mpr ⟨lw_p83, List.forall_mem_cons.mpr ⟨lw_p84, List.forall_mem_cons.mpr ⟨lw_p85, List.forall_mem_cons.mpr ⟨lw_p86, List.forall_mem_cons.mpr ⟨lw_p87, List.forall_mem_cons.mpr ⟨lw_p88, List.forall_mem_cons.mpr ⟨lw_p89, List.forall_mem_cons.mpr ⟨lw_p90, List.forall_mem_cons.mpr ⟨lw_p91, List.forall_mem_cons.mpr ⟨lw_p92, List.forall_mem_cons.mpr ⟨lw_p93, List.forall_mem_cons.mpr ⟨lw_p94, List.forall_mem_cons.mpr ⟨lw_p95, fun _ h => absurd h List.not_mem_nil⟩⟩⟩⟩⟩⟩⟩⟩⟩⟩⟩⟩⟩⟩⟩⟩
theorem lw_p96 : lw_okq (⟨"SquareMeshModel", "inNow", "(II)I"⟩, 19) := ⟨⟨by decide +kernel, by decide +kernel⟩, List.mem_of_getElem? (i := 1066) (by decide +kernel), List.mem_of_getElem? (i := 1458) (by decide +kernel), List.mem_of_getElem? (i := 1459) (by decide +kernel)⟩
theorem lw_p97 : lw_okq (⟨"SquareMeshModel", "holds", "(III)Z"⟩, 19) := ⟨⟨by decide +kernel, by decide +kernel⟩, List.mem_of_getElem? (i := 1066) (by decide +kernel), List.mem_of_getElem? (i := 1462) (by decide +kernel), List.mem_of_getElem? (i := 1463) (by decide +kernel)⟩
theorem lw_p98 : lw_okq (⟨"SquareMeshModel", "corners", "(Z)I"⟩, 19) := ⟨⟨by decide +kernel, by decide +kernel⟩, List.mem_of_getElem? (i := 1066) (by decide +kernel), List.mem_of_getElem? (i := 1466) (by decide +kernel), List.mem_of_getElem? (i := 1467) (by decide +kernel)⟩
theorem lw_p99 : lw_okq (⟨"SquareMeshModel", "dotAt", "(III)I"⟩, 19) := ⟨⟨by decide +kernel, by decide +kernel⟩, List.mem_of_getElem? (i := 1066) (by decide +kernel), List.mem_of_getElem? (i := 1470) (by decide +kernel), List.mem_of_getElem? (i := 1471) (by decide +kernel)⟩
theorem lw_p100 : lw_okq (⟨"SquareMeshModel", "layColours", "()I"⟩, 19) := ⟨⟨by decide +kernel, by decide +kernel⟩, List.mem_of_getElem? (i := 1066) (by decide +kernel), List.mem_of_getElem? (i := 1474) (by decide +kernel), List.mem_of_getElem? (i := 1475) (by decide +kernel)⟩
theorem lw_p101 : lw_okq (⟨"SquareMeshModel", "isTaken", "(II)Z"⟩, 19) := ⟨⟨by decide +kernel, by decide +kernel⟩, List.mem_of_getElem? (i := 1066) (by decide +kernel), List.mem_of_getElem? (i := 1478) (by decide +kernel), List.mem_of_getElem? (i := 1479) (by decide +kernel)⟩
theorem lw_p102 : lw_okq (⟨"SquareMeshModel", "isOnBorder", "(I)Z"⟩, 19) := ⟨⟨by decide +kernel, by decide +kernel⟩, List.mem_of_getElem? (i := 1066) (by decide +kernel), List.mem_of_getElem? (i := 1487) (by decide +kernel), List.mem_of_getElem? (i := 1488) (by decide +kernel)⟩
theorem lw_p103 : lw_okq (⟨"SquareMeshModel", "highOf", "(I)I"⟩, 19) := ⟨⟨by decide +kernel, by decide +kernel⟩, List.mem_of_getElem? (i := 1066) (by decide +kernel), List.mem_of_getElem? (i := 1491) (by decide +kernel), List.mem_of_getElem? (i := 1492) (by decide +kernel)⟩
theorem lw_p104 : lw_okq (⟨"SquareMeshModel", "isTriangle", "(I)Z"⟩, 19) := ⟨⟨by decide +kernel, by decide +kernel⟩, List.mem_of_getElem? (i := 1066) (by decide +kernel), List.mem_of_getElem? (i := 1503) (by decide +kernel), List.mem_of_getElem? (i := 1504) (by decide +kernel)⟩
theorem lw_p105 : lw_okq (⟨"SquareMeshModel", "hasCorner", "(II)Z"⟩, 19) := ⟨⟨by decide +kernel, by decide +kernel⟩, List.mem_of_getElem? (i := 1066) (by decide +kernel), List.mem_of_getElem? (i := 1519) (by decide +kernel), List.mem_of_getElem? (i := 1520) (by decide +kernel)⟩
theorem lw_p106 : lw_okq (⟨"SquareMeshModel", "nextOf", "(III)I"⟩, 19) := ⟨⟨by decide +kernel, by decide +kernel⟩, List.mem_of_getElem? (i := 1066) (by decide +kernel), List.mem_of_getElem? (i := 1543) (by decide +kernel), List.mem_of_getElem? (i := 1544) (by decide +kernel)⟩
theorem lw_p107 : lw_okq (⟨"SquareMeshModel", "layFar", "(I)V"⟩, 19) := ⟨⟨by decide +kernel, by decide +kernel⟩, List.mem_of_getElem? (i := 1066) (by decide +kernel), List.mem_of_getElem? (i := 1555) (by decide +kernel), List.mem_of_getElem? (i := 1556) (by decide +kernel)⟩
theorem lw_p108 : lw_okq (⟨"SquareMeshModel", "manyOf", "(I)I"⟩, 19) := ⟨⟨by decide +kernel, by decide +kernel⟩, List.mem_of_getElem? (i := 1066) (by decide +kernel), List.mem_of_getElem? (i := 1580) (by decide +kernel), List.mem_of_getElem? (i := 1581) (by decide +kernel)⟩
theorem lw_p109 : lw_okq (⟨"SquareMeshModel", "areaIn", "(I)I"⟩, 19) := ⟨⟨by decide +kernel, by decide +kernel⟩, List.mem_of_getElem? (i := 1066) (by decide +kernel), List.mem_of_getElem? (i := 1584) (by decide +kernel), List.mem_of_getElem? (i := 1585) (by decide +kernel)⟩
theorem lw_p110 : lw_okq (⟨"SquareMeshModel", "pointsIn", "(I)I"⟩, 19) := ⟨⟨by decide +kernel, by decide +kernel⟩, List.mem_of_getElem? (i := 1066) (by decide +kernel), List.mem_of_getElem? (i := 1588) (by decide +kernel), List.mem_of_getElem? (i := 1589) (by decide +kernel)⟩
theorem lw_p111 : lw_okq (⟨"SquareMeshModel", "widthOf", "(I)I"⟩, 19) := ⟨⟨by decide +kernel, by decide +kernel⟩, List.mem_of_getElem? (i := 1066) (by decide +kernel), List.mem_of_getElem? (i := 1604) (by decide +kernel), List.mem_of_getElem? (i := 1605) (by decide +kernel)⟩
def lw_privs_7 : List (MethodName × Nat) := [(⟨"SquareMeshModel", "inNow", "(II)I"⟩, 19), (⟨"SquareMeshModel", "holds", "(III)Z"⟩, 19), (⟨"SquareMeshModel", "corners", "(Z)I"⟩, 19), (⟨"SquareMeshModel", "dotAt", "(III)I"⟩, 19), (⟨"SquareMeshModel", "layColours", "()I"⟩, 19), (⟨"SquareMeshModel", "isTaken", "(II)Z"⟩, 19), (⟨"SquareMeshModel", "isOnBorder", "(I)Z"⟩, 19), (⟨"SquareMeshModel", "highOf", "(I)I"⟩, 19), (⟨"SquareMeshModel", "isTriangle", "(I)Z"⟩, 19), (⟨"SquareMeshModel", "hasCorner", "(II)Z"⟩, 19), (⟨"SquareMeshModel", "nextOf", "(III)I"⟩, 19), (⟨"SquareMeshModel", "layFar", "(I)V"⟩, 19), (⟨"SquareMeshModel", "manyOf", "(I)I"⟩, 19), (⟨"SquareMeshModel", "areaIn", "(I)I"⟩, 19), (⟨"SquareMeshModel", "pointsIn", "(I)I"⟩, 19), (⟨"SquareMeshModel", "widthOf", "(I)I"⟩, 19)]
theorem lw_r7 : ∀ q ∈ lw_privs_7, lw_okq q := List.forall_mem_cons.mpr ⟨lw_p96, List.forall_mem_cons.mpr ⟨lw_p97, List.forall_mem_cons.mpr ⟨lw_p98, List.forall_mem_cons.mpr ⟨lw_p99, List.forall_mem_cons.mpr ⟨lw_p100, List.forall_mem_cons.mpr ⟨lw_p101, List.forall_mem_cons.mpr ⟨lw_p102, List.forall_mem_cons.mpr ⟨lw_p103, List.forall_mem_cons.mpr ⟨lw_p104, List.forall_mem_cons.mpr ⟨lw_p105, List.forall_mem_cons.mpr ⟨lw_p106, List.forall_mem_cons.mpr ⟨lw_p107, List.forall_mem_cons.mpr ⟨lw_p108, List.forall_mem_cons.mpr ⟨lw_p109, List.forall_mem_cons.mpr ⟨lw_p110, List.forall_mem_cons.mpr ⟨lw_p111, fun _ h => absurd h List.not_mem_nil⟩⟩⟩⟩⟩⟩⟩⟩⟩⟩⟩⟩⟩⟩⟩⟩
theorem lw_p112 : lw_okq (⟨"SquareMeshModel", "layLengths", "(I)V"⟩, 19) := ⟨⟨by decide +kernel, by decide +kernel⟩, List.mem_of_getElem? (i := 1066) (by decide +kernel), List.mem_of_getElem? (i := 1612) (by decide +kernel), List.mem_of_getElem? (i := 1613) (by decide +kernel)⟩
theorem lw_p113 : lw_okq (⟨"SquareMeshModel", "lengthOf", "(II)I"⟩, 19) := ⟨⟨by decide +kernel, by decide +kernel⟩, List.mem_of_getElem? (i := 1066) (by decide +kernel), List.mem_of_getElem? (i := 1616) (by decide +kernel), List.mem_of_getElem? (i := 1617) (by decide +kernel)⟩
theorem lw_p114 : lw_okq (⟨"SquareMeshModel", "isCutBy", "(IIIIII)Z"⟩, 19) := ⟨⟨by decide +kernel, by decide +kernel⟩, List.mem_of_getElem? (i := 1066) (by decide +kernel), List.mem_of_getElem? (i := 1624) (by decide +kernel), List.mem_of_getElem? (i := 1625) (by decide +kernel)⟩
theorem lw_p115 : lw_okq (⟨"SquareMeshModel", "wayTo", "(III)I"⟩, 19) := ⟨⟨by decide +kernel, by decide +kernel⟩, List.mem_of_getElem? (i := 1066) (by decide +kernel), List.mem_of_getElem? (i := 1632) (by decide +kernel), List.mem_of_getElem? (i := 1633) (by decide +kernel)⟩
theorem lw_p116 : lw_okq (⟨"SquareMeshModel", "takeEdge", "()Z"⟩, 19) := ⟨⟨by decide +kernel, by decide +kernel⟩, List.mem_of_getElem? (i := 1066) (by decide +kernel), List.mem_of_getElem? (i := 1648) (by decide +kernel), List.mem_of_getElem? (i := 1649) (by decide +kernel)⟩
theorem lw_p117 : lw_okq (⟨"SquareMeshModel", "downOf", "(I)I"⟩, 19) := ⟨⟨by decide +kernel, by decide +kernel⟩, List.mem_of_getElem? (i := 1066) (by decide +kernel), List.mem_of_getElem? (i := 1680) (by decide +kernel), List.mem_of_getElem? (i := 1681) (by decide +kernel)⟩
theorem lw_p118 : lw_okq (⟨"SquareMeshModel", "layPassages", "(I)V"⟩, 19) := ⟨⟨by decide +kernel, by decide +kernel⟩, List.mem_of_getElem? (i := 1066) (by decide +kernel), List.mem_of_getElem? (i := 1692) (by decide +kernel), List.mem_of_getElem? (i := 1693) (by decide +kernel)⟩
theorem lw_p119 : lw_okq (⟨"SquareMeshModel", "nearerOf", "(I)I"⟩, 19) := ⟨⟨by decide +kernel, by decide +kernel⟩, List.mem_of_getElem? (i := 1066) (by decide +kernel), List.mem_of_getElem? (i := 1696) (by decide +kernel), List.mem_of_getElem? (i := 1697) (by decide +kernel)⟩
theorem lw_p120 : lw_okq (⟨"SquareMeshModel", "hullNext", "(I)I"⟩, 19) := ⟨⟨by decide +kernel, by decide +kernel⟩, List.mem_of_getElem? (i := 1066) (by decide +kernel), List.mem_of_getElem? (i := 1704) (by decide +kernel), List.mem_of_getElem? (i := 1705) (by decide +kernel)⟩
theorem lw_p121 : lw_okq (⟨"SquareMeshModel", "keepTriangles", "()V"⟩, 19) := ⟨⟨by decide +kernel, by decide +kernel⟩, List.mem_of_getElem? (i := 1066) (by decide +kernel), List.mem_of_getElem? (i := 1712) (by decide +kernel), List.mem_of_getElem? (i := 1713) (by decide +kernel)⟩
theorem lw_p122 : lw_okq (⟨"SquareMeshModel", "putAside", "()V"⟩, 19) := ⟨⟨by decide +kernel, by decide +kernel⟩, List.mem_of_getElem? (i := 1066) (by decide +kernel), List.mem_of_getElem? (i := 1716) (by decide +kernel), List.mem_of_getElem? (i := 1717) (by decide +kernel)⟩
theorem lw_p123 : lw_okq (⟨"SquareMeshModel", "freshOnes", "()I"⟩, 19) := ⟨⟨by decide +kernel, by decide +kernel⟩, List.mem_of_getElem? (i := 1066) (by decide +kernel), List.mem_of_getElem? (i := 1720) (by decide +kernel), List.mem_of_getElem? (i := 1721) (by decide +kernel)⟩
theorem lw_p124 : lw_okq (⟨"SquareMeshModel", "bringBack", "()V"⟩, 19) := ⟨⟨by decide +kernel, by decide +kernel⟩, List.mem_of_getElem? (i := 1066) (by decide +kernel), List.mem_of_getElem? (i := 1727) (by decide +kernel), List.mem_of_getElem? (i := 1728) (by decide +kernel)⟩
def lw_privs_8 : List (MethodName × Nat) := [(⟨"SquareMeshModel", "layLengths", "(I)V"⟩, 19), (⟨"SquareMeshModel", "lengthOf", "(II)I"⟩, 19), (⟨"SquareMeshModel", "isCutBy", "(IIIIII)Z"⟩, 19), (⟨"SquareMeshModel", "wayTo", "(III)I"⟩, 19), (⟨"SquareMeshModel", "takeEdge", "()Z"⟩, 19), (⟨"SquareMeshModel", "downOf", "(I)I"⟩, 19), (⟨"SquareMeshModel", "layPassages", "(I)V"⟩, 19), (⟨"SquareMeshModel", "nearerOf", "(I)I"⟩, 19), (⟨"SquareMeshModel", "hullNext", "(I)I"⟩, 19), (⟨"SquareMeshModel", "keepTriangles", "()V"⟩, 19), (⟨"SquareMeshModel", "putAside", "()V"⟩, 19), (⟨"SquareMeshModel", "freshOnes", "()I"⟩, 19), (⟨"SquareMeshModel", "bringBack", "()V"⟩, 19)]
theorem lw_r8 : ∀ q ∈ lw_privs_8, lw_okq q := List.forall_mem_cons.mpr ⟨lw_p112, List.forall_mem_cons.mpr ⟨lw_p113, List.forall_mem_cons.mpr ⟨lw_p114, List.forall_mem_cons.mpr ⟨lw_p115, List.forall_mem_cons.mpr ⟨lw_p116, List.forall_mem_cons.mpr ⟨lw_p117, List.forall_mem_cons.mpr ⟨lw_p118, List.forall_mem_cons.mpr ⟨lw_p119, List.forall_mem_cons.mpr ⟨lw_p120, List.forall_mem_cons.mpr ⟨lw_p121, List.forall_mem_cons.mpr ⟨lw_p122, List.forall_mem_cons.mpr ⟨lw_p123, List.forall_mem_cons.mpr ⟨lw_p124, fun _ h => absurd h List.not_mem_nil⟩⟩⟩⟩⟩⟩⟩⟩⟩⟩⟩⟩⟩
def lw_privs : List (MethodName × Nat) := lw_privs_1 ++ (lw_privs_2 ++ (lw_privs_3 ++ (lw_privs_4 ++ (lw_privs_5 ++ (lw_privs_6 ++ (lw_privs_7 ++ (lw_privs_8)))))))
def lw_tbl : List Cond := k2_sels lw_privs ++ tables_1
theorem lw_privs_ok : ∀ q ∈ lw_privs, lw_okq q := by
  show ∀ q ∈ lw_privs_1 ++ (lw_privs_2 ++ (lw_privs_3 ++ (lw_privs_4 ++ (lw_privs_5 ++ (lw_privs_6 ++ (lw_privs_7 ++ (lw_privs_8))))))), lw_okq q
  exact List.forall_mem_append.mpr ⟨lw_r1, List.forall_mem_append.mpr ⟨lw_r2, List.forall_mem_append.mpr ⟨lw_r3, List.forall_mem_append.mpr ⟨lw_r4, List.forall_mem_append.mpr ⟨lw_r5, List.forall_mem_append.mpr ⟨lw_r6, List.forall_mem_append.mpr ⟨lw_r7, lw_r8⟩⟩⟩⟩⟩⟩⟩
/-- the streams that the claim lets the run draw from -/
abbrev lw_cs : List Choice := [Jvm.Choice.named "NaN.bits"]
theorem lw_bits : nanBits ∈ lw_cs := by first | decide | exact List.mem_cons_self | simp [lw_cs, nanBits]
def RX0 : String := "SquareMesh$Hull"
def TX0 : u_T := fun k => match k with
  | 0 => ("SquareMesh$Hull", "row", "[I", true)
  | _ => ("SquareMesh$Hull", "count", "I", false)
def tyX0 : Nat → FieldType := fun k => match k with
  | 0 => .array .int
  | _ => .int
theorem nmX0 : ∀ a, a < 2 → ∀ b, b < 2 → a ≠ b → (TX0 a).2.1 ≠ (TX0 b).2.1 := by decide +kernel
theorem tyX0_ok : ∀ k, k < 2 → parseFieldDescriptor (TX0 k).2.2.1 = some (tyX0 k) := by decide +kernel
abbrev cX0_init : ByteArray := prog_2_method_1_code
def yX0_init : MethodName := ⟨RX0, "<init>", "()V"⟩
abbrev cX0_wrap : ByteArray := prog_2_method_2_code
def yX0_wrap : MethodName := ⟨RX0, "wrap", "(LSquareMesh$Told;)V"⟩
abbrev cX0_nextOnHull : ByteArray := prog_2_method_3_code
def yX0_nextOnHull : MethodName := ⟨RX0, "nextOnHull", "(LSquareMesh$Told;I)I"⟩
abbrev cX0_isOuter : ByteArray := prog_2_method_4_code
def yX0_isOuter : MethodName := ⟨RX0, "isOuter", "(LSquareMesh$Told;III)Z"⟩
def RX1 : String := "SquareMesh$Mesh"
def TX1 : u_T := fun k => match k with
  | 0 => ("SquareMesh$Mesh", "told", "LSquareMesh$Told;", true)
  | 1 => ("SquareMesh$Mesh", "apex", "[I", true)
  | 2 => ("SquareMesh$Mesh", "owner", "[I", true)
  | 3 => ("SquareMesh$Mesh", "corners", "[I", true)
  | 4 => ("SquareMesh$Mesh", "ends", "[I", true)
  | 5 => ("SquareMesh$Mesh", "near", "[J", true)
  | 6 => ("SquareMesh$Mesh", "round", "[I", true)
  | 7 => ("SquareMesh$Mesh", "triangles", "I", false)
  | 8 => ("SquareMesh$Mesh", "edges", "I", false)
  | 9 => ("SquareMesh$Mesh", "lift", "[J", true)
  | 10 => ("SquareMesh$Mesh", "waiting", "[J", true)
  | 11 => ("SquareMesh$Mesh", "queue", "[I", true)
  | _ => ("SquareMesh$Mesh", "queued", "I", false)
def tyX1 : Nat → FieldType := fun k => match k with
  | 0 => .object "SquareMesh$Told"
  | 1 => .array .int
  | 2 => .array .int
  | 3 => .array .int
  | 4 => .array .int
  | 5 => .array .long
  | 6 => .array .int
  | 7 => .int
  | 8 => .int
  | 9 => .array .long
  | 10 => .array .long
  | 11 => .array .int
  | _ => .int
theorem nmX1 : ∀ a, a < 13 → ∀ b, b < 13 → a ≠ b → (TX1 a).2.1 ≠ (TX1 b).2.1 := by decide +kernel
theorem tyX1_ok : ∀ k, k < 13 → parseFieldDescriptor (TX1 k).2.2.1 = some (tyX1 k) := by decide +kernel
abbrev cX1_init : ByteArray := prog_3_method_1_code
def yX1_init : MethodName := ⟨RX1, "<init>", "()V"⟩
abbrev cX1_start : ByteArray := prog_3_method_2_code
def yX1_start : MethodName := ⟨RX1, "start", "()V"⟩
abbrev cX1_become : ByteArray := prog_3_method_3_code
def yX1_become : MethodName := ⟨RX1, "become", "(LSquareMesh$Mesh;)V"⟩
abbrev cX1_layAll : ByteArray := prog_3_method_4_code
def yX1_layAll : MethodName := ⟨RX1, "layAll", "([III)V"⟩
abbrev cX1_tellPoint : ByteArray := prog_3_method_5_code
def yX1_tellPoint : MethodName := ⟨RX1, "tellPoint", "(II)I"⟩
abbrev cX1_insert : ByteArray := prog_3_method_6_code
def yX1_insert : MethodName := ⟨RX1, "insert", "(III)V"⟩
abbrev cX1_join : ByteArray := prog_3_method_7_code
def yX1_join : MethodName := ⟨RX1, "join", "(III)V"⟩
abbrev cX1_takeOut : ByteArray := prog_3_method_8_code
def yX1_takeOut : MethodName := ⟨RX1, "takeOut", "(I)V"⟩
abbrev cX1_cutEar : ByteArray := prog_3_method_9_code
def yX1_cutEar : MethodName := ⟨RX1, "cutEar", "(I)V"⟩
abbrev cX1_isEar : ByteArray := prog_3_method_10_code
def yX1_isEar : MethodName := ⟨RX1, "isEar", "(II)Z"⟩
abbrev cX1_canFix : ByteArray := prog_3_method_11_code
def yX1_canFix : MethodName := ⟨RX1, "canFix", "(II)Z"⟩
abbrev cX1_fixEdge : ByteArray := prog_3_method_12_code
def yX1_fixEdge : MethodName := ⟨RX1, "fixEdge", "(II)V"⟩
abbrev cX1_flipCrossing : ByteArray := prog_3_method_13_code
def yX1_flipCrossing : MethodName := ⟨RX1, "flipCrossing", "(II)V"⟩
abbrev cX1_canFree : ByteArray := prog_3_method_14_code
def yX1_canFree : MethodName := ⟨RX1, "canFree", "(II)Z"⟩
abbrev cX1_freeEdge : ByteArray := prog_3_method_15_code
def yX1_freeEdge : MethodName := ⟨RX1, "freeEdge", "(II)V"⟩
abbrev cX1_lay : ByteArray := prog_3_method_16_code
def yX1_lay : MethodName := ⟨RX1, "lay", "(III)V"⟩
abbrev cX1_strip : ByteArray := prog_3_method_17_code
def yX1_strip : MethodName := ⟨RX1, "strip", "(III)V"⟩
abbrev cX1_put : ByteArray := prog_3_method_18_code
def yX1_put : MethodName := ⟨RX1, "put", "(III)V"⟩
abbrev cX1_await : ByteArray := prog_3_method_19_code
def yX1_await : MethodName := ⟨RX1, "await", "(II)V"⟩
abbrev cX1_settle : ByteArray := prog_3_method_20_code
def yX1_settle : MethodName := ⟨RX1, "settle", "()V"⟩
abbrev cX1_flip : ByteArray := prog_3_method_21_code
def yX1_flip : MethodName := ⟨RX1, "flip", "(II)V"⟩
abbrev cX1_isInner : ByteArray := prog_3_method_22_code
def yX1_isInner : MethodName := ⟨RX1, "isInner", "(II)Z"⟩
abbrev cX1_isAllowed : ByteArray := prog_3_method_23_code
def yX1_isAllowed : MethodName := ⟨RX1, "isAllowed", "(II)Z"⟩
abbrev cX1_liftRound : ByteArray := prog_3_method_24_code
def yX1_liftRound : MethodName := ⟨RX1, "liftRound", "()V"⟩
abbrev cX1_liftFrom : ByteArray := prog_3_method_25_code
def yX1_liftFrom : MethodName := ⟨RX1, "liftFrom", "(II)V"⟩
abbrev cX1_under : ByteArray := prog_3_method_26_code
def yX1_under : MethodName := ⟨RX1, "under", "(IIIIIJ)J"⟩
abbrev cX1_underCircle : ByteArray := prog_3_method_27_code
def yX1_underCircle : MethodName := ⟨RX1, "underCircle", "(III)J"⟩
abbrev cX1_list : ByteArray := prog_3_method_28_code
def yX1_list : MethodName := ⟨RX1, "list", "()V"⟩
abbrev cX1_listEdge : ByteArray := prog_3_method_29_code
def yX1_listEdge : MethodName := ⟨RX1, "listEdge", "(II)V"⟩
abbrev cX1_listTriangle : ByteArray := prog_3_method_30_code
def yX1_listTriangle : MethodName := ⟨RX1, "listTriangle", "(III)V"⟩
abbrev cX1_hasTriangle : ByteArray := prog_3_method_31_code
def yX1_hasTriangle : MethodName := ⟨RX1, "hasTriangle", "(I)Z"⟩
abbrev cX1_cornerOf : ByteArray := prog_3_method_32_code
def yX1_cornerOf : MethodName := ⟨RX1, "cornerOf", "(II)I"⟩
abbrev cX1_isNear : ByteArray := prog_3_method_33_code
def yX1_isNear : MethodName := ⟨RX1, "isNear", "(II)Z"⟩
abbrev cX1_across : ByteArray := prog_3_method_34_code
def yX1_across : MethodName := ⟨RX1, "across", "(II)I"⟩
abbrev cX1_isOpen : ByteArray := prog_3_method_35_code
def yX1_isOpen : MethodName := ⟨RX1, "isOpen", "(II)Z"⟩
abbrev cX1_areaOf : ByteArray := prog_3_method_36_code
def yX1_areaOf : MethodName := ⟨RX1, "areaOf", "(I)I"⟩
abbrev cX1_sideOf : ByteArray := prog_3_method_37_code
def yX1_sideOf : MethodName := ⟨RX1, "sideOf", "(IIII)I"⟩
abbrev cX1_sideSquare : ByteArray := prog_3_method_38_code
def yX1_sideSquare : MethodName := ⟨RX1, "sideSquare", "(II)I"⟩
abbrev cX1_squareOf : ByteArray := prog_3_method_39_code
def yX1_squareOf : MethodName := ⟨RX1, "squareOf", "(I)I"⟩
abbrev cX1_holds : ByteArray := prog_3_method_40_code
def yX1_holds : MethodName := ⟨RX1, "holds", "(III)Z"⟩
abbrev cX1_whereIn : ByteArray := prog_3_method_41_code
def yX1_whereIn : MethodName := ⟨RX1, "whereIn", "(II)I"⟩
abbrev cX1_goRound : ByteArray := prog_3_method_42_code
def yX1_goRound : MethodName := ⟨RX1, "goRound", "(I)I"⟩
abbrev cX1_firstOfRound : ByteArray := prog_3_method_43_code
def yX1_firstOfRound : MethodName := ⟨RX1, "firstOfRound", "(I)I"⟩
abbrev cX1_isInSight : ByteArray := prog_3_method_44_code
def yX1_isInSight : MethodName := ⟨RX1, "isInSight", "(II)Z"⟩
abbrev cX1_countCut : ByteArray := prog_3_method_45_code
def yX1_countCut : MethodName := ⟨RX1, "countCut", "(IIII)I"⟩
abbrev cX1_countFixed : ByteArray := prog_3_method_46_code
def yX1_countFixed : MethodName := ⟨RX1, "countFixed", "()I"⟩
abbrev cX1_countBorder : ByteArray := prog_3_method_47_code
def yX1_countBorder : MethodName := ⟨RX1, "countBorder", "()I"⟩
abbrev cX1_isBent : ByteArray := prog_3_method_48_code
def yX1_isBent : MethodName := ⟨RX1, "isBent", "(I)Z"⟩
abbrev cX1_countBent : ByteArray := prog_3_method_49_code
def yX1_countBent : MethodName := ⟨RX1, "countBent", "()I"⟩
abbrev cX1_countAngles : ByteArray := prog_3_method_50_code
def yX1_countAngles : MethodName := ⟨RX1, "countAngles", "(I)I"⟩
abbrev cX1_longestSide : ByteArray := prog_3_method_51_code
def yX1_longestSide : MethodName := ⟨RX1, "longestSide", "(I)I"⟩
abbrev cX1_thinnestOne : ByteArray := prog_3_method_52_code
def yX1_thinnestOne : MethodName := ⟨RX1, "thinnestOne", "()I"⟩
abbrev cX1_lowestNear : ByteArray := prog_3_method_53_code
def yX1_lowestNear : MethodName := ⟨RX1, "lowestNear", "(I)I"⟩
def RX2 : String := "SquareMesh$Passages"
def TX2 : u_T := fun k => match k with
  | 0 => ("SquareMesh$Passages", "far", "[I", true)
  | 1 => ("SquareMesh$Passages", "last", "I", false)
  | _ => ("SquareMesh$Passages", "queue", "[I", true)
def tyX2 : Nat → FieldType := fun k => match k with
  | 0 => .array .int
  | 1 => .int
  | _ => .array .int
theorem nmX2 : ∀ a, a < 3 → ∀ b, b < 3 → a ≠ b → (TX2 a).2.1 ≠ (TX2 b).2.1 := by decide +kernel
theorem tyX2_ok : ∀ k, k < 3 → parseFieldDescriptor (TX2 k).2.2.1 = some (tyX2 k) := by decide +kernel
abbrev cX2_init : ByteArray := prog_4_method_1_code
def yX2_init : MethodName := ⟨RX2, "<init>", "()V"⟩
abbrev cX2_spread : ByteArray := prog_4_method_2_code
def yX2_spread : MethodName := ⟨RX2, "spread", "(LSquareMesh$Mesh;I)V"⟩
abbrev cX2_follow : ByteArray := prog_4_method_3_code
def yX2_follow : MethodName := ⟨RX2, "follow", "(LSquareMesh$Mesh;II)I"⟩
abbrev cX2_nextOn : ByteArray := prog_4_method_4_code
def yX2_nextOn : MethodName := ⟨RX2, "nextOn", "(LSquareMesh$Mesh;I)I"⟩
abbrev cX2_walkTo : ByteArray := prog_4_method_5_code
def yX2_walkTo : MethodName := ⟨RX2, "walkTo", "(LSquareMesh$Mesh;III)I"⟩
abbrev cX2_nextOnWalk : ByteArray := prog_4_method_6_code
def yX2_nextOnWalk : MethodName := ⟨RX2, "nextOnWalk", "(LSquareMesh$Mesh;II)I"⟩
def RX3 : String := "SquareMesh$Past"
def TX3 : u_T := fun k => match k with
  | 0 => ("SquareMesh$Past", "numbers", "[I", true)
  | 1 => ("SquareMesh$Past", "bits", "[J", true)
  | _ => ("SquareMesh$Past", "count", "I", false)
def tyX3 : Nat → FieldType := fun k => match k with
  | 0 => .array .int
  | 1 => .array .long
  | _ => .int
theorem nmX3 : ∀ a, a < 3 → ∀ b, b < 3 → a ≠ b → (TX3 a).2.1 ≠ (TX3 b).2.1 := by decide +kernel
theorem tyX3_ok : ∀ k, k < 3 → parseFieldDescriptor (TX3 k).2.2.1 = some (tyX3 k) := by decide +kernel
abbrev cX3_init : ByteArray := prog_5_method_1_code
def yX3_init : MethodName := ⟨RX3, "<init>", "()V"⟩
abbrev cX3_push : ByteArray := prog_5_method_2_code
def yX3_push : MethodName := ⟨RX3, "push", "(LSquareMesh$Mesh;)V"⟩
abbrev cX3_forgetOldest : ByteArray := prog_5_method_3_code
def yX3_forgetOldest : MethodName := ⟨RX3, "forgetOldest", "()V"⟩
abbrev cX3_pop : ByteArray := prog_5_method_4_code
def yX3_pop : MethodName := ⟨RX3, "pop", "(LSquareMesh$Mesh;)Z"⟩
abbrev cX3_keepTop : ByteArray := prog_5_method_5_code
def yX3_keepTop : MethodName := ⟨RX3, "keepTop", "(LSquareMesh$Mesh;)V"⟩
abbrev cX3_giveTop : ByteArray := prog_5_method_6_code
def yX3_giveTop : MethodName := ⟨RX3, "giveTop", "(LSquareMesh$Mesh;)V"⟩
abbrev cX3_copyFrom : ByteArray := prog_5_method_7_code
def yX3_copyFrom : MethodName := ⟨RX3, "copyFrom", "(LSquareMesh$Past;)V"⟩
abbrev cX3_topHad : ByteArray := prog_5_method_8_code
def yX3_topHad : MethodName := ⟨RX3, "topHad", "(III)Z"⟩
def RX4 : String := "SquareMesh$Regions"
def TX4 : u_T := fun k => match k with
  | 0 => ("SquareMesh$Regions", "part", "[I", true)
  | 1 => ("SquareMesh$Regions", "holesIn", "[I", true)
  | 2 => ("SquareMesh$Regions", "count", "I", false)
  | _ => ("SquareMesh$Regions", "stack", "[I", true)
def tyX4 : Nat → FieldType := fun k => match k with
  | 0 => .array .int
  | 1 => .array .int
  | 2 => .int
  | _ => .array .int
theorem nmX4 : ∀ a, a < 4 → ∀ b, b < 4 → a ≠ b → (TX4 a).2.1 ≠ (TX4 b).2.1 := by decide +kernel
theorem tyX4_ok : ∀ k, k < 4 → parseFieldDescriptor (TX4 k).2.2.1 = some (tyX4 k) := by decide +kernel
abbrev cX4_init : ByteArray := prog_6_method_1_code
def yX4_init : MethodName := ⟨RX4, "<init>", "()V"⟩
abbrev cX4_find : ByteArray := prog_6_method_2_code
def yX4_find : MethodName := ⟨RX4, "find", "(LSquareMesh$Mesh;)V"⟩
abbrev cX4_flood : ByteArray := prog_6_method_3_code
def yX4_flood : MethodName := ⟨RX4, "flood", "(LSquareMesh$Mesh;I)V"⟩
abbrev cX4_countHollow : ByteArray := prog_6_method_4_code
def yX4_countHollow : MethodName := ⟨RX4, "countHollow", "()I"⟩
abbrev cX4_sizeOf : ByteArray := prog_6_method_5_code
def yX4_sizeOf : MethodName := ⟨RX4, "sizeOf", "(LSquareMesh$Mesh;I)I"⟩
abbrev cX4_areaOf : ByteArray := prog_6_method_6_code
def yX4_areaOf : MethodName := ⟨RX4, "areaOf", "(LSquareMesh$Mesh;I)I"⟩
abbrev cX4_pointsOf : ByteArray := prog_6_method_7_code
def yX4_pointsOf : MethodName := ⟨RX4, "pointsOf", "(LSquareMesh$Mesh;I)J"⟩
def RX5 : String := "SquareMesh$Told"
def TX5 : u_T := fun k => match k with
  | 0 => ("SquareMesh$Told", "xs", "[I", true)
  | 1 => ("SquareMesh$Told", "ys", "[I", true)
  | 2 => ("SquareMesh$Told", "heights", "[I", true)
  | 3 => ("SquareMesh$Told", "fixed", "[J", true)
  | 4 => ("SquareMesh$Told", "holeXs", "[I", true)
  | 5 => ("SquareMesh$Told", "holeYs", "[I", true)
  | 6 => ("SquareMesh$Told", "there", "J", false)
  | 7 => ("SquareMesh$Told", "holes", "I", false)
  | _ => ("SquareMesh$Told", "g", "I", false)
def tyX5 : Nat → FieldType := fun k => match k with
  | 0 => .array .int
  | 1 => .array .int
  | 2 => .array .int
  | 3 => .array .long
  | 4 => .array .int
  | 5 => .array .int
  | 6 => .long
  | 7 => .int
  | _ => .int
theorem nmX5 : ∀ a, a < 9 → ∀ b, b < 9 → a ≠ b → (TX5 a).2.1 ≠ (TX5 b).2.1 := by decide +kernel
theorem tyX5_ok : ∀ k, k < 9 → parseFieldDescriptor (TX5 k).2.2.1 = some (tyX5 k) := by decide +kernel
abbrev cX5_init : ByteArray := prog_7_method_1_code
def yX5_init : MethodName := ⟨RX5, "<init>", "()V"⟩
abbrev cX5_copyFrom : ByteArray := prog_7_method_2_code
def yX5_copyFrom : MethodName := ⟨RX5, "copyFrom", "(LSquareMesh$Told;)V"⟩
abbrev cX5_copyTo : ByteArray := prog_7_method_3_code
def yX5_copyTo : MethodName := ⟨RX5, "copyTo", "([II[JI)V"⟩
abbrev cX5_copyFrom_ : ByteArray := prog_7_method_4_code
def yX5_copyFrom_ : MethodName := ⟨RX5, "copyFrom", "([II[JI)V"⟩
abbrev cX5_has : ByteArray := prog_7_method_5_code
def yX5_has : MethodName := ⟨RX5, "has", "(I)Z"⟩
abbrev cX5_points : ByteArray := prog_7_method_6_code
def yX5_points : MethodName := ⟨RX5, "points", "()I"⟩
abbrev cX5_place : ByteArray := prog_7_method_7_code
def yX5_place : MethodName := ⟨RX5, "place", "(III)V"⟩
abbrev cX5_remove : ByteArray := prog_7_method_8_code
def yX5_remove : MethodName := ⟨RX5, "remove", "(I)V"⟩
abbrev cX5_atPlace : ByteArray := prog_7_method_9_code
def yX5_atPlace : MethodName := ⟨RX5, "atPlace", "(II)I"⟩
abbrev cX5_leastUnused : ByteArray := prog_7_method_10_code
def yX5_leastUnused : MethodName := ⟨RX5, "leastUnused", "()I"⟩
abbrev cX5_takes : ByteArray := prog_7_method_11_code
def yX5_takes : MethodName := ⟨RX5, "takes", "(II)Z"⟩
abbrev cX5_isLoose : ByteArray := prog_7_method_12_code
def yX5_isLoose : MethodName := ⟨RX5, "isLoose", "(I)Z"⟩
abbrev cX5_isOnBorder : ByteArray := prog_7_method_13_code
def yX5_isOnBorder : MethodName := ⟨RX5, "isOnBorder", "(I)Z"⟩
abbrev cX5_isBound : ByteArray := prog_7_method_14_code
def yX5_isBound : MethodName := ⟨RX5, "isBound", "(II)Z"⟩
abbrev cX5_bind : ByteArray := prog_7_method_15_code
def yX5_bind : MethodName := ⟨RX5, "bind", "(II)V"⟩
abbrev cX5_unbind : ByteArray := prog_7_method_16_code
def yX5_unbind : MethodName := ⟨RX5, "unbind", "(II)V"⟩
abbrev cX5_draw : ByteArray := prog_7_method_17_code
def yX5_draw : MethodName := ⟨RX5, "draw", "(I)I"⟩
abbrev cX5_side : ByteArray := prog_7_method_18_code
def yX5_side : MethodName := ⟨RX5, "side", "(IIII)I"⟩
abbrev cX5_side_ : ByteArray := prog_7_method_19_code
def yX5_side_ : MethodName := ⟨RX5, "side", "(III)I"⟩
abbrev cX5_square : ByteArray := prog_7_method_20_code
def yX5_square : MethodName := ⟨RX5, "square", "(II)I"⟩
abbrev cX5_ahead : ByteArray := prog_7_method_21_code
def yX5_ahead : MethodName := ⟨RX5, "ahead", "(II)I"⟩
abbrev cX5_isBetween : ByteArray := prog_7_method_22_code
def yX5_isBetween : MethodName := ⟨RX5, "isBetween", "(III)Z"⟩
abbrev cX5_isCut : ByteArray := prog_7_method_23_code
def yX5_isCut : MethodName := ⟨RX5, "isCut", "(IIIIII)Z"⟩
abbrev cX5_isCutBy : ByteArray := prog_7_method_24_code
def yX5_isCutBy : MethodName := ⟨RX5, "isCutBy", "(IIII)Z"⟩
def RX6 : String := "SquareMesh$Tree"
def TX6 : u_T := fun k => match k with
  | 0 => ("SquareMesh$Tree", "taken", "[I", true)
  | 1 => ("SquareMesh$Tree", "count", "I", false)
  | _ => ("SquareMesh$Tree", "part", "[I", true)
def tyX6 : Nat → FieldType := fun k => match k with
  | 0 => .array .int
  | 1 => .int
  | _ => .array .int
theorem nmX6 : ∀ a, a < 3 → ∀ b, b < 3 → a ≠ b → (TX6 a).2.1 ≠ (TX6 b).2.1 := by decide +kernel
theorem tyX6_ok : ∀ k, k < 3 → parseFieldDescriptor (TX6 k).2.2.1 = some (tyX6 k) := by decide +kernel
abbrev cX6_init : ByteArray := prog_8_method_1_code
def yX6_init : MethodName := ⟨RX6, "<init>", "()V"⟩
abbrev cX6_grow : ByteArray := prog_8_method_2_code
def yX6_grow : MethodName := ⟨RX6, "grow", "(LSquareMesh$Mesh;)V"⟩
abbrev cX6_leastJoining : ByteArray := prog_8_method_3_code
def yX6_leastJoining : MethodName := ⟨RX6, "leastJoining", "(LSquareMesh$Mesh;)I"⟩
abbrev cX6_unite : ByteArray := prog_8_method_4_code
def yX6_unite : MethodName := ⟨RX6, "unite", "(II)V"⟩
def RX7 : String := "SquareMesh$Ways"
def TX7 : u_T := fun k => match k with
  | 0 => ("SquareMesh$Ways", "far", "[I", true)
  | _ => ("SquareMesh$Ways", "costs", "[I", true)
def tyX7 : Nat → FieldType := fun k => match k with
  | 0 => .array .int
  | _ => .array .int
theorem nmX7 : ∀ a, a < 2 → ∀ b, b < 2 → a ≠ b → (TX7 a).2.1 ≠ (TX7 b).2.1 := by decide +kernel
theorem tyX7_ok : ∀ k, k < 2 → parseFieldDescriptor (TX7 k).2.2.1 = some (tyX7 k) := by decide +kernel
abbrev cX7_init : ByteArray := prog_9_method_1_code
def yX7_init : MethodName := ⟨RX7, "<init>", "()V"⟩
abbrev cX7_ringOf : ByteArray := prog_9_method_2_code
def yX7_ringOf : MethodName := ⟨RX7, "ringOf", "(LSquareMesh$Mesh;II)J"⟩
abbrev cX7_nextTo : ByteArray := prog_9_method_3_code
def yX7_nextTo : MethodName := ⟨RX7, "nextTo", "(LSquareMesh$Mesh;J)J"⟩
abbrev cX7_countTo : ByteArray := prog_9_method_4_code
def yX7_countTo : MethodName := ⟨RX7, "countTo", "(LSquareMesh$Mesh;I)I"⟩
abbrev cX7_measureTo : ByteArray := prog_9_method_5_code
def yX7_measureTo : MethodName := ⟨RX7, "measureTo", "(LSquareMesh$Mesh;I)V"⟩
abbrev cX7_bringNearer : ByteArray := prog_9_method_6_code
def yX7_bringNearer : MethodName := ⟨RX7, "bringNearer", "(III)Z"⟩
abbrev cX7_follow : ByteArray := prog_9_method_7_code
def yX7_follow : MethodName := ⟨RX7, "follow", "(LSquareMesh$Mesh;IIZ)I"⟩
abbrev cX7_nextOn : ByteArray := prog_9_method_8_code
def yX7_nextOn : MethodName := ⟨RX7, "nextOn", "(LSquareMesh$Mesh;IZ)I"⟩
def RX8 : String := "SquareMesh"
def TX8 : u_T := fun k => match k with
  | 0 => ("SquareMesh", "mesh", "LSquareMesh$Mesh;", true)
  | 1 => ("SquareMesh", "tried", "LSquareMesh$Mesh;", true)
  | 2 => ("SquareMesh", "past", "LSquareMesh$Past;", true)
  | 3 => ("SquareMesh", "pictured", "LSquareMesh$Past;", true)
  | 4 => ("SquareMesh", "regions", "LSquareMesh$Regions;", true)
  | 5 => ("SquareMesh", "ways", "LSquareMesh$Ways;", true)
  | 6 => ("SquareMesh", "passages", "LSquareMesh$Passages;", true)
  | 7 => ("SquareMesh", "grown", "LSquareMesh$Tree;", true)
  | 8 => ("SquareMesh", "wrapped", "LSquareMesh$Hull;", true)
  | _ => ("SquareMesh", "colours", "[I", true)
def tyX8 : Nat → FieldType := fun k => match k with
  | 0 => .object "SquareMesh$Mesh"
  | 1 => .object "SquareMesh$Mesh"
  | 2 => .object "SquareMesh$Past"
  | 3 => .object "SquareMesh$Past"
  | 4 => .object "SquareMesh$Regions"
  | 5 => .object "SquareMesh$Ways"
  | 6 => .object "SquareMesh$Passages"
  | 7 => .object "SquareMesh$Tree"
  | 8 => .object "SquareMesh$Hull"
  | _ => .array .int
theorem nmX8 : ∀ a, a < 10 → ∀ b, b < 10 → a ≠ b → (TX8 a).2.1 ≠ (TX8 b).2.1 := by decide +kernel
theorem tyX8_ok : ∀ k, k < 10 → parseFieldDescriptor (TX8 k).2.2.1 = some (tyX8 k) := by decide +kernel
abbrev cX8_init : ByteArray := prog_1_method_1_code
def yX8_init : MethodName := ⟨RX8, "<init>", "()V"⟩
abbrev cX8_point : ByteArray := prog_1_method_2_code
def yX8_point : MethodName := ⟨RX8, "point", "(II)I"⟩
abbrev cX8_drop : ByteArray := prog_1_method_3_code
def yX8_drop : MethodName := ⟨RX8, "drop", "(I)Z"⟩
abbrev cX8_move : ByteArray := prog_1_method_4_code
def yX8_move : MethodName := ⟨RX8, "move", "(III)Z"⟩
abbrev cX8_fix : ByteArray := prog_1_method_5_code
def yX8_fix : MethodName := ⟨RX8, "fix", "(II)Z"⟩
abbrev cX8_free : ByteArray := prog_1_method_6_code
def yX8_free : MethodName := ⟨RX8, "free", "(II)Z"⟩
abbrev cX8_drawn : ByteArray := prog_1_method_7_code
def yX8_drawn : MethodName := ⟨RX8, "drawn", "(II)I"⟩
abbrev cX8_height : ByteArray := prog_1_method_8_code
def yX8_height : MethodName := ⟨RX8, "height", "(II)Z"⟩
abbrev cX8_refine : ByteArray := prog_1_method_9_code
def yX8_refine : MethodName := ⟨RX8, "refine", "(I)I"⟩
abbrev cX8_refineOnce : ByteArray := prog_1_method_10_code
def yX8_refineOnce : MethodName := ⟨RX8, "refineOnce", "()Z"⟩
abbrev cX8_smooth : ByteArray := prog_1_method_11_code
def yX8_smooth : MethodName := ⟨RX8, "smooth", "()I"⟩
abbrev cX8_smoothOne : ByteArray := prog_1_method_12_code
def yX8_smoothOne : MethodName := ⟨RX8, "smoothOne", "(I)Z"⟩
abbrev cX8_hole : ByteArray := prog_1_method_13_code
def yX8_hole : MethodName := ⟨RX8, "hole", "(II)I"⟩
abbrev cX8_fill : ByteArray := prog_1_method_14_code
def yX8_fill : MethodName := ⟨RX8, "fill", "()I"⟩
abbrev cX8_tell : ByteArray := prog_1_method_15_code
def yX8_tell : MethodName := ⟨RX8, "tell", "(I)Z"⟩
abbrev cX8_undo : ByteArray := prog_1_method_16_code
def yX8_undo : MethodName := ⟨RX8, "undo", "()I"⟩
abbrev cX8_steps : ByteArray := prog_1_method_17_code
def yX8_steps : MethodName := ⟨RX8, "steps", "()I"⟩
abbrev cX8_image : ByteArray := prog_1_method_18_code
def yX8_image : MethodName := ⟨RX8, "image", "()I"⟩
abbrev cX8_back : ByteArray := prog_1_method_19_code
def yX8_back : MethodName := ⟨RX8, "back", "()I"⟩
abbrev cX8_fresh : ByteArray := prog_1_method_20_code
def yX8_fresh : MethodName := ⟨RX8, "fresh", "()I"⟩
abbrev cX8_is : ByteArray := prog_1_method_21_code
def yX8_is : MethodName := ⟨RX8, "is", "(I)I"⟩
abbrev cX8_isOfRegions : ByteArray := prog_1_method_22_code
def yX8_isOfRegions : MethodName := ⟨RX8, "isOfRegions", "(I)I"⟩
abbrev cX8_of : ByteArray := prog_1_method_23_code
def yX8_of : MethodName := ⟨RX8, "of", "(II)I"⟩
abbrev cX8_at : ByteArray := prog_1_method_24_code
def yX8_at : MethodName := ⟨RX8, "at", "(II)I"⟩
abbrev cX8_corner : ByteArray := prog_1_method_25_code
def yX8_corner : MethodName := ⟨RX8, "corner", "(II)I"⟩
abbrev cX8_beyond : ByteArray := prog_1_method_26_code
def yX8_beyond : MethodName := ⟨RX8, "beyond", "(II)I"⟩
abbrev cX8_area : ByteArray := prog_1_method_27_code
def yX8_area : MethodName := ⟨RX8, "area", "(I)I"⟩
abbrev cX8_triangle : ByteArray := prog_1_method_28_code
def yX8_triangle : MethodName := ⟨RX8, "triangle", "(III)I"⟩
abbrev cX8_isEdge : ByteArray := prog_1_method_29_code
def yX8_isEdge : MethodName := ⟨RX8, "isEdge", "(II)Z"⟩
abbrev cX8_isFixed : ByteArray := prog_1_method_30_code
def yX8_isFixed : MethodName := ⟨RX8, "isFixed", "(II)Z"⟩
abbrev cX8_in : ByteArray := prog_1_method_31_code
def yX8_in : MethodName := ⟨RX8, "in", "(II)I"⟩
abbrev cX8_lies : ByteArray := prog_1_method_32_code
def yX8_lies : MethodName := ⟨RX8, "lies", "(II)I"⟩
abbrev cX8_walk : ByteArray := prog_1_method_33_code
def yX8_walk : MethodName := ⟨RX8, "walk", "(IIII)I"⟩
abbrev cX8_star : ByteArray := prog_1_method_34_code
def yX8_star : MethodName := ⟨RX8, "star", "(II)I"⟩
abbrev cX8_ring : ByteArray := prog_1_method_35_code
def yX8_ring : MethodName := ⟨RX8, "ring", "(II)J"⟩
abbrev cX8_crossed : ByteArray := prog_1_method_36_code
def yX8_crossed : MethodName := ⟨RX8, "crossed", "(II)I"⟩
abbrev cX8_cut : ByteArray := prog_1_method_37_code
def yX8_cut : MethodName := ⟨RX8, "cut", "(IIII)I"⟩
abbrev cX8_sees : ByteArray := prog_1_method_38_code
def yX8_sees : MethodName := ⟨RX8, "sees", "(II)Z"⟩
abbrev cX8_seen : ByteArray := prog_1_method_39_code
def yX8_seen : MethodName := ⟨RX8, "seen", "(I)J"⟩
abbrev cX8_region : ByteArray := prog_1_method_40_code
def yX8_region : MethodName := ⟨RX8, "region", "(I)I"⟩
abbrev cX8_ofRegion : ByteArray := prog_1_method_41_code
def yX8_ofRegion : MethodName := ⟨RX8, "ofRegion", "(II)I"⟩
abbrev cX8_firm : ByteArray := prog_1_method_42_code
def yX8_firm : MethodName := ⟨RX8, "firm", "()I"⟩
abbrev cX8_nearest : ByteArray := prog_1_method_43_code
def yX8_nearest : MethodName := ⟨RX8, "nearest", "(II)I"⟩
abbrev cX8_length : ByteArray := prog_1_method_44_code
def yX8_length : MethodName := ⟨RX8, "length", "(I)I"⟩
abbrev cX8_busiest : ByteArray := prog_1_method_45_code
def yX8_busiest : MethodName := ⟨RX8, "busiest", "(I)I"⟩
abbrev cX8_thinnest : ByteArray := prog_1_method_46_code
def yX8_thinnest : MethodName := ⟨RX8, "thinnest", "()I"⟩
abbrev cX8_circle : ByteArray := prog_1_method_47_code
def yX8_circle : MethodName := ⟨RX8, "circle", "(III)I"⟩
abbrev cX8_mean : ByteArray := prog_1_method_48_code
def yX8_mean : MethodName := ⟨RX8, "mean", "()J"⟩
abbrev cX8_bitsOf : ByteArray := prog_1_method_49_code
def yX8_bitsOf : MethodName := ⟨RX8, "bitsOf", "(D)J"⟩
abbrev cX8_tree : ByteArray := prog_1_method_50_code
def yX8_tree : MethodName := ⟨RX8, "tree", "(II)I"⟩
abbrev cX8_way : ByteArray := prog_1_method_51_code
def yX8_way : MethodName := ⟨RX8, "way", "(III)I"⟩
abbrev cX8_shortest : ByteArray := prog_1_method_52_code
def yX8_shortest : MethodName := ⟨RX8, "shortest", "(III)I"⟩
abbrev cX8_centre : ByteArray := prog_1_method_53_code
def yX8_centre : MethodName := ⟨RX8, "centre", "(I)I"⟩
abbrev cX8_bent : ByteArray := prog_1_method_54_code
def yX8_bent : MethodName := ⟨RX8, "bent", "(I)I"⟩
abbrev cX8_colour : ByteArray := prog_1_method_55_code
def yX8_colour : MethodName := ⟨RX8, "colour", "(I)I"⟩
abbrev cX8_paint : ByteArray := prog_1_method_56_code
def yX8_paint : MethodName := ⟨RX8, "paint", "()I"⟩
abbrev cX8_leastColour : ByteArray := prog_1_method_57_code
def yX8_leastColour : MethodName := ⟨RX8, "leastColour", "(I)I"⟩
abbrev cX8_heightAt : ByteArray := prog_1_method_58_code
def yX8_heightAt : MethodName := ⟨RX8, "heightAt", "(II)I"⟩
abbrev cX8_level : ByteArray := prog_1_method_59_code
def yX8_level : MethodName := ⟨RX8, "level", "(I)I"⟩
abbrev cX8_drain : ByteArray := prog_1_method_60_code
def yX8_drain : MethodName := ⟨RX8, "drain", "(II)I"⟩
abbrev cX8_volume : ByteArray := prog_1_method_61_code
def yX8_volume : MethodName := ⟨RX8, "volume", "()J"⟩
abbrev cX8_passage : ByteArray := prog_1_method_62_code
def yX8_passage : MethodName := ⟨RX8, "passage", "(IIIII)I"⟩
abbrev cX8_hull : ByteArray := prog_1_method_63_code
def yX8_hull : MethodName := ⟨RX8, "hull", "(I)I"⟩
abbrev cX8_wouldPoint : ByteArray := prog_1_method_64_code
def yX8_wouldPoint : MethodName := ⟨RX8, "wouldPoint", "(II)I"⟩
abbrev cX8_wouldDrop : ByteArray := prog_1_method_65_code
def yX8_wouldDrop : MethodName := ⟨RX8, "wouldDrop", "(I)I"⟩
abbrev cX8_wouldFix : ByteArray := prog_1_method_66_code
def yX8_wouldFix : MethodName := ⟨RX8, "wouldFix", "(II)I"⟩
abbrev cX8_wouldFree : ByteArray := prog_1_method_67_code
def yX8_wouldFree : MethodName := ⟨RX8, "wouldFree", "(II)I"⟩
abbrev cX8_countNew : ByteArray := prog_1_method_68_code
def yX8_countNew : MethodName := ⟨RX8, "countNew", "()I"⟩
abbrev cX8_inSquare : ByteArray := prog_1_method_69_code
def yX8_inSquare : MethodName := ⟨RX8, "inSquare", "(II)Z"⟩
abbrev cX8_turn : ByteArray := prog_1_method_70_code
def yX8_turn : MethodName := ⟨RX8, "turn", "(IIIIII)I"⟩
abbrev cX8_areOpposite : ByteArray := prog_1_method_71_code
def yX8_areOpposite : MethodName := ⟨RX8, "areOpposite", "(II)Z"⟩
abbrev cX8_rootOf : ByteArray := prog_1_method_72_code
def yX8_rootOf : MethodName := ⟨RX8, "rootOf", "(I)I"⟩
def RX9 : String := "SquareMeshModel"
def TX9 : u_T := fun k => match k with
  | 0 => ("SquareMeshModel", "a", "[I", true)
  | 1 => ("SquareMeshModel", "image", "[I", true)
  | 2 => ("SquareMeshModel", "tri", "[I", true)
  | 3 => ("SquareMeshModel", "leftOf", "[I", true)
  | 4 => ("SquareMeshModel", "triangles", "I", false)
  | 5 => ("SquareMeshModel", "aside", "[I", true)
  | 6 => ("SquareMeshModel", "isSeen", "[Z", true)
  | 7 => ("SquareMeshModel", "star", "[I", true)
  | 8 => ("SquareMeshModel", "far", "[I", true)
  | 9 => ("SquareMeshModel", "regionOf", "[I", true)
  | 10 => ("SquareMeshModel", "colourOf", "[I", true)
  | 11 => ("SquareMeshModel", "longTo", "[I", true)
  | 12 => ("SquareMeshModel", "piece", "[I", true)
  | 13 => ("SquareMeshModel", "one", "I", false)
  | 14 => ("SquareMeshModel", "two", "I", false)
  | 15 => ("SquareMeshModel", "was", "[I", true)
  | 16 => ("SquareMeshModel", "wases", "I", false)
  | 17 => ("SquareMeshModel", "imageCode", "[I", true)
  | _ => ("SquareMeshModel", "imageMany", "I", false)
def tyX9 : Nat → FieldType := fun k => match k with
  | 0 => .array .int
  | 1 => .array .int
  | 2 => .array .int
  | 3 => .array .int
  | 4 => .int
  | 5 => .array .int
  | 6 => .array .boolean
  | 7 => .array .int
  | 8 => .array .int
  | 9 => .array .int
  | 10 => .array .int
  | 11 => .array .int
  | 12 => .array .int
  | 13 => .int
  | 14 => .int
  | 15 => .array .int
  | 16 => .int
  | 17 => .array .int
  | _ => .int
theorem nmX9 : ∀ a, a < 19 → ∀ b, b < 19 → a ≠ b → (TX9 a).2.1 ≠ (TX9 b).2.1 := by decide +kernel
theorem tyX9_ok : ∀ k, k < 19 → parseFieldDescriptor (TX9 k).2.2.1 = some (tyX9 k) := by decide +kernel
abbrev cX9_init : ByteArray := prog_11_method_1_code
def yX9_init : MethodName := ⟨RX9, "<init>", "()V"⟩
abbrev cX9_copy : ByteArray := prog_11_method_2_code
def yX9_copy : MethodName := ⟨RX9, "copy", "([I[I)V"⟩
abbrev cX9_isIn : ByteArray := prog_11_method_3_code
def yX9_isIn : MethodName := ⟨RX9, "isIn", "(III)Z"⟩
abbrev cX9_isInSquare : ByteArray := prog_11_method_4_code
def yX9_isInSquare : MethodName := ⟨RX9, "isInSquare", "(II)Z"⟩
abbrev cX9_floor : ByteArray := prog_11_method_5_code
def yX9_floor : MethodName := ⟨RX9, "floor", "(II)I"⟩
abbrev cX9_isPoint : ByteArray := prog_11_method_6_code
def yX9_isPoint : MethodName := ⟨RX9, "isPoint", "(I)Z"⟩
abbrev cX9_xOf : ByteArray := prog_11_method_7_code
def yX9_xOf : MethodName := ⟨RX9, "xOf", "(I)I"⟩
abbrev cX9_yOf : ByteArray := prog_11_method_8_code
def yX9_yOf : MethodName := ⟨RX9, "yOf", "(I)I"⟩
abbrev cX9_highOf : ByteArray := prog_11_method_9_code
def yX9_highOf : MethodName := ⟨RX9, "highOf", "(I)I"⟩
abbrev cX9_lay : ByteArray := prog_11_method_10_code
def yX9_lay : MethodName := ⟨RX9, "lay", "(III)V"⟩
abbrev cX9_fixedAt : ByteArray := prog_11_method_11_code
def yX9_fixedAt : MethodName := ⟨RX9, "fixedAt", "(II)I"⟩
abbrev cX9_fixNow : ByteArray := prog_11_method_12_code
def yX9_fixNow : MethodName := ⟨RX9, "fixNow", "(III)V"⟩
abbrev cX9_pointAt : ByteArray := prog_11_method_13_code
def yX9_pointAt : MethodName := ⟨RX9, "pointAt", "(II)I"⟩
abbrev cX9_freeNumber : ByteArray := prog_11_method_14_code
def yX9_freeNumber : MethodName := ⟨RX9, "freeNumber", "()I"⟩
abbrev cX9_isAhead : ByteArray := prog_11_method_15_code
def yX9_isAhead : MethodName := ⟨RX9, "isAhead", "(II)Z"⟩
abbrev cX9_sideOf : ByteArray := prog_11_method_16_code
def yX9_sideOf : MethodName := ⟨RX9, "sideOf", "(IIII)I"⟩
abbrev cX9_turnOf : ByteArray := prog_11_method_17_code
def yX9_turnOf : MethodName := ⟨RX9, "turnOf", "(III)I"⟩
abbrev cX9_isBetween : ByteArray := prog_11_method_18_code
def yX9_isBetween : MethodName := ⟨RX9, "isBetween", "(IIII)Z"⟩
abbrev cX9_squareOf : ByteArray := prog_11_method_19_code
def yX9_squareOf : MethodName := ⟨RX9, "squareOf", "(II)I"⟩
abbrev cX9_areApart : ByteArray := prog_11_method_20_code
def yX9_areApart : MethodName := ⟨RX9, "areApart", "(II)Z"⟩
abbrev cX9_crosses : ByteArray := prog_11_method_21_code
def yX9_crosses : MethodName := ⟨RX9, "crosses", "(IIII)Z"⟩
abbrev cX9_isClear : ByteArray := prog_11_method_22_code
def yX9_isClear : MethodName := ⟨RX9, "isClear", "(II)Z"⟩
abbrev cX9_isUncut : ByteArray := prog_11_method_23_code
def yX9_isUncut : MethodName := ⟨RX9, "isUncut", "(II)Z"⟩
abbrev cX9_seesNow : ByteArray := prog_11_method_24_code
def yX9_seesNow : MethodName := ⟨RX9, "seesNow", "(II)Z"⟩
abbrev cX9_insideOf : ByteArray := prog_11_method_25_code
def yX9_insideOf : MethodName := ⟨RX9, "insideOf", "(IIIII)J"⟩
abbrev cX9_insideBy : ByteArray := prog_11_method_26_code
def yX9_insideBy : MethodName := ⟨RX9, "insideBy", "(IIII)J"⟩
abbrev cX9_leftAt : ByteArray := prog_11_method_27_code
def yX9_leftAt : MethodName := ⟨RX9, "leftAt", "(II)I"⟩
abbrev cX9_isEdgeNow : ByteArray := prog_11_method_28_code
def yX9_isEdgeNow : MethodName := ⟨RX9, "isEdgeNow", "(II)Z"⟩
abbrev cX9_isBetter : ByteArray := prog_11_method_29_code
def yX9_isBetter : MethodName := ⟨RX9, "isBetter", "(IIII)Z"⟩
abbrev cX9_cornerFor : ByteArray := prog_11_method_30_code
def yX9_cornerFor : MethodName := ⟨RX9, "cornerFor", "(II)I"⟩
abbrev cX9_comeTriangle : ByteArray := prog_11_method_31_code
def yX9_comeTriangle : MethodName := ⟨RX9, "comeTriangle", "(III)V"⟩
abbrev cX9_isBorder : ByteArray := prog_11_method_32_code
def yX9_isBorder : MethodName := ⟨RX9, "isBorder", "(II)Z"⟩
abbrev cX9_isInward : ByteArray := prog_11_method_33_code
def yX9_isInward : MethodName := ⟨RX9, "isInward", "(II)Z"⟩
abbrev cX9_layMesh : ByteArray := prog_11_method_34_code
def yX9_layMesh : MethodName := ⟨RX9, "layMesh", "()V"⟩
abbrev cX9_order : ByteArray := prog_11_method_35_code
def yX9_order : MethodName := ⟨RX9, "order", "()V"⟩
abbrev cX9_codeOf : ByteArray := prog_11_method_36_code
def yX9_codeOf : MethodName := ⟨RX9, "codeOf", "(I)I"⟩
abbrev cX9_putAside : ByteArray := prog_11_method_37_code
def yX9_putAside : MethodName := ⟨RX9, "putAside", "()V"⟩
abbrev cX9_bringBack : ByteArray := prog_11_method_38_code
def yX9_bringBack : MethodName := ⟨RX9, "bringBack", "()V"⟩
abbrev cX9_stepAt : ByteArray := prog_11_method_39_code
def yX9_stepAt : MethodName := ⟨RX9, "stepAt", "(II)I"⟩
abbrev cX9_keep : ByteArray := prog_11_method_40_code
def yX9_keep : MethodName := ⟨RX9, "keep", "()V"⟩
abbrev cX9_hole : ByteArray := prog_11_method_41_code
def yX9_hole : MethodName := ⟨RX9, "hole", "(II)I"⟩
abbrev cX9_fill : ByteArray := prog_11_method_42_code
def yX9_fill : MethodName := ⟨RX9, "fill", "()I"⟩
abbrev cX9_undo : ByteArray := prog_11_method_43_code
def yX9_undo : MethodName := ⟨RX9, "undo", "()I"⟩
abbrev cX9_tellAt : ByteArray := prog_11_method_44_code
def yX9_tellAt : MethodName := ⟨RX9, "tellAt", "(III)V"⟩
abbrev cX9_tellNew : ByteArray := prog_11_method_45_code
def yX9_tellNew : MethodName := ⟨RX9, "tellNew", "(II)I"⟩
abbrev cX9_canTell : ByteArray := prog_11_method_46_code
def yX9_canTell : MethodName := ⟨RX9, "canTell", "(II)Z"⟩
abbrev cX9_point : ByteArray := prog_11_method_47_code
def yX9_point : MethodName := ⟨RX9, "point", "(II)I"⟩
abbrev cX9_fixedOf : ByteArray := prog_11_method_48_code
def yX9_fixedOf : MethodName := ⟨RX9, "fixedOf", "(I)I"⟩
abbrev cX9_canGo : ByteArray := prog_11_method_49_code
def yX9_canGo : MethodName := ⟨RX9, "canGo", "(I)Z"⟩
abbrev cX9_takeOut : ByteArray := prog_11_method_50_code
def yX9_takeOut : MethodName := ⟨RX9, "takeOut", "(I)V"⟩
abbrev cX9_drop : ByteArray := prog_11_method_51_code
def yX9_drop : MethodName := ⟨RX9, "drop", "(I)Z"⟩
abbrev cX9_moveNow : ByteArray := prog_11_method_52_code
def yX9_moveNow : MethodName := ⟨RX9, "moveNow", "(III)V"⟩
abbrev cX9_move : ByteArray := prog_11_method_53_code
def yX9_move : MethodName := ⟨RX9, "move", "(III)Z"⟩
abbrev cX9_areTwo : ByteArray := prog_11_method_54_code
def yX9_areTwo : MethodName := ⟨RX9, "areTwo", "(II)Z"⟩
abbrev cX9_canFix : ByteArray := prog_11_method_55_code
def yX9_canFix : MethodName := ⟨RX9, "canFix", "(II)Z"⟩
abbrev cX9_fix : ByteArray := prog_11_method_56_code
def yX9_fix : MethodName := ⟨RX9, "fix", "(II)Z"⟩
abbrev cX9_canFree : ByteArray := prog_11_method_57_code
def yX9_canFree : MethodName := ⟨RX9, "canFree", "(II)Z"⟩
abbrev cX9_free : ByteArray := prog_11_method_58_code
def yX9_free : MethodName := ⟨RX9, "free", "(II)Z"⟩
abbrev cX9_draw : ByteArray := prog_11_method_59_code
def yX9_draw : MethodName := ⟨RX9, "draw", "(I)I"⟩
abbrev cX9_drawn : ByteArray := prog_11_method_60_code
def yX9_drawn : MethodName := ⟨RX9, "drawn", "(II)I"⟩
abbrev cX9_height : ByteArray := prog_11_method_61_code
def yX9_height : MethodName := ⟨RX9, "height", "(II)Z"⟩
abbrev cX9_cornerOf : ByteArray := prog_11_method_62_code
def yX9_cornerOf : MethodName := ⟨RX9, "cornerOf", "(II)I"⟩
abbrev cX9_edgeOf : ByteArray := prog_11_method_63_code
def yX9_edgeOf : MethodName := ⟨RX9, "edgeOf", "(II)I"⟩
abbrev cX9_longestOf : ByteArray := prog_11_method_64_code
def yX9_longestOf : MethodName := ⟨RX9, "longestOf", "(I)I"⟩
abbrev cX9_areaOf : ByteArray := prog_11_method_65_code
def yX9_areaOf : MethodName := ⟨RX9, "areaOf", "(I)I"⟩
abbrev cX9_thinnestNow : ByteArray := prog_11_method_66_code
def yX9_thinnestNow : MethodName := ⟨RX9, "thinnestNow", "()I"⟩
abbrev cX9_refineOnce : ByteArray := prog_11_method_67_code
def yX9_refineOnce : MethodName := ⟨RX9, "refineOnce", "()Z"⟩
abbrev cX9_refine : ByteArray := prog_11_method_68_code
def yX9_refine : MethodName := ⟨RX9, "refine", "(I)I"⟩
abbrev cX9_smoothOne : ByteArray := prog_11_method_69_code
def yX9_smoothOne : MethodName := ⟨RX9, "smoothOne", "(I)Z"⟩
abbrev cX9_smooth : ByteArray := prog_11_method_70_code
def yX9_smooth : MethodName := ⟨RX9, "smooth", "()I"⟩
abbrev cX9_tell : ByteArray := prog_11_method_71_code
def yX9_tell : MethodName := ⟨RX9, "tell", "(I)Z"⟩
abbrev cX9_points : ByteArray := prog_11_method_72_code
def yX9_points : MethodName := ⟨RX9, "points", "()I"⟩
abbrev cX9_edges : ByteArray := prog_11_method_73_code
def yX9_edges : MethodName := ⟨RX9, "edges", "()I"⟩
abbrev cX9_fixedBy : ByteArray := prog_11_method_74_code
def yX9_fixedBy : MethodName := ⟨RX9, "fixedBy", "(I)I"⟩
abbrev cX9_is : ByteArray := prog_11_method_75_code
def yX9_is : MethodName := ⟨RX9, "is", "(I)I"⟩
abbrev cX9_isOnBorder : ByteArray := prog_11_method_76_code
def yX9_isOnBorder : MethodName := ⟨RX9, "isOnBorder", "(I)Z"⟩
abbrev cX9_of : ByteArray := prog_11_method_77_code
def yX9_of : MethodName := ⟨RX9, "of", "(II)I"⟩
abbrev cX9_at : ByteArray := prog_11_method_78_code
def yX9_at : MethodName := ⟨RX9, "at", "(II)I"⟩
abbrev cX9_isTriangle : ByteArray := prog_11_method_79_code
def yX9_isTriangle : MethodName := ⟨RX9, "isTriangle", "(I)Z"⟩
abbrev cX9_corner : ByteArray := prog_11_method_80_code
def yX9_corner : MethodName := ⟨RX9, "corner", "(II)I"⟩
abbrev cX9_beyondOf : ByteArray := prog_11_method_81_code
def yX9_beyondOf : MethodName := ⟨RX9, "beyondOf", "(II)I"⟩
abbrev cX9_beyond : ByteArray := prog_11_method_82_code
def yX9_beyond : MethodName := ⟨RX9, "beyond", "(II)I"⟩
abbrev cX9_area : ByteArray := prog_11_method_83_code
def yX9_area : MethodName := ⟨RX9, "area", "(I)I"⟩
abbrev cX9_triangle : ByteArray := prog_11_method_84_code
def yX9_triangle : MethodName := ⟨RX9, "triangle", "(III)I"⟩
abbrev cX9_hasCorner : ByteArray := prog_11_method_85_code
def yX9_hasCorner : MethodName := ⟨RX9, "hasCorner", "(II)Z"⟩
abbrev cX9_isEdge : ByteArray := prog_11_method_86_code
def yX9_isEdge : MethodName := ⟨RX9, "isEdge", "(II)Z"⟩
abbrev cX9_isFixed : ByteArray := prog_11_method_87_code
def yX9_isFixed : MethodName := ⟨RX9, "isFixed", "(II)Z"⟩
abbrev cX9_holds : ByteArray := prog_11_method_88_code
def yX9_holds : MethodName := ⟨RX9, "holds", "(III)Z"⟩
abbrev cX9_inNow : ByteArray := prog_11_method_89_code
def yX9_inNow : MethodName := ⟨RX9, "inNow", "(II)I"⟩
abbrev cX9_in : ByteArray := prog_11_method_90_code
def yX9_in : MethodName := ⟨RX9, "in", "(II)I"⟩
abbrev cX9_lies : ByteArray := prog_11_method_91_code
def yX9_lies : MethodName := ⟨RX9, "lies", "(II)I"⟩
abbrev cX9_nextOf : ByteArray := prog_11_method_92_code
def yX9_nextOf : MethodName := ⟨RX9, "nextOf", "(III)I"⟩
abbrev cX9_walk : ByteArray := prog_11_method_93_code
def yX9_walk : MethodName := ⟨RX9, "walk", "(IIII)I"⟩
abbrev cX9_afterOf : ByteArray := prog_11_method_94_code
def yX9_afterOf : MethodName := ⟨RX9, "afterOf", "(II)I"⟩
abbrev cX9_firstOf : ByteArray := prog_11_method_95_code
def yX9_firstOf : MethodName := ⟨RX9, "firstOf", "(I)I"⟩
abbrev cX9_layStar : ByteArray := prog_11_method_96_code
def yX9_layStar : MethodName := ⟨RX9, "layStar", "(I)I"⟩
abbrev cX9_star : ByteArray := prog_11_method_97_code
def yX9_star : MethodName := ⟨RX9, "star", "(II)I"⟩
abbrev cX9_layFar : ByteArray := prog_11_method_98_code
def yX9_layFar : MethodName := ⟨RX9, "layFar", "(I)V"⟩
abbrev cX9_ring : ByteArray := prog_11_method_99_code
def yX9_ring : MethodName := ⟨RX9, "ring", "(II)J"⟩
abbrev cX9_crossed : ByteArray := prog_11_method_100_code
def yX9_crossed : MethodName := ⟨RX9, "crossed", "(II)I"⟩
abbrev cX9_sees : ByteArray := prog_11_method_101_code
def yX9_sees : MethodName := ⟨RX9, "sees", "(II)Z"⟩
abbrev cX9_seen : ByteArray := prog_11_method_102_code
def yX9_seen : MethodName := ⟨RX9, "seen", "(I)J"⟩
abbrev cX9_isShut : ByteArray := prog_11_method_103_code
def yX9_isShut : MethodName := ⟨RX9, "isShut", "(II)Z"⟩
abbrev cX9_layRegions : ByteArray := prog_11_method_104_code
def yX9_layRegions : MethodName := ⟨RX9, "layRegions", "()I"⟩
abbrev cX9_region : ByteArray := prog_11_method_105_code
def yX9_region : MethodName := ⟨RX9, "region", "(I)I"⟩
abbrev cX9_ofRegion : ByteArray := prog_11_method_106_code
def yX9_ofRegion : MethodName := ⟨RX9, "ofRegion", "(II)I"⟩
abbrev cX9_manyOf : ByteArray := prog_11_method_107_code
def yX9_manyOf : MethodName := ⟨RX9, "manyOf", "(I)I"⟩
abbrev cX9_areaIn : ByteArray := prog_11_method_108_code
def yX9_areaIn : MethodName := ⟨RX9, "areaIn", "(I)I"⟩
abbrev cX9_holesIn : ByteArray := prog_11_method_109_code
def yX9_holesIn : MethodName := ⟨RX9, "holesIn", "(I)I"⟩
abbrev cX9_pointsIn : ByteArray := prog_11_method_110_code
def yX9_pointsIn : MethodName := ⟨RX9, "pointsIn", "(I)I"⟩
abbrev cX9_hollows : ByteArray := prog_11_method_111_code
def yX9_hollows : MethodName := ⟨RX9, "hollows", "()I"⟩
abbrev cX9_firm : ByteArray := prog_11_method_112_code
def yX9_firm : MethodName := ⟨RX9, "firm", "()I"⟩
abbrev cX9_corners : ByteArray := prog_11_method_113_code
def yX9_corners : MethodName := ⟨RX9, "corners", "(Z)I"⟩
abbrev cX9_dotAt : ByteArray := prog_11_method_114_code
def yX9_dotAt : MethodName := ⟨RX9, "dotAt", "(III)I"⟩
abbrev cX9_layColours : ByteArray := prog_11_method_115_code
def yX9_layColours : MethodName := ⟨RX9, "layColours", "()I"⟩
abbrev cX9_isTaken : ByteArray := prog_11_method_116_code
def yX9_isTaken : MethodName := ⟨RX9, "isTaken", "(II)Z"⟩
abbrev cX9_colour : ByteArray := prog_11_method_117_code
def yX9_colour : MethodName := ⟨RX9, "colour", "(I)I"⟩
abbrev cX9_widthOf : ByteArray := prog_11_method_118_code
def yX9_widthOf : MethodName := ⟨RX9, "widthOf", "(I)I"⟩
abbrev cX9_centre : ByteArray := prog_11_method_119_code
def yX9_centre : MethodName := ⟨RX9, "centre", "(I)I"⟩
abbrev cX9_lengthOf : ByteArray := prog_11_method_120_code
def yX9_lengthOf : MethodName := ⟨RX9, "lengthOf", "(II)I"⟩
abbrev cX9_layLengths : ByteArray := prog_11_method_121_code
def yX9_layLengths : MethodName := ⟨RX9, "layLengths", "(I)V"⟩
abbrev cX9_shortest : ByteArray := prog_11_method_122_code
def yX9_shortest : MethodName := ⟨RX9, "shortest", "(III)I"⟩
abbrev cX9_isCutBy : ByteArray := prog_11_method_123_code
def yX9_isCutBy : MethodName := ⟨RX9, "isCutBy", "(IIIIII)Z"⟩
abbrev cX9_cut : ByteArray := prog_11_method_124_code
def yX9_cut : MethodName := ⟨RX9, "cut", "(IIII)I"⟩
abbrev cX9_nearest : ByteArray := prog_11_method_125_code
def yX9_nearest : MethodName := ⟨RX9, "nearest", "(II)I"⟩
abbrev cX9_wayTo : ByteArray := prog_11_method_126_code
def yX9_wayTo : MethodName := ⟨RX9, "wayTo", "(III)I"⟩
abbrev cX9_length : ByteArray := prog_11_method_127_code
def yX9_length : MethodName := ⟨RX9, "length", "(I)I"⟩
abbrev cX9_busiest : ByteArray := prog_11_method_128_code
def yX9_busiest : MethodName := ⟨RX9, "busiest", "(I)I"⟩
abbrev cX9_takeEdge : ByteArray := prog_11_method_129_code
def yX9_takeEdge : MethodName := ⟨RX9, "takeEdge", "()Z"⟩
abbrev cX9_tree : ByteArray := prog_11_method_130_code
def yX9_tree : MethodName := ⟨RX9, "tree", "(II)I"⟩
abbrev cX9_way : ByteArray := prog_11_method_131_code
def yX9_way : MethodName := ⟨RX9, "way", "(III)I"⟩
abbrev cX9_thirdOf : ByteArray := prog_11_method_132_code
def yX9_thirdOf : MethodName := ⟨RX9, "thirdOf", "(III)I"⟩
abbrev cX9_isBent : ByteArray := prog_11_method_133_code
def yX9_isBent : MethodName := ⟨RX9, "isBent", "(II)Z"⟩
abbrev cX9_bents : ByteArray := prog_11_method_134_code
def yX9_bents : MethodName := ⟨RX9, "bents", "()I"⟩
abbrev cX9_bent : ByteArray := prog_11_method_135_code
def yX9_bent : MethodName := ⟨RX9, "bent", "(I)I"⟩
abbrev cX9_thinnest : ByteArray := prog_11_method_136_code
def yX9_thinnest : MethodName := ⟨RX9, "thinnest", "()I"⟩
abbrev cX9_circle : ByteArray := prog_11_method_137_code
def yX9_circle : MethodName := ⟨RX9, "circle", "(III)I"⟩
abbrev cX9_heightAt : ByteArray := prog_11_method_138_code
def yX9_heightAt : MethodName := ⟨RX9, "heightAt", "(II)I"⟩
abbrev cX9_level : ByteArray := prog_11_method_139_code
def yX9_level : MethodName := ⟨RX9, "level", "(I)I"⟩
abbrev cX9_downOf : ByteArray := prog_11_method_140_code
def yX9_downOf : MethodName := ⟨RX9, "downOf", "(I)I"⟩
abbrev cX9_drain : ByteArray := prog_11_method_141_code
def yX9_drain : MethodName := ⟨RX9, "drain", "(II)I"⟩
abbrev cX9_volume : ByteArray := prog_11_method_142_code
def yX9_volume : MethodName := ⟨RX9, "volume", "()J"⟩
abbrev cX9_layPassages : ByteArray := prog_11_method_143_code
def yX9_layPassages : MethodName := ⟨RX9, "layPassages", "(I)V"⟩
abbrev cX9_nearerOf : ByteArray := prog_11_method_144_code
def yX9_nearerOf : MethodName := ⟨RX9, "nearerOf", "(I)I"⟩
abbrev cX9_passage : ByteArray := prog_11_method_145_code
def yX9_passage : MethodName := ⟨RX9, "passage", "(IIIII)I"⟩
abbrev cX9_hullNext : ByteArray := prog_11_method_146_code
def yX9_hullNext : MethodName := ⟨RX9, "hullNext", "(I)I"⟩
abbrev cX9_hull : ByteArray := prog_11_method_147_code
def yX9_hull : MethodName := ⟨RX9, "hull", "(I)I"⟩
abbrev cX9_keepTriangles : ByteArray := prog_11_method_148_code
def yX9_keepTriangles : MethodName := ⟨RX9, "keepTriangles", "()V"⟩
abbrev cX9_isAmong : ByteArray := prog_11_method_149_code
def yX9_isAmong : MethodName := ⟨RX9, "isAmong", "([III)Z"⟩
abbrev cX9_freshOnes : ByteArray := prog_11_method_150_code
def yX9_freshOnes : MethodName := ⟨RX9, "freshOnes", "()I"⟩
abbrev cX9_wouldPoint : ByteArray := prog_11_method_151_code
def yX9_wouldPoint : MethodName := ⟨RX9, "wouldPoint", "(II)I"⟩
abbrev cX9_wouldDrop : ByteArray := prog_11_method_152_code
def yX9_wouldDrop : MethodName := ⟨RX9, "wouldDrop", "(I)I"⟩
abbrev cX9_wouldFix : ByteArray := prog_11_method_153_code
def yX9_wouldFix : MethodName := ⟨RX9, "wouldFix", "(II)I"⟩
abbrev cX9_wouldFree : ByteArray := prog_11_method_154_code
def yX9_wouldFree : MethodName := ⟨RX9, "wouldFree", "(II)I"⟩
abbrev cX9_mean : ByteArray := prog_11_method_155_code
def yX9_mean : MethodName := ⟨RX9, "mean", "()J"⟩
abbrev cX9_keepImage : ByteArray := prog_11_method_156_code
def yX9_keepImage : MethodName := ⟨RX9, "keepImage", "()V"⟩
abbrev cX9_fresh : ByteArray := prog_11_method_157_code
def yX9_fresh : MethodName := ⟨RX9, "fresh", "()I"⟩
abbrev cX9_image : ByteArray := prog_11_method_158_code
def yX9_image : MethodName := ⟨RX9, "image", "()I"⟩
abbrev cX9_back : ByteArray := prog_11_method_159_code
def yX9_back : MethodName := ⟨RX9, "back", "()I"⟩
abbrev cX9_steps : ByteArray := prog_11_method_160_code
def yX9_steps : MethodName := ⟨RX9, "steps", "()I"⟩
def RJx145de : String := "java/io/Serializable"
def TJx145de : u_T := fun k => match k with
  | _ => ("", "", "", false)
def tyJx145de : Nat → FieldType := fun k => match k with
  | _ => .int
theorem nmJx145de : ∀ a, a < 0 → ∀ b, b < 0 → a ≠ b → (TJx145de a).2.1 ≠ (TJx145de b).2.1 := by decide +kernel
theorem tyJx145de_ok : ∀ k, k < 0 → parseFieldDescriptor (TJx145de k).2.2.1 = some (tyJx145de k) := by decide +kernel
def RJxb160c : String := "java/lang/Comparable"
def TJxb160c : u_T := fun k => match k with
  | _ => ("", "", "", false)
def tyJxb160c : Nat → FieldType := fun k => match k with
  | _ => .int
theorem nmJxb160c : ∀ a, a < 0 → ∀ b, b < 0 → a ≠ b → (TJxb160c a).2.1 ≠ (TJxb160c b).2.1 := by decide +kernel
theorem tyJxb160c_ok : ∀ k, k < 0 → parseFieldDescriptor (TJxb160c k).2.2.1 = some (tyJxb160c k) := by decide +kernel
def RJxe99ae : String := "java/lang/Double"
def TJxe99ae : u_T := fun k => match k with
  | _ => ("", "", "", false)
def tyJxe99ae : Nat → FieldType := fun k => match k with
  | _ => .int
theorem nmJxe99ae : ∀ a, a < 0 → ∀ b, b < 0 → a ≠ b → (TJxe99ae a).2.1 ≠ (TJxe99ae b).2.1 := by decide +kernel
theorem tyJxe99ae_ok : ∀ k, k < 0 → parseFieldDescriptor (TJxe99ae k).2.2.1 = some (tyJxe99ae k) := by decide +kernel
abbrev cJxe99ae_isNaN_b9ae7 : ByteArray := prog_12_method_6_code
def yJxe99ae_isNaN_b9ae7 : MethodName := ⟨RJxe99ae, "isNaN", "(D)Z"⟩
abbrev cJxe99ae_doubleToLongBits_ccdee : ByteArray := prog_12_method_23_code
def yJxe99ae_doubleToLongBits_ccdee : MethodName := ⟨RJxe99ae, "doubleToLongBits", "(D)J"⟩
def RJ6 : String := "java/lang/Integer"
def TJ6 : u_T := fun k => match k with
  | _ => ("", "", "", false)
def tyJ6 : Nat → FieldType := fun k => match k with
  | _ => .int
theorem nmJ6 : ∀ a, a < 0 → ∀ b, b < 0 → a ≠ b → (TJ6 a).2.1 ≠ (TJ6 b).2.1 := by decide +kernel
theorem tyJ6_ok : ∀ k, k < 0 → parseFieldDescriptor (TJ6 k).2.2.1 = some (tyJ6 k) := by decide +kernel
abbrev cJ6_compare_7cf53 : ByteArray := prog_13_method_40_code
def yJ6_compare_7cf53 : MethodName := ⟨RJ6, "compare", "(II)I"⟩
def RJ13 : String := "java/lang/Long"
def TJ13 : u_T := fun k => match k with
  | _ => ("", "", "", false)
def tyJ13 : Nat → FieldType := fun k => match k with
  | _ => .int
theorem nmJ13 : ∀ a, a < 0 → ∀ b, b < 0 → a ≠ b → (TJ13 a).2.1 ≠ (TJ13 b).2.1 := by decide +kernel
theorem tyJ13_ok : ∀ k, k < 0 → parseFieldDescriptor (TJ13 k).2.2.1 = some (tyJ13 k) := by decide +kernel
abbrev cJ13_compare_74951 : ByteArray := prog_14_method_42_code
def yJ13_compare_74951 : MethodName := ⟨RJ13, "compare", "(JJ)I"⟩
abbrev cJ13_bitCount_95d88 : ByteArray := prog_14_method_50_code
def yJ13_bitCount_95d88 : MethodName := ⟨RJ13, "bitCount", "(J)I"⟩
def RJ9 : String := "java/lang/Math"
def TJ9 : u_T := fun k => match k with
  | _ => ("", "", "", false)
def tyJ9 : Nat → FieldType := fun k => match k with
  | _ => .int
theorem nmJ9 : ∀ a, a < 0 → ∀ b, b < 0 → a ≠ b → (TJ9 a).2.1 ≠ (TJ9 b).2.1 := by decide +kernel
theorem tyJ9_ok : ∀ k, k < 0 → parseFieldDescriptor (TJ9 k).2.2.1 = some (tyJ9 k) := by decide +kernel
abbrev cJ9_floorDiv_7cf53 : ByteArray := prog_15_method_47_code
def yJ9_floorDiv_7cf53 : MethodName := ⟨RJ9, "floorDiv", "(II)I"⟩
abbrev cJ9_floorDiv_f86c9 : ByteArray := prog_15_method_49_code
def yJ9_floorDiv_f86c9 : MethodName := ⟨RJ9, "floorDiv", "(JJ)J"⟩
abbrev cJ9_abs_0f7a4 : ByteArray := prog_15_method_59_code
def yJ9_abs_0f7a4 : MethodName := ⟨RJ9, "abs", "(I)I"⟩
abbrev cJ9_max_7cf53 : ByteArray := prog_15_method_65_code
def yJ9_max_7cf53 : MethodName := ⟨RJ9, "max", "(II)I"⟩
def RJxd2413 : String := "java/lang/Number"
def TJxd2413 : u_T := fun k => match k with
  | _ => ("", "", "", false)
def tyJxd2413 : Nat → FieldType := fun k => match k with
  | _ => .int
theorem nmJxd2413 : ∀ a, a < 0 → ∀ b, b < 0 → a ≠ b → (TJxd2413 a).2.1 ≠ (TJxd2413 b).2.1 := by decide +kernel
theorem tyJxd2413_ok : ∀ k, k < 0 → parseFieldDescriptor (TJxd2413 k).2.2.1 = some (tyJxd2413 k) := by decide +kernel
def RJ10 : String := "java/lang/System"
def TJ10 : u_T := fun k => match k with
  | _ => ("", "", "", false)
def tyJ10 : Nat → FieldType := fun k => match k with
  | _ => .int
theorem nmJ10 : ∀ a, a < 0 → ∀ b, b < 0 → a ≠ b → (TJ10 a).2.1 ≠ (TJ10 b).2.1 := by decide +kernel
theorem tyJ10_ok : ∀ k, k < 0 → parseFieldDescriptor (TJ10 k).2.2.1 = some (tyJ10 k) := by decide +kernel
def RJxfd54e : String := "java/lang/constant/Constable"
def TJxfd54e : u_T := fun k => match k with
  | _ => ("", "", "", false)
def tyJxfd54e : Nat → FieldType := fun k => match k with
  | _ => .int
theorem nmJxfd54e : ∀ a, a < 0 → ∀ b, b < 0 → a ≠ b → (TJxfd54e a).2.1 ≠ (TJxfd54e b).2.1 := by decide +kernel
theorem tyJxfd54e_ok : ∀ k, k < 0 → parseFieldDescriptor (TJxfd54e k).2.2.1 = some (tyJxfd54e k) := by decide +kernel
def RJx3cf43 : String := "java/lang/constant/ConstantDesc"
def TJx3cf43 : u_T := fun k => match k with
  | _ => ("", "", "", false)
def tyJx3cf43 : Nat → FieldType := fun k => match k with
  | _ => .int
theorem nmJx3cf43 : ∀ a, a < 0 → ∀ b, b < 0 → a ≠ b → (TJx3cf43 a).2.1 ≠ (TJx3cf43 b).2.1 := by decide +kernel
theorem tyJx3cf43_ok : ∀ k, k < 0 → parseFieldDescriptor (TJx3cf43 k).2.2.1 = some (tyJx3cf43 k) := by decide +kernel
def RJ7 : String := "java/util/Arrays"
def TJ7 : u_T := fun k => match k with
  | _ => ("", "", "", false)
def tyJ7 : Nat → FieldType := fun k => match k with
  | _ => .int
theorem nmJ7 : ∀ a, a < 0 → ∀ b, b < 0 → a ≠ b → (TJ7 a).2.1 ≠ (TJ7 b).2.1 := by decide +kernel
theorem tyJ7_ok : ∀ k, k < 0 → parseFieldDescriptor (TJ7 k).2.2.1 = some (tyJ7 k) := by decide +kernel
abbrev cJ7_fill_d0a16 : ByteArray := prog_18_method_101_code
def yJ7_fill_d0a16 : MethodName := ⟨RJ7, "fill", "([JJ)V"⟩
abbrev cJ7_fill_53178 : ByteArray := prog_18_method_103_code
def yJ7_fill_53178 : MethodName := ⟨RJ7, "fill", "([II)V"⟩
def RL : String := "SquareMeshLaw"
abbrev cL_law : ByteArray := code
def yL_law : MethodName := ⟨RL, "law", "([I)Z"⟩
abbrev vwCl : List vw_C := [(RX0, TX0, 2), (RX1, TX1, 13), (RX2, TX2, 3), (RX3, TX3, 3), (RX4, TX4, 4), (RX5, TX5, 9), (RX6, TX6, 3), (RX7, TX7, 2), (RX8, TX8, 10), (RX9, TX9, 19)]
def pBl (b : Nat) : List Cond := match b with
  | 0 => k2_sels lw_privs
  | 1 => tables_1_1
  | 2 => tables_1_2
  | 3 => tables_1_3
  | 4 => tables_1_4
  | 5 => tables_1_5
  | 6 => tables_1_6
  | 7 => tables_1_7
  | 8 => tables_1_8
  | _ => []
theorem pBl_in {b : Nat} {w : Cond} (h : w ∈ pBl b) : w ∈ lw_tbl := by
  unfold pBl at h
  unfold lw_tbl tables_1
  split at h <;> first | (simp only [List.mem_append]; simp only [h, true_or, or_true]; done) | exact absurd h List.not_mem_nil
-- ===== the tables of the plain machine, by place among lw_tbl =====
def pON : List String := ["SquareMesh$Hull", "SquareMesh$Mesh", "SquareMesh$Passages", "SquareMesh$Past", "SquareMesh$Regions", "SquareMesh$Told", "SquareMesh$Tree", "SquareMesh$Ways", "SquareMesh", "SquareMeshModel", "java/io/Serializable", "java/lang/Comparable", "java/lang/Double", "java/lang/Integer", "java/lang/Long", "java/lang/Math", "java/lang/Number", "java/lang/System", "java/lang/constant/Constable", "java/lang/constant/ConstantDesc", "java/util/Arrays", "SquareMeshLaw"]
def pMs : List (MethodName × ByteArray × Nat × Option FieldType × Nat) := [
  (yX0_init, cX0_init, 1, none, 0),
  (yX0_wrap, cX0_wrap, 5, none, 0),
  (yX0_nextOnHull, cX0_nextOnHull, 4, (some .int), 0),
  (yX0_isOuter, cX0_isOuter, 5, (some .boolean), 0),
  (yX1_init, cX1_init, 1, none, 1),
  (yX1_start, cX1_start, 2, none, 1),
  (yX1_become, cX1_become, 2, none, 1),
  (yX1_layAll, cX1_layAll, 6, none, 1),
  (yX1_tellPoint, cX1_tellPoint, 4, (some .int), 1),
  (yX1_insert, cX1_insert, 8, none, 1),
  (yX1_join, cX1_join, 5, none, 1),
  (yX1_takeOut, cX1_takeOut, 4, none, 1),
  (yX1_cutEar, cX1_cutEar, 4, none, 1),
  (yX1_isEar, cX1_isEar, 9, (some .boolean), 1),
  (yX1_canFix, cX1_canFix, 3, (some .boolean), 1),
  (yX1_fixEdge, cX1_fixEdge, 4, none, 1),
  (yX1_flipCrossing, cX1_flipCrossing, 9, none, 1),
  (yX1_canFree, cX1_canFree, 3, (some .boolean), 1),
  (yX1_freeEdge, cX1_freeEdge, 3, none, 1),
  (yX1_lay, cX1_lay, 4, none, 1),
  (yX1_strip, cX1_strip, 4, none, 1),
  (yX1_put, cX1_put, 4, none, 1),
  (yX1_await, cX1_await, 5, none, 1),
  (yX1_settle, cX1_settle, 4, none, 1),
  (yX1_flip, cX1_flip, 5, none, 1),
  (yX1_isInner, cX1_isInner, 3, (some .boolean), 1),
  (yX1_isAllowed, cX1_isAllowed, 8, (some .boolean), 1),
  (yX1_liftRound, cX1_liftRound, 2, none, 1),
  (yX1_liftFrom, cX1_liftFrom, 4, none, 1),
  (yX1_under, cX1_under, 20, (some .long), 1),
  (yX1_underCircle, cX1_underCircle, 6, (some .long), 1),
  (yX1_list, cX1_list, 4, none, 1),
  (yX1_listEdge, cX1_listEdge, 3, none, 1),
  (yX1_listTriangle, cX1_listTriangle, 4, none, 1),
  (yX1_hasTriangle, cX1_hasTriangle, 2, (some .boolean), 1),
  (yX1_cornerOf, cX1_cornerOf, 3, (some .int), 1),
  (yX1_isNear, cX1_isNear, 3, (some .boolean), 1),
  (yX1_across, cX1_across, 4, (some .int), 1),
  (yX1_isOpen, cX1_isOpen, 3, (some .boolean), 1),
  (yX1_areaOf, cX1_areaOf, 2, (some .int), 1),
  (yX1_sideOf, cX1_sideOf, 5, (some .int), 1),
  (yX1_sideSquare, cX1_sideSquare, 3, (some .int), 1),
  (yX1_squareOf, cX1_squareOf, 2, (some .int), 1),
  (yX1_holds, cX1_holds, 4, (some .boolean), 1),
  (yX1_whereIn, cX1_whereIn, 4, (some .int), 1),
  (yX1_goRound, cX1_goRound, 6, (some .int), 1),
  (yX1_firstOfRound, cX1_firstOfRound, 4, (some .int), 1),
  (yX1_isInSight, cX1_isInSight, 6, (some .boolean), 1),
  (yX1_countCut, cX1_countCut, 7, (some .int), 1),
  (yX1_countFixed, cX1_countFixed, 3, (some .int), 1),
  (yX1_countBorder, cX1_countBorder, 3, (some .int), 1),
  (yX1_isBent, cX1_isBent, 4, (some .boolean), 1),
  (yX1_countBent, cX1_countBent, 3, (some .int), 1),
  (yX1_countAngles, cX1_countAngles, 6, (some .int), 1),
  (yX1_longestSide, cX1_longestSide, 4, (some .int), 1),
  (yX1_thinnestOne, cX1_thinnestOne, 11, (some .int), 1),
  (yX1_lowestNear, cX1_lowestNear, 4, (some .int), 1),
  (yX2_init, cX2_init, 1, none, 2),
  (yX2_spread, cX2_spread, 8, none, 2),
  (yX2_follow, cX2_follow, 6, (some .int), 2),
  (yX2_nextOn, cX2_nextOn, 6, (some .int), 2),
  (yX2_walkTo, cX2_walkTo, 8, (some .int), 2),
  (yX2_nextOnWalk, cX2_nextOnWalk, 6, (some .int), 2),
  (yX3_init, cX3_init, 1, none, 3),
  (yX3_push, cX3_push, 2, none, 3),
  (yX3_forgetOldest, cX3_forgetOldest, 1, none, 3),
  (yX3_pop, cX3_pop, 2, (some .boolean), 3),
  (yX3_keepTop, cX3_keepTop, 3, none, 3),
  (yX3_giveTop, cX3_giveTop, 3, none, 3),
  (yX3_copyFrom, cX3_copyFrom, 2, none, 3),
  (yX3_topHad, cX3_topHad, 8, (some .boolean), 3),
  (yX4_init, cX4_init, 1, none, 4),
  (yX4_find, cX4_find, 4, none, 4),
  (yX4_flood, cX4_flood, 8, none, 4),
  (yX4_countHollow, cX4_countHollow, 3, (some .int), 4),
  (yX4_sizeOf, cX4_sizeOf, 5, (some .int), 4),
  (yX4_areaOf, cX4_areaOf, 5, (some .int), 4),
  (yX4_pointsOf, cX4_pointsOf, 7, (some .long), 4),
  (yX5_init, cX5_init, 1, none, 5),
  (yX5_copyFrom, cX5_copyFrom, 2, none, 5),
  (yX5_copyTo, cX5_copyTo, 5, none, 5),
  (yX5_copyFrom_, cX5_copyFrom_, 5, none, 5),
  (yX5_has, cX5_has, 2, (some .boolean), 5),
  (yX5_points, cX5_points, 1, (some .int), 5),
  (yX5_place, cX5_place, 4, none, 5),
  (yX5_remove, cX5_remove, 2, none, 5),
  (yX5_atPlace, cX5_atPlace, 4, (some .int), 5),
  (yX5_leastUnused, cX5_leastUnused, 2, (some .int), 5),
  (yX5_takes, cX5_takes, 3, (some .boolean), 5),
  (yX5_isLoose, cX5_isLoose, 2, (some .boolean), 5),
  (yX5_isOnBorder, cX5_isOnBorder, 2, (some .boolean), 5),
  (yX5_isBound, cX5_isBound, 3, (some .boolean), 5),
  (yX5_bind, cX5_bind, 3, none, 5),
  (yX5_unbind, cX5_unbind, 3, none, 5),
  (yX5_draw, cX5_draw, 3, (some .int), 5),
  (yX5_side, cX5_side, 5, (some .int), 5),
  (yX5_side_, cX5_side_, 4, (some .int), 5),
  (yX5_square, cX5_square, 5, (some .int), 5),
  (yX5_ahead, cX5_ahead, 3, (some .int), 5),
  (yX5_isBetween, cX5_isBetween, 5, (some .boolean), 5),
  (yX5_isCut, cX5_isCut, 7, (some .boolean), 5),
  (yX5_isCutBy, cX5_isCutBy, 5, (some .boolean), 5),
  (yX6_init, cX6_init, 1, none, 6),
  (yX6_grow, cX6_grow, 4, none, 6),
  (yX6_leastJoining, cX6_leastJoining, 6, (some .int), 6),
  (yX6_unite, cX6_unite, 4, none, 6),
  (yX7_init, cX7_init, 1, none, 7),
  (yX7_ringOf, cX7_ringOf, 9, (some .long), 7),
  (yX7_nextTo, cX7_nextTo, 6, (some .long), 7),
  (yX7_countTo, cX7_countTo, 10, (some .int), 7),
  (yX7_measureTo, cX7_measureTo, 10, none, 7),
  (yX7_bringNearer, cX7_bringNearer, 4, (some .boolean), 7),
  (yX7_follow, cX7_follow, 7, (some .int), 7),
  (yX7_nextOn, cX7_nextOn, 6, (some .int), 7),
  (yX8_init, cX8_init, 1, none, 8),
  (yX8_point, cX8_point, 3, (some .int), 8),
  (yX8_drop, cX8_drop, 2, (some .boolean), 8),
  (yX8_move, cX8_move, 4, (some .boolean), 8),
  (yX8_fix, cX8_fix, 3, (some .boolean), 8),
  (yX8_free, cX8_free, 3, (some .boolean), 8),
  (yX8_drawn, cX8_drawn, 7, (some .int), 8),
  (yX8_height, cX8_height, 3, (some .boolean), 8),
  (yX8_refine, cX8_refine, 4, (some .int), 8),
  (yX8_refineOnce, cX8_refineOnce, 8, (some .boolean), 8),
  (yX8_smooth, cX8_smooth, 3, (some .int), 8),
  (yX8_smoothOne, cX8_smoothOne, 7, (some .boolean), 8),
  (yX8_hole, cX8_hole, 4, (some .int), 8),
  (yX8_fill, cX8_fill, 1, (some .int), 8),
  (yX8_tell, cX8_tell, 2, (some .boolean), 8),
  (yX8_undo, cX8_undo, 1, (some .int), 8),
  (yX8_steps, cX8_steps, 1, (some .int), 8),
  (yX8_image, cX8_image, 1, (some .int), 8),
  (yX8_back, cX8_back, 1, (some .int), 8),
  (yX8_fresh, cX8_fresh, 3, (some .int), 8),
  (yX8_is, cX8_is, 2, (some .int), 8),
  (yX8_isOfRegions, cX8_isOfRegions, 2, (some .int), 8),
  (yX8_of, cX8_of, 4, (some .int), 8),
  (yX8_at, cX8_at, 3, (some .int), 8),
  (yX8_corner, cX8_corner, 3, (some .int), 8),
  (yX8_beyond, cX8_beyond, 3, (some .int), 8),
  (yX8_area, cX8_area, 2, (some .int), 8),
  (yX8_triangle, cX8_triangle, 4, (some .int), 8),
  (yX8_isEdge, cX8_isEdge, 3, (some .boolean), 8),
  (yX8_isFixed, cX8_isFixed, 3, (some .boolean), 8),
  (yX8_in, cX8_in, 3, (some .int), 8),
  (yX8_lies, cX8_lies, 5, (some .int), 8),
  (yX8_walk, cX8_walk, 6, (some .int), 8),
  (yX8_star, cX8_star, 3, (some .int), 8),
  (yX8_ring, cX8_ring, 3, (some .long), 8),
  (yX8_crossed, cX8_crossed, 4, (some .int), 8),
  (yX8_cut, cX8_cut, 5, (some .int), 8),
  (yX8_sees, cX8_sees, 3, (some .boolean), 8),
  (yX8_seen, cX8_seen, 5, (some .long), 8),
  (yX8_region, cX8_region, 2, (some .int), 8),
  (yX8_ofRegion, cX8_ofRegion, 3, (some .int), 8),
  (yX8_firm, cX8_firm, 3, (some .int), 8),
  (yX8_nearest, cX8_nearest, 9, (some .int), 8),
  (yX8_length, cX8_length, 5, (some .int), 8),
  (yX8_busiest, cX8_busiest, 5, (some .int), 8),
  (yX8_thinnest, cX8_thinnest, 1, (some .int), 8),
  (yX8_circle, cX8_circle, 4, (some .int), 8),
  (yX8_mean, cX8_mean, 4, (some .long), 8),
  (yX8_bitsOf, cX8_bitsOf, 7, (some .long), 8),
  (yX8_tree, cX8_tree, 4, (some .int), 8),
  (yX8_way, cX8_way, 4, (some .int), 8),
  (yX8_shortest, cX8_shortest, 4, (some .int), 8),
  (yX8_centre, cX8_centre, 6, (some .int), 8),
  (yX8_bent, cX8_bent, 4, (some .int), 8),
  (yX8_colour, cX8_colour, 2, (some .int), 8),
  (yX8_paint, cX8_paint, 3, (some .int), 8),
  (yX8_leastColour, cX8_leastColour, 6, (some .int), 8),
  (yX8_heightAt, cX8_heightAt, 8, (some .int), 8),
  (yX8_level, cX8_level, 6, (some .int), 8),
  (yX8_drain, cX8_drain, 7, (some .int), 8),
  (yX8_volume, cX8_volume, 7, (some .long), 8),
  (yX8_passage, cX8_passage, 8, (some .int), 8),
  (yX8_hull, cX8_hull, 2, (some .int), 8),
  (yX8_wouldPoint, cX8_wouldPoint, 3, (some .int), 8),
  (yX8_wouldDrop, cX8_wouldDrop, 2, (some .int), 8),
  (yX8_wouldFix, cX8_wouldFix, 3, (some .int), 8),
  (yX8_wouldFree, cX8_wouldFree, 3, (some .int), 8),
  (yX8_countNew, cX8_countNew, 4, (some .int), 8),
  (yX8_inSquare, cX8_inSquare, 2, (some .boolean), 8),
  (yX8_turn, cX8_turn, 6, (some .int), 8),
  (yX8_areOpposite, cX8_areOpposite, 2, (some .boolean), 8),
  (yX8_rootOf, cX8_rootOf, 5, (some .int), 8),
  (yX9_init, cX9_init, 2, none, 9),
  (yX9_copy, cX9_copy, 3, none, 9),
  (yX9_isIn, cX9_isIn, 3, (some .boolean), 9),
  (yX9_isInSquare, cX9_isInSquare, 2, (some .boolean), 9),
  (yX9_floor, cX9_floor, 2, (some .int), 9),
  (yX9_isPoint, cX9_isPoint, 2, (some .boolean), 9),
  (yX9_xOf, cX9_xOf, 2, (some .int), 9),
  (yX9_yOf, cX9_yOf, 2, (some .int), 9),
  (yX9_highOf, cX9_highOf, 2, (some .int), 9),
  (yX9_lay, cX9_lay, 4, none, 9),
  (yX9_fixedAt, cX9_fixedAt, 3, (some .int), 9),
  (yX9_fixNow, cX9_fixNow, 4, none, 9),
  (yX9_pointAt, cX9_pointAt, 4, (some .int), 9),
  (yX9_freeNumber, cX9_freeNumber, 2, (some .int), 9),
  (yX9_isAhead, cX9_isAhead, 3, (some .boolean), 9),
  (yX9_sideOf, cX9_sideOf, 5, (some .int), 9),
  (yX9_turnOf, cX9_turnOf, 4, (some .int), 9),
  (yX9_isBetween, cX9_isBetween, 6, (some .boolean), 9),
  (yX9_squareOf, cX9_squareOf, 3, (some .int), 9),
  (yX9_areApart, cX9_areApart, 2, (some .boolean), 9),
  (yX9_crosses, cX9_crosses, 5, (some .boolean), 9),
  (yX9_isClear, cX9_isClear, 4, (some .boolean), 9),
  (yX9_isUncut, cX9_isUncut, 5, (some .boolean), 9),
  (yX9_seesNow, cX9_seesNow, 3, (some .boolean), 9),
  (yX9_insideOf, cX9_insideOf, 18, (some .long), 9),
  (yX9_insideBy, cX9_insideBy, 5, (some .long), 9),
  (yX9_leftAt, cX9_leftAt, 3, (some .int), 9),
  (yX9_isEdgeNow, cX9_isEdgeNow, 3, (some .boolean), 9),
  (yX9_isBetter, cX9_isBetter, 8, (some .boolean), 9),
  (yX9_cornerFor, cX9_cornerFor, 5, (some .int), 9),
  (yX9_comeTriangle, cX9_comeTriangle, 4, none, 9),
  (yX9_isBorder, cX9_isBorder, 3, (some .boolean), 9),
  (yX9_isInward, cX9_isInward, 3, (some .boolean), 9),
  (yX9_layMesh, cX9_layMesh, 5, none, 9),
  (yX9_order, cX9_order, 5, none, 9),
  (yX9_codeOf, cX9_codeOf, 2, (some .int), 9),
  (yX9_putAside, cX9_putAside, 2, none, 9),
  (yX9_bringBack, cX9_bringBack, 2, none, 9),
  (yX9_stepAt, cX9_stepAt, 2, (some .int), 9),
  (yX9_keep, cX9_keep, 3, none, 9),
  (yX9_hole, cX9_hole, 3, (some .int), 9),
  (yX9_fill, cX9_fill, 1, (some .int), 9),
  (yX9_undo, cX9_undo, 3, (some .int), 9),
  (yX9_tellAt, cX9_tellAt, 7, none, 9),
  (yX9_tellNew, cX9_tellNew, 4, (some .int), 9),
  (yX9_canTell, cX9_canTell, 3, (some .boolean), 9),
  (yX9_point, cX9_point, 4, (some .int), 9),
  (yX9_fixedOf, cX9_fixedOf, 4, (some .int), 9),
  (yX9_canGo, cX9_canGo, 2, (some .boolean), 9),
  (yX9_takeOut, cX9_takeOut, 3, none, 9),
  (yX9_drop, cX9_drop, 2, (some .boolean), 9),
  (yX9_moveNow, cX9_moveNow, 4, none, 9),
  (yX9_move, cX9_move, 4, (some .boolean), 9),
  (yX9_areTwo, cX9_areTwo, 3, (some .boolean), 9),
  (yX9_canFix, cX9_canFix, 3, (some .boolean), 9),
  (yX9_fix, cX9_fix, 3, (some .boolean), 9),
  (yX9_canFree, cX9_canFree, 3, (some .boolean), 9),
  (yX9_free, cX9_free, 3, (some .boolean), 9),
  (yX9_draw, cX9_draw, 2, (some .int), 9),
  (yX9_drawn, cX9_drawn, 7, (some .int), 9),
  (yX9_height, cX9_height, 3, (some .boolean), 9),
  (yX9_cornerOf, cX9_cornerOf, 3, (some .int), 9),
  (yX9_edgeOf, cX9_edgeOf, 3, (some .int), 9),
  (yX9_longestOf, cX9_longestOf, 4, (some .int), 9),
  (yX9_areaOf, cX9_areaOf, 2, (some .int), 9),
  (yX9_thinnestNow, cX9_thinnestNow, 3, (some .int), 9),
  (yX9_refineOnce, cX9_refineOnce, 5, (some .boolean), 9),
  (yX9_refine, cX9_refine, 3, (some .int), 9),
  (yX9_smoothOne, cX9_smoothOne, 6, (some .boolean), 9),
  (yX9_smooth, cX9_smooth, 3, (some .int), 9),
  (yX9_tell, cX9_tell, 2, (some .boolean), 9),
  (yX9_points, cX9_points, 3, (some .int), 9),
  (yX9_edges, cX9_edges, 4, (some .int), 9),
  (yX9_fixedBy, cX9_fixedBy, 5, (some .int), 9),
  (yX9_is, cX9_is, 2, (some .int), 9),
  (yX9_isOnBorder, cX9_isOnBorder, 2, (some .boolean), 9),
  (yX9_of, cX9_of, 4, (some .int), 9),
  (yX9_at, cX9_at, 3, (some .int), 9),
  (yX9_isTriangle, cX9_isTriangle, 2, (some .boolean), 9),
  (yX9_corner, cX9_corner, 3, (some .int), 9),
  (yX9_beyondOf, cX9_beyondOf, 3, (some .int), 9),
  (yX9_beyond, cX9_beyond, 3, (some .int), 9),
  (yX9_area, cX9_area, 2, (some .int), 9),
  (yX9_triangle, cX9_triangle, 5, (some .int), 9),
  (yX9_hasCorner, cX9_hasCorner, 3, (some .boolean), 9),
  (yX9_isEdge, cX9_isEdge, 3, (some .boolean), 9),
  (yX9_isFixed, cX9_isFixed, 3, (some .boolean), 9),
  (yX9_holds, cX9_holds, 5, (some .boolean), 9),
  (yX9_inNow, cX9_inNow, 4, (some .int), 9),
  (yX9_in, cX9_in, 3, (some .int), 9),
  (yX9_lies, cX9_lies, 5, (some .int), 9),
  (yX9_nextOf, cX9_nextOf, 6, (some .int), 9),
  (yX9_walk, cX9_walk, 8, (some .int), 9),
  (yX9_afterOf, cX9_afterOf, 5, (some .int), 9),
  (yX9_firstOf, cX9_firstOf, 4, (some .int), 9),
  (yX9_layStar, cX9_layStar, 5, (some .int), 9),
  (yX9_star, cX9_star, 3, (some .int), 9),
  (yX9_layFar, cX9_layFar, 6, none, 9),
  (yX9_ring, cX9_ring, 6, (some .long), 9),
  (yX9_crossed, cX9_crossed, 6, (some .int), 9),
  (yX9_sees, cX9_sees, 3, (some .boolean), 9),
  (yX9_seen, cX9_seen, 5, (some .long), 9),
  (yX9_isShut, cX9_isShut, 3, (some .boolean), 9),
  (yX9_layRegions, cX9_layRegions, 6, (some .int), 9),
  (yX9_region, cX9_region, 3, (some .int), 9),
  (yX9_ofRegion, cX9_ofRegion, 4, (some .int), 9),
  (yX9_manyOf, cX9_manyOf, 4, (some .int), 9),
  (yX9_areaIn, cX9_areaIn, 4, (some .int), 9),
  (yX9_holesIn, cX9_holesIn, 4, (some .int), 9),
  (yX9_pointsIn, cX9_pointsIn, 6, (some .int), 9),
  (yX9_hollows, cX9_hollows, 4, (some .int), 9),
  (yX9_firm, cX9_firm, 4, (some .int), 9),
  (yX9_corners, cX9_corners, 7, (some .int), 9),
  (yX9_dotAt, cX9_dotAt, 4, (some .int), 9),
  (yX9_layColours, cX9_layColours, 3, (some .int), 9),
  (yX9_isTaken, cX9_isTaken, 4, (some .boolean), 9),
  (yX9_colour, cX9_colour, 3, (some .int), 9),
  (yX9_widthOf, cX9_widthOf, 4, (some .int), 9),
  (yX9_centre, cX9_centre, 5, (some .int), 9),
  (yX9_lengthOf, cX9_lengthOf, 7, (some .int), 9),
  (yX9_layLengths, cX9_layLengths, 5, none, 9),
  (yX9_shortest, cX9_shortest, 7, (some .int), 9),
  (yX9_isCutBy, cX9_isCutBy, 9, (some .boolean), 9),
  (yX9_cut, cX9_cut, 8, (some .int), 9),
  (yX9_nearest, cX9_nearest, 5, (some .int), 9),
  (yX9_wayTo, cX9_wayTo, 4, (some .int), 9),
  (yX9_length, cX9_length, 6, (some .int), 9),
  (yX9_busiest, cX9_busiest, 4, (some .int), 9),
  (yX9_takeEdge, cX9_takeEdge, 3, (some .boolean), 9),
  (yX9_tree, cX9_tree, 4, (some .int), 9),
  (yX9_way, cX9_way, 7, (some .int), 9),
  (yX9_thirdOf, cX9_thirdOf, 5, (some .int), 9),
  (yX9_isBent, cX9_isBent, 8, (some .boolean), 9),
  (yX9_bents, cX9_bents, 4, (some .int), 9),
  (yX9_bent, cX9_bent, 5, (some .int), 9),
  (yX9_thinnest, cX9_thinnest, 1, (some .int), 9),
  (yX9_circle, cX9_circle, 6, (some .int), 9),
  (yX9_heightAt, cX9_heightAt, 8, (some .int), 9),
  (yX9_level, cX9_level, 5, (some .int), 9),
  (yX9_downOf, cX9_downOf, 4, (some .int), 9),
  (yX9_drain, cX9_drain, 5, (some .int), 9),
  (yX9_volume, cX9_volume, 4, (some .long), 9),
  (yX9_layPassages, cX9_layPassages, 6, none, 9),
  (yX9_nearerOf, cX9_nearerOf, 5, (some .int), 9),
  (yX9_passage, cX9_passage, 8, (some .int), 9),
  (yX9_hullNext, cX9_hullNext, 5, (some .int), 9),
  (yX9_hull, cX9_hull, 5, (some .int), 9),
  (yX9_keepTriangles, cX9_keepTriangles, 2, none, 9),
  (yX9_isAmong, cX9_isAmong, 4, (some .boolean), 9),
  (yX9_freshOnes, cX9_freshOnes, 3, (some .int), 9),
  (yX9_wouldPoint, cX9_wouldPoint, 4, (some .int), 9),
  (yX9_wouldDrop, cX9_wouldDrop, 2, (some .int), 9),
  (yX9_wouldFix, cX9_wouldFix, 3, (some .int), 9),
  (yX9_wouldFree, cX9_wouldFree, 3, (some .int), 9),
  (yX9_mean, cX9_mean, 5, (some .long), 9),
  (yX9_keepImage, cX9_keepImage, 2, none, 9),
  (yX9_fresh, cX9_fresh, 3, (some .int), 9),
  (yX9_image, cX9_image, 1, (some .int), 9),
  (yX9_back, cX9_back, 1, (some .int), 9),
  (yX9_steps, cX9_steps, 1, (some .int), 9),
  (yJxe99ae_isNaN_b9ae7, cJxe99ae_isNaN_b9ae7, 2, (some .boolean), 12),
  (yJxe99ae_doubleToLongBits_ccdee, cJxe99ae_doubleToLongBits_ccdee, 2, (some .long), 12),
  (yJ6_compare_7cf53, cJ6_compare_7cf53, 2, (some .int), 13),
  (yJ13_compare_74951, cJ13_compare_74951, 4, (some .int), 14),
  (yJ13_bitCount_95d88, cJ13_bitCount_95d88, 2, (some .int), 14),
  (yJ9_floorDiv_7cf53, cJ9_floorDiv_7cf53, 3, (some .int), 15),
  (yJ9_floorDiv_f86c9, cJ9_floorDiv_f86c9, 6, (some .long), 15),
  (yJ9_abs_0f7a4, cJ9_abs_0f7a4, 1, (some .int), 15),
  (yJ9_max_7cf53, cJ9_max_7cf53, 2, (some .int), 15),
  (yJ7_fill_d0a16, cJ7_fill_d0a16, 5, none, 20),
  (yJ7_fill_53178, cJ7_fill_53178, 4, none, 20),
  (yL_law, cL_law, 4, (some .boolean), 21)]
def pTyp : List (Nat → FieldType) := [tyX0, tyX1, tyX2, tyX3, tyX4, tyX5, tyX6, tyX7, tyX8, tyX9]
def pTy : List FieldType := [(.int), (.long), (.boolean)]
def pFlL : List (Nat × Nat × Nat × Nat × Nat) := [(5, 9, 5, 0, 1038), (8, 147, 5, 0, 1039), (1, 162, 5, 0, 1040), (5, 15, 5, 1, 1041), (8, 155, 5, 1, 1042), (1, 165, 5, 1, 1043), (5, 18, 5, 2, 1044), (1, 93, 5, 2, 1045), (8, 130, 5, 2, 1046), (5, 21, 5, 3, 1047), (8, 243, 5, 3, 1048), (5, 25, 5, 4, 1049), (4, 49, 5, 4, 1050), (8, 171, 5, 4, 1051), (5, 28, 5, 5, 1052), (4, 52, 5, 5, 1053), (8, 174, 5, 5, 1054), (5, 37, 5, 6, 1055), (4, 44, 5, 7, 1056), (5, 41, 5, 7, 1057), (8, 167, 5, 7, 1058), (1, 51, 5, 8, 1059), (5, 45, 5, 8, 1060), (8, 177, 5, 8, 1061), (1, 12, 1, 0, 1083), (8, 75, 1, 0, 1084), (4, 40, 1, 0, 1085), (3, 39, 1, 0, 1086), (7, 62, 1, 0, 1087), (1, 18, 1, 1, 1088), (8, 258, 1, 1, 1089), (1, 22, 1, 2, 1090), (8, 261, 1, 2, 1091), (1, 25, 1, 3, 1092), (3, 54, 1, 3, 1093), (1, 28, 1, 4, 1094), (6, 26, 1, 4, 1095), (7, 47, 1, 4, 1096), (8, 343, 1, 4, 1097), (1, 31, 1, 5, 1098), (7, 24, 1, 5, 1099), (8, 233, 1, 5, 1100), (1, 35, 1, 6, 1101), (8, 164, 1, 6, 1102), (4, 31, 1, 7, 1103), (1, 78, 1, 7, 1104), (3, 51, 1, 7, 1105), (8, 197, 1, 7, 1106), (6, 35, 1, 8, 1107), (7, 36, 1, 8, 1108), (1, 155, 1, 8, 1109), (8, 204, 1, 8, 1110), (1, 38, 1, 9, 1111), (1, 41, 1, 10, 1112), (1, 44, 1, 11, 1113), (1, 185, 1, 12, 1114), (3, 9, 3, 0, 1148), (3, 15, 3, 1, 1149), (3, 19, 3, 2, 1150), (8, 184, 3, 2, 1151), (4, 9, 4, 0, 1165), (8, 297, 4, 0, 1166), (4, 15, 4, 1, 1167), (8, 306, 4, 1, 1168), (4, 21, 4, 2, 1169), (8, 228, 4, 2, 1170), (4, 18, 4, 3, 1171), (7, 9, 7, 0, 1187), (8, 349, 7, 0, 1188), (7, 15, 7, 1, 1189), (2, 9, 2, 0, 1201), (8, 378, 2, 0, 1202), (2, 38, 2, 1, 1203), (8, 281, 2, 1, 1204), (2, 15, 2, 2, 1205), (6, 9, 6, 0, 1219), (8, 340, 6, 0, 1220), (6, 18, 6, 1, 1221), (8, 339, 6, 1, 1222), (6, 15, 6, 2, 1223), (0, 9, 0, 0, 1237), (8, 387, 0, 0, 1238), (0, 15, 0, 1, 1239), (8, 386, 0, 1, 2000), (8, 12, 8, 0, 2060), (8, 16, 8, 1, 2061), (8, 22, 8, 2, 2062), (8, 26, 8, 3, 2063), (8, 32, 8, 4, 2064), (8, 39, 8, 5, 2065), (8, 46, 8, 6, 2066), (8, 53, 8, 7, 2067), (8, 60, 8, 8, 2068), (8, 64, 8, 9, 2069), (9, 8, 9, 0, 5229), (9, 14, 9, 1, 5230), (9, 17, 9, 2, 5231), (9, 20, 9, 3, 5232), (9, 134, 9, 4, 5233), (9, 23, 9, 5, 5234), (9, 26, 9, 6, 5235), (9, 30, 9, 7, 5236), (9, 33, 9, 8, 5237), (9, 36, 9, 9, 5238), (9, 39, 9, 10, 5239), (9, 42, 9, 11, 6000), (9, 45, 9, 12, 6001), (9, 336, 9, 13, 6002), (9, 339, 9, 14, 6003), (9, 48, 9, 15, 6004), (9, 366, 9, 16, 6005), (9, 51, 9, 17, 6006), (9, 392, 9, 18, 6007)]
def pCaL0 : List (Nat × Nat × Nat × Nat × Nat × Nat × Nat × Nat × Nat × Nat) := [(21, 9, 3, 114, 0, 1020, 1021, 1001, 1022, 0), (8, 3, 0, 0, 0, 1023, 1024, 0, 0, 0), (8, 11, 5, 4, 0, 1028, 1029, 1002, 1030, 0), (1, 3, 0, 0, 0, 1031, 1024, 0, 0, 0), (1, 11, 5, 78, 0, 1034, 1035, 1003, 1036, 0), (5, 3, 0, 0, 0, 1037, 1024, 0, 0, 0), (8, 21, 5, 63, 0, 1144, 1145, 1004, 1146, 0), (3, 3, 0, 0, 0, 1147, 1024, 0, 0, 0), (8, 31, 5, 71, 0, 1161, 1162, 1005, 1163, 0), (4, 3, 0, 0, 0, 1164, 1024, 0, 0, 0), (8, 38, 5, 106, 0, 1183, 1184, 1006, 1185, 0), (7, 3, 0, 0, 0, 1186, 1024, 0, 0, 0), (8, 45, 5, 57, 0, 1197, 1198, 1007, 1199, 0), (2, 3, 0, 0, 0, 1200, 1024, 0, 0, 0), (8, 52, 5, 102, 0, 1215, 1216, 1008, 1217, 0), (6, 3, 0, 0, 0, 1218, 1024, 0, 0, 0), (8, 59, 5, 0, 0, 1233, 1234, 1009, 1235, 0), (0, 3, 0, 0, 0, 1236, 1024, 0, 0, 0), (8, 68, 1, 5, 0, 2006, 2007, 1002, 2009, 2008), (1, 47, 1, 84, 3, 2010, 2011, 1003, 2013, 2012), (1, 55, 2, 356, 2, 2014, 2015, 1010, 2016, 0), (1, 61, 1, 92, 2, 2017, 2018, 1003, 2020, 2019), (1, 65, 1, 19, 3, 2021, 2023, 1002, 2024, 0), (1, 68, 1, 27, 0, 2025, 2027, 1002, 2028, 1), (1, 71, 1, 31, 0, 2029, 2031, 1002, 2032, 2)]
def pCaL1 : List (Nat × Nat × Nat × Nat × Nat × Nat × Nat × Nat × Nat × Nat) := [(1, 201, 2, 355, 2, 2033, 2034, 1010, 2035, 0), (1, 175, 1, 82, 1, 2036, 2037, 1003, 2039, 2038), (1, 204, 1, 32, 2, 2040, 2042, 1002, 2043, 3), (1, 207, 1, 33, 3, 2044, 2046, 1002, 2047, 4), (8, 71, 1, 67, 1, 2048, 2049, 1004, 2051, 2050), (3, 45, 1, 80, 4, 2052, 2053, 1003, 2055, 2054), (5, 31, 7, 0, 5, 2056, 2058, 2057, 1011, 0), (3, 30, 7, 0, 5, 2059, 2058, 2057, 1011, 0), (21, 13, 1, 115, 2, 2091, 2092, 1001, 2094, 2093), (8, 79, 1, 88, 2, 2095, 2096, 1003, 2098, 2097), (5, 60, 4, 182, 2, 2099, 2100, 1001, 2101, 0), (5, 64, 1, 86, 2, 2102, 2103, 1003, 2105, 2104), (5, 56, 1, 82, 1, 2106, 2037, 1003, 2039, 2038), (5, 68, 1, 87, 0, 2107, 2108, 1003, 2110, 2109), (8, 85, 1, 64, 1, 2111, 2112, 1004, 2114, 2113), (3, 23, 1, 65, 0, 2115, 2117, 1004, 2118, 5), (3, 26, 1, 67, 1, 2119, 2049, 1004, 2051, 2050), (8, 88, 1, 8, 2, 2120, 2121, 1002, 2123, 2122), (1, 85, 1, 88, 2, 2124, 2096, 1003, 2098, 2097), (1, 89, 1, 87, 0, 2125, 2108, 1003, 2110, 2109), (1, 96, 1, 9, 3, 2126, 2127, 1002, 2129, 2128), (1, 99, 1, 44, 2, 2130, 2131, 1002, 2133, 2132), (1, 219, 4, 182, 2, 2134, 2100, 1001, 2101, 0), (1, 222, 1, 43, 3, 2135, 2136, 1002, 2138, 2137), (1, 216, 1, 40, 4, 2139, 2140, 1002, 2142, 2141)]
def pCaL2 : List (Nat × Nat × Nat × Nat × Nat × Nat × Nat × Nat × Nat × Nat) := [(1, 103, 1, 35, 2, 2143, 2144, 1002, 2146, 2145), (1, 210, 1, 95, 4, 2147, 2148, 1003, 2150, 2149), (1, 106, 1, 20, 3, 2151, 2153, 1002, 2154, 6), (1, 109, 1, 10, 3, 2155, 2157, 1002, 2158, 7), (1, 115, 1, 96, 3, 2159, 2160, 1003, 2162, 2161), (5, 78, 1, 95, 4, 2163, 2148, 1003, 2150, 2149), (1, 119, 1, 21, 3, 2164, 2166, 1002, 2167, 8), (1, 182, 1, 22, 2, 2168, 2170, 1002, 2171, 9), (1, 122, 1, 91, 2, 2172, 2173, 1003, 2175, 2174), (1, 125, 1, 93, 2, 2176, 2177, 1003, 2179, 2178), (1, 112, 1, 23, 0, 2181, 2183, 1002, 2184, 10), (1, 179, 1, 25, 2, 2187, 2189, 1002, 2190, 11), (1, 190, 1, 26, 2, 2191, 2193, 1002, 2194, 12), (1, 168, 1, 29, 6, 2195, 2197, 1002, 2198, 13), (1, 193, 1, 98, 2, 2199, 2200, 1003, 2202, 2201), (1, 172, 1, 24, 2, 2203, 2205, 1002, 2206, 14), (21, 18, 1, 116, 1, 2207, 2208, 1001, 2210, 2209), (8, 92, 1, 89, 1, 2211, 2212, 1003, 2214, 2213), (8, 96, 1, 11, 1, 2215, 2216, 1002, 2218, 2217), (1, 128, 1, 45, 1, 2219, 2220, 1002, 2222, 2221), (1, 226, 1, 46, 1, 2223, 2225, 1002, 2226, 15), (1, 149, 1, 36, 2, 2227, 2228, 1002, 2230, 2229), (1, 132, 1, 85, 1, 2231, 2232, 1003, 2234, 2233), (1, 136, 1, 12, 1, 2235, 2237, 1002, 2238, 16), (1, 139, 1, 13, 2, 2239, 3001, 1002, 3002, 17)]
def pCaL3 : List (Nat × Nat × Nat × Nat × Nat × Nat × Nat × Nat × Nat × Nat) := [(21, 23, 1, 117, 3, 3003, 3004, 1001, 3006, 3005), (8, 100, 2, 182, 2, 3007, 2100, 1001, 2101, 0), (8, 103, 1, 86, 2, 3008, 2103, 1003, 2105, 2104), (8, 106, 1, 9, 3, 3009, 2127, 1002, 2129, 2128), (21, 28, 1, 118, 2, 3010, 3011, 1001, 3013, 3012), (8, 110, 1, 14, 2, 3014, 3015, 1002, 3017, 3016), (1, 142, 1, 47, 2, 3018, 3019, 1002, 3021, 3020), (1, 229, 1, 99, 3, 3022, 3023, 1003, 3025, 3024), (5, 82, 1, 96, 3, 3026, 2160, 1003, 2162, 2161), (1, 158, 1, 101, 4, 3027, 3028, 1003, 3030, 3029), (5, 92, 1, 100, 6, 3031, 3032, 1003, 3034, 3033), (5, 85, 4, 184, 2, 3035, 3036, 1001, 3037, 0), (5, 88, 4, 183, 6, 3038, 3039, 1001, 3040, 0), (8, 113, 1, 15, 2, 3041, 3042, 1002, 3044, 3043), (1, 145, 1, 28, 2, 3045, 3047, 1002, 3048, 18), (1, 196, 2, 353, 1, 3049, 3050, 1013, 3051, 0), (1, 152, 1, 16, 2, 3052, 3054, 1002, 3055, 19), (21, 33, 1, 119, 2, 3056, 3057, 1001, 3059, 3058), (8, 117, 1, 17, 2, 3060, 3061, 1002, 3063, 3062), (8, 120, 1, 18, 2, 3064, 3065, 1002, 3067, 3066), (21, 37, 1, 120, 2, 3068, 3069, 1001, 3071, 3070), (8, 123, 1, 94, 1, 3072, 3073, 1003, 3075, 3074), (21, 41, 1, 121, 2, 3076, 3077, 1001, 3079, 3078), (8, 127, 1, 82, 1, 3080, 2037, 1003, 2039, 2038), (21, 45, 1, 122, 1, 3081, 3082, 1001, 3084, 3083)]
def pCaL4 : List (Nat × Nat × Nat × Nat × Nat × Nat × Nat × Nat × Nat × Nat) := [(8, 133, 1, 123, 0, 3085, 3087, 1001, 3088, 20), (8, 137, 1, 55, 0, 3089, 3090, 1002, 3092, 3091), (1, 250, 1, 39, 1, 3093, 3094, 1002, 3096, 3095), (1, 239, 1, 54, 1, 3097, 3098, 1002, 3100, 3099), (1, 242, 1, 41, 2, 3101, 3102, 1002, 3104, 3103), (1, 213, 1, 97, 2, 3105, 3106, 1003, 3108, 3107), (8, 141, 1, 54, 1, 3109, 3098, 1002, 3100, 3099), (8, 144, 1, 35, 2, 3110, 2144, 1002, 2146, 2145), (8, 150, 2, 351, 2, 3111, 3112, 1013, 3113, 0), (21, 50, 1, 124, 0, 3114, 3115, 1001, 3117, 3116), (8, 158, 1, 125, 1, 3118, 3120, 1001, 3121, 21), (8, 161, 1, 45, 1, 3122, 2220, 1002, 2222, 2221), (21, 55, 1, 126, 2, 3123, 3124, 1001, 3126, 3125), (21, 59, 1, 127, 0, 3127, 3128, 1001, 3130, 3129), (21, 63, 1, 128, 1, 3131, 3132, 1001, 3134, 3133), (21, 67, 1, 129, 0, 3135, 3136, 1001, 3138, 3137), (8, 180, 1, 66, 1, 3139, 3140, 1004, 3142, 3141), (3, 36, 1, 68, 1, 3143, 3144, 1004, 3146, 3145), (3, 57, 1, 81, 4, 3147, 3148, 1003, 3150, 3149), (3, 60, 1, 7, 3, 3151, 3152, 1002, 3154, 3153), (21, 261, 1, 130, 0, 3155, 3156, 1001, 3158, 3157), (21, 253, 1, 131, 0, 3159, 3160, 1001, 3162, 3161), (8, 187, 1, 69, 1, 3163, 3164, 1004, 3166, 3165), (8, 191, 1, 83, 0, 3167, 3168, 1003, 3170, 3169), (5, 48, 2, 350, 1, 3171, 3172, 1015, 3173, 0)]
def pCaL5 : List (Nat × Nat × Nat × Nat × Nat × Nat × Nat × Nat × Nat × Nat) := [(21, 257, 1, 132, 0, 3177, 3178, 1001, 3180, 3179), (8, 194, 1, 68, 1, 3181, 3144, 1004, 3146, 3145), (21, 199, 1, 133, 0, 3182, 3183, 1001, 3185, 3184), (8, 200, 1, 70, 3, 3186, 3187, 1004, 3189, 3188), (21, 71, 1, 134, 1, 3190, 3191, 1001, 3193, 3192), (8, 207, 1, 49, 0, 3194, 3195, 1002, 3197, 3196), (8, 210, 1, 50, 0, 3198, 3199, 1002, 3201, 3200), (8, 213, 1, 52, 0, 3202, 3203, 1002, 3205, 3204), (1, 236, 1, 51, 1, 3206, 3207, 1002, 3209, 3208), (8, 216, 1, 53, 1, 3210, 3211, 1002, 3213, 3212), (1, 245, 2, 348, 2, 3214, 3215, 1016, 3216, 0), (8, 219, 1, 169, 0, 3217, 3219, 1001, 3220, 22), (8, 363, 1, 170, 1, 3221, 3223, 1001, 3224, 23), (8, 264, 1, 36, 2, 3225, 2228, 1002, 2230, 2229), (8, 366, 2, 354, 2, 3226, 3227, 1013, 3228, 0), (8, 222, 1, 135, 1, 3229, 3231, 1001, 3232, 24), (8, 225, 1, 72, 1, 3233, 3234, 1005, 3236, 3235), (4, 25, 2, 356, 2, 3237, 2015, 1010, 2016, 0), (4, 36, 1, 73, 2, 3238, 4000, 1005, 4001, 25), (4, 59, 1, 38, 2, 4002, 4003, 1002, 4005, 4004), (4, 63, 1, 37, 2, 4006, 4007, 1002, 4009, 4008), (4, 55, 1, 44, 2, 4010, 2131, 1002, 2133, 2132), (8, 229, 1, 74, 0, 4011, 4012, 1005, 4014, 4013), (21, 75, 1, 136, 2, 4015, 4016, 1001, 4018, 4017), (8, 237, 2, 350, 1, 4020, 3172, 1015, 3173, 0)]
def pCaL6 : List (Nat × Nat × Nat × Nat × Nat × Nat × Nat × Nat × Nat × Nat) := [(8, 246, 1, 90, 1, 4021, 4022, 1003, 4024, 4023), (5, 72, 2, 353, 1, 4025, 3050, 1013, 3051, 0), (21, 79, 1, 137, 2, 4026, 4027, 1001, 4029, 4028), (21, 83, 1, 138, 2, 4030, 4031, 1001, 4033, 4032), (8, 249, 1, 34, 1, 4034, 4035, 1002, 4037, 4036), (21, 87, 1, 139, 2, 4038, 4039, 1001, 4041, 4040), (8, 252, 1, 37, 2, 4042, 4007, 1002, 4009, 4008), (21, 91, 1, 140, 1, 4043, 4044, 1001, 4046, 4045), (8, 255, 1, 39, 1, 4047, 3094, 1002, 3096, 3095), (21, 95, 1, 141, 3, 4048, 4049, 1001, 4051, 4050), (21, 100, 1, 142, 2, 4052, 4053, 1001, 4055, 4054), (21, 104, 1, 143, 2, 4056, 4057, 1001, 4059, 4058), (8, 267, 1, 91, 2, 4060, 2173, 1003, 2175, 2174), (21, 108, 1, 144, 2, 4061, 4062, 1001, 4064, 4063), (8, 270, 1, 44, 2, 4065, 2131, 1002, 2133, 2132), (21, 112, 1, 145, 2, 4066, 4067, 1001, 4069, 4068), (8, 273, 1, 40, 4, 4070, 2140, 1002, 2142, 2141), (21, 116, 1, 146, 4, 4071, 4072, 1001, 4074, 4073), (8, 277, 1, 61, 4, 4075, 4076, 1007, 4078, 4077), (2, 18, 2, 356, 2, 4079, 2015, 1010, 2016, 0), (2, 42, 1, 62, 3, 4080, 4082, 1007, 4083, 26), (2, 30, 1, 37, 2, 4084, 4007, 1002, 4009, 4008), (2, 46, 1, 40, 4, 4085, 2140, 1002, 2142, 2141), (8, 284, 1, 43, 3, 4086, 2136, 1002, 2138, 2137), (21, 121, 1, 147, 2, 4087, 4088, 1001, 4090, 4089)]
def pCaL7 : List (Nat × Nat × Nat × Nat × Nat × Nat × Nat × Nat × Nat × Nat) := [(21, 125, 1, 148, 2, 4091, 4092, 1001, 4094, 4093), (8, 287, 1, 107, 3, 4095, 4096, 1006, 4098, 4097), (7, 18, 2, 108, 2, 4099, 4100, 1006, 4101, 0), (21, 130, 1, 149, 2, 4103, 4104, 1001, 4106, 4105), (8, 291, 1, 48, 4, 4107, 4108, 1002, 4110, 4109), (1, 232, 1, 100, 6, 4111, 3032, 1003, 3034, 3033), (21, 195, 1, 150, 4, 4112, 4113, 1001, 4115, 4114), (21, 134, 1, 151, 2, 4116, 4117, 1001, 4119, 4118), (8, 294, 1, 47, 2, 4120, 3019, 1002, 3021, 3020), (21, 138, 1, 152, 1, 4121, 4122, 1001, 4124, 4123), (21, 143, 1, 153, 1, 4125, 4126, 1001, 4128, 4127), (21, 147, 1, 154, 2, 4129, 4130, 1001, 4132, 4131), (8, 300, 1, 75, 2, 4133, 4134, 1005, 4136, 4135), (8, 304, 1, 76, 2, 4137, 4138, 1005, 4140, 4139), (4, 66, 1, 39, 1, 4141, 3094, 1002, 3096, 3095), (8, 309, 1, 77, 2, 4142, 4143, 1005, 4145, 4144), (4, 70, 1, 35, 2, 4146, 2144, 1002, 2146, 2145), (21, 203, 1, 155, 0, 4147, 4148, 1001, 4150, 4149), (21, 151, 1, 156, 2, 4151, 4152, 1001, 4154, 4153), (21, 155, 1, 157, 1, 4155, 4156, 1001, 4158, 4157), (8, 313, 1, 42, 1, 4159, 4160, 1002, 4162, 4161), (21, 159, 1, 158, 1, 4163, 4164, 1001, 4166, 4165), (21, 175, 1, 159, 0, 4167, 4168, 1001, 4170, 4169), (21, 179, 1, 160, 3, 4171, 4172, 1001, 4174, 4173), (8, 316, 1, 30, 3, 4175, 4176, 1002, 4178, 4177)]
def pCaL8 : List (Nat × Nat × Nat × Nat × Nat × Nat × Nat × Nat × Nat × Nat) := [(8, 320, 2, 349, 2, 4179, 4180, 1015, 4181, 0), (21, 249, 1, 161, 0, 4182, 4183, 1001, 4185, 4184), (8, 324, 2, 162, 1, 4186, 4187, 1001, 4188, 0), (21, 163, 1, 163, 2, 4193, 4194, 1001, 4196, 4195), (8, 336, 1, 103, 1, 4197, 4198, 1008, 4200, 4199), (6, 22, 1, 104, 1, 4201, 4203, 1008, 4204, 27), (6, 38, 1, 42, 1, 4205, 4160, 1002, 4162, 4161), (6, 31, 1, 105, 2, 4206, 4208, 1008, 4209, 28), (21, 167, 1, 164, 3, 4210, 4211, 1001, 4213, 4212), (8, 346, 1, 109, 2, 4214, 4215, 1006, 4217, 4216), (7, 30, 2, 356, 2, 4218, 2015, 1010, 2016, 0), (8, 352, 1, 112, 4, 4219, 4220, 1006, 4222, 4221), (7, 54, 1, 113, 3, 4223, 4225, 1006, 4226, 29), (7, 58, 1, 36, 2, 4227, 2228, 1002, 2230, 2229), (7, 66, 1, 97, 2, 4228, 3106, 1003, 3108, 3107), (7, 44, 4, 185, 1, 4229, 4230, 1001, 4231, 0), (21, 183, 1, 165, 3, 4232, 4233, 1001, 4235, 4234), (8, 356, 1, 110, 2, 4236, 4237, 1006, 4239, 4238), (7, 40, 1, 42, 1, 5000, 4160, 1002, 4162, 4161), (7, 50, 1, 111, 3, 5001, 5003, 1006, 5004, 30), (21, 191, 1, 166, 1, 5005, 5006, 1001, 5008, 5007), (21, 171, 1, 167, 1, 5009, 5010, 1001, 5012, 5011), (8, 360, 1, 51, 1, 5013, 3207, 1002, 3209, 3208), (21, 187, 1, 168, 1, 5014, 5015, 1001, 5017, 5016), (21, 207, 1, 171, 2, 5018, 5019, 1001, 5021, 5020)]
def pCaL9 : List (Nat × Nat × Nat × Nat × Nat × Nat × Nat × Nat × Nat × Nat) := [(8, 369, 2, 352, 2, 5022, 5023, 1013, 5024, 0), (21, 211, 1, 172, 1, 5025, 5026, 1001, 5028, 5027), (21, 215, 1, 173, 2, 5029, 5030, 1001, 5032, 5031), (8, 372, 1, 56, 1, 5033, 5034, 1002, 5036, 5035), (21, 219, 1, 174, 0, 5037, 5038, 1001, 5040, 5039), (21, 224, 1, 175, 5, 5041, 5042, 1001, 5044, 5043), (8, 375, 1, 58, 2, 5045, 5046, 1007, 5048, 5047), (2, 24, 1, 38, 2, 5049, 4003, 1002, 4005, 4004), (8, 379, 1, 59, 3, 5050, 5051, 1007, 5053, 5052), (2, 34, 1, 60, 2, 5054, 5056, 1007, 5057, 31), (21, 229, 1, 176, 1, 5058, 5059, 1001, 5061, 5060), (8, 382, 1, 1, 1, 5062, 5063, 1009, 5065, 5064), (0, 19, 1, 82, 1, 5066, 2037, 1003, 2039, 2038), (0, 25, 1, 98, 2, 5067, 2200, 1003, 2202, 2201), (0, 29, 2, 2, 2, 5068, 5069, 1009, 5070, 0), (0, 33, 2, 3, 4, 5071, 5072, 1009, 5073, 0), (0, 37, 1, 96, 3, 5074, 2160, 1003, 2162, 2161), (0, 41, 1, 97, 2, 5075, 3106, 1003, 3108, 3107), (21, 233, 1, 177, 2, 5076, 5077, 1001, 5079, 5078), (8, 390, 1, 6, 1, 5080, 5081, 1002, 5083, 5082), (1, 74, 1, 79, 1, 5084, 5085, 1003, 5087, 5086), (1, 81, 1, 7, 3, 5088, 3152, 1002, 3154, 3153), (8, 393, 1, 181, 0, 5089, 5091, 1001, 5092, 32), (21, 237, 1, 178, 1, 5093, 5094, 1001, 5096, 5095), (21, 241, 1, 179, 2, 5097, 5098, 1001, 5100, 5099)]
def pCaL10 : List (Nat × Nat × Nat × Nat × Nat × Nat × Nat × Nat × Nat × Nat) := [(21, 245, 1, 180, 2, 5101, 5102, 1001, 5104, 5103), (21, 12, 3, 186, 0, 5107, 5108, 1012, 5109, 0), (9, 1, 0, 0, 0, 5110, 1024, 0, 0, 0), (9, 54, 1, 195, 3, 5112, 5114, 1012, 5115, 33), (9, 58, 1, 197, 3, 5116, 5118, 1012, 5119, 34), (9, 61, 1, 219, 0, 5120, 5122, 1012, 5123, 35), (9, 141, 1, 218, 2, 5124, 5126, 1012, 5127, 36), (9, 138, 1, 217, 2, 5128, 5130, 1012, 5131, 37), (9, 102, 1, 196, 2, 5132, 5134, 1012, 5135, 38), (9, 82, 1, 201, 4, 5136, 5138, 1012, 5139, 39), (9, 75, 1, 192, 1, 5140, 5142, 1012, 5143, 40), (9, 79, 1, 193, 1, 5144, 5146, 1012, 5147, 41), (9, 118, 1, 212, 2, 5148, 5150, 1012, 5151, 42), (9, 144, 1, 215, 2, 5152, 5154, 1012, 5155, 43), (9, 71, 1, 191, 1, 5156, 5158, 1012, 5159, 44), (9, 67, 2, 188, 3, 5160, 5161, 1012, 5162, 0), (9, 90, 1, 202, 3, 5163, 5165, 1012, 5166, 45), (9, 128, 1, 209, 2, 5167, 5169, 1012, 5170, 46), (9, 108, 1, 207, 2, 5171, 5173, 1012, 5174, 47), (9, 98, 1, 203, 4, 5175, 5177, 1012, 5178, 48), (9, 86, 1, 204, 2, 5179, 5181, 1012, 5182, 49), (9, 111, 1, 208, 2, 5183, 5185, 1012, 5186, 50), (9, 105, 1, 206, 4, 5187, 5189, 1012, 5190, 51), (9, 94, 2, 205, 2, 5191, 5192, 1012, 5193, 0), (9, 131, 1, 214, 4, 5194, 5196, 1012, 5197, 52)]
def pCaL11 : List (Nat × Nat × Nat × Nat × Nat × Nat × Nat × Nat × Nat × Nat) := [(9, 121, 1, 211, 4, 5198, 5200, 1012, 5201, 53), (9, 114, 1, 210, 5, 5202, 5204, 1012, 5205, 54), (9, 125, 1, 200, 2, 5206, 5208, 1012, 5209, 55), (9, 147, 1, 216, 3, 5210, 5212, 1012, 5213, 56), (9, 150, 1, 220, 0, 5214, 5216, 1012, 5217, 57), (9, 153, 1, 221, 1, 5218, 5220, 1012, 5221, 58), (9, 64, 1, 341, 0, 5222, 5224, 1012, 5225, 59), (9, 388, 2, 187, 2, 5226, 5227, 1012, 5228, 0), (21, 58, 1, 226, 2, 6048, 6049, 1012, 6051, 6050), (9, 159, 2, 189, 2, 6052, 6053, 1012, 6054, 0), (9, 162, 1, 225, 0, 6055, 6057, 1012, 6058, 60), (9, 156, 2, 224, 2, 6059, 6060, 1012, 6061, 0), (21, 62, 1, 227, 0, 6062, 6063, 1012, 6065, 6064), (21, 70, 1, 228, 0, 6066, 6067, 1012, 6069, 6068), (21, 17, 1, 232, 2, 6070, 6071, 1012, 6073, 6072), (9, 175, 1, 231, 2, 6074, 6076, 1012, 6077, 61), (9, 169, 1, 198, 2, 6078, 6080, 1012, 6081, 62), (9, 165, 1, 199, 0, 6082, 6084, 1012, 6085, 63), (9, 178, 1, 230, 2, 6086, 6088, 1012, 6089, 64), (9, 172, 1, 229, 3, 6090, 6092, 1012, 6093, 65), (21, 22, 1, 236, 1, 6094, 6095, 1012, 6097, 6096), (9, 184, 1, 234, 1, 6098, 6100, 1012, 6101, 66), (9, 181, 1, 233, 1, 6102, 6104, 1012, 6105, 67), (9, 187, 1, 235, 1, 6106, 6108, 1012, 6109, 68), (21, 27, 1, 238, 3, 6110, 6111, 1012, 6113, 6112)]
def pCaL12 : List (Nat × Nat × Nat × Nat × Nat × Nat × Nat × Nat × Nat × Nat) := [(9, 191, 1, 237, 3, 6114, 6116, 1012, 6117, 69), (21, 32, 1, 241, 2, 6118, 6119, 1012, 6121, 6120), (9, 197, 1, 240, 2, 6122, 6124, 1012, 6125, 70), (9, 194, 1, 239, 2, 6126, 6128, 1012, 6129, 71), (21, 36, 1, 243, 2, 6130, 6131, 1012, 6133, 6132), (9, 200, 1, 242, 2, 6134, 6136, 1012, 6137, 72), (21, 40, 1, 245, 2, 6138, 6139, 1012, 6141, 6140), (9, 203, 1, 244, 1, 6142, 6144, 1012, 6145, 73), (21, 44, 1, 246, 2, 6146, 6147, 1012, 6149, 6148), (21, 49, 1, 253, 1, 6150, 6151, 1012, 6153, 6152), (9, 224, 1, 252, 0, 6154, 6156, 1012, 6157, 74), (9, 218, 1, 251, 0, 6158, 6160, 1012, 6161, 75), (9, 212, 1, 250, 1, 6162, 6164, 1012, 6165, 76), (9, 206, 1, 247, 2, 6166, 6168, 1012, 6169, 77), (9, 215, 1, 249, 1, 6170, 6172, 1012, 6173, 78), (9, 209, 1, 248, 2, 6174, 6176, 1012, 6177, 79), (9, 221, 2, 190, 2, 6178, 6179, 1012, 6180, 0), (21, 54, 1, 255, 0, 6181, 6182, 1012, 6184, 6183), (9, 231, 1, 254, 1, 6185, 6187, 1012, 6188, 80), (9, 228, 1, 281, 1, 6189, 6191, 1012, 6192, 81), (9, 287, 1, 280, 1, 6193, 6195, 1012, 6196, 82), (9, 234, 1, 213, 2, 6197, 6199, 1012, 6200, 83), (9, 290, 1, 279, 2, 6201, 6203, 1012, 6204, 84), (21, 66, 1, 256, 1, 6205, 6206, 1012, 6208, 6207), (21, 74, 1, 260, 1, 6209, 6210, 1012, 6212, 6211)]
def pCaL13 : List (Nat × Nat × Nat × Nat × Nat × Nat × Nat × Nat × Nat × Nat) := [(9, 237, 1, 257, 0, 6213, 6215, 1012, 6216, 85), (9, 240, 1, 258, 0, 6217, 6219, 1012, 6220, 86), (9, 243, 1, 259, 1, 6221, 6223, 1012, 6224, 87), (9, 246, 1, 289, 0, 6225, 6227, 1012, 6228, 88), (9, 299, 1, 288, 2, 6229, 6231, 1012, 6232, 89), (9, 272, 1, 266, 2, 6233, 6235, 1012, 6236, 90), (9, 249, 1, 319, 0, 6237, 6239, 1012, 7000, 91), (9, 348, 1, 318, 2, 7001, 7003, 1012, 7004, 92), (9, 345, 1, 317, 3, 7005, 7007, 1012, 7008, 93), (9, 252, 1, 296, 0, 7009, 7011, 1012, 7012, 94), (9, 308, 1, 294, 1, 7013, 7015, 1012, 7016, 95), (9, 281, 1, 274, 2, 7017, 7019, 1012, 7020, 96), (9, 278, 1, 273, 3, 7021, 7023, 1012, 7024, 97), (9, 255, 1, 298, 1, 7025, 7027, 1012, 7028, 98), (9, 314, 1, 299, 3, 7029, 7031, 1012, 7032, 99), (9, 259, 1, 300, 0, 7033, 7035, 1012, 7036, 100), (9, 317, 1, 301, 2, 7037, 7039, 1012, 7040, 101), (21, 78, 1, 262, 2, 7041, 7042, 1012, 7044, 7043), (9, 263, 1, 261, 1, 7046, 7048, 1012, 7049, 102), (9, 266, 1, 194, 1, 7050, 7052, 1012, 7053, 103), (21, 82, 1, 263, 2, 7054, 7055, 1012, 7057, 7056), (21, 86, 1, 265, 2, 7058, 7059, 1012, 7061, 7060), (9, 269, 1, 264, 1, 7062, 7064, 1012, 7065, 104), (21, 90, 1, 267, 2, 7066, 7067, 1012, 7069, 7068), (21, 94, 1, 268, 1, 7070, 7071, 1012, 7073, 7072)]
def pCaL14 : List (Nat × Nat × Nat × Nat × Nat × Nat × Nat × Nat × Nat × Nat) := [(21, 99, 1, 269, 3, 7074, 7075, 1012, 7077, 7076), (9, 275, 1, 270, 2, 7078, 7080, 1012, 7081, 105), (21, 103, 1, 271, 2, 7082, 7083, 1012, 7085, 7084), (21, 107, 1, 272, 2, 7086, 7087, 1012, 7089, 7088), (21, 111, 1, 275, 2, 7090, 7091, 1012, 7093, 7092), (21, 115, 1, 276, 2, 7094, 7095, 1012, 7097, 7096), (21, 120, 1, 278, 4, 7098, 7099, 1012, 7101, 7100), (9, 284, 1, 277, 3, 7102, 7104, 1012, 7105, 106), (21, 124, 1, 282, 2, 7106, 7107, 1012, 7109, 7108), (21, 129, 1, 284, 2, 7110, 7111, 1012, 7113, 7112), (9, 293, 1, 283, 1, 7114, 7116, 1012, 7117, 107), (21, 133, 1, 285, 2, 7118, 7119, 1012, 7121, 7120), (21, 137, 1, 286, 2, 7122, 7123, 1012, 7125, 7124), (21, 142, 1, 287, 1, 7126, 7127, 1012, 7129, 7128), (9, 296, 1, 286, 2, 7130, 7123, 1012, 7125, 7124), (21, 146, 1, 290, 1, 7131, 7132, 1012, 7134, 7133), (21, 150, 1, 291, 2, 7135, 7136, 1012, 7138, 7137), (9, 302, 1, 292, 1, 7139, 7141, 1012, 7142, 108), (9, 305, 1, 293, 1, 7143, 7145, 1012, 7146, 109), (9, 311, 1, 295, 1, 7147, 7149, 1012, 7150, 110), (21, 206, 1, 297, 0, 7151, 7152, 1012, 7154, 7153), (21, 190, 1, 302, 1, 7155, 7156, 1012, 7158, 7157), (21, 194, 1, 304, 1, 7159, 7160, 1012, 7162, 7161), (9, 320, 1, 303, 1, 7163, 7165, 1012, 7166, 111), (21, 186, 1, 307, 3, 7167, 7168, 1012, 7170, 7169)]
def pCaL15 : List (Nat × Nat × Nat × Nat × Nat × Nat × Nat × Nat × Nat × Nat) := [(9, 326, 1, 306, 1, 7171, 7173, 1012, 7174, 112), (9, 323, 1, 305, 2, 7175, 7177, 1012, 7178, 113), (21, 198, 1, 309, 4, 7179, 7180, 1012, 7182, 7181), (9, 329, 1, 308, 6, 7183, 7185, 1012, 7186, 114), (21, 154, 1, 310, 2, 7187, 7188, 1012, 7190, 7189), (9, 333, 1, 311, 3, 7191, 7193, 1012, 7194, 115), (21, 158, 1, 312, 1, 7195, 7196, 1012, 7198, 7197), (21, 162, 1, 313, 1, 7199, 7200, 1012, 7202, 7201), (21, 166, 1, 315, 2, 7203, 7204, 1012, 7206, 7205), (9, 342, 1, 314, 0, 7207, 7209, 1012, 7210, 116), (21, 170, 1, 316, 3, 7211, 7212, 1012, 7214, 7213), (21, 174, 1, 320, 1, 7215, 7216, 1012, 7218, 7217), (21, 178, 1, 321, 0, 7219, 7220, 1012, 7222, 7221), (21, 182, 1, 322, 3, 7223, 7224, 1012, 7226, 7225), (21, 210, 1, 323, 2, 7227, 7228, 1012, 7230, 7229), (21, 214, 1, 324, 1, 7231, 7232, 1012, 7234, 7233), (21, 218, 1, 326, 2, 7235, 7236, 1012, 7238, 7237), (9, 351, 1, 325, 1, 7239, 8001, 1012, 8002, 117), (21, 223, 1, 327, 0, 8003, 8004, 1012, 8006, 8005), (21, 228, 1, 330, 5, 8007, 8008, 1012, 8010, 8009), (9, 354, 1, 328, 1, 8011, 8013, 1012, 8014, 118), (9, 357, 1, 329, 1, 8015, 8017, 1012, 8018, 119), (21, 232, 1, 332, 1, 8019, 8020, 1012, 8022, 8021), (9, 360, 1, 331, 1, 8023, 8025, 1012, 8026, 120), (21, 236, 1, 336, 2, 8027, 8028, 1012, 8030, 8029)]
def pCaL16 : List (Nat × Nat × Nat × Nat × Nat × Nat × Nat × Nat × Nat × Nat) := [(9, 376, 1, 333, 0, 8031, 8033, 1012, 8034, 121), (9, 363, 1, 222, 0, 8035, 8037, 1012, 8038, 122), (9, 379, 1, 335, 0, 8039, 8041, 1012, 8042, 123), (9, 369, 2, 334, 3, 8043, 8044, 1012, 8045, 0), (9, 373, 1, 223, 0, 8046, 8048, 1012, 8049, 124), (21, 240, 1, 337, 1, 8050, 8051, 1012, 8053, 8052), (21, 244, 1, 338, 2, 8054, 8055, 1012, 8057, 8056), (21, 248, 1, 339, 2, 8058, 8059, 1012, 8061, 8060), (21, 252, 1, 340, 0, 8062, 8063, 1012, 8065, 8064), (9, 382, 2, 347, 1, 8066, 8067, 1017, 8068, 0), (12, 122, 2, 346, 1, 8069, 8070, 1017, 8071, 0), (12, 134, 8, 0, 1, 8072, 8074, 8073, 1017, 0), (21, 202, 1, 342, 0, 8076, 8077, 1012, 8079, 8078), (21, 256, 1, 343, 0, 8080, 8081, 1012, 8083, 8082), (21, 260, 1, 344, 0, 8084, 8085, 1012, 8087, 8086), (21, 264, 1, 345, 0, 8088, 8089, 1012, 8091, 8090)]
def pCaL : List (Nat × Nat × Nat × Nat × Nat × Nat × Nat × Nat × Nat × Nat) := pCaL0 ++ (pCaL1 ++ (pCaL2 ++ (pCaL3 ++ (pCaL4 ++ (pCaL5 ++ (pCaL6 ++ (pCaL7 ++ (pCaL8 ++ (pCaL9 ++ (pCaL10 ++ (pCaL11 ++ (pCaL12 ++ (pCaL13 ++ (pCaL14 ++ (pCaL15 ++ (pCaL16))))))))))))))))
def pNwL : List (Nat × Nat × Nat × Nat × Nat × Nat) := [(21, 7, 8, 1018, 1019, 1001), (8, 9, 1, 1026, 1027, 1002), (1, 9, 5, 1032, 1033, 1003), (8, 19, 3, 1142, 1143, 1004), (8, 29, 4, 1159, 1160, 1005), (8, 36, 7, 1181, 1182, 1006), (8, 43, 2, 1195, 1196, 1007), (8, 50, 6, 1213, 1214, 1008), (8, 57, 0, 1231, 1232, 1009), (21, 10, 9, 5105, 5106, 1012)]
def pAnL : List (Nat × Nat × Nat × Nat × Nat) := []
def pKiL : List (Nat × Nat × Int32 × Nat) := [(1, 148, 1000000, 2185), (8, 232, -100000, 4019), (9, 7, 37340, 5111), (9, 262, -100000, 7045)]
def pKlL : List (Nat × Nat × Int64 × Nat) := [(5, 54, -1, 2180), (1, 188, -1, 2186), (14, 314, 6148914691236517205, 3174), (14, 316, 3689348814741910323, 3175), (14, 318, 1085102592571150095, 3176), (7, 22, -1, 4102), (8, 328, 1075, 4189), (8, 334, 4503599627370496, 4192), (12, 137, 9221120237041090560, 8075)]
def pKdL : List (Nat × Nat × UInt64 × Nat) := [(8, 330, 4841369599423283200, 4190), (8, 332, 4611686018427387904, 4191)]
def pAcL : List (Nat × Nat) := [(0, 1081), (1, 1082), (2, 6047)]
def pRmL : List (Nat × Nat × Nat × Nat) := [(1, 1, 40, 20), (4, 0, 0, 94), (3, 0, 0, 71), (2, 0, 0, 47), (2, 16, 4793, 40), (2, 0, 0, 47), (3, 0, 0, 72), (2, 0, 0, 47), (5, 0, 0, 121), (4, 0, 0, 94), (2, 0, 0, 47), (4, 0, 0, 98), (3, 0, 0, 75), (2, 0, 0, 47), (4, 0, 0, 100), (4, 0, 0, 103), (3, 0, 0, 75), (1, 0, 0, 22), (4, 0, 0, 94), (0, 0, 0, 0), (0, 0, 0, 0), (1, 0, 0, 24), (0, 0, 0, 0), (3, 0, 0, 71), (2, 0, 0, 47), (0, 0, 0, 0), (1, 0, 0, 39), (0, 0, 0, 0), (2, 0, 0, 47), (0, 0, 0, 0), (1, 0, 0, 39), (1, 0, 0, 24), (0, 0, 0, 0), (0, 0, 0, 0), (0, 0, 0, 0), (0, 0, 0, 0), (0, 0, 0, 0), (1, 0, 0, 22), (1, 0, 0, 22), (2, 0, 0, 47), (1, 0, 0, 24), (1, 0, 0, 24), (1, 0, 0, 24), (2, 0, 0, 48), (3, 0, 0, 71), (2, 0, 0, 45), (1, 0, 0, 22), (3, 0, 0, 75), (2, 0, 0, 51), (1, 0, 0, 22), (1, 0, 0, 22), (2, 0, 0, 66), (3, 0, 0, 89), (3, 0, 0, 69), (2, 0, 0, 46), (3, 0, 0, 69), (1, 0, 0, 22), (1, 2, 148, 20), (2, 0, 0, 45), (3, 0, 0, 70), (2, 0, 0, 45), (3, 0, 0, 73), (2, 0, 0, 48), (1, 2, 8442, 20), (3, 0, 0, 72), (1, 0, 0, 26), (4, 0, 0, 94), (2, 0, 0, 50), (3, 0, 0, 72), (1, 0, 0, 26), (0, 0, 0, 0), (1, 3, 222, 20), (4, 0, 0, 94), (2, 0, 0, 45), (0, 0, 0, 0), (0, 0, 0, 0), (3, 0, 0, 68), (1, 0, 0, 22), (1, 6, 176, 20), (1, 0, 0, 26), (1, 0, 0, 26), (1, 0, 0, 26), (0, 0, 0, 0), (1, 0, 0, 21), (0, 0, 0, 0), (0, 0, 0, 0), (1, 0, 0, 21), (1, 0, 0, 21), (2, 0, 0, 44), (1, 0, 0, 21), (1, 0, 0, 20), (0, 0, 0, 0), (0, 0, 0, 0), (0, 0, 0, 0), (0, 0, 0, 0), (0, 0, 0, 0), (1, 0, 0, 24), (0, 0, 0, 0), (0, 0, 0, 0), (2, 0, 0, 47), (1, 0, 0, 25), (2, 0, 0, 51), (1, 2, 80, 20), (3, 0, 0, 70), (2, 0, 0, 45), (0, 0, 0, 0), (1, 2, 153, 20), (1, 0, 0, 25), (0, 0, 0, 0), (1, 0, 0, 25), (2, 0, 0, 45), (0, 0, 0, 0), (2, 0, 0, 49), (1, 0, 0, 24), (3, 56, 27199, 72), (6, 0, 0, 144), (5, 0, 0, 121), (5, 0, 0, 121), (5, 0, 0, 126), (5, 0, 0, 116), (6, 0, 0, 144), (4, 0, 0, 93), (7, 0, 0, 171), (6, 0, 0, 144), (6, 0, 0, 147), (5, 0, 0, 121), (4, 0, 0, 93), (4, 0, 0, 93), (0, 0, 0, 0), (5, 0, 0, 115), (0, 0, 0, 0), (3, 0, 0, 72), (4, 0, 0, 94), (1, 0, 0, 27), (6, 0, 0, 138), (5, 0, 0, 117), (2, 0, 0, 41), (2, 0, 0, 44), (1, 0, 0, 22), (2, 0, 0, 45), (3, 0, 0, 68), (1, 0, 0, 21), (1, 0, 0, 22), (1, 0, 0, 22), (4, 0, 0, 94), (4, 0, 0, 94), (4, 0, 0, 100), (3, 0, 0, 70), (2, 0, 0, 53), (3, 0, 0, 77), (3, 0, 0, 77), (4, 0, 0, 100), (4, 0, 0, 100), (5, 0, 0, 117), (5, 0, 0, 117), (5, 0, 0, 117), (1, 0, 0, 21), (2, 0, 0, 45), (1, 0, 0, 21), (4, 0, 0, 99), (2, 0, 0, 64), (2, 0, 0, 45), (0, 0, 0, 0), (4, 0, 0, 93), (3, 0, 0, 75), (3, 0, 0, 75), (2, 0, 0, 54), (3, 0, 0, 89), (3, 0, 0, 69), (2, 0, 0, 47), (1, 0, 0, 22), (4, 0, 0, 94), (0, 0, 0, 0), (2, 0, 0, 45), (3, 0, 0, 68), (4, 0, 0, 95), (5, 0, 0, 118), (6, 0, 0, 144), (5, 0, 0, 121), (5, 0, 0, 126), (5, 0, 0, 116), (1, 0, 0, 22), (0, 0, 0, 0), (0, 0, 0, 0), (0, 0, 0, 0), (0, 0, 0, 0), (8, 14, 4178, 186), (0, 0, 0, 0), (0, 0, 0, 0), (1, 0, 0, 22), (0, 0, 0, 0), (1, 0, 0, 22), (0, 0, 0, 0), (0, 0, 0, 0), (0, 0, 0, 0), (0, 0, 0, 0), (0, 0, 0, 0), (0, 0, 0, 0), (2, 0, 0, 43), (2, 0, 0, 43), (1, 0, 0, 21), (1, 0, 0, 21), (2, 0, 0, 45), (2, 0, 0, 45), (1, 0, 0, 21), (0, 0, 0, 0), (3, 0, 0, 68), (3, 0, 0, 70), (4, 0, 0, 92), (5, 0, 0, 116), (1, 0, 0, 21), (2, 0, 0, 58), (0, 0, 0, 0), (1, 0, 0, 22), (3, 0, 0, 82), (6, 0, 0, 138), (0, 0, 0, 0), (1, 0, 0, 22), (2, 0, 0, 45), (7, 0, 0, 162), (1, 0, 0, 21), (0, 0, 0, 0), (0, 0, 0, 0), (8, 0, 0, 186), (0, 0, 0, 0), (1, 0, 0, 21), (2, 0, 0, 43), (2, 0, 0, 43), (8, 0, 0, 186), (3, 0, 0, 70), (4, 0, 0, 96), (3, 0, 0, 66), (8, 0, 0, 186), (1, 0, 0, 22), (2, 0, 0, 45), (0, 0, 0, 0), (8, 0, 0, 186), (8, 0, 0, 186), (9, 0, 0, 209), (2, 0, 0, 43), (6, 0, 0, 138), (8, 0, 0, 186), (3, 0, 0, 65), (8, 0, 0, 186), (0, 0, 0, 0), (8, 0, 0, 186), (2, 0, 0, 43), (0, 0, 0, 0), (2, 0, 0, 43), (3, 0, 0, 65), (3, 0, 0, 68), (4, 0, 0, 89), (8, 0, 0, 186), (9, 0, 0, 210), (9, 0, 0, 209), (10, 0, 0, 234), (1, 0, 0, 22), (2, 0, 0, 43), (2, 0, 0, 44), (1, 0, 0, 22), (6, 0, 0, 138), (1, 0, 0, 21), (4, 0, 0, 91), (3, 0, 0, 66), (1, 0, 0, 22), (2, 0, 0, 43), (1, 0, 0, 22), (2, 0, 0, 44), (4, 0, 0, 89), (2, 0, 0, 44), (1, 0, 0, 22), (3, 0, 0, 65), (3, 0, 0, 65), (2, 0, 0, 45), (3, 0, 0, 69), (4, 0, 0, 92), (4, 0, 0, 92), (2, 0, 0, 45), (3, 0, 0, 70), (1, 0, 0, 22), (2, 0, 0, 44), (3, 0, 0, 67), (4, 0, 0, 91), (2, 0, 0, 44), (3, 0, 0, 69), (4, 0, 0, 92), (6, 0, 0, 138), (7, 0, 0, 160), (1, 0, 0, 22), (2, 0, 0, 44), (3, 0, 0, 69), (5, 0, 0, 115), (0, 0, 0, 0), (4, 0, 0, 89), (4, 0, 0, 92), (2, 0, 0, 44), (5, 0, 0, 115), (5, 0, 0, 115), (2, 0, 0, 44), (1, 0, 0, 21), (3, 0, 0, 67), (2, 0, 0, 44), (4, 0, 0, 89), (3, 0, 0, 69), (4, 0, 0, 92), (2, 0, 0, 43), (3, 0, 0, 69), (4, 0, 0, 93), (2, 0, 0, 45), (3, 0, 0, 73), (2, 0, 0, 44), (1, 0, 0, 21), (2, 0, 0, 44), (4, 0, 0, 91), (2, 0, 0, 44), (3, 0, 0, 66), (3, 0, 0, 69), (1, 0, 0, 22), (3, 0, 0, 82), (4, 0, 0, 109), (4, 0, 0, 109), (5, 0, 0, 111), (2, 0, 0, 58), (4, 0, 0, 92), (2, 0, 0, 44), (2, 0, 0, 44), (3, 0, 0, 67), (4, 0, 0, 89), (2, 0, 0, 44), (2, 0, 0, 44), (4, 0, 0, 92), (3, 0, 0, 68), (4, 0, 0, 92), (1, 0, 0, 21), (0, 0, 0, 0), (9, 0, 0, 207), (10, 0, 0, 229), (10, 0, 0, 229), (10, 0, 0, 229), (10, 0, 0, 229), (3, 0, 0, 67), (1, 0, 0, 22), (1, 0, 0, 23), (3, 0, 0, 65), (8, 0, 0, 186), (0, 0, 0, 0), (0, 0, 0, 0), (1, 0, 0, 23), (0, 0, 0, 0), (0, 0, 0, 0), (0, 0, 0, 0), (0, 0, 0, 0), (0, 0, 0, 0), (0, 0, 0, 0), (0, 0, 0, 0), (0, 0, 0, 0), (0, 0, 0, 0), (11, 72, 31406, 256)]
theorem pUw_RX0 : u_ws RX0 TX0 2 = [2001, 2003].filterMap (fun i => (pBl (i / 1000))[i % 1000]?) := by decide +kernel
theorem pUg_RX0 : (u_ws RX0 TX0 2).all goodWord = true := by decide +kernel
theorem pUw_RX1 : u_ws RX1 TX1 13 = [1115, 1117, 1119, 1121, 1123, 1125, 1127, 1129, 1131, 1133, 1135, 1137, 1139].filterMap (fun i => (pBl (i / 1000))[i % 1000]?) := by decide +kernel
theorem pUg_RX1 : (u_ws RX1 TX1 13).all goodWord = true := by decide +kernel
theorem pUw_RX2 : u_ws RX2 TX2 3 = [1206, 1208, 1210].filterMap (fun i => (pBl (i / 1000))[i % 1000]?) := by decide +kernel
theorem pUg_RX2 : (u_ws RX2 TX2 3).all goodWord = true := by decide +kernel
theorem pUw_RX3 : u_ws RX3 TX3 3 = [1152, 1154, 1156].filterMap (fun i => (pBl (i / 1000))[i % 1000]?) := by decide +kernel
theorem pUg_RX3 : (u_ws RX3 TX3 3).all goodWord = true := by decide +kernel
theorem pUw_RX4 : u_ws RX4 TX4 4 = [1172, 1174, 1176, 1178].filterMap (fun i => (pBl (i / 1000))[i % 1000]?) := by decide +kernel
theorem pUg_RX4 : (u_ws RX4 TX4 4).all goodWord = true := by decide +kernel
theorem pUw_RX5 : u_ws RX5 TX5 9 = [1062, 1064, 1066, 1068, 1070, 1072, 1074, 1076, 1078].filterMap (fun i => (pBl (i / 1000))[i % 1000]?) := by decide +kernel
theorem pUg_RX5 : (u_ws RX5 TX5 9).all goodWord = true := by decide +kernel
theorem pUw_RX6 : u_ws RX6 TX6 3 = [1224, 1226, 1228].filterMap (fun i => (pBl (i / 1000))[i % 1000]?) := by decide +kernel
theorem pUg_RX6 : (u_ws RX6 TX6 3).all goodWord = true := by decide +kernel
theorem pUw_RX7 : u_ws RX7 TX7 2 = [1190, 1192].filterMap (fun i => (pBl (i / 1000))[i % 1000]?) := by decide +kernel
theorem pUg_RX7 : (u_ws RX7 TX7 2).all goodWord = true := by decide +kernel
theorem pUw_RX8 : u_ws RX8 TX8 10 = [2070, 2072, 2074, 2076, 2078, 2080, 2082, 2084, 2086, 2088].filterMap (fun i => (pBl (i / 1000))[i % 1000]?) := by decide +kernel
theorem pUg_RX8 : (u_ws RX8 TX8 10).all goodWord = true := by decide +kernel
theorem pUw_RX9 : u_ws RX9 TX9 19 = [6008, 6010, 6012, 6014, 6016, 6018, 6020, 6022, 6024, 6026, 6028, 6030, 6032, 6034, 6036, 6038, 6040, 6042, 6044].filterMap (fun i => (pBl (i / 1000))[i % 1000]?) := by decide +kernel
theorem pUg_RX9 : (u_ws RX9 TX9 19).all goodWord = true := by decide +kernel
theorem pU_all : ∀ q ∈ vwCl, (∃ ps : List Nat, u_ws q.1 q.2.1 q.2.2 = ps.filterMap (fun i => (pBl (i / 1000))[i % 1000]?)) ∧ (u_ws q.1 q.2.1 q.2.2).all goodWord = true := by
  intro q hq
  simp only [vwCl, List.mem_cons, List.not_mem_nil, or_false] at hq
  rcases hq with rfl | rfl | rfl | rfl | rfl | rfl | rfl | rfl | rfl | rfl
  · exact ⟨⟨_, pUw_RX0⟩, pUg_RX0⟩
  · exact ⟨⟨_, pUw_RX1⟩, pUg_RX1⟩
  · exact ⟨⟨_, pUw_RX2⟩, pUg_RX2⟩
  · exact ⟨⟨_, pUw_RX3⟩, pUg_RX3⟩
  · exact ⟨⟨_, pUw_RX4⟩, pUg_RX4⟩
  · exact ⟨⟨_, pUw_RX5⟩, pUg_RX5⟩
  · exact ⟨⟨_, pUw_RX6⟩, pUg_RX6⟩
  · exact ⟨⟨_, pUw_RX7⟩, pUg_RX7⟩
  · exact ⟨⟨_, pUw_RX8⟩, pUg_RX8⟩
  · exact ⟨⟨_, pUw_RX9⟩, pUg_RX9⟩
theorem pTy_all : ∀ (ci : Nat) (q : vw_C), vwCl[ci]? = some q → ∃ ty : Nat → FieldType, pTyp[ci]? = some ty ∧ (∀ k, k < q.2.2 → parseFieldDescriptor (q.2.1 k).2.2.1 = some (ty k)) ∧ (∀ a, a < q.2.2 → ∀ b, b < q.2.2 → a ≠ b → (q.2.1 a).2.1 ≠ (q.2.1 b).2.1) := by
  intro ci q hq
  match ci, hq with
  | 0, hq => cases hq; exact ⟨_, rfl, tyX0_ok, nmX0⟩
  | 1, hq => cases hq; exact ⟨_, rfl, tyX1_ok, nmX1⟩
  | 2, hq => cases hq; exact ⟨_, rfl, tyX2_ok, nmX2⟩
  | 3, hq => cases hq; exact ⟨_, rfl, tyX3_ok, nmX3⟩
  | 4, hq => cases hq; exact ⟨_, rfl, tyX4_ok, nmX4⟩
  | 5, hq => cases hq; exact ⟨_, rfl, tyX5_ok, nmX5⟩
  | 6, hq => cases hq; exact ⟨_, rfl, tyX6_ok, nmX6⟩
  | 7, hq => cases hq; exact ⟨_, rfl, tyX7_ok, nmX7⟩
  | 8, hq => cases hq; exact ⟨_, rfl, tyX8_ok, nmX8⟩
  | 9, hq => cases hq; exact ⟨_, rfl, tyX9_ok, nmX9⟩
  | k + 10, hq => simp [vwCl] at hq
