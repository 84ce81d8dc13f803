-- ===== PART A: goes FIRST, ahead of the names: the tables' words, and 'selects' of the private methods out of them =====
/-- a private method of a class that the tables say can be made, by its rows of tables_1 -/
def lw_okq (q : MethodName × Nat) : Prop := (q.1.cls ≠ "java/lang/invoke/MethodHandle" ∧ q.1.cls ≠ "java/lang/invoke/VarHandle") ∧ Cond.instantiable q.1.cls q.2 ∈ tables_1 ∧ Cond.privateMethod q.1 ∈ tables_1 ∧ Cond.instanceMethod q.1 ∈ tables_1
theorem lw_p0 : lw_okq (⟨"PatchChains", "isTree", "(I)Z"⟩, 9) := ⟨⟨by decide +kernel, by decide +kernel⟩, List.mem_of_getElem? (i := 16) (by decide +kernel), List.mem_of_getElem? (i := 341) (by decide +kernel), List.mem_of_getElem? (i := 342) (by decide +kernel)⟩
theorem lw_p1 : lw_okq (⟨"PatchChains", "keepTree", "()I"⟩, 9) := ⟨⟨by decide +kernel, by decide +kernel⟩, List.mem_of_getElem? (i := 16) (by decide +kernel), List.mem_of_getElem? (i := 354) (by decide +kernel), List.mem_of_getElem? (i := 355) (by decide +kernel)⟩
theorem lw_p2 : lw_okq (⟨"PatchChains$Tree", "isBarred", "(LPatchChains$Bytes;)Z"⟩, 4) := ⟨⟨by decide +kernel, by decide +kernel⟩, List.mem_of_getElem? (i := 44) (by decide +kernel), List.mem_of_getElem? (i := 378) (by decide +kernel), List.mem_of_getElem? (i := 379) (by decide +kernel)⟩
theorem lw_p3 : lw_okq (⟨"PatchChains$Tree", "makePlace", "(LPatchChains$Bytes;)I"⟩, 4) := ⟨⟨by decide +kernel, by decide +kernel⟩, List.mem_of_getElem? (i := 44) (by decide +kernel), List.mem_of_getElem? (i := 386) (by decide +kernel), List.mem_of_getElem? (i := 387) (by decide +kernel)⟩
theorem lw_p4 : lw_okq (⟨"PatchChains$Differ", "addStep", "(ILPatchChains$Tree;ILPatchChains$Tree;ILPatchChains$Patch;)V"⟩, 5) := ⟨⟨by decide +kernel, by decide +kernel⟩, List.mem_of_getElem? (i := 144) (by decide +kernel), List.mem_of_getElem? (i := 463) (by decide +kernel), List.mem_of_getElem? (i := 464) (by decide +kernel)⟩
theorem lw_p5 : lw_okq (⟨"PatchChains$Delta", "addOrigin", "(I)V"⟩, 2) := ⟨⟨by decide +kernel, by decide +kernel⟩, List.mem_of_getElem? (i := 82) (by decide +kernel), List.mem_of_getElem? (i := 499) (by decide +kernel), List.mem_of_getElem? (i := 500) (by decide +kernel)⟩
theorem lw_p6 : lw_okq (⟨"PatchChains$Weaver", "lengthenRuns", "(LPatchChains$Bytes;I)I"⟩, 4) := ⟨⟨by decide +kernel, by decide +kernel⟩, List.mem_of_getElem? (i := 150) (by decide +kernel), List.mem_of_getElem? (i := 510) (by decide +kernel), List.mem_of_getElem? (i := 511) (by decide +kernel)⟩
theorem lw_p7 : lw_okq (⟨"PatchChains$Weaver", "choose", "(II)V"⟩, 4) := ⟨⟨by decide +kernel, by decide +kernel⟩, List.mem_of_getElem? (i := 150) (by decide +kernel), List.mem_of_getElem? (i := 515) (by decide +kernel), List.mem_of_getElem? (i := 516) (by decide +kernel)⟩
theorem lw_p8 : lw_okq (⟨"PatchChains$Weaver", "leastPlace", "(I)I"⟩, 4) := ⟨⟨by decide +kernel, by decide +kernel⟩, List.mem_of_getElem? (i := 150) (by decide +kernel), List.mem_of_getElem? (i := 519) (by decide +kernel), List.mem_of_getElem? (i := 520) (by decide +kernel)⟩
theorem lw_p9 : lw_okq (⟨"PatchChains$Weaver", "tellChosen", "(LPatchChains$Bytes;ILPatchChains$Delta;)V"⟩, 4) := ⟨⟨by decide +kernel, by decide +kernel⟩, List.mem_of_getElem? (i := 150) (by decide +kernel), List.mem_of_getElem? (i := 523) (by decide +kernel), List.mem_of_getElem? (i := 524) (by decide +kernel)⟩
theorem lw_p10 : lw_okq (⟨"PatchChains$Differ", "addMoves", "(LPatchChains$Tree;LPatchChains$Tree;LPatchChains$Patch;)V"⟩, 5) := ⟨⟨by decide +kernel, by decide +kernel⟩, List.mem_of_getElem? (i := 144) (by decide +kernel), List.mem_of_getElem? (i := 545) (by decide +kernel), List.mem_of_getElem? (i := 546) (by decide +kernel)⟩
theorem lw_p11 : lw_okq (⟨"PatchChains$Differ", "firstGoneWith", "(LPatchChains$Bytes;LPatchChains$Tree;)I"⟩, 5) := ⟨⟨by decide +kernel, by decide +kernel⟩, List.mem_of_getElem? (i := 144) (by decide +kernel), List.mem_of_getElem? (i := 549) (by decide +kernel), List.mem_of_getElem? (i := 550) (by decide +kernel)⟩
theorem lw_p12 : lw_okq (⟨"PatchChains$Differ", "addMovesWithChange", "(LPatchChains$Tree;LPatchChains$Tree;LPatchChains$Patch;)V"⟩, 5) := ⟨⟨by decide +kernel, by decide +kernel⟩, List.mem_of_getElem? (i := 144) (by decide +kernel), List.mem_of_getElem? (i := 553) (by decide +kernel), List.mem_of_getElem? (i := 554) (by decide +kernel)⟩
theorem lw_p13 : lw_okq (⟨"PatchChains$Differ", "measureLikeness", "(LPatchChains$Tree;LPatchChains$Tree;)V"⟩, 5) := ⟨⟨by decide +kernel, by decide +kernel⟩, List.mem_of_getElem? (i := 144) (by decide +kernel), List.mem_of_getElem? (i := 557) (by decide +kernel), List.mem_of_getElem? (i := 558) (by decide +kernel)⟩
theorem lw_p14 : lw_okq (⟨"PatchChains$Differ", "like", "(LPatchChains$Bytes;LPatchChains$Bytes;)I"⟩, 5) := ⟨⟨by decide +kernel, by decide +kernel⟩, List.mem_of_getElem? (i := 144) (by decide +kernel), List.mem_of_getElem? (i := 561) (by decide +kernel), List.mem_of_getElem? (i := 562) (by decide +kernel)⟩
theorem lw_p15 : lw_okq (⟨"PatchChains$Differ", "mostCommon", "(LPatchChains$Bytes;LPatchChains$Bytes;)I"⟩, 5) := ⟨⟨by decide +kernel, by decide +kernel⟩, List.mem_of_getElem? (i := 144) (by decide +kernel), List.mem_of_getElem? (i := 565) (by decide +kernel), List.mem_of_getElem? (i := 566) (by decide +kernel)⟩
def lw_privs_1 : List (MethodName × Nat) := [(⟨"PatchChains", "isTree", "(I)Z"⟩, 9), (⟨"PatchChains", "keepTree", "()I"⟩, 9), (⟨"PatchChains$Tree", "isBarred", "(LPatchChains$Bytes;)Z"⟩, 4), (⟨"PatchChains$Tree", "makePlace", "(LPatchChains$Bytes;)I"⟩, 4), (⟨"PatchChains$Differ", "addStep", "(ILPatchChains$Tree;ILPatchChains$Tree;ILPatchChains$Patch;)V"⟩, 5), (⟨"PatchChains$Delta", "addOrigin", "(I)V"⟩, 2), (⟨"PatchChains$Weaver", "lengthenRuns", "(LPatchChains$Bytes;I)I"⟩, 4), (⟨"PatchChains$Weaver", "choose", "(II)V"⟩, 4), (⟨"PatchChains$Weaver", "leastPlace", "(I)I"⟩, 4), (⟨"PatchChains$Weaver", "tellChosen", "(LPatchChains$Bytes;ILPatchChains$Delta;)V"⟩, 4), (⟨"PatchChains$Differ", "addMoves", "(LPatchChains$Tree;LPatchChains$Tree;LPatchChains$Patch;)V"⟩, 5), (⟨"PatchChains$Differ", "firstGoneWith", "(LPatchChains$Bytes;LPatchChains$Tree;)I"⟩, 5), (⟨"PatchChains$Differ", "addMovesWithChange", "(LPatchChains$Tree;LPatchChains$Tree;LPatchChains$Patch;)V"⟩, 5), (⟨"PatchChains$Differ", "measureLikeness", "(LPatchChains$Tree;LPatchChains$Tree;)V"⟩, 5), (⟨"PatchChains$Differ", "like", "(LPatchChains$Bytes;LPatchChains$Bytes;)I"⟩, 5), (⟨"PatchChains$Differ", "mostCommon", "(LPatchChains$Bytes;LPatchChains$Bytes;)I"⟩, 5)]
theorem lw_r1 : ∀ q ∈ lw_privs_1, lw_okq q := List.forall_mem_cons.mpr ⟨lw_p0, List.forall_mem_cons.mpr ⟨lw_p1, List.forall_mem_cons.mpr ⟨lw_p2, List.forall_mem_cons.mpr ⟨lw_p3, List.forall_mem_cons.mpr ⟨lw_p4, List.forall_mem_cons.mpr ⟨lw_p5, List.forall_mem_cons.mpr ⟨lw_p6, List.forall_mem_cons.mpr ⟨lw_p7, List.forall_mem_cons.mpr ⟨lw_p8, List.forall_mem_cons.mpr ⟨lw_p9, List.forall_mem_cons.mpr ⟨lw_p10, List.forall_mem_cons.mpr ⟨lw_p11, List.forall_mem_cons.mpr ⟨lw_p12, List.forall_mem_cons.mpr ⟨lw_p13, List.forall_mem_cons.mpr ⟨lw_p14, List.forall_mem_cons.mpr ⟨lw_p15, fun _ h => absurd h List.not_mem_nil⟩⟩⟩⟩⟩⟩⟩⟩⟩⟩⟩⟩⟩⟩⟩⟩
theorem lw_p16 : lw_okq (⟨"PatchChains$Differ", "addOthers", "(LPatchChains$Tree;LPatchChains$Tree;LPatchChains$Patch;)V"⟩, 5) := ⟨⟨by decide +kernel, by decide +kernel⟩, List.mem_of_getElem? (i := 144) (by decide +kernel), List.mem_of_getElem? (i := 570) (by decide +kernel), List.mem_of_getElem? (i := 571) (by decide +kernel)⟩
theorem lw_p17 : lw_okq (⟨"PatchChains", "keepPatch", "()I"⟩, 9) := ⟨⟨by decide +kernel, by decide +kernel⟩, List.mem_of_getElem? (i := 16) (by decide +kernel), List.mem_of_getElem? (i := 574) (by decide +kernel), List.mem_of_getElem? (i := 575) (by decide +kernel)⟩
theorem lw_p18 : lw_okq (⟨"PatchChains", "isPatch", "(I)Z"⟩, 9) := ⟨⟨by decide +kernel, by decide +kernel⟩, List.mem_of_getElem? (i := 16) (by decide +kernel), List.mem_of_getElem? (i := 582) (by decide +kernel), List.mem_of_getElem? (i := 583) (by decide +kernel)⟩
theorem lw_p19 : lw_okq (⟨"PatchChains$Delta", "startsPiece", "(I)Z"⟩, 2) := ⟨⟨by decide +kernel, by decide +kernel⟩, List.mem_of_getElem? (i := 82) (by decide +kernel), List.mem_of_getElem? (i := 607) (by decide +kernel), List.mem_of_getElem? (i := 608) (by decide +kernel)⟩
theorem lw_p20 : lw_okq (⟨"PatchChains$Delta", "startOf", "(I)I"⟩, 2) := ⟨⟨by decide +kernel, by decide +kernel⟩, List.mem_of_getElem? (i := 82) (by decide +kernel), List.mem_of_getElem? (i := 623) (by decide +kernel), List.mem_of_getElem? (i := 624) (by decide +kernel)⟩
theorem lw_p21 : lw_okq (⟨"PatchChains$Delta", "lengthFrom", "(I)I"⟩, 2) := ⟨⟨by decide +kernel, by decide +kernel⟩, List.mem_of_getElem? (i := 82) (by decide +kernel), List.mem_of_getElem? (i := 627) (by decide +kernel), List.mem_of_getElem? (i := 628) (by decide +kernel)⟩
theorem lw_p22 : lw_okq (⟨"PatchChains$Applier", "firstMisfit", "(LPatchChains$Patch;LPatchChains$Tree;)I"⟩, 5) := ⟨⟨by decide +kernel, by decide +kernel⟩, List.mem_of_getElem? (i := 188) (by decide +kernel), List.mem_of_getElem? (i := 640) (by decide +kernel), List.mem_of_getElem? (i := 641) (by decide +kernel)⟩
theorem lw_p23 : lw_okq (⟨"PatchChains$Applier", "ruleBroken", "(LPatchChains$Patch;ILPatchChains$Tree;)I"⟩, 5) := ⟨⟨by decide +kernel, by decide +kernel⟩, List.mem_of_getElem? (i := 188) (by decide +kernel), List.mem_of_getElem? (i := 644) (by decide +kernel), List.mem_of_getElem? (i := 645) (by decide +kernel)⟩
theorem lw_p24 : lw_okq (⟨"PatchChains$Applier", "isTakenAway", "(LPatchChains$Bytes;LPatchChains$Patch;)Z"⟩, 5) := ⟨⟨by decide +kernel, by decide +kernel⟩, List.mem_of_getElem? (i := 188) (by decide +kernel), List.mem_of_getElem? (i := 665) (by decide +kernel), List.mem_of_getElem? (i := 666) (by decide +kernel)⟩
theorem lw_p25 : lw_okq (⟨"PatchChains$Applier", "keepConflict", "(II)V"⟩, 5) := ⟨⟨by decide +kernel, by decide +kernel⟩, List.mem_of_getElem? (i := 188) (by decide +kernel), List.mem_of_getElem? (i := 670) (by decide +kernel), List.mem_of_getElem? (i := 671) (by decide +kernel)⟩
theorem lw_p26 : lw_okq (⟨"PatchChains$Applier", "build", "(LPatchChains$Patch;LPatchChains$Tree;LPatchChains$Tree;)Z"⟩, 5) := ⟨⟨by decide +kernel, by decide +kernel⟩, List.mem_of_getElem? (i := 188) (by decide +kernel), List.mem_of_getElem? (i := 674) (by decide +kernel), List.mem_of_getElem? (i := 675) (by decide +kernel)⟩
theorem lw_p27 : lw_okq (⟨"PatchChains$Step", "copySource", "(LPatchChains$Step;)V"⟩, 9) := ⟨⟨by decide +kernel, by decide +kernel⟩, List.mem_of_getElem? (i := 74) (by decide +kernel), List.mem_of_getElem? (i := 759) (by decide +kernel), List.mem_of_getElem? (i := 760) (by decide +kernel)⟩
theorem lw_p28 : lw_okq (⟨"PatchChains$Step", "copyTarget", "(LPatchChains$Step;)V"⟩, 9) := ⟨⟨by decide +kernel, by decide +kernel⟩, List.mem_of_getElem? (i := 74) (by decide +kernel), List.mem_of_getElem? (i := 763) (by decide +kernel), List.mem_of_getElem? (i := 764) (by decide +kernel)⟩
theorem lw_p29 : lw_okq (⟨"PatchChains$Disk", "slotHolding", "(LPatchChains$Bytes;LPatchChains$Bytes;)I"⟩, 8) := ⟨⟨by decide +kernel, by decide +kernel⟩, List.mem_of_getElem? (i := 212) (by decide +kernel), List.mem_of_getElem? (i := 806) (by decide +kernel), List.mem_of_getElem? (i := 807) (by decide +kernel)⟩
theorem lw_p30 : lw_okq (⟨"PatchChains$Disk", "isSlot", "(I)Z"⟩, 8) := ⟨⟨by decide +kernel, by decide +kernel⟩, List.mem_of_getElem? (i := 212) (by decide +kernel), List.mem_of_getElem? (i := 815) (by decide +kernel), List.mem_of_getElem? (i := 816) (by decide +kernel)⟩
theorem lw_p31 : lw_okq (⟨"PatchChains$Disk", "leastFree", "(I)I"⟩, 8) := ⟨⟨by decide +kernel, by decide +kernel⟩, List.mem_of_getElem? (i := 212) (by decide +kernel), List.mem_of_getElem? (i := 820) (by decide +kernel), List.mem_of_getElem? (i := 821) (by decide +kernel)⟩
def lw_privs_2 : List (MethodName × Nat) := [(⟨"PatchChains$Differ", "addOthers", "(LPatchChains$Tree;LPatchChains$Tree;LPatchChains$Patch;)V"⟩, 5), (⟨"PatchChains", "keepPatch", "()I"⟩, 9), (⟨"PatchChains", "isPatch", "(I)Z"⟩, 9), (⟨"PatchChains$Delta", "startsPiece", "(I)Z"⟩, 2), (⟨"PatchChains$Delta", "startOf", "(I)I"⟩, 2), (⟨"PatchChains$Delta", "lengthFrom", "(I)I"⟩, 2), (⟨"PatchChains$Applier", "firstMisfit", "(LPatchChains$Patch;LPatchChains$Tree;)I"⟩, 5), (⟨"PatchChains$Applier", "ruleBroken", "(LPatchChains$Patch;ILPatchChains$Tree;)I"⟩, 5), (⟨"PatchChains$Applier", "isTakenAway", "(LPatchChains$Bytes;LPatchChains$Patch;)Z"⟩, 5), (⟨"PatchChains$Applier", "keepConflict", "(II)V"⟩, 5), (⟨"PatchChains$Applier", "build", "(LPatchChains$Patch;LPatchChains$Tree;LPatchChains$Tree;)Z"⟩, 5), (⟨"PatchChains$Step", "copySource", "(LPatchChains$Step;)V"⟩, 9), (⟨"PatchChains$Step", "copyTarget", "(LPatchChains$Step;)V"⟩, 9), (⟨"PatchChains$Disk", "slotHolding", "(LPatchChains$Bytes;LPatchChains$Bytes;)I"⟩, 8), (⟨"PatchChains$Disk", "isSlot", "(I)Z"⟩, 8), (⟨"PatchChains$Disk", "leastFree", "(I)I"⟩, 8)]
theorem lw_r2 : ∀ q ∈ lw_privs_2, lw_okq q := List.forall_mem_cons.mpr ⟨lw_p16, List.forall_mem_cons.mpr ⟨lw_p17, List.forall_mem_cons.mpr ⟨lw_p18, List.forall_mem_cons.mpr ⟨lw_p19, List.forall_mem_cons.mpr ⟨lw_p20, List.forall_mem_cons.mpr ⟨lw_p21, List.forall_mem_cons.mpr ⟨lw_p22, List.forall_mem_cons.mpr ⟨lw_p23, List.forall_mem_cons.mpr ⟨lw_p24, List.forall_mem_cons.mpr ⟨lw_p25, List.forall_mem_cons.mpr ⟨lw_p26, List.forall_mem_cons.mpr ⟨lw_p27, List.forall_mem_cons.mpr ⟨lw_p28, List.forall_mem_cons.mpr ⟨lw_p29, List.forall_mem_cons.mpr ⟨lw_p30, List.forall_mem_cons.mpr ⟨lw_p31, fun _ h => absurd h List.not_mem_nil⟩⟩⟩⟩⟩⟩⟩⟩⟩⟩⟩⟩⟩⟩⟩⟩
theorem lw_p32 : lw_okq (⟨"PatchChains$Disk", "isChosen", "(II)Z"⟩, 8) := ⟨⟨by decide +kernel, by decide +kernel⟩, List.mem_of_getElem? (i := 212) (by decide +kernel), List.mem_of_getElem? (i := 828) (by decide +kernel), List.mem_of_getElem? (i := 829) (by decide +kernel)⟩
theorem lw_p33 : lw_okq (⟨"PatchChains$Disk", "writeSlot", "(ILPatchChains$Bytes;)Z"⟩, 8) := ⟨⟨by decide +kernel, by decide +kernel⟩, List.mem_of_getElem? (i := 212) (by decide +kernel), List.mem_of_getElem? (i := 832) (by decide +kernel), List.mem_of_getElem? (i := 833) (by decide +kernel)⟩
theorem lw_p34 : lw_okq (⟨"PatchChains$Disk", "spendWriting", "()Z"⟩, 8) := ⟨⟨by decide +kernel, by decide +kernel⟩, List.mem_of_getElem? (i := 212) (by decide +kernel), List.mem_of_getElem? (i := 836) (by decide +kernel), List.mem_of_getElem? (i := 837) (by decide +kernel)⟩
theorem lw_p35 : lw_okq (⟨"PatchChainsModel", "noTree", "(I)Z"⟩, 48) := ⟨⟨by decide +kernel, by decide +kernel⟩, List.mem_of_getElem? (i := 893) (by decide +kernel), List.mem_of_getElem? (i := 1067) (by decide +kernel), List.mem_of_getElem? (i := 1068) (by decide +kernel)⟩
theorem lw_p36 : lw_okq (⟨"PatchChainsModel", "moveFile", "(II)V"⟩, 48) := ⟨⟨by decide +kernel, by decide +kernel⟩, List.mem_of_getElem? (i := 893) (by decide +kernel), List.mem_of_getElem? (i := 1074) (by decide +kernel), List.mem_of_getElem? (i := 1075) (by decide +kernel)⟩
theorem lw_p37 : lw_okq (⟨"PatchChainsModel", "find", "(I[BII)I"⟩, 48) := ⟨⟨by decide +kernel, by decide +kernel⟩, List.mem_of_getElem? (i := 893) (by decide +kernel), List.mem_of_getElem? (i := 1085) (by decide +kernel), List.mem_of_getElem? (i := 1086) (by decide +kernel)⟩
theorem lw_p38 : lw_okq (⟨"PatchChainsModel", "isBlocked", "(I[BII)Z"⟩, 48) := ⟨⟨by decide +kernel, by decide +kernel⟩, List.mem_of_getElem? (i := 893) (by decide +kernel), List.mem_of_getElem? (i := 1092) (by decide +kernel), List.mem_of_getElem? (i := 1093) (by decide +kernel)⟩
theorem lw_p39 : lw_okq (⟨"PatchChainsModel", "addFile", "(I[BII[BII)V"⟩, 48) := ⟨⟨by decide +kernel, by decide +kernel⟩, List.mem_of_getElem? (i := 893) (by decide +kernel), List.mem_of_getElem? (i := 1102) (by decide +kernel), List.mem_of_getElem? (i := 1103) (by decide +kernel)⟩
theorem lw_p40 : lw_okq (⟨"PatchChainsModel", "isAlike", "(II)Z"⟩, 48) := ⟨⟨by decide +kernel, by decide +kernel⟩, List.mem_of_getElem? (i := 893) (by decide +kernel), List.mem_of_getElem? (i := 1128) (by decide +kernel), List.mem_of_getElem? (i := 1129) (by decide +kernel)⟩
theorem lw_p41 : lw_okq (⟨"PatchChainsModel", "addStep", "(IIIIZ)V"⟩, 48) := ⟨⟨by decide +kernel, by decide +kernel⟩, List.mem_of_getElem? (i := 893) (by decide +kernel), List.mem_of_getElem? (i := 1140) (by decide +kernel), List.mem_of_getElem? (i := 1141) (by decide +kernel)⟩
theorem lw_p42 : lw_okq (⟨"PatchChainsModel", "nameSpare", "(I[BII[BII)V"⟩, 48) := ⟨⟨by decide +kernel, by decide +kernel⟩, List.mem_of_getElem? (i := 893) (by decide +kernel), List.mem_of_getElem? (i := 1144) (by decide +kernel), List.mem_of_getElem? (i := 1145) (by decide +kernel)⟩
theorem lw_p43 : lw_okq (⟨"PatchChainsModel", "fillSpare", "(IIZ)V"⟩, 48) := ⟨⟨by decide +kernel, by decide +kernel⟩, List.mem_of_getElem? (i := 893) (by decide +kernel), List.mem_of_getElem? (i := 1148) (by decide +kernel), List.mem_of_getElem? (i := 1149) (by decide +kernel)⟩
theorem lw_p44 : lw_okq (⟨"PatchChainsModel", "findDelta", "([BII[BII[II)V"⟩, 48) := ⟨⟨by decide +kernel, by decide +kernel⟩, List.mem_of_getElem? (i := 893) (by decide +kernel), List.mem_of_getElem? (i := 1155) (by decide +kernel), List.mem_of_getElem? (i := 1156) (by decide +kernel)⟩
theorem lw_p45 : lw_okq (⟨"PatchChainsModel", "addSpare", "(I)V"⟩, 48) := ⟨⟨by decide +kernel, by decide +kernel⟩, List.mem_of_getElem? (i := 893) (by decide +kernel), List.mem_of_getElem? (i := 1165) (by decide +kernel), List.mem_of_getElem? (i := 1166) (by decide +kernel)⟩
theorem lw_p46 : lw_okq (⟨"PatchChainsModel", "orderOf", "(II)I"⟩, 48) := ⟨⟨by decide +kernel, by decide +kernel⟩, List.mem_of_getElem? (i := 893) (by decide +kernel), List.mem_of_getElem? (i := 1169) (by decide +kernel), List.mem_of_getElem? (i := 1170) (by decide +kernel)⟩
theorem lw_p47 : lw_okq (⟨"PatchChainsModel", "moveStep", "(II)V"⟩, 48) := ⟨⟨by decide +kernel, by decide +kernel⟩, List.mem_of_getElem? (i := 893) (by decide +kernel), List.mem_of_getElem? (i := 1173) (by decide +kernel), List.mem_of_getElem? (i := 1174) (by decide +kernel)⟩
def lw_privs_3 : List (MethodName × Nat) := [(⟨"PatchChains$Disk", "isChosen", "(II)Z"⟩, 8), (⟨"PatchChains$Disk", "writeSlot", "(ILPatchChains$Bytes;)Z"⟩, 8), (⟨"PatchChains$Disk", "spendWriting", "()Z"⟩, 8), (⟨"PatchChainsModel", "noTree", "(I)Z"⟩, 48), (⟨"PatchChainsModel", "moveFile", "(II)V"⟩, 48), (⟨"PatchChainsModel", "find", "(I[BII)I"⟩, 48), (⟨"PatchChainsModel", "isBlocked", "(I[BII)Z"⟩, 48), (⟨"PatchChainsModel", "addFile", "(I[BII[BII)V"⟩, 48), (⟨"PatchChainsModel", "isAlike", "(II)Z"⟩, 48), (⟨"PatchChainsModel", "addStep", "(IIIIZ)V"⟩, 48), (⟨"PatchChainsModel", "nameSpare", "(I[BII[BII)V"⟩, 48), (⟨"PatchChainsModel", "fillSpare", "(IIZ)V"⟩, 48), (⟨"PatchChainsModel", "findDelta", "([BII[BII[II)V"⟩, 48), (⟨"PatchChainsModel", "addSpare", "(I)V"⟩, 48), (⟨"PatchChainsModel", "orderOf", "(II)I"⟩, 48), (⟨"PatchChainsModel", "moveStep", "(II)V"⟩, 48)]
theorem lw_r3 : ∀ q ∈ lw_privs_3, lw_okq q := List.forall_mem_cons.mpr ⟨lw_p32, List.forall_mem_cons.mpr ⟨lw_p33, List.forall_mem_cons.mpr ⟨lw_p34, List.forall_mem_cons.mpr ⟨lw_p35, List.forall_mem_cons.mpr ⟨lw_p36, List.forall_mem_cons.mpr ⟨lw_p37, List.forall_mem_cons.mpr ⟨lw_p38, List.forall_mem_cons.mpr ⟨lw_p39, List.forall_mem_cons.mpr ⟨lw_p40, List.forall_mem_cons.mpr ⟨lw_p41, List.forall_mem_cons.mpr ⟨lw_p42, List.forall_mem_cons.mpr ⟨lw_p43, List.forall_mem_cons.mpr ⟨lw_p44, List.forall_mem_cons.mpr ⟨lw_p45, List.forall_mem_cons.mpr ⟨lw_p46, List.forall_mem_cons.mpr ⟨lw_p47, fun _ h => absurd h List.not_mem_nil⟩⟩⟩⟩⟩⟩⟩⟩⟩⟩⟩⟩⟩⟩⟩⟩
theorem lw_p48 : lw_okq (⟨"PatchChainsModel", "pairSame", "(II)V"⟩, 48) := ⟨⟨by decide +kernel, by decide +kernel⟩, List.mem_of_getElem? (i := 893) (by decide +kernel), List.mem_of_getElem? (i := 1177) (by decide +kernel), List.mem_of_getElem? (i := 1178) (by decide +kernel)⟩
theorem lw_p49 : lw_okq (⟨"PatchChainsModel", "isFree", "([II)Z"⟩, 48) := ⟨⟨by decide +kernel, by decide +kernel⟩, List.mem_of_getElem? (i := 893) (by decide +kernel), List.mem_of_getElem? (i := 1181) (by decide +kernel), List.mem_of_getElem? (i := 1182) (by decide +kernel)⟩
theorem lw_p50 : lw_okq (⟨"PatchChainsModel", "pairLike", "(III)Z"⟩, 48) := ⟨⟨by decide +kernel, by decide +kernel⟩, List.mem_of_getElem? (i := 893) (by decide +kernel), List.mem_of_getElem? (i := 1185) (by decide +kernel), List.mem_of_getElem? (i := 1186) (by decide +kernel)⟩
theorem lw_p51 : lw_okq (⟨"PatchChainsModel", "like", "(II)I"⟩, 48) := ⟨⟨by decide +kernel, by decide +kernel⟩, List.mem_of_getElem? (i := 893) (by decide +kernel), List.mem_of_getElem? (i := 1189) (by decide +kernel), List.mem_of_getElem? (i := 1190) (by decide +kernel)⟩
theorem lw_p52 : lw_okq (⟨"PatchChainsModel", "noPatch", "(I)Z"⟩, 48) := ⟨⟨by decide +kernel, by decide +kernel⟩, List.mem_of_getElem? (i := 893) (by decide +kernel), List.mem_of_getElem? (i := 1197) (by decide +kernel), List.mem_of_getElem? (i := 1198) (by decide +kernel)⟩
theorem lw_p53 : lw_okq (⟨"PatchChainsModel", "pieces", "([IIII)I"⟩, 48) := ⟨⟨by decide +kernel, by decide +kernel⟩, List.mem_of_getElem? (i := 893) (by decide +kernel), List.mem_of_getElem? (i := 1205) (by decide +kernel), List.mem_of_getElem? (i := 1206) (by decide +kernel)⟩
theorem lw_p54 : lw_okq (⟨"PatchChainsModel", "ruleOf", "(III)I"⟩, 48) := ⟨⟨by decide +kernel, by decide +kernel⟩, List.mem_of_getElem? (i := 893) (by decide +kernel), List.mem_of_getElem? (i := 1222) (by decide +kernel), List.mem_of_getElem? (i := 1223) (by decide +kernel)⟩
theorem lw_p55 : lw_okq (⟨"PatchChainsModel", "sourceOf", "(II)I"⟩, 48) := ⟨⟨by decide +kernel, by decide +kernel⟩, List.mem_of_getElem? (i := 893) (by decide +kernel), List.mem_of_getElem? (i := 1226) (by decide +kernel), List.mem_of_getElem? (i := 1227) (by decide +kernel)⟩
theorem lw_p56 : lw_okq (⟨"PatchChainsModel", "make", "(I[BII)V"⟩, 48) := ⟨⟨by decide +kernel, by decide +kernel⟩, List.mem_of_getElem? (i := 893) (by decide +kernel), List.mem_of_getElem? (i := 1230) (by decide +kernel), List.mem_of_getElem? (i := 1231) (by decide +kernel)⟩
theorem lw_p57 : lw_okq (⟨"PatchChainsModel", "isSource", "(I[BII)Z"⟩, 48) := ⟨⟨by decide +kernel, by decide +kernel⟩, List.mem_of_getElem? (i := 893) (by decide +kernel), List.mem_of_getElem? (i := 1234) (by decide +kernel), List.mem_of_getElem? (i := 1235) (by decide +kernel)⟩
theorem lw_p58 : lw_okq (⟨"PatchChainsModel", "makeTree", "(II)Z"⟩, 48) := ⟨⟨by decide +kernel, by decide +kernel⟩, List.mem_of_getElem? (i := 893) (by decide +kernel), List.mem_of_getElem? (i := 1238) (by decide +kernel), List.mem_of_getElem? (i := 1239) (by decide +kernel)⟩
theorem lw_p59 : lw_okq (⟨"PatchChainsModel", "swapSides", "()V"⟩, 48) := ⟨⟨by decide +kernel, by decide +kernel⟩, List.mem_of_getElem? (i := 893) (by decide +kernel), List.mem_of_getElem? (i := 1250) (by decide +kernel), List.mem_of_getElem? (i := 1251) (by decide +kernel)⟩
theorem lw_p60 : lw_okq (⟨"PatchChainsModel", "chainRule", "(III)I"⟩, 48) := ⟨⟨by decide +kernel, by decide +kernel⟩, List.mem_of_getElem? (i := 893) (by decide +kernel), List.mem_of_getElem? (i := 1258) (by decide +kernel), List.mem_of_getElem? (i := 1259) (by decide +kernel)⟩
theorem lw_p61 : lw_okq (⟨"PatchChainsModel", "hasSource", "(I)Z"⟩, 48) := ⟨⟨by decide +kernel, by decide +kernel⟩, List.mem_of_getElem? (i := 893) (by decide +kernel), List.mem_of_getElem? (i := 1262) (by decide +kernel), List.mem_of_getElem? (i := 1263) (by decide +kernel)⟩
theorem lw_p62 : lw_okq (⟨"PatchChainsModel", "targetAt", "(I[BII)I"⟩, 48) := ⟨⟨by decide +kernel, by decide +kernel⟩, List.mem_of_getElem? (i := 893) (by decide +kernel), List.mem_of_getElem? (i := 1266) (by decide +kernel), List.mem_of_getElem? (i := 1267) (by decide +kernel)⟩
theorem lw_p63 : lw_okq (⟨"PatchChainsModel", "hasTarget", "(I)Z"⟩, 48) := ⟨⟨by decide +kernel, by decide +kernel⟩, List.mem_of_getElem? (i := 893) (by decide +kernel), List.mem_of_getElem? (i := 1270) (by decide +kernel), List.mem_of_getElem? (i := 1271) (by decide +kernel)⟩
def lw_privs_4 : List (MethodName × Nat) := [(⟨"PatchChainsModel", "pairSame", "(II)V"⟩, 48), (⟨"PatchChainsModel", "isFree", "([II)Z"⟩, 48), (⟨"PatchChainsModel", "pairLike", "(III)Z"⟩, 48), (⟨"PatchChainsModel", "like", "(II)I"⟩, 48), (⟨"PatchChainsModel", "noPatch", "(I)Z"⟩, 48), (⟨"PatchChainsModel", "pieces", "([IIII)I"⟩, 48), (⟨"PatchChainsModel", "ruleOf", "(III)I"⟩, 48), (⟨"PatchChainsModel", "sourceOf", "(II)I"⟩, 48), (⟨"PatchChainsModel", "make", "(I[BII)V"⟩, 48), (⟨"PatchChainsModel", "isSource", "(I[BII)Z"⟩, 48), (⟨"PatchChainsModel", "makeTree", "(II)Z"⟩, 48), (⟨"PatchChainsModel", "swapSides", "()V"⟩, 48), (⟨"PatchChainsModel", "chainRule", "(III)I"⟩, 48), (⟨"PatchChainsModel", "hasSource", "(I)Z"⟩, 48), (⟨"PatchChainsModel", "targetAt", "(I[BII)I"⟩, 48), (⟨"PatchChainsModel", "hasTarget", "(I)Z"⟩, 48)]
theorem lw_r4 : ∀ q ∈ lw_privs_4, lw_okq q := List.forall_mem_cons.mpr ⟨lw_p48, List.forall_mem_cons.mpr ⟨lw_p49, List.forall_mem_cons.mpr ⟨lw_p50, List.forall_mem_cons.mpr ⟨lw_p51, List.forall_mem_cons.mpr ⟨lw_p52, List.forall_mem_cons.mpr ⟨lw_p53, List.forall_mem_cons.mpr ⟨lw_p54, List.forall_mem_cons.mpr ⟨lw_p55, List.forall_mem_cons.mpr ⟨lw_p56, List.forall_mem_cons.mpr ⟨lw_p57, List.forall_mem_cons.mpr ⟨lw_p58, List.forall_mem_cons.mpr ⟨lw_p59, List.forall_mem_cons.mpr ⟨lw_p60, List.forall_mem_cons.mpr ⟨lw_p61, List.forall_mem_cons.mpr ⟨lw_p62, List.forall_mem_cons.mpr ⟨lw_p63, fun _ h => absurd h List.not_mem_nil⟩⟩⟩⟩⟩⟩⟩⟩⟩⟩⟩⟩⟩⟩⟩⟩
theorem lw_p64 : lw_okq (⟨"PatchChainsModel", "sourceAt", "(I[BII)I"⟩, 48) := ⟨⟨by decide +kernel, by decide +kernel⟩, List.mem_of_getElem? (i := 893) (by decide +kernel), List.mem_of_getElem? (i := 1274) (by decide +kernel), List.mem_of_getElem? (i := 1275) (by decide +kernel)⟩
theorem lw_p65 : lw_okq (⟨"PatchChainsModel", "joinSteps", "(II)Z"⟩, 48) := ⟨⟨by decide +kernel, by decide +kernel⟩, List.mem_of_getElem? (i := 893) (by decide +kernel), List.mem_of_getElem? (i := 1278) (by decide +kernel), List.mem_of_getElem? (i := 1279) (by decide +kernel)⟩
theorem lw_p66 : lw_okq (⟨"PatchChainsModel", "isWhole", "(I)Z"⟩, 48) := ⟨⟨by decide +kernel, by decide +kernel⟩, List.mem_of_getElem? (i := 893) (by decide +kernel), List.mem_of_getElem? (i := 1285) (by decide +kernel), List.mem_of_getElem? (i := 1286) (by decide +kernel)⟩
theorem lw_p67 : lw_okq (⟨"PatchChainsModel", "toChain", "()Z"⟩, 48) := ⟨⟨by decide +kernel, by decide +kernel⟩, List.mem_of_getElem? (i := 893) (by decide +kernel), List.mem_of_getElem? (i := 1289) (by decide +kernel), List.mem_of_getElem? (i := 1290) (by decide +kernel)⟩
theorem lw_p68 : lw_okq (⟨"PatchChainsModel", "droppedAt", "(II)I"⟩, 48) := ⟨⟨by decide +kernel, by decide +kernel⟩, List.mem_of_getElem? (i := 893) (by decide +kernel), List.mem_of_getElem? (i := 1293) (by decide +kernel), List.mem_of_getElem? (i := 1294) (by decide +kernel)⟩
theorem lw_p69 : lw_okq (⟨"PatchChainsModel", "changeBy", "(II)V"⟩, 48) := ⟨⟨by decide +kernel, by decide +kernel⟩, List.mem_of_getElem? (i := 893) (by decide +kernel), List.mem_of_getElem? (i := 1297) (by decide +kernel), List.mem_of_getElem? (i := 1298) (by decide +kernel)⟩
theorem lw_p70 : lw_okq (⟨"PatchChainsModel", "kept", "(I)I"⟩, 48) := ⟨⟨by decide +kernel, by decide +kernel⟩, List.mem_of_getElem? (i := 893) (by decide +kernel), List.mem_of_getElem? (i := 1311) (by decide +kernel), List.mem_of_getElem? (i := 1312) (by decide +kernel)⟩
theorem lw_p71 : lw_okq (⟨"PatchChainsModel", "isInList", "(I)Z"⟩, 48) := ⟨⟨by decide +kernel, by decide +kernel⟩, List.mem_of_getElem? (i := 893) (by decide +kernel), List.mem_of_getElem? (i := 1315) (by decide +kernel), List.mem_of_getElem? (i := 1316) (by decide +kernel)⟩
theorem lw_p72 : lw_okq (⟨"PatchChainsModel", "isChosen", "(II)Z"⟩, 48) := ⟨⟨by decide +kernel, by decide +kernel⟩, List.mem_of_getElem? (i := 893) (by decide +kernel), List.mem_of_getElem? (i := 1319) (by decide +kernel), List.mem_of_getElem? (i := 1320) (by decide +kernel)⟩
theorem lw_p73 : lw_okq (⟨"PatchChainsModel", "mayWrite", "()Z"⟩, 48) := ⟨⟨by decide +kernel, by decide +kernel⟩, List.mem_of_getElem? (i := 893) (by decide +kernel), List.mem_of_getElem? (i := 1323) (by decide +kernel), List.mem_of_getElem? (i := 1324) (by decide +kernel)⟩
def lw_privs_5 : List (MethodName × Nat) := [(⟨"PatchChainsModel", "sourceAt", "(I[BII)I"⟩, 48), (⟨"PatchChainsModel", "joinSteps", "(II)Z"⟩, 48), (⟨"PatchChainsModel", "isWhole", "(I)Z"⟩, 48), (⟨"PatchChainsModel", "toChain", "()Z"⟩, 48), (⟨"PatchChainsModel", "droppedAt", "(II)I"⟩, 48), (⟨"PatchChainsModel", "changeBy", "(II)V"⟩, 48), (⟨"PatchChainsModel", "kept", "(I)I"⟩, 48), (⟨"PatchChainsModel", "isInList", "(I)Z"⟩, 48), (⟨"PatchChainsModel", "isChosen", "(II)Z"⟩, 48), (⟨"PatchChainsModel", "mayWrite", "()Z"⟩, 48)]
theorem lw_r5 : ∀ q ∈ lw_privs_5, lw_okq q := List.forall_mem_cons.mpr ⟨lw_p64, List.forall_mem_cons.mpr ⟨lw_p65, List.forall_mem_cons.mpr ⟨lw_p66, List.forall_mem_cons.mpr ⟨lw_p67, List.forall_mem_cons.mpr ⟨lw_p68, List.forall_mem_cons.mpr ⟨lw_p69, List.forall_mem_cons.mpr ⟨lw_p70, List.forall_mem_cons.mpr ⟨lw_p71, List.forall_mem_cons.mpr ⟨lw_p72, List.forall_mem_cons.mpr ⟨lw_p73, fun _ h => absurd h List.not_mem_nil⟩⟩⟩⟩⟩⟩⟩⟩⟩⟩
def lw_privs : List (MethodName × Nat) := lw_privs_1 ++ (lw_privs_2 ++ (lw_privs_3 ++ (lw_privs_4 ++ (lw_privs_5))))
def lw_tbl : List Cond := k2_sels lw_privs ++ tables_1
theorem lw_privs_ok : ∀ q ∈ lw_privs, lw_okq q := by
  show ∀ q ∈ lw_privs_1 ++ (lw_privs_2 ++ (lw_privs_3 ++ (lw_privs_4 ++ (lw_privs_5)))), lw_okq q
  exact List.forall_mem_append.mpr ⟨lw_r1, List.forall_mem_append.mpr ⟨lw_r2, List.forall_mem_append.mpr ⟨lw_r3, List.forall_mem_append.mpr ⟨lw_r4, lw_r5⟩⟩⟩⟩
/-! the words that are kept, the classes, the types of arrays -/
def xkeep : Jvm.Cond → Bool
  | .initialized .. => true
  | .classLink .. => true
  | .instantiable .. => true
  | .methodLink .. => true
  | .instanceMethod .. => true
  | .code .. => true
  | .fieldLink .. => true
  | .lays .. => true
  | .laysFinal .. => true
  | .selects .. => true
  | .static .. => true
  | .arrayClass .. => true
  | .constant .. => true
  | .constantLong .. => true
  | _ => false
def xB : List Jvm.Cond := lw_tbl.filter xkeep
theorem xkeep_good : ∀ w : Jvm.Cond, xkeep w = true → (w.onTables && w.keeps) = true ∨ ∃ ty, w = .arrayClass ty := by
  intro w h
  cases w <;> first | exact Or.inl rfl | exact Or.inr ⟨_, rfl⟩ | (exact absurd h (by decide)) | cases h
theorem xB_good : ∀ w ∈ xB, (w.onTables && w.keeps) = true ∨ ∃ ty, w = .arrayClass ty := fun w h => xkeep_good w (List.mem_filter.mp h).2
def F_PC : u_T := fun k => match k with
  | 0 => ("PatchChains", "tape", "LPatchChains$Bytes;", true)
  | 1 => ("PatchChains", "pathAtHand", "LPatchChains$Bytes;", true)
  | 2 => ("PatchChains", "trees", "[LPatchChains$Tree;", true)
  | 3 => ("PatchChains", "patches", "[LPatchChains$Patch;", true)
  | 4 => ("PatchChains", "differ", "LPatchChains$Differ;", true)
  | 5 => ("PatchChains", "applier", "LPatchChains$Applier;", true)
  | 6 => ("PatchChains", "disk", "LPatchChains$Disk;", true)
  | 7 => ("PatchChains", "treeCount", "I", false)
  | _ => ("PatchChains", "patchCount", "I", false)
def F_By : u_T := fun k => match k with
  | 0 => ("PatchChains$Bytes", "row", "[I", true)
  | _ => ("PatchChains$Bytes", "size", "I", false)
def F_Tr : u_T := fun k => match k with
  | 0 => ("PatchChains$Tree", "paths", "[LPatchChains$Bytes;", true)
  | 1 => ("PatchChains$Tree", "contents", "[LPatchChains$Bytes;", true)
  | 2 => ("PatchChains$Tree", "nothing", "LPatchChains$Bytes;", true)
  | _ => ("PatchChains$Tree", "size", "I", false)
def F_De : u_T := fun k => match k with
  | 0 => ("PatchChains$Delta", "origins", "[I", true)
  | _ => ("PatchChains$Delta", "size", "I", false)
def F_St : u_T := fun k => match k with
  | 0 => ("PatchChains$Step", "path", "LPatchChains$Bytes;", true)
  | 1 => ("PatchChains$Step", "from", "LPatchChains$Bytes;", true)
  | 2 => ("PatchChains$Step", "delta", "LPatchChains$Delta;", true)
  | 3 => ("PatchChains$Step", "back", "LPatchChains$Delta;", true)
  | 4 => ("PatchChains$Step", "sort", "I", false)
  | 5 => ("PatchChains$Step", "sourceLength", "I", false)
  | 6 => ("PatchChains$Step", "sourceSum", "I", false)
  | 7 => ("PatchChains$Step", "targetLength", "I", false)
  | _ => ("PatchChains$Step", "targetSum", "I", false)
def F_Pa : u_T := fun k => match k with
  | 0 => ("PatchChains$Patch", "steps", "[LPatchChains$Step;", true)
  | _ => ("PatchChains$Patch", "size", "I", false)
def F_We : u_T := fun k => match k with
  | 0 => ("PatchChains$Weaver", "runs", "[I", true)
  | 1 => ("PatchChains$Weaver", "costs", "[I", true)
  | 2 => ("PatchChains$Weaver", "copyLengths", "[I", true)
  | _ => ("PatchChains$Weaver", "copyPlaces", "[I", true)
def F_Di : u_T := fun k => match k with
  | 0 => ("PatchChains$Differ", "weaver", "LPatchChains$Weaver;", true)
  | 1 => ("PatchChains$Differ", "goneLeft", "[Z", true)
  | 2 => ("PatchChains$Differ", "newLeft", "[Z", true)
  | 3 => ("PatchChains$Differ", "likeness", "[[I", true)
  | _ => ("PatchChains$Differ", "common", "[I", true)
def F_Ap : u_T := fun k => match k with
  | 0 => ("PatchChains$Applier", "goes", "[Z", true)
  | 1 => ("PatchChains$Applier", "conflictSteps", "[I", true)
  | 2 => ("PatchChains$Applier", "conflictRules", "[I", true)
  | 3 => ("PatchChains$Applier", "made", "LPatchChains$Bytes;", true)
  | _ => ("PatchChains$Applier", "conflicts", "I", false)
def F_Li : u_T := fun k => match k with
  | 0 => ("PatchChains$Listing", "paths", "[LPatchChains$Bytes;", true)
  | 1 => ("PatchChains$Listing", "slots", "[I", true)
  | _ => ("PatchChains$Listing", "size", "I", false)
def F_Dk : u_T := fun k => match k with
  | 0 => ("PatchChains$Disk", "contents", "[LPatchChains$Bytes;", true)
  | 1 => ("PatchChains$Disk", "written", "[Z", true)
  | 2 => ("PatchChains$Disk", "lists", "[LPatchChains$Listing;", true)
  | 3 => ("PatchChains$Disk", "chosen", "[I", true)
  | 4 => ("PatchChains$Disk", "counting", "I", false)
  | 5 => ("PatchChains$Disk", "powerLeft", "I", false)
  | 6 => ("PatchChains$Disk", "writings", "I", false)
  | _ => ("PatchChains$Disk", "down", "Z", false)
def F_Mo : u_T := fun k => match k with
  | 0 => ("PatchChainsModel", "thrown", "I", false)
  | 1 => ("PatchChainsModel", "tape", "[B", true)
  | 2 => ("PatchChainsModel", "tapeSize", "I", false)
  | 3 => ("PatchChainsModel", "hand", "[B", true)
  | 4 => ("PatchChainsModel", "handSize", "I", false)
  | 5 => ("PatchChainsModel", "paths", "[B", true)
  | 6 => ("PatchChainsModel", "pathSize", "[I", true)
  | 7 => ("PatchChainsModel", "contents", "[B", true)
  | 8 => ("PatchChainsModel", "size", "[I", true)
  | 9 => ("PatchChainsModel", "files", "[I", true)
  | 10 => ("PatchChainsModel", "trees", "I", false)
  | 11 => ("PatchChainsModel", "sort", "[I", true)
  | 12 => ("PatchChainsModel", "to", "[B", true)
  | 13 => ("PatchChainsModel", "toSize", "[I", true)
  | 14 => ("PatchChainsModel", "from", "[B", true)
  | 15 => ("PatchChainsModel", "fromSize", "[I", true)
  | 16 => ("PatchChainsModel", "oldSize", "[I", true)
  | 17 => ("PatchChainsModel", "oldSum", "[I", true)
  | 18 => ("PatchChainsModel", "newSize", "[I", true)
  | 19 => ("PatchChainsModel", "newSum", "[I", true)
  | 20 => ("PatchChainsModel", "delta", "[I", true)
  | 21 => ("PatchChainsModel", "back", "[I", true)
  | 22 => ("PatchChainsModel", "steps", "[I", true)
  | 23 => ("PatchChainsModel", "patches", "I", false)
  | 24 => ("PatchChainsModel", "cost", "[I", true)
  | 25 => ("PatchChainsModel", "take", "[I", true)
  | 26 => ("PatchChainsModel", "alike", "[I", true)
  | 27 => ("PatchChainsModel", "goneWith", "[I", true)
  | 28 => ("PatchChainsModel", "newWith", "[I", true)
  | 29 => ("PatchChainsModel", "pieceFrom", "I", false)
  | 30 => ("PatchChainsModel", "pieceTo", "I", false)
  | 31 => ("PatchChainsModel", "goes", "[Z", true)
  | 32 => ("PatchChainsModel", "clashStep", "[I", true)
  | 33 => ("PatchChainsModel", "clashRule", "[I", true)
  | 34 => ("PatchChainsModel", "clashes", "I", false)
  | 35 => ("PatchChainsModel", "made", "[B", true)
  | 36 => ("PatchChainsModel", "isTaken", "[Z", true)
  | 37 => ("PatchChainsModel", "slots", "[B", true)
  | 38 => ("PatchChainsModel", "slotSize", "[I", true)
  | 39 => ("PatchChainsModel", "listPath", "[B", true)
  | 40 => ("PatchChainsModel", "listPathSize", "[I", true)
  | 41 => ("PatchChainsModel", "listSlot", "[I", true)
  | 42 => ("PatchChainsModel", "listMany", "[I", true)
  | 43 => ("PatchChainsModel", "counts", "I", false)
  | 44 => ("PatchChainsModel", "left", "I", false)
  | 45 => ("PatchChainsModel", "isDown", "Z", false)
  | 46 => ("PatchChainsModel", "writings", "I", false)
  | _ => ("PatchChainsModel", "chosen", "[I", true)
def xcs : List vw_C := [("PatchChains", F_PC, 9), ("PatchChains$Bytes", F_By, 2), ("PatchChains$Tree", F_Tr, 4), ("PatchChains$Delta", F_De, 2), ("PatchChains$Step", F_St, 9), ("PatchChains$Patch", F_Pa, 2), ("PatchChains$Weaver", F_We, 4), ("PatchChains$Differ", F_Di, 5), ("PatchChains$Applier", F_Ap, 5), ("PatchChains$Listing", F_Li, 3), ("PatchChains$Disk", F_Dk, 8), ("PatchChainsModel", F_Mo, 48)]
def xtl : List FieldType := [.int, .boolean, .byte, .object "PatchChains$Bytes", .object "PatchChains$Tree", .object "PatchChains$Step", .object "PatchChains$Patch", .object "PatchChains$Listing", .array .int]
def xnl : List Jvm.Cond := [
  .fieldLinkNest "PatchChains$Differ" 101 "PatchChains$Bytes" "row" "[I" "PatchChains",
  .fieldLinkNest "PatchChains$Differ" 98 "PatchChains$Bytes" "size" "I" "PatchChains",
  .fieldLinkNest "PatchChains$Joiner" 63 "PatchChains$Step" "path" "LPatchChains$Bytes;" "PatchChains",
  .fieldLinkNest "PatchChains$Applier" 103 "PatchChains$Step" "path" "LPatchChains$Bytes;" "PatchChains",
  .fieldLinkNest "PatchChains" 147 "PatchChains$Step" "path" "LPatchChains$Bytes;" "PatchChains",
  .fieldLinkNest "PatchChains$Joiner" 45 "PatchChains$Step" "from" "LPatchChains$Bytes;" "PatchChains",
  .fieldLinkNest "PatchChains$Applier" 61 "PatchChains$Step" "from" "LPatchChains$Bytes;" "PatchChains",
  .fieldLinkNest "PatchChains" 150 "PatchChains$Step" "from" "LPatchChains$Bytes;" "PatchChains",
  .fieldLinkNest "PatchChains$Applier" 87 "PatchChains$Step" "delta" "LPatchChains$Delta;" "PatchChains",
  .fieldLinkNest "PatchChains$Differ" 120 "PatchChains$Step" "delta" "LPatchChains$Delta;" "PatchChains",
  .fieldLinkNest "PatchChains" 153 "PatchChains$Step" "delta" "LPatchChains$Delta;" "PatchChains",
  .fieldLinkNest "PatchChains$Differ" 130 "PatchChains$Step" "back" "LPatchChains$Delta;" "PatchChains",
  .fieldLinkNest "PatchChains" 163 "PatchChains$Step" "back" "LPatchChains$Delta;" "PatchChains",
  .fieldLinkNest "PatchChains$Joiner" 77 "PatchChains$Step" "sort" "I" "PatchChains",
  .fieldLinkNest "PatchChains$Differ" 108 "PatchChains$Step" "sort" "I" "PatchChains",
  .fieldLinkNest "PatchChains$Applier" 100 "PatchChains$Step" "targetSum" "I" "PatchChains",
  .fieldLinkNest "PatchChains$Disk" 93 "PatchChains$Listing" "paths" "[LPatchChains$Bytes;" "PatchChains",
  .fieldLinkNest "PatchChains$Disk" 86 "PatchChains$Listing" "slots" "[I" "PatchChains"]
def xol : xOl := ([.object "PatchChains$Tree", .object "PatchChains$Bytes", .object "PatchChains$Patch", .object "PatchChains$Step", .array .int, .object "PatchChains$Listing"], xnl)
def yI0 : MethodName := ⟨"PatchChainsModel", "in", "(JJJ)Z"⟩
abbrev bI0 : ByteArray := prog_14_method_2_code
