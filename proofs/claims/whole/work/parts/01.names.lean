-- ===== PART A: goes FIRST, ahead of the names: the tables' words, and 'selects' of the private methods out of them =====
/-- a private method of a class that the tables say can be made, by its rows of tables_1 -/
def lw_okq (q : MethodName × Nat) : Prop := (q.1.cls ≠ "java/lang/invoke/MethodHandle" ∧ q.1.cls ≠ "java/lang/invoke/VarHandle") ∧ Cond.instantiable q.1.cls q.2 ∈ tables_1 ∧ Cond.privateMethod q.1 ∈ tables_1 ∧ Cond.instanceMethod q.1 ∈ tables_1
theorem lw_p0 : lw_okq (⟨"BranchSums$Roller", "rollBranch", "(LBranchSums$Org;II)V"⟩, 4) := ⟨⟨by decide +kernel, by decide +kernel⟩, List.mem_of_getElem? (i := 124) (by decide +kernel), List.mem_of_getElem? (i := 372) (by decide +kernel), List.mem_of_getElem? (i := 373) (by decide +kernel)⟩
theorem lw_p1 : lw_okq (⟨"BranchSums$Roller", "mergeParts", "(LBranchSums$Org;II)V"⟩, 4) := ⟨⟨by decide +kernel, by decide +kernel⟩, List.mem_of_getElem? (i := 124) (by decide +kernel), List.mem_of_getElem? (i := 385) (by decide +kernel), List.mem_of_getElem? (i := 386) (by decide +kernel)⟩
theorem lw_p2 : lw_okq (⟨"BranchSums$Roller", "mergeIn", "([I)V"⟩, 4) := ⟨⟨by decide +kernel, by decide +kernel⟩, List.mem_of_getElem? (i := 124) (by decide +kernel), List.mem_of_getElem? (i := 390) (by decide +kernel), List.mem_of_getElem? (i := 391) (by decide +kernel)⟩
theorem lw_p3 : lw_okq (⟨"BranchSums", "recodeOwn", "(III)V"⟩, 12) := ⟨⟨by decide +kernel, by decide +kernel⟩, List.mem_of_getElem? (i := 17) (by decide +kernel), List.mem_of_getElem? (i := 407) (by decide +kernel), List.mem_of_getElem? (i := 408) (by decide +kernel)⟩
theorem lw_p4 : lw_okq (⟨"BranchSums$Tape", "readHead", "()Z"⟩, 7) := ⟨⟨by decide +kernel, by decide +kernel⟩, List.mem_of_getElem? (i := 145) (by decide +kernel), List.mem_of_getElem? (i := 424) (by decide +kernel), List.mem_of_getElem? (i := 425) (by decide +kernel)⟩
theorem lw_p5 : lw_okq (⟨"BranchSums$Tape", "readNumber", "()Z"⟩, 7) := ⟨⟨by decide +kernel, by decide +kernel⟩, List.mem_of_getElem? (i := 145) (by decide +kernel), List.mem_of_getElem? (i := 428) (by decide +kernel), List.mem_of_getElem? (i := 429) (by decide +kernel)⟩
theorem lw_p6 : lw_okq (⟨"BranchSums$Tape", "nextSign", "()I"⟩, 7) := ⟨⟨by decide +kernel, by decide +kernel⟩, List.mem_of_getElem? (i := 145) (by decide +kernel), List.mem_of_getElem? (i := 432) (by decide +kernel), List.mem_of_getElem? (i := 433) (by decide +kernel)⟩
theorem lw_p7 : lw_okq (⟨"BranchSums$Tape", "refuse", "(II)Z"⟩, 7) := ⟨⟨by decide +kernel, by decide +kernel⟩, List.mem_of_getElem? (i := 145) (by decide +kernel), List.mem_of_getElem? (i := 439) (by decide +kernel), List.mem_of_getElem? (i := 440) (by decide +kernel)⟩
theorem lw_p8 : lw_okq (⟨"BranchSums$Tape", "readUnits", "(LBranchSums$Org;)Z"⟩, 7) := ⟨⟨by decide +kernel, by decide +kernel⟩, List.mem_of_getElem? (i := 145) (by decide +kernel), List.mem_of_getElem? (i := 445) (by decide +kernel), List.mem_of_getElem? (i := 446) (by decide +kernel)⟩
theorem lw_p9 : lw_okq (⟨"BranchSums$Tape", "readUnit", "(LBranchSums$Org;I)I"⟩, 7) := ⟨⟨by decide +kernel, by decide +kernel⟩, List.mem_of_getElem? (i := 145) (by decide +kernel), List.mem_of_getElem? (i := 449) (by decide +kernel), List.mem_of_getElem? (i := 450) (by decide +kernel)⟩
theorem lw_p10 : lw_okq (⟨"BranchSums$Tape", "readEntries", "(LBranchSums$Org;)Z"⟩, 7) := ⟨⟨by decide +kernel, by decide +kernel⟩, List.mem_of_getElem? (i := 145) (by decide +kernel), List.mem_of_getElem? (i := 457) (by decide +kernel), List.mem_of_getElem? (i := 458) (by decide +kernel)⟩
theorem lw_p11 : lw_okq (⟨"BranchSums$Tape", "takeSign", "(C)Z"⟩, 7) := ⟨⟨by decide +kernel, by decide +kernel⟩, List.mem_of_getElem? (i := 145) (by decide +kernel), List.mem_of_getElem? (i := 461) (by decide +kernel), List.mem_of_getElem? (i := 462) (by decide +kernel)⟩
theorem lw_p12 : lw_okq (⟨"BranchSums$Tape", "readEntry", "(LBranchSums$Org;)Z"⟩, 7) := ⟨⟨by decide +kernel, by decide +kernel⟩, List.mem_of_getElem? (i := 145) (by decide +kernel), List.mem_of_getElem? (i := 465) (by decide +kernel), List.mem_of_getElem? (i := 466) (by decide +kernel)⟩
theorem lw_p13 : lw_okq (⟨"BranchSums$Tape", "readAmount", "([I)Z"⟩, 7) := ⟨⟨by decide +kernel, by decide +kernel⟩, List.mem_of_getElem? (i := 145) (by decide +kernel), List.mem_of_getElem? (i := 469) (by decide +kernel), List.mem_of_getElem? (i := 470) (by decide +kernel)⟩
theorem lw_p14 : lw_okq (⟨"BranchSums$Book", "limitAt", "(III)I"⟩, 7) := ⟨⟨by decide +kernel, by decide +kernel⟩, List.mem_of_getElem? (i := 89) (by decide +kernel), List.mem_of_getElem? (i := 502) (by decide +kernel), List.mem_of_getElem? (i := 503) (by decide +kernel)⟩
theorem lw_p15 : lw_okq (⟨"BranchSums", "brokenCount", "()I"⟩, 12) := ⟨⟨by decide +kernel, by decide +kernel⟩, List.mem_of_getElem? (i := 17) (by decide +kernel), List.mem_of_getElem? (i := 514) (by decide +kernel), List.mem_of_getElem? (i := 515) (by decide +kernel)⟩
def lw_privs_1 : List (MethodName × Nat) := [(⟨"BranchSums$Roller", "rollBranch", "(LBranchSums$Org;II)V"⟩, 4), (⟨"BranchSums$Roller", "mergeParts", "(LBranchSums$Org;II)V"⟩, 4), (⟨"BranchSums$Roller", "mergeIn", "([I)V"⟩, 4), (⟨"BranchSums", "recodeOwn", "(III)V"⟩, 12), (⟨"BranchSums$Tape", "readHead", "()Z"⟩, 7), (⟨"BranchSums$Tape", "readNumber", "()Z"⟩, 7), (⟨"BranchSums$Tape", "nextSign", "()I"⟩, 7), (⟨"BranchSums$Tape", "refuse", "(II)Z"⟩, 7), (⟨"BranchSums$Tape", "readUnits", "(LBranchSums$Org;)Z"⟩, 7), (⟨"BranchSums$Tape", "readUnit", "(LBranchSums$Org;I)I"⟩, 7), (⟨"BranchSums$Tape", "readEntries", "(LBranchSums$Org;)Z"⟩, 7), (⟨"BranchSums$Tape", "takeSign", "(C)Z"⟩, 7), (⟨"BranchSums$Tape", "readEntry", "(LBranchSums$Org;)Z"⟩, 7), (⟨"BranchSums$Tape", "readAmount", "([I)Z"⟩, 7), (⟨"BranchSums$Book", "limitAt", "(III)I"⟩, 7), (⟨"BranchSums", "brokenCount", "()I"⟩, 12)]
theorem lw_r1 : ∀ q ∈ lw_privs_1, lw_okq q := List.forall_mem_cons.mpr ⟨lw_p0, List.forall_mem_cons.mpr ⟨lw_p1, List.forall_mem_cons.mpr ⟨lw_p2, List.forall_mem_cons.mpr ⟨lw_p3, List.forall_mem_cons.mpr ⟨lw_p4, List.forall_mem_cons.mpr ⟨lw_p5, List.forall_mem_cons.mpr ⟨lw_p6, List.forall_mem_cons.mpr ⟨lw_p7, List.forall_mem_cons.mpr ⟨lw_p8, List.forall_mem_cons.mpr ⟨lw_p9, List.forall_mem_cons.mpr ⟨lw_p10, List.forall_mem_cons.mpr ⟨lw_p11, List.forall_mem_cons.mpr ⟨lw_p12, List.forall_mem_cons.mpr ⟨lw_p13, List.forall_mem_cons.mpr ⟨lw_p14, List.forall_mem_cons.mpr ⟨lw_p15, fun _ h => absurd h List.not_mem_nil⟩⟩⟩⟩⟩⟩⟩⟩⟩⟩⟩⟩⟩⟩⟩⟩
theorem lw_p16 : lw_okq (⟨"BranchSums", "excessOver", "(I)I"⟩, 12) := ⟨⟨by decide +kernel, by decide +kernel⟩, List.mem_of_getElem? (i := 17) (by decide +kernel), List.mem_of_getElem? (i := 518) (by decide +kernel), List.mem_of_getElem? (i := 519) (by decide +kernel)⟩
theorem lw_p17 : lw_okq (⟨"BranchSums", "branchSumOf", "(I)[I"⟩, 12) := ⟨⟨by decide +kernel, by decide +kernel⟩, List.mem_of_getElem? (i := 17) (by decide +kernel), List.mem_of_getElem? (i := 571) (by decide +kernel), List.mem_of_getElem? (i := 572) (by decide +kernel)⟩
theorem lw_p18 : lw_okq (⟨"BranchSums$Report", "putNumber", "(I)V"⟩, 2) := ⟨⟨by decide +kernel, by decide +kernel⟩, List.mem_of_getElem? (i := 176) (by decide +kernel), List.mem_of_getElem? (i := 730) (by decide +kernel), List.mem_of_getElem? (i := 731) (by decide +kernel)⟩
theorem lw_p19 : lw_okq (⟨"BranchSums$Report", "put", "(I)V"⟩, 2) := ⟨⟨by decide +kernel, by decide +kernel⟩, List.mem_of_getElem? (i := 176) (by decide +kernel), List.mem_of_getElem? (i := 735) (by decide +kernel), List.mem_of_getElem? (i := 736) (by decide +kernel)⟩
theorem lw_p20 : lw_okq (⟨"BranchSums", "otherLeaders", "()I"⟩, 12) := ⟨⟨by decide +kernel, by decide +kernel⟩, List.mem_of_getElem? (i := 17) (by decide +kernel), List.mem_of_getElem? (i := 825) (by decide +kernel), List.mem_of_getElem? (i := 826) (by decide +kernel)⟩
theorem lw_p21 : lw_okq (⟨"BranchSums", "apartFromHome", "(II)I"⟩, 12) := ⟨⟨by decide +kernel, by decide +kernel⟩, List.mem_of_getElem? (i := 17) (by decide +kernel), List.mem_of_getElem? (i := 833) (by decide +kernel), List.mem_of_getElem? (i := 834) (by decide +kernel)⟩
theorem lw_p22 : lw_okq (⟨"BranchSums", "rightSet", "()I"⟩, 12) := ⟨⟨by decide +kernel, by decide +kernel⟩, List.mem_of_getElem? (i := 17) (by decide +kernel), List.mem_of_getElem? (i := 847) (by decide +kernel), List.mem_of_getElem? (i := 848) (by decide +kernel)⟩
theorem lw_p23 : lw_okq (⟨"BranchSums", "ownEntries", "()I"⟩, 12) := ⟨⟨by decide +kernel, by decide +kernel⟩, List.mem_of_getElem? (i := 17) (by decide +kernel), List.mem_of_getElem? (i := 853) (by decide +kernel), List.mem_of_getElem? (i := 854) (by decide +kernel)⟩
theorem lw_p24 : lw_okq (⟨"BranchSums", "sumNodes", "()I"⟩, 12) := ⟨⟨by decide +kernel, by decide +kernel⟩, List.mem_of_getElem? (i := 17) (by decide +kernel), List.mem_of_getElem? (i := 857) (by decide +kernel), List.mem_of_getElem? (i := 858) (by decide +kernel)⟩
theorem lw_p25 : lw_okq (⟨"BranchSums", "unusedCategories", "()I"⟩, 12) := ⟨⟨by decide +kernel, by decide +kernel⟩, List.mem_of_getElem? (i := 17) (by decide +kernel), List.mem_of_getElem? (i := 861) (by decide +kernel), List.mem_of_getElem? (i := 862) (by decide +kernel)⟩
theorem lw_p26 : lw_okq (⟨"BranchSums", "apartFromImage", "()I"⟩, 12) := ⟨⟨by decide +kernel, by decide +kernel⟩, List.mem_of_getElem? (i := 17) (by decide +kernel), List.mem_of_getElem? (i := 865) (by decide +kernel), List.mem_of_getElem? (i := 866) (by decide +kernel)⟩
theorem lw_p27 : lw_okq (⟨"BranchSumsModel", "counts", "(II)V"⟩, 20) := ⟨⟨by decide +kernel, by decide +kernel⟩, List.mem_of_getElem? (i := 869) (by decide +kernel), List.mem_of_getElem? (i := 942) (by decide +kernel), List.mem_of_getElem? (i := 943) (by decide +kernel)⟩
theorem lw_p28 : lw_okq (⟨"BranchSumsModel", "isUnit", "(I)Z"⟩, 20) := ⟨⟨by decide +kernel, by decide +kernel⟩, List.mem_of_getElem? (i := 869) (by decide +kernel), List.mem_of_getElem? (i := 950) (by decide +kernel), List.mem_of_getElem? (i := 951) (by decide +kernel)⟩
theorem lw_p29 : lw_okq (⟨"BranchSumsModel", "remembers", "()V"⟩, 20) := ⟨⟨by decide +kernel, by decide +kernel⟩, List.mem_of_getElem? (i := 869) (by decide +kernel), List.mem_of_getElem? (i := 963) (by decide +kernel), List.mem_of_getElem? (i := 964) (by decide +kernel)⟩
theorem lw_p30 : lw_okq (⟨"BranchSumsModel", "isStaleFrom", "(I)V"⟩, 20) := ⟨⟨by decide +kernel, by decide +kernel⟩, List.mem_of_getElem? (i := 869) (by decide +kernel), List.mem_of_getElem? (i := 967) (by decide +kernel), List.mem_of_getElem? (i := 968) (by decide +kernel)⟩
theorem lw_p31 : lw_okq (⟨"BranchSumsModel", "depth", "(I)I"⟩, 20) := ⟨⟨by decide +kernel, by decide +kernel⟩, List.mem_of_getElem? (i := 869) (by decide +kernel), List.mem_of_getElem? (i := 975) (by decide +kernel), List.mem_of_getElem? (i := 976) (by decide +kernel)⟩
def lw_privs_2 : List (MethodName × Nat) := [(⟨"BranchSums", "excessOver", "(I)I"⟩, 12), (⟨"BranchSums", "branchSumOf", "(I)[I"⟩, 12), (⟨"BranchSums$Report", "putNumber", "(I)V"⟩, 2), (⟨"BranchSums$Report", "put", "(I)V"⟩, 2), (⟨"BranchSums", "otherLeaders", "()I"⟩, 12), (⟨"BranchSums", "apartFromHome", "(II)I"⟩, 12), (⟨"BranchSums", "rightSet", "()I"⟩, 12), (⟨"BranchSums", "ownEntries", "()I"⟩, 12), (⟨"BranchSums", "sumNodes", "()I"⟩, 12), (⟨"BranchSums", "unusedCategories", "()I"⟩, 12), (⟨"BranchSums", "apartFromImage", "()I"⟩, 12), (⟨"BranchSumsModel", "counts", "(II)V"⟩, 20), (⟨"BranchSumsModel", "isUnit", "(I)Z"⟩, 20), (⟨"BranchSumsModel", "remembers", "()V"⟩, 20), (⟨"BranchSumsModel", "isStaleFrom", "(I)V"⟩, 20), (⟨"BranchSumsModel", "depth", "(I)I"⟩, 20)]
theorem lw_r2 : ∀ q ∈ lw_privs_2, lw_okq q := List.forall_mem_cons.mpr ⟨lw_p16, List.forall_mem_cons.mpr ⟨lw_p17, List.forall_mem_cons.mpr ⟨lw_p18, List.forall_mem_cons.mpr ⟨lw_p19, List.forall_mem_cons.mpr ⟨lw_p20, List.forall_mem_cons.mpr ⟨lw_p21, List.forall_mem_cons.mpr ⟨lw_p22, List.forall_mem_cons.mpr ⟨lw_p23, List.forall_mem_cons.mpr ⟨lw_p24, List.forall_mem_cons.mpr ⟨lw_p25, List.forall_mem_cons.mpr ⟨lw_p26, List.forall_mem_cons.mpr ⟨lw_p27, List.forall_mem_cons.mpr ⟨lw_p28, List.forall_mem_cons.mpr ⟨lw_p29, List.forall_mem_cons.mpr ⟨lw_p30, List.forall_mem_cons.mpr ⟨lw_p31, fun _ h => absurd h List.not_mem_nil⟩⟩⟩⟩⟩⟩⟩⟩⟩⟩⟩⟩⟩⟩⟩⟩
theorem lw_p32 : lw_okq (⟨"BranchSumsModel", "clears", "(I)V"⟩, 20) := ⟨⟨by decide +kernel, by decide +kernel⟩, List.mem_of_getElem? (i := 869) (by decide +kernel), List.mem_of_getElem? (i := 979) (by decide +kernel), List.mem_of_getElem? (i := 980) (by decide +kernel)⟩
theorem lw_p33 : lw_okq (⟨"BranchSumsModel", "belowMany", "(I)I"⟩, 20) := ⟨⟨by decide +kernel, by decide +kernel⟩, List.mem_of_getElem? (i := 869) (by decide +kernel), List.mem_of_getElem? (i := 990) (by decide +kernel), List.mem_of_getElem? (i := 991) (by decide +kernel)⟩
theorem lw_p34 : lw_okq (⟨"BranchSumsModel", "canTake", "(IIII)Z"⟩, 20) := ⟨⟨by decide +kernel, by decide +kernel⟩, List.mem_of_getElem? (i := 869) (by decide +kernel), List.mem_of_getElem? (i := 994) (by decide +kernel), List.mem_of_getElem? (i := 995) (by decide +kernel)⟩
theorem lw_p35 : lw_okq (⟨"BranchSumsModel", "takes", "(IIII)I"⟩, 20) := ⟨⟨by decide +kernel, by decide +kernel⟩, List.mem_of_getElem? (i := 869) (by decide +kernel), List.mem_of_getElem? (i := 998) (by decide +kernel), List.mem_of_getElem? (i := 999) (by decide +kernel)⟩
theorem lw_p36 : lw_okq (⟨"BranchSumsModel", "lays", "(I[I)V"⟩, 20) := ⟨⟨by decide +kernel, by decide +kernel⟩, List.mem_of_getElem? (i := 869) (by decide +kernel), List.mem_of_getElem? (i := 1002) (by decide +kernel), List.mem_of_getElem? (i := 1003) (by decide +kernel)⟩
theorem lw_p37 : lw_okq (⟨"BranchSumsModel", "canMove", "(II)Z"⟩, 20) := ⟨⟨by decide +kernel, by decide +kernel⟩, List.mem_of_getElem? (i := 869) (by decide +kernel), List.mem_of_getElem? (i := 1016) (by decide +kernel), List.mem_of_getElem? (i := 1017) (by decide +kernel)⟩
theorem lw_p38 : lw_okq (⟨"BranchSumsModel", "isIn", "(II)Z"⟩, 20) := ⟨⟨by decide +kernel, by decide +kernel⟩, List.mem_of_getElem? (i := 869) (by decide +kernel), List.mem_of_getElem? (i := 1020) (by decide +kernel), List.mem_of_getElem? (i := 1021) (by decide +kernel)⟩
theorem lw_p39 : lw_okq (⟨"BranchSumsModel", "height", "(I)I"⟩, 20) := ⟨⟨by decide +kernel, by decide +kernel⟩, List.mem_of_getElem? (i := 869) (by decide +kernel), List.mem_of_getElem? (i := 1024) (by decide +kernel), List.mem_of_getElem? (i := 1025) (by decide +kernel)⟩
theorem lw_p40 : lw_okq (⟨"BranchSumsModel", "moves", "(II)V"⟩, 20) := ⟨⟨by decide +kernel, by decide +kernel⟩, List.mem_of_getElem? (i := 869) (by decide +kernel), List.mem_of_getElem? (i := 1028) (by decide +kernel), List.mem_of_getElem? (i := 1029) (by decide +kernel)⟩
theorem lw_p41 : lw_okq (⟨"BranchSumsModel", "branchMany", "(I)I"⟩, 20) := ⟨⟨by decide +kernel, by decide +kernel⟩, List.mem_of_getElem? (i := 869) (by decide +kernel), List.mem_of_getElem? (i := 1032) (by decide +kernel), List.mem_of_getElem? (i := 1033) (by decide +kernel)⟩
theorem lw_p42 : lw_okq (⟨"BranchSumsModel", "parted", "(III)I"⟩, 20) := ⟨⟨by decide +kernel, by decide +kernel⟩, List.mem_of_getElem? (i := 869) (by decide +kernel), List.mem_of_getElem? (i := 1040) (by decide +kernel), List.mem_of_getElem? (i := 1041) (by decide +kernel)⟩
theorem lw_p43 : lw_okq (⟨"BranchSumsModel", "rolls", "(I)I"⟩, 20) := ⟨⟨by decide +kernel, by decide +kernel⟩, List.mem_of_getElem? (i := 869) (by decide +kernel), List.mem_of_getElem? (i := 1051) (by decide +kernel), List.mem_of_getElem? (i := 1052) (by decide +kernel)⟩
theorem lw_p44 : lw_okq (⟨"BranchSumsModel", "keptPart", "(I)I"⟩, 20) := ⟨⟨by decide +kernel, by decide +kernel⟩, List.mem_of_getElem? (i := 869) (by decide +kernel), List.mem_of_getElem? (i := 1055) (by decide +kernel), List.mem_of_getElem? (i := 1056) (by decide +kernel)⟩
theorem lw_p45 : lw_okq (⟨"BranchSumsModel", "nodesAt", "(I)I"⟩, 20) := ⟨⟨by decide +kernel, by decide +kernel⟩, List.mem_of_getElem? (i := 869) (by decide +kernel), List.mem_of_getElem? (i := 1059) (by decide +kernel), List.mem_of_getElem? (i := 1060) (by decide +kernel)⟩
theorem lw_p46 : lw_okq (⟨"BranchSumsModel", "merges", "(I)I"⟩, 20) := ⟨⟨by decide +kernel, by decide +kernel⟩, List.mem_of_getElem? (i := 869) (by decide +kernel), List.mem_of_getElem? (i := 1066) (by decide +kernel), List.mem_of_getElem? (i := 1067) (by decide +kernel)⟩
theorem lw_p47 : lw_okq (⟨"BranchSumsModel", "hasVersion", "(I)V"⟩, 20) := ⟨⟨by decide +kernel, by decide +kernel⟩, List.mem_of_getElem? (i := 869) (by decide +kernel), List.mem_of_getElem? (i := 1070) (by decide +kernel), List.mem_of_getElem? (i := 1071) (by decide +kernel)⟩
def lw_privs_3 : List (MethodName × Nat) := [(⟨"BranchSumsModel", "clears", "(I)V"⟩, 20), (⟨"BranchSumsModel", "belowMany", "(I)I"⟩, 20), (⟨"BranchSumsModel", "canTake", "(IIII)Z"⟩, 20), (⟨"BranchSumsModel", "takes", "(IIII)I"⟩, 20), (⟨"BranchSumsModel", "lays", "(I[I)V"⟩, 20), (⟨"BranchSumsModel", "canMove", "(II)Z"⟩, 20), (⟨"BranchSumsModel", "isIn", "(II)Z"⟩, 20), (⟨"BranchSumsModel", "height", "(I)I"⟩, 20), (⟨"BranchSumsModel", "moves", "(II)V"⟩, 20), (⟨"BranchSumsModel", "branchMany", "(I)I"⟩, 20), (⟨"BranchSumsModel", "parted", "(III)I"⟩, 20), (⟨"BranchSumsModel", "rolls", "(I)I"⟩, 20), (⟨"BranchSumsModel", "keptPart", "(I)I"⟩, 20), (⟨"BranchSumsModel", "nodesAt", "(I)I"⟩, 20), (⟨"BranchSumsModel", "merges", "(I)I"⟩, 20), (⟨"BranchSumsModel", "hasVersion", "(I)V"⟩, 20)]
theorem lw_r3 : ∀ q ∈ lw_privs_3, lw_okq q := List.forall_mem_cons.mpr ⟨lw_p32, List.forall_mem_cons.mpr ⟨lw_p33, List.forall_mem_cons.mpr ⟨lw_p34, List.forall_mem_cons.mpr ⟨lw_p35, List.forall_mem_cons.mpr ⟨lw_p36, List.forall_mem_cons.mpr ⟨lw_p37, List.forall_mem_cons.mpr ⟨lw_p38, List.forall_mem_cons.mpr ⟨lw_p39, List.forall_mem_cons.mpr ⟨lw_p40, List.forall_mem_cons.mpr ⟨lw_p41, List.forall_mem_cons.mpr ⟨lw_p42, List.forall_mem_cons.mpr ⟨lw_p43, List.forall_mem_cons.mpr ⟨lw_p44, List.forall_mem_cons.mpr ⟨lw_p45, List.forall_mem_cons.mpr ⟨lw_p46, List.forall_mem_cons.mpr ⟨lw_p47, fun _ h => absurd h List.not_mem_nil⟩⟩⟩⟩⟩⟩⟩⟩⟩⟩⟩⟩⟩⟩⟩⟩
theorem lw_p48 : lw_okq (⟨"BranchSumsModel", "recodes", "(III)I"⟩, 20) := ⟨⟨by decide +kernel, by decide +kernel⟩, List.mem_of_getElem? (i := 869) (by decide +kernel), List.mem_of_getElem? (i := 1081) (by decide +kernel), List.mem_of_getElem? (i := 1082) (by decide +kernel)⟩
theorem lw_p49 : lw_okq (⟨"BranchSumsModel", "over", "(I)I"⟩, 20) := ⟨⟨by decide +kernel, by decide +kernel⟩, List.mem_of_getElem? (i := 869) (by decide +kernel), List.mem_of_getElem? (i := 1094) (by decide +kernel), List.mem_of_getElem? (i := 1095) (by decide +kernel)⟩
theorem lw_p50 : lw_okq (⟨"BranchSumsModel", "comes", "(I)V"⟩, 20) := ⟨⟨by decide +kernel, by decide +kernel⟩, List.mem_of_getElem? (i := 869) (by decide +kernel), List.mem_of_getElem? (i := 1106) (by decide +kernel), List.mem_of_getElem? (i := 1107) (by decide +kernel)⟩
theorem lw_p51 : lw_okq (⟨"BranchSumsModel", "reads", "()V"⟩, 20) := ⟨⟨by decide +kernel, by decide +kernel⟩, List.mem_of_getElem? (i := 869) (by decide +kernel), List.mem_of_getElem? (i := 1122) (by decide +kernel), List.mem_of_getElem? (i := 1123) (by decide +kernel)⟩
theorem lw_p52 : lw_okq (⟨"BranchSumsModel", "number", "(II)I"⟩, 20) := ⟨⟨by decide +kernel, by decide +kernel⟩, List.mem_of_getElem? (i := 869) (by decide +kernel), List.mem_of_getElem? (i := 1126) (by decide +kernel), List.mem_of_getElem? (i := 1127) (by decide +kernel)⟩
theorem lw_p53 : lw_okq (⟨"BranchSumsModel", "isDigitNext", "()Z"⟩, 20) := ⟨⟨by decide +kernel, by decide +kernel⟩, List.mem_of_getElem? (i := 869) (by decide +kernel), List.mem_of_getElem? (i := 1130) (by decide +kernel), List.mem_of_getElem? (i := 1131) (by decide +kernel)⟩
theorem lw_p54 : lw_okq (⟨"BranchSumsModel", "isNext", "(I)Z"⟩, 20) := ⟨⟨by decide +kernel, by decide +kernel⟩, List.mem_of_getElem? (i := 869) (by decide +kernel), List.mem_of_getElem? (i := 1134) (by decide +kernel), List.mem_of_getElem? (i := 1135) (by decide +kernel)⟩
theorem lw_p55 : lw_okq (⟨"BranchSumsModel", "wrong", "(II)V"⟩, 20) := ⟨⟨by decide +kernel, by decide +kernel⟩, List.mem_of_getElem? (i := 869) (by decide +kernel), List.mem_of_getElem? (i := 1138) (by decide +kernel), List.mem_of_getElem? (i := 1139) (by decide +kernel)⟩
theorem lw_p56 : lw_okq (⟨"BranchSumsModel", "unitsBelow", "(II)V"⟩, 20) := ⟨⟨by decide +kernel, by decide +kernel⟩, List.mem_of_getElem? (i := 869) (by decide +kernel), List.mem_of_getElem? (i := 1142) (by decide +kernel), List.mem_of_getElem? (i := 1143) (by decide +kernel)⟩
theorem lw_p57 : lw_okq (⟨"BranchSumsModel", "must", "(I)V"⟩, 20) := ⟨⟨by decide +kernel, by decide +kernel⟩, List.mem_of_getElem? (i := 869) (by decide +kernel), List.mem_of_getElem? (i := 1146) (by decide +kernel), List.mem_of_getElem? (i := 1147) (by decide +kernel)⟩
theorem lw_p58 : lw_okq (⟨"BranchSumsModel", "entry", "()V"⟩, 20) := ⟨⟨by decide +kernel, by decide +kernel⟩, List.mem_of_getElem? (i := 869) (by decide +kernel), List.mem_of_getElem? (i := 1150) (by decide +kernel), List.mem_of_getElem? (i := 1151) (by decide +kernel)⟩
theorem lw_p59 : lw_okq (⟨"BranchSumsModel", "comesBack", "()V"⟩, 20) := ⟨⟨by decide +kernel, by decide +kernel⟩, List.mem_of_getElem? (i := 869) (by decide +kernel), List.mem_of_getElem? (i := 1154) (by decide +kernel), List.mem_of_getElem? (i := 1155) (by decide +kernel)⟩
theorem lw_p60 : lw_okq (⟨"BranchSumsModel", "keepsAside", "()V"⟩, 20) := ⟨⟨by decide +kernel, by decide +kernel⟩, List.mem_of_getElem? (i := 869) (by decide +kernel), List.mem_of_getElem? (i := 1158) (by decide +kernel), List.mem_of_getElem? (i := 1159) (by decide +kernel)⟩
theorem lw_p61 : lw_okq (⟨"BranchSumsModel", "isRight", "(I)Z"⟩, 20) := ⟨⟨by decide +kernel, by decide +kernel⟩, List.mem_of_getElem? (i := 869) (by decide +kernel), List.mem_of_getElem? (i := 1166) (by decide +kernel), List.mem_of_getElem? (i := 1167) (by decide +kernel)⟩
theorem lw_p62 : lw_okq (⟨"BranchSumsModel", "laysBranch", "(I[I)V"⟩, 20) := ⟨⟨by decide +kernel, by decide +kernel⟩, List.mem_of_getElem? (i := 869) (by decide +kernel), List.mem_of_getElem? (i := 1170) (by decide +kernel), List.mem_of_getElem? (i := 1171) (by decide +kernel)⟩
theorem lw_p63 : lw_okq (⟨"BranchSumsModel", "positive", "([I)I"⟩, 20) := ⟨⟨by decide +kernel, by decide +kernel⟩, List.mem_of_getElem? (i := 869) (by decide +kernel), List.mem_of_getElem? (i := 1174) (by decide +kernel), List.mem_of_getElem? (i := 1175) (by decide +kernel)⟩
def lw_privs_4 : List (MethodName × Nat) := [(⟨"BranchSumsModel", "recodes", "(III)I"⟩, 20), (⟨"BranchSumsModel", "over", "(I)I"⟩, 20), (⟨"BranchSumsModel", "comes", "(I)V"⟩, 20), (⟨"BranchSumsModel", "reads", "()V"⟩, 20), (⟨"BranchSumsModel", "number", "(II)I"⟩, 20), (⟨"BranchSumsModel", "isDigitNext", "()Z"⟩, 20), (⟨"BranchSumsModel", "isNext", "(I)Z"⟩, 20), (⟨"BranchSumsModel", "wrong", "(II)V"⟩, 20), (⟨"BranchSumsModel", "unitsBelow", "(II)V"⟩, 20), (⟨"BranchSumsModel", "must", "(I)V"⟩, 20), (⟨"BranchSumsModel", "entry", "()V"⟩, 20), (⟨"BranchSumsModel", "comesBack", "()V"⟩, 20), (⟨"BranchSumsModel", "keepsAside", "()V"⟩, 20), (⟨"BranchSumsModel", "isRight", "(I)Z"⟩, 20), (⟨"BranchSumsModel", "laysBranch", "(I[I)V"⟩, 20), (⟨"BranchSumsModel", "positive", "([I)I"⟩, 20)]
theorem lw_r4 : ∀ q ∈ lw_privs_4, lw_okq q := List.forall_mem_cons.mpr ⟨lw_p48, List.forall_mem_cons.mpr ⟨lw_p49, List.forall_mem_cons.mpr ⟨lw_p50, List.forall_mem_cons.mpr ⟨lw_p51, List.forall_mem_cons.mpr ⟨lw_p52, List.forall_mem_cons.mpr ⟨lw_p53, List.forall_mem_cons.mpr ⟨lw_p54, List.forall_mem_cons.mpr ⟨lw_p55, List.forall_mem_cons.mpr ⟨lw_p56, List.forall_mem_cons.mpr ⟨lw_p57, List.forall_mem_cons.mpr ⟨lw_p58, List.forall_mem_cons.mpr ⟨lw_p59, List.forall_mem_cons.mpr ⟨lw_p60, List.forall_mem_cons.mpr ⟨lw_p61, List.forall_mem_cons.mpr ⟨lw_p62, List.forall_mem_cons.mpr ⟨lw_p63, fun _ h => absurd h List.not_mem_nil⟩⟩⟩⟩⟩⟩⟩⟩⟩⟩⟩⟩⟩⟩⟩⟩
theorem lw_p64 : lw_okq (⟨"BranchSumsModel", "rankedIn", "(II)I"⟩, 20) := ⟨⟨by decide +kernel, by decide +kernel⟩, List.mem_of_getElem? (i := 869) (by decide +kernel), List.mem_of_getElem? (i := 1198) (by decide +kernel), List.mem_of_getElem? (i := 1199) (by decide +kernel)⟩
theorem lw_p65 : lw_okq (⟨"BranchSumsModel", "leaderOf", "(II)I"⟩, 20) := ⟨⟨by decide +kernel, by decide +kernel⟩, List.mem_of_getElem? (i := 869) (by decide +kernel), List.mem_of_getElem? (i := 1210) (by decide +kernel), List.mem_of_getElem? (i := 1211) (by decide +kernel)⟩
theorem lw_p66 : lw_okq (⟨"BranchSumsModel", "leadsAhead", "(III)Z"⟩, 20) := ⟨⟨by decide +kernel, by decide +kernel⟩, List.mem_of_getElem? (i := 869) (by decide +kernel), List.mem_of_getElem? (i := 1214) (by decide +kernel), List.mem_of_getElem? (i := 1215) (by decide +kernel)⟩
theorem lw_p67 : lw_okq (⟨"BranchSumsModel", "allOf", "(I)I"⟩, 20) := ⟨⟨by decide +kernel, by decide +kernel⟩, List.mem_of_getElem? (i := 869) (by decide +kernel), List.mem_of_getElem? (i := 1222) (by decide +kernel), List.mem_of_getElem? (i := 1223) (by decide +kernel)⟩
theorem lw_p68 : lw_okq (⟨"BranchSumsModel", "seats", "(I)V"⟩, 20) := ⟨⟨by decide +kernel, by decide +kernel⟩, List.mem_of_getElem? (i := 869) (by decide +kernel), List.mem_of_getElem? (i := 1240) (by decide +kernel), List.mem_of_getElem? (i := 1241) (by decide +kernel)⟩
theorem lw_p69 : lw_okq (⟨"BranchSumsModel", "isBetween", "(III)Z"⟩, 20) := ⟨⟨by decide +kernel, by decide +kernel⟩, List.mem_of_getElem? (i := 869) (by decide +kernel), List.mem_of_getElem? (i := 1266) (by decide +kernel), List.mem_of_getElem? (i := 1267) (by decide +kernel)⟩
theorem lw_p70 : lw_okq (⟨"BranchSumsModel", "draw", "(I)I"⟩, 20) := ⟨⟨by decide +kernel, by decide +kernel⟩, List.mem_of_getElem? (i := 869) (by decide +kernel), List.mem_of_getElem? (i := 1279) (by decide +kernel), List.mem_of_getElem? (i := 1280) (by decide +kernel)⟩
theorem lw_p71 : lw_okq (⟨"BranchSumsModel", "isPart", "(II)Z"⟩, 20) := ⟨⟨by decide +kernel, by decide +kernel⟩, List.mem_of_getElem? (i := 869) (by decide +kernel), List.mem_of_getElem? (i := 1293) (by decide +kernel), List.mem_of_getElem? (i := 1294) (by decide +kernel)⟩
theorem lw_p72 : lw_okq (⟨"BranchSumsModel", "laysRuns", "(I)I"⟩, 20) := ⟨⟨by decide +kernel, by decide +kernel⟩, List.mem_of_getElem? (i := 869) (by decide +kernel), List.mem_of_getElem? (i := 1305) (by decide +kernel), List.mem_of_getElem? (i := 1306) (by decide +kernel)⟩
theorem lw_p73 : lw_okq (⟨"BranchSumsModel", "bestRun", "(IZ)I"⟩, 20) := ⟨⟨by decide +kernel, by decide +kernel⟩, List.mem_of_getElem? (i := 869) (by decide +kernel), List.mem_of_getElem? (i := 1309) (by decide +kernel), List.mem_of_getElem? (i := 1310) (by decide +kernel)⟩
theorem lw_p74 : lw_okq (⟨"BranchSumsModel", "saysNumber", "(I)V"⟩, 20) := ⟨⟨by decide +kernel, by decide +kernel⟩, List.mem_of_getElem? (i := 869) (by decide +kernel), List.mem_of_getElem? (i := 1328) (by decide +kernel), List.mem_of_getElem? (i := 1329) (by decide +kernel)⟩
theorem lw_p75 : lw_okq (⟨"BranchSumsModel", "says", "(I)V"⟩, 20) := ⟨⟨by decide +kernel, by decide +kernel⟩, List.mem_of_getElem? (i := 869) (by decide +kernel), List.mem_of_getElem? (i := 1332) (by decide +kernel), List.mem_of_getElem? (i := 1333) (by decide +kernel)⟩
theorem lw_p76 : lw_okq (⟨"BranchSumsModel", "staleOnes", "()I"⟩, 20) := ⟨⟨by decide +kernel, by decide +kernel⟩, List.mem_of_getElem? (i := 869) (by decide +kernel), List.mem_of_getElem? (i := 1361) (by decide +kernel), List.mem_of_getElem? (i := 1362) (by decide +kernel)⟩
theorem lw_p77 : lw_okq (⟨"BranchSumsModel", "there", "()I"⟩, 20) := ⟨⟨by decide +kernel, by decide +kernel⟩, List.mem_of_getElem? (i := 869) (by decide +kernel), List.mem_of_getElem? (i := 1381) (by decide +kernel), List.mem_of_getElem? (i := 1382) (by decide +kernel)⟩
theorem lw_p78 : lw_okq (⟨"BranchSumsModel", "rightOnes", "()I"⟩, 20) := ⟨⟨by decide +kernel, by decide +kernel⟩, List.mem_of_getElem? (i := 869) (by decide +kernel), List.mem_of_getElem? (i := 1385) (by decide +kernel), List.mem_of_getElem? (i := 1386) (by decide +kernel)⟩
theorem lw_p79 : lw_okq (⟨"BranchSumsModel", "deepest", "()I"⟩, 20) := ⟨⟨by decide +kernel, by decide +kernel⟩, List.mem_of_getElem? (i := 869) (by decide +kernel), List.mem_of_getElem? (i := 1389) (by decide +kernel), List.mem_of_getElem? (i := 1390) (by decide +kernel)⟩
def lw_privs_5 : List (MethodName × Nat) := [(⟨"BranchSumsModel", "rankedIn", "(II)I"⟩, 20), (⟨"BranchSumsModel", "leaderOf", "(II)I"⟩, 20), (⟨"BranchSumsModel", "leadsAhead", "(III)Z"⟩, 20), (⟨"BranchSumsModel", "allOf", "(I)I"⟩, 20), (⟨"BranchSumsModel", "seats", "(I)V"⟩, 20), (⟨"BranchSumsModel", "isBetween", "(III)Z"⟩, 20), (⟨"BranchSumsModel", "draw", "(I)I"⟩, 20), (⟨"BranchSumsModel", "isPart", "(II)Z"⟩, 20), (⟨"BranchSumsModel", "laysRuns", "(I)I"⟩, 20), (⟨"BranchSumsModel", "bestRun", "(IZ)I"⟩, 20), (⟨"BranchSumsModel", "saysNumber", "(I)V"⟩, 20), (⟨"BranchSumsModel", "says", "(I)V"⟩, 20), (⟨"BranchSumsModel", "staleOnes", "()I"⟩, 20), (⟨"BranchSumsModel", "there", "()I"⟩, 20), (⟨"BranchSumsModel", "rightOnes", "()I"⟩, 20), (⟨"BranchSumsModel", "deepest", "()I"⟩, 20)]
theorem lw_r5 : ∀ q ∈ lw_privs_5, lw_okq q := List.forall_mem_cons.mpr ⟨lw_p64, List.forall_mem_cons.mpr ⟨lw_p65, List.forall_mem_cons.mpr ⟨lw_p66, List.forall_mem_cons.mpr ⟨lw_p67, List.forall_mem_cons.mpr ⟨lw_p68, List.forall_mem_cons.mpr ⟨lw_p69, List.forall_mem_cons.mpr ⟨lw_p70, List.forall_mem_cons.mpr ⟨lw_p71, List.forall_mem_cons.mpr ⟨lw_p72, List.forall_mem_cons.mpr ⟨lw_p73, List.forall_mem_cons.mpr ⟨lw_p74, List.forall_mem_cons.mpr ⟨lw_p75, List.forall_mem_cons.mpr ⟨lw_p76, List.forall_mem_cons.mpr ⟨lw_p77, List.forall_mem_cons.mpr ⟨lw_p78, List.forall_mem_cons.mpr ⟨lw_p79, fun _ h => absurd h List.not_mem_nil⟩⟩⟩⟩⟩⟩⟩⟩⟩⟩⟩⟩⟩⟩⟩⟩
theorem lw_p80 : lw_okq (⟨"BranchSumsModel", "sumNodes", "()I"⟩, 20) := ⟨⟨by decide +kernel, by decide +kernel⟩, List.mem_of_getElem? (i := 869) (by decide +kernel), List.mem_of_getElem? (i := 1393) (by decide +kernel), List.mem_of_getElem? (i := 1394) (by decide +kernel)⟩
theorem lw_p81 : lw_okq (⟨"BranchSumsModel", "unlikeOnes", "()I"⟩, 20) := ⟨⟨by decide +kernel, by decide +kernel⟩, List.mem_of_getElem? (i := 869) (by decide +kernel), List.mem_of_getElem? (i := 1398) (by decide +kernel), List.mem_of_getElem? (i := 1399) (by decide +kernel)⟩
def lw_privs_6 : List (MethodName × Nat) := [(⟨"BranchSumsModel", "sumNodes", "()I"⟩, 20), (⟨"BranchSumsModel", "unlikeOnes", "()I"⟩, 20)]
theorem lw_r6 : ∀ q ∈ lw_privs_6, lw_okq q := List.forall_mem_cons.mpr ⟨lw_p80, List.forall_mem_cons.mpr ⟨lw_p81, fun _ h => absurd h List.not_mem_nil⟩⟩
def lw_privs : List (MethodName × Nat) := lw_privs_1 ++ (lw_privs_2 ++ (lw_privs_3 ++ (lw_privs_4 ++ (lw_privs_5 ++ (lw_privs_6)))))
def lw_tbl : List Cond := k2_sels lw_privs ++ tables_1
theorem lw_privs_ok : ∀ q ∈ lw_privs, lw_okq q := by
  show ∀ q ∈ lw_privs_1 ++ (lw_privs_2 ++ (lw_privs_3 ++ (lw_privs_4 ++ (lw_privs_5 ++ (lw_privs_6))))), lw_okq q
  exact List.forall_mem_append.mpr ⟨lw_r1, List.forall_mem_append.mpr ⟨lw_r2, List.forall_mem_append.mpr ⟨lw_r3, List.forall_mem_append.mpr ⟨lw_r4, List.forall_mem_append.mpr ⟨lw_r5, lw_r6⟩⟩⟩⟩⟩

def RX0 : String := "BranchSums$Book"
def TX0 : u_T := fun k => match k with
  | 0 => ("BranchSums$Book", "counts", "[I", true)
  | 1 => ("BranchSums$Book", "limitUnit", "[I", true)
  | 2 => ("BranchSums$Book", "limitLow", "[I", true)
  | 3 => ("BranchSums$Book", "limitHigh", "[I", true)
  | 4 => ("BranchSums$Book", "limitMost", "[I", true)
  | 5 => ("BranchSums$Book", "limits", "I", false)
  | _ => ("BranchSums$Book", "drawState", "I", false)
def tyX0 : Nat → FieldType := fun k => match k with
  | 0 => .array .int
  | 1 => .array .int
  | 2 => .array .int
  | 3 => .array .int
  | 4 => .array .int
  | 5 => .int
  | _ => .int
abbrev wsX00 : List Cond := u_ws RX0 TX0 7
theorem nmX0 : ∀ a, a < 7 → ∀ b, b < 7 → a ≠ b → (TX0 a).2.1 ≠ (TX0 b).2.1 := by decide +kernel
theorem tyX0_ok : ∀ k, k < 7 → parseFieldDescriptor (TX0 k).2.2.1 = some (tyX0 k) := by decide +kernel
abbrev cX0_init : ByteArray := prog_2_method_1_code
def yX0_init : MethodName := ⟨RX0, "<init>", "()V"⟩
abbrev cX0_takeOver : ByteArray := prog_2_method_2_code
def yX0_takeOver : MethodName := ⟨RX0, "takeOver", "(LBranchSums$Book;)V"⟩
abbrev cX0_tally : ByteArray := prog_2_method_3_code
def yX0_tally : MethodName := ⟨RX0, "tally", "(II)V"⟩
abbrev cX0_merged : ByteArray := prog_2_method_4_code
def yX0_merged : MethodName := ⟨RX0, "merged", "(I)V"⟩
abbrev cX0_parted : ByteArray := prog_2_method_5_code
def yX0_parted : MethodName := ⟨RX0, "parted", "(I)V"⟩
abbrev cX0_limitAt : ByteArray := prog_2_method_6_code
def yX0_limitAt : MethodName := ⟨RX0, "limitAt", "(III)I"⟩
abbrev cX0_tellLimit : ByteArray := prog_2_method_7_code
def yX0_tellLimit : MethodName := ⟨RX0, "tellLimit", "(IIII)Z"⟩
abbrev cX0_dropLimit : ByteArray := prog_2_method_8_code
def yX0_dropLimit : MethodName := ⟨RX0, "dropLimit", "(III)Z"⟩
abbrev cX0_drawOf : ByteArray := prog_2_method_9_code
def yX0_drawOf : MethodName := ⟨RX0, "drawOf", "(I)I"⟩
def RX1 : String := "BranchSums$Org"
def TX1 : u_T := fun k => match k with
  | 0 => ("BranchSums$Org", "upper", "[I", true)
  | 1 => ("BranchSums$Org", "stale", "[Z", true)
  | 2 => ("BranchSums$Org", "own", "[[I", true)
  | 3 => ("BranchSums$Org", "sums", "[[I", true)
  | 4 => ("BranchSums$Org", "oldCount", "[I", true)
  | _ => ("BranchSums$Org", "olds", "[[I", true)
def tyX1 : Nat → FieldType := fun k => match k with
  | 0 => .array .int
  | 1 => .array .boolean
  | 2 => .array (.array .int)
  | 3 => .array (.array .int)
  | 4 => .array .int
  | _ => .array (.array .int)
abbrev wsX10 : List Cond := u_ws RX1 TX1 6
theorem nmX1 : ∀ a, a < 6 → ∀ b, b < 6 → a ≠ b → (TX1 a).2.1 ≠ (TX1 b).2.1 := by decide +kernel
theorem tyX1_ok : ∀ k, k < 6 → parseFieldDescriptor (TX1 k).2.2.1 = some (tyX1 k) := by decide +kernel
abbrev cX1_init : ByteArray := prog_3_method_1_code
def yX1_init : MethodName := ⟨RX1, "<init>", "()V"⟩
abbrev cX1_takeOver : ByteArray := prog_3_method_2_code
def yX1_takeOver : MethodName := ⟨RX1, "takeOver", "(LBranchSums$Org;)V"⟩
abbrev cX1_startAnew : ByteArray := prog_3_method_3_code
def yX1_startAnew : MethodName := ⟨RX1, "startAnew", "()V"⟩
abbrev cX1_settle : ByteArray := prog_3_method_4_code
def yX1_settle : MethodName := ⟨RX1, "settle", "(II)V"⟩
abbrev cX1_leave : ByteArray := prog_3_method_5_code
def yX1_leave : MethodName := ⟨RX1, "leave", "(I)V"⟩
abbrev cX1_isThere : ByteArray := prog_3_method_6_code
def yX1_isThere : MethodName := ⟨RX1, "isThere", "(I)Z"⟩
abbrev cX1_upperOf : ByteArray := prog_3_method_7_code
def yX1_upperOf : MethodName := ⟨RX1, "upperOf", "(I)I"⟩
abbrev cX1_depthOf : ByteArray := prog_3_method_8_code
def yX1_depthOf : MethodName := ⟨RX1, "depthOf", "(I)I"⟩
abbrev cX1_isInBranch : ByteArray := prog_3_method_9_code
def yX1_isInBranch : MethodName := ⟨RX1, "isInBranch", "(II)Z"⟩
abbrev cX1_branchSize : ByteArray := prog_3_method_10_code
def yX1_branchSize : MethodName := ⟨RX1, "branchSize", "(I)I"⟩
abbrev cX1_heightOf : ByteArray := prog_3_method_11_code
def yX1_heightOf : MethodName := ⟨RX1, "heightOf", "(I)I"⟩
abbrev cX1_lowerCount : ByteArray := prog_3_method_12_code
def yX1_lowerCount : MethodName := ⟨RX1, "lowerCount", "(I)I"⟩
abbrev cX1_lowerAt : ByteArray := prog_3_method_13_code
def yX1_lowerAt : MethodName := ⟨RX1, "lowerAt", "(II)I"⟩
abbrev cX1_meetingOf : ByteArray := prog_3_method_14_code
def yX1_meetingOf : MethodName := ⟨RX1, "meetingOf", "(II)I"⟩
abbrev cX1_isOnChain : ByteArray := prog_3_method_15_code
def yX1_isOnChain : MethodName := ⟨RX1, "isOnChain", "(IIII)Z"⟩
abbrev cX1_canMove : ByteArray := prog_3_method_16_code
def yX1_canMove : MethodName := ⟨RX1, "canMove", "(II)Z"⟩
abbrev cX1_moveTo : ByteArray := prog_3_method_17_code
def yX1_moveTo : MethodName := ⟨RX1, "moveTo", "(II)V"⟩
abbrev cX1_makeStale : ByteArray := prog_3_method_18_code
def yX1_makeStale : MethodName := ⟨RX1, "makeStale", "(I)V"⟩
abbrev cX1_thereSet : ByteArray := prog_3_method_19_code
def yX1_thereSet : MethodName := ⟨RX1, "thereSet", "()I"⟩
abbrev cX1_staleSet : ByteArray := prog_3_method_20_code
def yX1_staleSet : MethodName := ⟨RX1, "staleSet", "()I"⟩
abbrev cX1_sumBranches : ByteArray := prog_3_method_21_code
def yX1_sumBranches : MethodName := ⟨RX1, "sumBranches", "([[I)V"⟩
abbrev cX1_hasVersion : ByteArray := prog_3_method_22_code
def yX1_hasVersion : MethodName := ⟨RX1, "hasVersion", "(II)Z"⟩
abbrev cX1_rolledUp : ByteArray := prog_3_method_23_code
def yX1_rolledUp : MethodName := ⟨RX1, "rolledUp", "(I[I)V"⟩
def RX2 : String := "BranchSums$Past"
def TX2 : u_T := fun k => match k with
  | 0 => ("BranchSums$Past", "kept", "[LBranchSums$Org;", true)
  | 1 => ("BranchSums$Past", "next", "I", false)
  | _ => ("BranchSums$Past", "size", "I", false)
def tyX2 : Nat → FieldType := fun k => match k with
  | 0 => .array (.object "BranchSums$Org")
  | 1 => .int
  | _ => .int
abbrev wsX20 : List Cond := u_ws RX2 TX2 3
theorem nmX2 : ∀ a, a < 3 → ∀ b, b < 3 → a ≠ b → (TX2 a).2.1 ≠ (TX2 b).2.1 := by decide +kernel
theorem tyX2_ok : ∀ k, k < 3 → parseFieldDescriptor (TX2 k).2.2.1 = some (tyX2 k) := by decide +kernel
abbrev cX2_init : ByteArray := prog_4_method_1_code
def yX2_init : MethodName := ⟨RX2, "<init>", "()V"⟩
abbrev cX2_keep : ByteArray := prog_4_method_2_code
def yX2_keep : MethodName := ⟨RX2, "keep", "(LBranchSums$Org;)V"⟩
abbrev cX2_takeBack : ByteArray := prog_4_method_3_code
def yX2_takeBack : MethodName := ⟨RX2, "takeBack", "(LBranchSums$Org;)Z"⟩
abbrev cX2_forget : ByteArray := prog_4_method_4_code
def yX2_forget : MethodName := ⟨RX2, "forget", "()V"⟩
def RX3 : String := "BranchSums$Report"
def TX3 : u_T := fun k => match k with
  | 0 => ("BranchSums$Report", "signs", "[I", true)
  | _ => ("BranchSums$Report", "length", "I", false)
def tyX3 : Nat → FieldType := fun k => match k with
  | 0 => .array .int
  | _ => .int
abbrev wsX30 : List Cond := u_ws RX3 TX3 2
theorem nmX3 : ∀ a, a < 2 → ∀ b, b < 2 → a ≠ b → (TX3 a).2.1 ≠ (TX3 b).2.1 := by decide +kernel
theorem tyX3_ok : ∀ k, k < 2 → parseFieldDescriptor (TX3 k).2.2.1 = some (tyX3 k) := by decide +kernel
abbrev cX3_init : ByteArray := prog_5_method_1_code
def yX3_init : MethodName := ⟨RX3, "<init>", "()V"⟩
abbrev cX3_clear : ByteArray := prog_5_method_2_code
def yX3_clear : MethodName := ⟨RX3, "clear", "()V"⟩
abbrev cX3_signAt : ByteArray := prog_5_method_3_code
def yX3_signAt : MethodName := ⟨RX3, "signAt", "(I)I"⟩
abbrev cX3_tell : ByteArray := prog_5_method_4_code
def yX3_tell : MethodName := ⟨RX3, "tell", "(I[I)V"⟩
abbrev cX3_put : ByteArray := prog_5_method_5_code
def yX3_put : MethodName := ⟨RX3, "put", "(I)V"⟩
abbrev cX3_putNumber : ByteArray := prog_5_method_6_code
def yX3_putNumber : MethodName := ⟨RX3, "putNumber", "(I)V"⟩
def RX4 : String := "BranchSums$Roller"
def TX4 : u_T := fun k => match k with
  | 0 => ("BranchSums$Roller", "row", "[I", true)
  | 1 => ("BranchSums$Roller", "cost", "I", false)
  | 2 => ("BranchSums$Roller", "merges", "I", false)
  | _ => ("BranchSums$Roller", "rolled", "I", false)
def tyX4 : Nat → FieldType := fun k => match k with
  | 0 => .array .int
  | 1 => .int
  | 2 => .int
  | _ => .int
abbrev wsX40 : List Cond := u_ws RX4 TX4 4
theorem nmX4 : ∀ a, a < 4 → ∀ b, b < 4 → a ≠ b → (TX4 a).2.1 ≠ (TX4 b).2.1 := by decide +kernel
theorem tyX4_ok : ∀ k, k < 4 → parseFieldDescriptor (TX4 k).2.2.1 = some (tyX4 k) := by decide +kernel
abbrev cX4_init : ByteArray := prog_6_method_1_code
def yX4_init : MethodName := ⟨RX4, "<init>", "()V"⟩
abbrev cX4_rollAll : ByteArray := prog_6_method_2_code
def yX4_rollAll : MethodName := ⟨RX4, "rollAll", "(LBranchSums$Org;I)I"⟩
abbrev cX4_rollBranch : ByteArray := prog_6_method_3_code
def yX4_rollBranch : MethodName := ⟨RX4, "rollBranch", "(LBranchSums$Org;II)V"⟩
abbrev cX4_mergeParts : ByteArray := prog_6_method_4_code
def yX4_mergeParts : MethodName := ⟨RX4, "mergeParts", "(LBranchSums$Org;II)V"⟩
abbrev cX4_keptPart : ByteArray := prog_6_method_5_code
def yX4_keptPart : MethodName := ⟨RX4, "keptPart", "(LBranchSums$Org;I)I"⟩
abbrev cX4_mergeIn : ByteArray := prog_6_method_6_code
def yX4_mergeIn : MethodName := ⟨RX4, "mergeIn", "([I)V"⟩
def RX5 : String := "BranchSums$Rows"
def TX5 : u_T := fun k => match k with
  | _ => ("", "", "", false)
def tyX5 : Nat → FieldType := fun k => match k with
  | _ => .int
abbrev wsX50 : List Cond := u_ws RX5 TX5 0
theorem nmX5 : ∀ a, a < 0 → ∀ b, b < 0 → a ≠ b → (TX5 a).2.1 ≠ (TX5 b).2.1 := by decide +kernel
theorem tyX5_ok : ∀ k, k < 0 → parseFieldDescriptor (TX5 k).2.2.1 = some (tyX5 k) := by decide +kernel
abbrev cX5_totalOf : ByteArray := prog_7_method_2_code
def yX5_totalOf : MethodName := ⟨RX5, "totalOf", "([III)I"⟩
abbrev cX5_allOf : ByteArray := prog_7_method_3_code
def yX5_allOf : MethodName := ⟨RX5, "allOf", "([I)I"⟩
abbrev cX5_addTo : ByteArray := prog_7_method_4_code
def yX5_addTo : MethodName := ⟨RX5, "addTo", "([I[I)V"⟩
abbrev cX5_fits : ByteArray := prog_7_method_5_code
def yX5_fits : MethodName := ⟨RX5, "fits", "([III[I)Z"⟩
abbrev cX5_pour : ByteArray := prog_7_method_6_code
def yX5_pour : MethodName := ⟨RX5, "pour", "([III[I)I"⟩
abbrev cX5_unlikeness : ByteArray := prog_7_method_7_code
def yX5_unlikeness : MethodName := ⟨RX5, "unlikeness", "([I[I)I"⟩
abbrev cX5_lesserOf : ByteArray := prog_7_method_8_code
def yX5_lesserOf : MethodName := ⟨RX5, "lesserOf", "([I[I)I"⟩
abbrev cX5_categoryAt : ByteArray := prog_7_method_9_code
def yX5_categoryAt : MethodName := ⟨RX5, "categoryAt", "([II)I"⟩
abbrev cX5_firstLeader : ByteArray := prog_7_method_10_code
def yX5_firstLeader : MethodName := ⟨RX5, "firstLeader", "([I)I"⟩
abbrev cX5_leaderAt : ByteArray := prog_7_method_11_code
def yX5_leaderAt : MethodName := ⟨RX5, "leaderAt", "([II)I"⟩
abbrev cX5_leaderBehind : ByteArray := prog_7_method_12_code
def yX5_leaderBehind : MethodName := ⟨RX5, "leaderBehind", "([II)I"⟩
abbrev cX5_leadsOver : ByteArray := prog_7_method_13_code
def yX5_leadsOver : MethodName := ⟨RX5, "leadsOver", "([III)Z"⟩
abbrev cX5_nextSeat : ByteArray := prog_7_method_14_code
def yX5_nextSeat : MethodName := ⟨RX5, "nextSeat", "([I[I)I"⟩
abbrev cX5_percentOf : ByteArray := prog_7_method_15_code
def yX5_percentOf : MethodName := ⟨RX5, "percentOf", "([II)I"⟩
abbrev cX5_quantileOf : ByteArray := prog_7_method_16_code
def yX5_quantileOf : MethodName := ⟨RX5, "quantileOf", "([II)I"⟩
abbrev cX5_fewestOf : ByteArray := prog_7_method_17_code
def yX5_fewestOf : MethodName := ⟨RX5, "fewestOf", "([II)I"⟩
abbrev cX5_startsRun : ByteArray := prog_7_method_18_code
def yX5_startsRun : MethodName := ⟨RX5, "startsRun", "([II)Z"⟩
abbrev cX5_runCount : ByteArray := prog_7_method_19_code
def yX5_runCount : MethodName := ⟨RX5, "runCount", "([I)I"⟩
abbrev cX5_runEnd : ByteArray := prog_7_method_20_code
def yX5_runEnd : MethodName := ⟨RX5, "runEnd", "([II)I"⟩
abbrev cX5_runAt : ByteArray := prog_7_method_21_code
def yX5_runAt : MethodName := ⟨RX5, "runAt", "([II)I"⟩
abbrev cX5_greatestRun : ByteArray := prog_7_method_22_code
def yX5_greatestRun : MethodName := ⟨RX5, "greatestRun", "([IZ)I"⟩
abbrev cX5_halvingOf : ByteArray := prog_7_method_23_code
def yX5_halvingOf : MethodName := ⟨RX5, "halvingOf", "([II)I"⟩
def RX6 : String := "BranchSums$Spans"
def TX6 : u_T := fun k => match k with
  | _ => ("", "", "", false)
def tyX6 : Nat → FieldType := fun k => match k with
  | _ => .int
abbrev wsX60 : List Cond := u_ws RX6 TX6 0
theorem nmX6 : ∀ a, a < 0 → ∀ b, b < 0 → a ≠ b → (TX6 a).2.1 ≠ (TX6 b).2.1 := by decide +kernel
theorem tyX6_ok : ∀ k, k < 0 → parseFieldDescriptor (TX6 k).2.2.1 = some (tyX6 k) := by decide +kernel
abbrev cX6_maskOf : ByteArray := prog_8_method_2_code
def yX6_maskOf : MethodName := ⟨RX6, "maskOf", "([I)J"⟩
abbrev cX6_bitsOf : ByteArray := prog_8_method_3_code
def yX6_bitsOf : MethodName := ⟨RX6, "bitsOf", "(II)J"⟩
abbrev cX6_nodesOf : ByteArray := prog_8_method_4_code
def yX6_nodesOf : MethodName := ⟨RX6, "nodesOf", "(J)I"⟩
abbrev cX6_common : ByteArray := prog_8_method_5_code
def yX6_common : MethodName := ⟨RX6, "common", "(JJ)I"⟩
def RX7 : String := "BranchSums$Tape"
def TX7 : u_T := fun k => match k with
  | 0 => ("BranchSums$Tape", "bytes", "[I", true)
  | 1 => ("BranchSums$Tape", "length", "I", false)
  | 2 => ("BranchSums$Tape", "fault", "I", false)
  | 3 => ("BranchSums$Tape", "place", "I", false)
  | 4 => ("BranchSums$Tape", "at", "I", false)
  | 5 => ("BranchSums$Tape", "value", "I", false)
  | _ => ("BranchSums$Tape", "begin", "I", false)
def tyX7 : Nat → FieldType := fun k => match k with
  | 0 => .array .int
  | 1 => .int
  | 2 => .int
  | 3 => .int
  | 4 => .int
  | 5 => .int
  | _ => .int
abbrev wsX70 : List Cond := u_ws RX7 TX7 7
theorem nmX7 : ∀ a, a < 7 → ∀ b, b < 7 → a ≠ b → (TX7 a).2.1 ≠ (TX7 b).2.1 := by decide +kernel
theorem tyX7_ok : ∀ k, k < 7 → parseFieldDescriptor (TX7 k).2.2.1 = some (tyX7 k) := by decide +kernel
abbrev cX7_init : ByteArray := prog_9_method_1_code
def yX7_init : MethodName := ⟨RX7, "<init>", "()V"⟩
abbrev cX7_hasRoom : ByteArray := prog_9_method_2_code
def yX7_hasRoom : MethodName := ⟨RX7, "hasRoom", "(I)Z"⟩
abbrev cX7_putNumber : ByteArray := prog_9_method_3_code
def yX7_putNumber : MethodName := ⟨RX7, "putNumber", "(I)V"⟩
abbrev cX7_cut : ByteArray := prog_9_method_4_code
def yX7_cut : MethodName := ⟨RX7, "cut", "(I)Z"⟩
abbrev cX7_readInto : ByteArray := prog_9_method_5_code
def yX7_readInto : MethodName := ⟨RX7, "readInto", "(LBranchSums$Org;)I"⟩
abbrev cX7_readHead : ByteArray := prog_9_method_6_code
def yX7_readHead : MethodName := ⟨RX7, "readHead", "()Z"⟩
abbrev cX7_readUnits : ByteArray := prog_9_method_7_code
def yX7_readUnits : MethodName := ⟨RX7, "readUnits", "(LBranchSums$Org;)Z"⟩
abbrev cX7_readUnit : ByteArray := prog_9_method_8_code
def yX7_readUnit : MethodName := ⟨RX7, "readUnit", "(LBranchSums$Org;I)I"⟩
abbrev cX7_readEntries : ByteArray := prog_9_method_9_code
def yX7_readEntries : MethodName := ⟨RX7, "readEntries", "(LBranchSums$Org;)Z"⟩
abbrev cX7_readEntry : ByteArray := prog_9_method_10_code
def yX7_readEntry : MethodName := ⟨RX7, "readEntry", "(LBranchSums$Org;)Z"⟩
abbrev cX7_readAmount : ByteArray := prog_9_method_11_code
def yX7_readAmount : MethodName := ⟨RX7, "readAmount", "([I)Z"⟩
abbrev cX7_readNumber : ByteArray := prog_9_method_12_code
def yX7_readNumber : MethodName := ⟨RX7, "readNumber", "()Z"⟩
abbrev cX7_takeSign : ByteArray := prog_9_method_13_code
def yX7_takeSign : MethodName := ⟨RX7, "takeSign", "(C)Z"⟩
abbrev cX7_nextSign : ByteArray := prog_9_method_14_code
def yX7_nextSign : MethodName := ⟨RX7, "nextSign", "()I"⟩
abbrev cX7_isDigit : ByteArray := prog_9_method_15_code
def yX7_isDigit : MethodName := ⟨RX7, "isDigit", "(I)Z"⟩
abbrev cX7_refuse : ByteArray := prog_9_method_16_code
def yX7_refuse : MethodName := ⟨RX7, "refuse", "(II)Z"⟩
def RX8 : String := "BranchSums"
def TX8 : u_T := fun k => match k with
  | 0 => ("BranchSums", "now", "LBranchSums$Org;", true)
  | 1 => ("BranchSums", "thought", "LBranchSums$Org;", true)
  | 2 => ("BranchSums", "past", "LBranchSums$Past;", true)
  | 3 => ("BranchSums", "book", "LBranchSums$Book;", true)
  | 4 => ("BranchSums", "imageBook", "LBranchSums$Book;", true)
  | 5 => ("BranchSums", "roller", "LBranchSums$Roller;", true)
  | 6 => ("BranchSums", "tape", "LBranchSums$Tape;", true)
  | 7 => ("BranchSums", "chosen", "LBranchSums$Report;", true)
  | 8 => ("BranchSums", "branches", "[[I", true)
  | 9 => ("BranchSums", "spare", "[I", true)
  | 10 => ("BranchSums", "imageOrg", "LBranchSums$Org;", true)
  | _ => ("BranchSums", "hasImage", "Z", false)
def tyX8 : Nat → FieldType := fun k => match k with
  | 0 => .object "BranchSums$Org"
  | 1 => .object "BranchSums$Org"
  | 2 => .object "BranchSums$Past"
  | 3 => .object "BranchSums$Book"
  | 4 => .object "BranchSums$Book"
  | 5 => .object "BranchSums$Roller"
  | 6 => .object "BranchSums$Tape"
  | 7 => .object "BranchSums$Report"
  | 8 => .array (.array .int)
  | 9 => .array .int
  | 10 => .object "BranchSums$Org"
  | _ => .boolean
abbrev wsX80 : List Cond := u_ws RX8 TX8 12
theorem nmX8 : ∀ a, a < 12 → ∀ b, b < 12 → a ≠ b → (TX8 a).2.1 ≠ (TX8 b).2.1 := by decide +kernel
theorem tyX8_ok : ∀ k, k < 12 → parseFieldDescriptor (TX8 k).2.2.1 = some (tyX8 k) := by decide +kernel
abbrev cX8_init : ByteArray := prog_1_method_1_code
def yX8_init : MethodName := ⟨RX8, "<init>", "()V"⟩
abbrev cX8_add : ByteArray := prog_1_method_2_code
def yX8_add : MethodName := ⟨RX8, "add", "(III)I"⟩
abbrev cX8_comes : ByteArray := prog_1_method_3_code
def yX8_comes : MethodName := ⟨RX8, "comes", "(II)Z"⟩
abbrev cX8_goes : ByteArray := prog_1_method_4_code
def yX8_goes : MethodName := ⟨RX8, "goes", "(I)I"⟩
abbrev cX8_move : ByteArray := prog_1_method_5_code
def yX8_move : MethodName := ⟨RX8, "move", "(II)I"⟩
abbrev cX8_give : ByteArray := prog_1_method_6_code
def yX8_give : MethodName := ⟨RX8, "give", "(IIII)I"⟩
abbrev cX8_roll : ByteArray := prog_1_method_7_code
def yX8_roll : MethodName := ⟨RX8, "roll", "(I)I"⟩
abbrev cX8_recode : ByteArray := prog_1_method_8_code
def yX8_recode : MethodName := ⟨RX8, "recode", "(II)I"⟩
abbrev cX8_recodeOwn : ByteArray := prog_1_method_9_code
def yX8_recodeOwn : MethodName := ⟨RX8, "recodeOwn", "(III)V"⟩
abbrev cX8_text : ByteArray := prog_1_method_10_code
def yX8_text : MethodName := ⟨RX8, "text", "()I"⟩
abbrev cX8_undo : ByteArray := prog_1_method_11_code
def yX8_undo : MethodName := ⟨RX8, "undo", "()I"⟩
abbrev cX8_limit : ByteArray := prog_1_method_12_code
def yX8_limit : MethodName := ⟨RX8, "limit", "(IIII)I"⟩
abbrev cX8_broken : ByteArray := prog_1_method_13_code
def yX8_broken : MethodName := ⟨RX8, "broken", "(II)I"⟩
abbrev cX8_brokenCount : ByteArray := prog_1_method_14_code
def yX8_brokenCount : MethodName := ⟨RX8, "brokenCount", "()I"⟩
abbrev cX8_excessOver : ByteArray := prog_1_method_15_code
def yX8_excessOver : MethodName := ⟨RX8, "excessOver", "(I)I"⟩
abbrev cX8_state : ByteArray := prog_1_method_16_code
def yX8_state : MethodName := ⟨RX8, "state", "(I)I"⟩
abbrev cX8_feed : ByteArray := prog_1_method_17_code
def yX8_feed : MethodName := ⟨RX8, "feed", "(IIIII)I"⟩
abbrev cX8_end : ByteArray := prog_1_method_18_code
def yX8_end : MethodName := ⟨RX8, "end", "(I)Z"⟩
abbrev cX8_fault : ByteArray := prog_1_method_19_code
def yX8_fault : MethodName := ⟨RX8, "fault", "(I)I"⟩
abbrev cX8_image : ByteArray := prog_1_method_20_code
def yX8_image : MethodName := ⟨RX8, "image", "(Z)Z"⟩
abbrev cX8_unit : ByteArray := prog_1_method_21_code
def yX8_unit : MethodName := ⟨RX8, "unit", "(II)I"⟩
abbrev cX8_branchSumOf : ByteArray := prog_1_method_22_code
def yX8_branchSumOf : MethodName := ⟨RX8, "branchSumOf", "(I)[I"⟩
abbrev cX8_below : ByteArray := prog_1_method_23_code
def yX8_below : MethodName := ⟨RX8, "below", "(II)I"⟩
abbrev cX8_above : ByteArray := prog_1_method_24_code
def yX8_above : MethodName := ⟨RX8, "above", "(II)I"⟩
abbrev cX8_both : ByteArray := prog_1_method_25_code
def yX8_both : MethodName := ⟨RX8, "both", "(II)I"⟩
abbrev cX8_of : ByteArray := prog_1_method_26_code
def yX8_of : MethodName := ⟨RX8, "of", "(III)I"⟩
abbrev cX8_chain : ByteArray := prog_1_method_27_code
def yX8_chain : MethodName := ⟨RX8, "chain", "(III)I"⟩
abbrev cX8_hops : ByteArray := prog_1_method_28_code
def yX8_hops : MethodName := ⟨RX8, "hops", "(II)I"⟩
abbrev cX8_ranked : ByteArray := prog_1_method_29_code
def yX8_ranked : MethodName := ⟨RX8, "ranked", "(II)I"⟩
abbrev cX8_less : ByteArray := prog_1_method_30_code
def yX8_less : MethodName := ⟨RX8, "less", "(II)I"⟩
abbrev cX8_leader : ByteArray := prog_1_method_31_code
def yX8_leader : MethodName := ⟨RX8, "leader", "(III)I"⟩
abbrev cX8_median : ByteArray := prog_1_method_32_code
def yX8_median : MethodName := ⟨RX8, "median", "(I)I"⟩
abbrev cX8_heavy : ByteArray := prog_1_method_33_code
def yX8_heavy : MethodName := ⟨RX8, "heavy", "(II)J"⟩
abbrev cX8_squares : ByteArray := prog_1_method_34_code
def yX8_squares : MethodName := ⟨RX8, "squares", "(I)J"⟩
abbrev cX8_seats : ByteArray := prog_1_method_35_code
def yX8_seats : MethodName := ⟨RX8, "seats", "(III)I"⟩
abbrev cX8_percent : ByteArray := prog_1_method_36_code
def yX8_percent : MethodName := ⟨RX8, "percent", "(II)I"⟩
abbrev cX8_quantile : ByteArray := prog_1_method_37_code
def yX8_quantile : MethodName := ⟨RX8, "quantile", "(II)I"⟩
abbrev cX8_few : ByteArray := prog_1_method_38_code
def yX8_few : MethodName := ⟨RX8, "few", "(II)I"⟩
abbrev cX8_run : ByteArray := prog_1_method_39_code
def yX8_run : MethodName := ⟨RX8, "run", "(III)I"⟩
abbrev cX8_report : ByteArray := prog_1_method_40_code
def yX8_report : MethodName := ⟨RX8, "report", "(I)I"⟩
abbrev cX8_sign : ByteArray := prog_1_method_41_code
def yX8_sign : MethodName := ⟨RX8, "sign", "(I)I"⟩
abbrev cX8_drawn : ByteArray := prog_1_method_42_code
def yX8_drawn : MethodName := ⟨RX8, "drawn", "(III)I"⟩
abbrev cX8_versions : ByteArray := prog_1_method_43_code
def yX8_versions : MethodName := ⟨RX8, "versions", "(I)I"⟩
abbrev cX8_was : ByteArray := prog_1_method_44_code
def yX8_was : MethodName := ⟨RX8, "was", "(III)I"⟩
abbrev cX8_grew : ByteArray := prog_1_method_45_code
def yX8_grew : MethodName := ⟨RX8, "grew", "(III)I"⟩
abbrev cX8_twin : ByteArray := prog_1_method_46_code
def yX8_twin : MethodName := ⟨RX8, "twin", "(I)I"⟩
abbrev cX8_halves : ByteArray := prog_1_method_47_code
def yX8_halves : MethodName := ⟨RX8, "halves", "(II)I"⟩
abbrev cX8_unlike : ByteArray := prog_1_method_48_code
def yX8_unlike : MethodName := ⟨RX8, "unlike", "(II)I"⟩
abbrev cX8_shared : ByteArray := prog_1_method_49_code
def yX8_shared : MethodName := ⟨RX8, "shared", "(III)I"⟩
abbrev cX8_leads : ByteArray := prog_1_method_50_code
def yX8_leads : MethodName := ⟨RX8, "leads", "(I)I"⟩
abbrev cX8_where : ByteArray := prog_1_method_51_code
def yX8_where : MethodName := ⟨RX8, "where", "(II)I"⟩
abbrev cX8_cost : ByteArray := prog_1_method_52_code
def yX8_cost : MethodName := ⟨RX8, "cost", "(I)I"⟩
abbrev cX8_would : ByteArray := prog_1_method_53_code
def yX8_would : MethodName := ⟨RX8, "would", "(III)I"⟩
abbrev cX8_otherLeaders : ByteArray := prog_1_method_54_code
def yX8_otherLeaders : MethodName := ⟨RX8, "otherLeaders", "()I"⟩
abbrev cX8_home : ByteArray := prog_1_method_55_code
def yX8_home : MethodName := ⟨RX8, "home", "(I)I"⟩
abbrev cX8_apartFromHome : ByteArray := prog_1_method_56_code
def yX8_apartFromHome : MethodName := ⟨RX8, "apartFromHome", "(II)I"⟩
abbrev cX8_count : ByteArray := prog_1_method_57_code
def yX8_count : MethodName := ⟨RX8, "count", "(I)I"⟩
abbrev cX8_look : ByteArray := prog_1_method_58_code
def yX8_look : MethodName := ⟨RX8, "look", "(I)I"⟩
abbrev cX8_rightSet : ByteArray := prog_1_method_59_code
def yX8_rightSet : MethodName := ⟨RX8, "rightSet", "()I"⟩
abbrev cX8_ownEntries : ByteArray := prog_1_method_60_code
def yX8_ownEntries : MethodName := ⟨RX8, "ownEntries", "()I"⟩
abbrev cX8_sumNodes : ByteArray := prog_1_method_61_code
def yX8_sumNodes : MethodName := ⟨RX8, "sumNodes", "()I"⟩
abbrev cX8_unusedCategories : ByteArray := prog_1_method_62_code
def yX8_unusedCategories : MethodName := ⟨RX8, "unusedCategories", "()I"⟩
abbrev cX8_apartFromImage : ByteArray := prog_1_method_63_code
def yX8_apartFromImage : MethodName := ⟨RX8, "apartFromImage", "()I"⟩
abbrev cX8_isUnit : ByteArray := prog_1_method_64_code
def yX8_isUnit : MethodName := ⟨RX8, "isUnit", "(I)Z"⟩
abbrev cX8_isCategory : ByteArray := prog_1_method_65_code
def yX8_isCategory : MethodName := ⟨RX8, "isCategory", "(I)Z"⟩
abbrev cX8_isSpan : ByteArray := prog_1_method_66_code
def yX8_isSpan : MethodName := ⟨RX8, "isSpan", "(II)Z"⟩
def RX9 : String := "BranchSumsModel"
def TX9 : u_T := fun k => match k with
  | 0 => ("BranchSumsModel", "w", "[I", true)
  | 1 => ("BranchSumsModel", "aside", "[I", true)
  | 2 => ("BranchSumsModel", "kept", "[I", true)
  | 3 => ("BranchSumsModel", "undos", "[I", true)
  | 4 => ("BranchSumsModel", "undoMany", "I", false)
  | 5 => ("BranchSumsModel", "hasImage", "Z", false)
  | 6 => ("BranchSumsModel", "row", "[I", true)
  | 7 => ("BranchSumsModel", "other", "[I", true)
  | 8 => ("BranchSumsModel", "tape", "[B", true)
  | 9 => ("BranchSumsModel", "taped", "I", false)
  | 10 => ("BranchSumsModel", "at", "I", false)
  | 11 => ("BranchSumsModel", "faultKind", "I", false)
  | 12 => ("BranchSumsModel", "faultPlace", "I", false)
  | 13 => ("BranchSumsModel", "isWrong", "Z", false)
  | 14 => ("BranchSumsModel", "numberAt", "I", false)
  | 15 => ("BranchSumsModel", "seated", "[I", true)
  | 16 => ("BranchSumsModel", "runs", "[I", true)
  | 17 => ("BranchSumsModel", "report", "[I", true)
  | 18 => ("BranchSumsModel", "signs", "I", false)
  | _ => ("BranchSumsModel", "first", "[I", true)
def tyX9 : Nat → FieldType := fun k => match k with
  | 0 => .array .int
  | 1 => .array .int
  | 2 => .array .int
  | 3 => .array .int
  | 4 => .int
  | 5 => .boolean
  | 6 => .array .int
  | 7 => .array .int
  | 8 => .array .byte
  | 9 => .int
  | 10 => .int
  | 11 => .int
  | 12 => .int
  | 13 => .boolean
  | 14 => .int
  | 15 => .array .int
  | 16 => .array .int
  | 17 => .array .int
  | 18 => .int
  | _ => .array .int
abbrev wsX90 : List Cond := u_ws RX9 TX9 20
theorem nmX9 : ∀ a, a < 20 → ∀ b, b < 20 → a ≠ b → (TX9 a).2.1 ≠ (TX9 b).2.1 := by decide +kernel
theorem tyX9_ok : ∀ k, k < 20 → parseFieldDescriptor (TX9 k).2.2.1 = some (tyX9 k) := by decide +kernel
abbrev cX9_isIn : ByteArray := prog_11_method_1_code
def yX9_isIn : MethodName := ⟨RX9, "isIn", "(III)Z"⟩
abbrev cX9_init : ByteArray := prog_11_method_2_code
def yX9_init : MethodName := ⟨RX9, "<init>", "()V"⟩
abbrev cX9_isUnit : ByteArray := prog_11_method_3_code
def yX9_isUnit : MethodName := ⟨RX9, "isUnit", "(I)Z"⟩
abbrev cX9_isCategory : ByteArray := prog_11_method_4_code
def yX9_isCategory : MethodName := ⟨RX9, "isCategory", "(I)Z"⟩
abbrev cX9_ownAt : ByteArray := prog_11_method_5_code
def yX9_ownAt : MethodName := ⟨RX9, "ownAt", "(I)I"⟩
abbrev cX9_sumAt : ByteArray := prog_11_method_6_code
def yX9_sumAt : MethodName := ⟨RX9, "sumAt", "(I)I"⟩
abbrev cX9_counts : ByteArray := prog_11_method_7_code
def yX9_counts : MethodName := ⟨RX9, "counts", "(II)V"⟩
abbrev cX9_depth : ByteArray := prog_11_method_8_code
def yX9_depth : MethodName := ⟨RX9, "depth", "(I)I"⟩
abbrev cX9_isIn_ : ByteArray := prog_11_method_9_code
def yX9_isIn_ : MethodName := ⟨RX9, "isIn", "(II)Z"⟩
abbrev cX9_branchMany : ByteArray := prog_11_method_10_code
def yX9_branchMany : MethodName := ⟨RX9, "branchMany", "(I)I"⟩
abbrev cX9_belowMany : ByteArray := prog_11_method_11_code
def yX9_belowMany : MethodName := ⟨RX9, "belowMany", "(I)I"⟩
abbrev cX9_isStaleFrom : ByteArray := prog_11_method_12_code
def yX9_isStaleFrom : MethodName := ⟨RX9, "isStaleFrom", "(I)V"⟩
abbrev cX9_laysBranch : ByteArray := prog_11_method_13_code
def yX9_laysBranch : MethodName := ⟨RX9, "laysBranch", "(I[I)V"⟩
abbrev cX9_lays : ByteArray := prog_11_method_14_code
def yX9_lays : MethodName := ⟨RX9, "lays", "(I[I)V"⟩
abbrev cX9_holds : ByteArray := prog_11_method_15_code
def yX9_holds : MethodName := ⟨RX9, "holds", "([III)Z"⟩
abbrev cX9_nodes : ByteArray := prog_11_method_16_code
def yX9_nodes : MethodName := ⟨RX9, "nodes", "([I)I"⟩
abbrev cX9_common : ByteArray := prog_11_method_17_code
def yX9_common : MethodName := ⟨RX9, "common", "([I[I)I"⟩
abbrev cX9_all : ByteArray := prog_11_method_18_code
def yX9_all : MethodName := ⟨RX9, "all", "([I)I"⟩
abbrev cX9_nodesAt : ByteArray := prog_11_method_19_code
def yX9_nodesAt : MethodName := ⟨RX9, "nodesAt", "(I)I"⟩
abbrev cX9_keptPart : ByteArray := prog_11_method_20_code
def yX9_keptPart : MethodName := ⟨RX9, "keptPart", "(I)I"⟩
abbrev cX9_rolls : ByteArray := prog_11_method_21_code
def yX9_rolls : MethodName := ⟨RX9, "rolls", "(I)I"⟩
abbrev cX9_versionAt : ByteArray := prog_11_method_22_code
def yX9_versionAt : MethodName := ⟨RX9, "versionAt", "(II)I"⟩
abbrev cX9_hasVersion : ByteArray := prog_11_method_23_code
def yX9_hasVersion : MethodName := ⟨RX9, "hasVersion", "(I)V"⟩
abbrev cX9_merges : ByteArray := prog_11_method_24_code
def yX9_merges : MethodName := ⟨RX9, "merges", "(I)I"⟩
abbrev cX9_remembers : ByteArray := prog_11_method_25_code
def yX9_remembers : MethodName := ⟨RX9, "remembers", "()V"⟩
abbrev cX9_undo : ByteArray := prog_11_method_26_code
def yX9_undo : MethodName := ⟨RX9, "undo", "()I"⟩
abbrev cX9_add : ByteArray := prog_11_method_27_code
def yX9_add : MethodName := ⟨RX9, "add", "(III)I"⟩
abbrev cX9_clears : ByteArray := prog_11_method_28_code
def yX9_clears : MethodName := ⟨RX9, "clears", "(I)V"⟩
abbrev cX9_comes : ByteArray := prog_11_method_29_code
def yX9_comes : MethodName := ⟨RX9, "comes", "(II)Z"⟩
abbrev cX9_canTake : ByteArray := prog_11_method_30_code
def yX9_canTake : MethodName := ⟨RX9, "canTake", "(IIII)Z"⟩
abbrev cX9_takes : ByteArray := prog_11_method_31_code
def yX9_takes : MethodName := ⟨RX9, "takes", "(IIII)I"⟩
abbrev cX9_goes : ByteArray := prog_11_method_32_code
def yX9_goes : MethodName := ⟨RX9, "goes", "(I)I"⟩
abbrev cX9_height : ByteArray := prog_11_method_33_code
def yX9_height : MethodName := ⟨RX9, "height", "(I)I"⟩
abbrev cX9_canMove : ByteArray := prog_11_method_34_code
def yX9_canMove : MethodName := ⟨RX9, "canMove", "(II)Z"⟩
abbrev cX9_moves : ByteArray := prog_11_method_35_code
def yX9_moves : MethodName := ⟨RX9, "moves", "(II)V"⟩
abbrev cX9_move : ByteArray := prog_11_method_36_code
def yX9_move : MethodName := ⟨RX9, "move", "(II)I"⟩
abbrev cX9_parted : ByteArray := prog_11_method_37_code
def yX9_parted : MethodName := ⟨RX9, "parted", "(III)I"⟩
abbrev cX9_give : ByteArray := prog_11_method_38_code
def yX9_give : MethodName := ⟨RX9, "give", "(IIII)I"⟩
abbrev cX9_roll : ByteArray := prog_11_method_39_code
def yX9_roll : MethodName := ⟨RX9, "roll", "(I)I"⟩
abbrev cX9_recodes : ByteArray := prog_11_method_40_code
def yX9_recodes : MethodName := ⟨RX9, "recodes", "(III)I"⟩
abbrev cX9_recode : ByteArray := prog_11_method_41_code
def yX9_recode : MethodName := ⟨RX9, "recode", "(II)I"⟩
abbrev cX9_limit : ByteArray := prog_11_method_42_code
def yX9_limit : MethodName := ⟨RX9, "limit", "(IIII)I"⟩
abbrev cX9_over : ByteArray := prog_11_method_43_code
def yX9_over : MethodName := ⟨RX9, "over", "(I)I"⟩
abbrev cX9_broken : ByteArray := prog_11_method_44_code
def yX9_broken : MethodName := ⟨RX9, "broken", "(II)I"⟩
abbrev cX9_state : ByteArray := prog_11_method_45_code
def yX9_state : MethodName := ⟨RX9, "state", "(I)I"⟩
abbrev cX9_draw : ByteArray := prog_11_method_46_code
def yX9_draw : MethodName := ⟨RX9, "draw", "(I)I"⟩
abbrev cX9_comes_ : ByteArray := prog_11_method_47_code
def yX9_comes_ : MethodName := ⟨RX9, "comes", "(I)V"⟩
abbrev cX9_feed : ByteArray := prog_11_method_48_code
def yX9_feed : MethodName := ⟨RX9, "feed", "(IIIII)I"⟩
abbrev cX9_end : ByteArray := prog_11_method_49_code
def yX9_end : MethodName := ⟨RX9, "end", "(I)Z"⟩
abbrev cX9_fault : ByteArray := prog_11_method_50_code
def yX9_fault : MethodName := ⟨RX9, "fault", "(I)I"⟩
abbrev cX9_wrong : ByteArray := prog_11_method_51_code
def yX9_wrong : MethodName := ⟨RX9, "wrong", "(II)V"⟩
abbrev cX9_isNext : ByteArray := prog_11_method_52_code
def yX9_isNext : MethodName := ⟨RX9, "isNext", "(I)Z"⟩
abbrev cX9_isDigitNext : ByteArray := prog_11_method_53_code
def yX9_isDigitNext : MethodName := ⟨RX9, "isDigitNext", "()Z"⟩
abbrev cX9_must : ByteArray := prog_11_method_54_code
def yX9_must : MethodName := ⟨RX9, "must", "(I)V"⟩
abbrev cX9_number : ByteArray := prog_11_method_55_code
def yX9_number : MethodName := ⟨RX9, "number", "(II)I"⟩
abbrev cX9_unitsBelow : ByteArray := prog_11_method_56_code
def yX9_unitsBelow : MethodName := ⟨RX9, "unitsBelow", "(II)V"⟩
abbrev cX9_entry : ByteArray := prog_11_method_57_code
def yX9_entry : MethodName := ⟨RX9, "entry", "()V"⟩
abbrev cX9_reads : ByteArray := prog_11_method_58_code
def yX9_reads : MethodName := ⟨RX9, "reads", "()V"⟩
abbrev cX9_text : ByteArray := prog_11_method_59_code
def yX9_text : MethodName := ⟨RX9, "text", "()I"⟩
abbrev cX9_comesBack : ByteArray := prog_11_method_60_code
def yX9_comesBack : MethodName := ⟨RX9, "comesBack", "()V"⟩
abbrev cX9_keepsAside : ByteArray := prog_11_method_61_code
def yX9_keepsAside : MethodName := ⟨RX9, "keepsAside", "()V"⟩
abbrev cX9_positive : ByteArray := prog_11_method_62_code
def yX9_positive : MethodName := ⟨RX9, "positive", "([I)I"⟩
abbrev cX9_isRight : ByteArray := prog_11_method_63_code
def yX9_isRight : MethodName := ⟨RX9, "isRight", "(I)Z"⟩
abbrev cX9_unit : ByteArray := prog_11_method_64_code
def yX9_unit : MethodName := ⟨RX9, "unit", "(II)I"⟩
abbrev cX9_below : ByteArray := prog_11_method_65_code
def yX9_below : MethodName := ⟨RX9, "below", "(II)I"⟩
abbrev cX9_above : ByteArray := prog_11_method_66_code
def yX9_above : MethodName := ⟨RX9, "above", "(II)I"⟩
abbrev cX9_both : ByteArray := prog_11_method_67_code
def yX9_both : MethodName := ⟨RX9, "both", "(II)I"⟩
abbrev cX9_of : ByteArray := prog_11_method_68_code
def yX9_of : MethodName := ⟨RX9, "of", "(III)I"⟩
abbrev cX9_rankedIn : ByteArray := prog_11_method_69_code
def yX9_rankedIn : MethodName := ⟨RX9, "rankedIn", "(II)I"⟩
abbrev cX9_allOf : ByteArray := prog_11_method_70_code
def yX9_allOf : MethodName := ⟨RX9, "allOf", "(I)I"⟩
abbrev cX9_ranked : ByteArray := prog_11_method_71_code
def yX9_ranked : MethodName := ⟨RX9, "ranked", "(II)I"⟩
abbrev cX9_less : ByteArray := prog_11_method_72_code
def yX9_less : MethodName := ⟨RX9, "less", "(II)I"⟩
abbrev cX9_leadsAhead : ByteArray := prog_11_method_73_code
def yX9_leadsAhead : MethodName := ⟨RX9, "leadsAhead", "(III)Z"⟩
abbrev cX9_leaderOf : ByteArray := prog_11_method_74_code
def yX9_leaderOf : MethodName := ⟨RX9, "leaderOf", "(II)I"⟩
abbrev cX9_leader : ByteArray := prog_11_method_75_code
def yX9_leader : MethodName := ⟨RX9, "leader", "(III)I"⟩
abbrev cX9_median : ByteArray := prog_11_method_76_code
def yX9_median : MethodName := ⟨RX9, "median", "(I)I"⟩
abbrev cX9_heavy : ByteArray := prog_11_method_77_code
def yX9_heavy : MethodName := ⟨RX9, "heavy", "(II)J"⟩
abbrev cX9_squares : ByteArray := prog_11_method_78_code
def yX9_squares : MethodName := ⟨RX9, "squares", "(I)J"⟩
abbrev cX9_seats : ByteArray := prog_11_method_79_code
def yX9_seats : MethodName := ⟨RX9, "seats", "(I)V"⟩
abbrev cX9_seats_ : ByteArray := prog_11_method_80_code
def yX9_seats_ : MethodName := ⟨RX9, "seats", "(III)I"⟩
abbrev cX9_unlike : ByteArray := prog_11_method_81_code
def yX9_unlike : MethodName := ⟨RX9, "unlike", "([I[I)I"⟩
abbrev cX9_versions : ByteArray := prog_11_method_82_code
def yX9_versions : MethodName := ⟨RX9, "versions", "(I)I"⟩
abbrev cX9_was : ByteArray := prog_11_method_83_code
def yX9_was : MethodName := ⟨RX9, "was", "(III)I"⟩
abbrev cX9_grew : ByteArray := prog_11_method_84_code
def yX9_grew : MethodName := ⟨RX9, "grew", "(III)I"⟩
abbrev cX9_halves : ByteArray := prog_11_method_85_code
def yX9_halves : MethodName := ⟨RX9, "halves", "(II)I"⟩
abbrev cX9_isBetween : ByteArray := prog_11_method_86_code
def yX9_isBetween : MethodName := ⟨RX9, "isBetween", "(III)Z"⟩
abbrev cX9_chain : ByteArray := prog_11_method_87_code
def yX9_chain : MethodName := ⟨RX9, "chain", "(III)I"⟩
abbrev cX9_hops : ByteArray := prog_11_method_88_code
def yX9_hops : MethodName := ⟨RX9, "hops", "(II)I"⟩
abbrev cX9_drawn : ByteArray := prog_11_method_89_code
def yX9_drawn : MethodName := ⟨RX9, "drawn", "(III)I"⟩
abbrev cX9_percent : ByteArray := prog_11_method_90_code
def yX9_percent : MethodName := ⟨RX9, "percent", "(II)I"⟩
abbrev cX9_isPart : ByteArray := prog_11_method_91_code
def yX9_isPart : MethodName := ⟨RX9, "isPart", "(II)Z"⟩
abbrev cX9_quantile : ByteArray := prog_11_method_92_code
def yX9_quantile : MethodName := ⟨RX9, "quantile", "(II)I"⟩
abbrev cX9_few : ByteArray := prog_11_method_93_code
def yX9_few : MethodName := ⟨RX9, "few", "(II)I"⟩
abbrev cX9_laysRuns : ByteArray := prog_11_method_94_code
def yX9_laysRuns : MethodName := ⟨RX9, "laysRuns", "(I)I"⟩
abbrev cX9_bestRun : ByteArray := prog_11_method_95_code
def yX9_bestRun : MethodName := ⟨RX9, "bestRun", "(IZ)I"⟩
abbrev cX9_run : ByteArray := prog_11_method_96_code
def yX9_run : MethodName := ⟨RX9, "run", "(III)I"⟩
abbrev cX9_twin : ByteArray := prog_11_method_97_code
def yX9_twin : MethodName := ⟨RX9, "twin", "(I)I"⟩
abbrev cX9_says : ByteArray := prog_11_method_98_code
def yX9_says : MethodName := ⟨RX9, "says", "(I)V"⟩
abbrev cX9_saysNumber : ByteArray := prog_11_method_99_code
def yX9_saysNumber : MethodName := ⟨RX9, "saysNumber", "(I)V"⟩
abbrev cX9_report : ByteArray := prog_11_method_100_code
def yX9_report : MethodName := ⟨RX9, "report", "(I)I"⟩
abbrev cX9_sign : ByteArray := prog_11_method_101_code
def yX9_sign : MethodName := ⟨RX9, "sign", "(I)I"⟩
abbrev cX9_unlike_ : ByteArray := prog_11_method_102_code
def yX9_unlike_ : MethodName := ⟨RX9, "unlike", "(II)I"⟩
abbrev cX9_shared : ByteArray := prog_11_method_103_code
def yX9_shared : MethodName := ⟨RX9, "shared", "(III)I"⟩
abbrev cX9_leads : ByteArray := prog_11_method_104_code
def yX9_leads : MethodName := ⟨RX9, "leads", "(I)I"⟩
abbrev cX9_where : ByteArray := prog_11_method_105_code
def yX9_where : MethodName := ⟨RX9, "where", "(II)I"⟩
abbrev cX9_cost : ByteArray := prog_11_method_106_code
def yX9_cost : MethodName := ⟨RX9, "cost", "(I)I"⟩
abbrev cX9_would : ByteArray := prog_11_method_107_code
def yX9_would : MethodName := ⟨RX9, "would", "(III)I"⟩
abbrev cX9_home : ByteArray := prog_11_method_108_code
def yX9_home : MethodName := ⟨RX9, "home", "(I)I"⟩
abbrev cX9_count : ByteArray := prog_11_method_109_code
def yX9_count : MethodName := ⟨RX9, "count", "(I)I"⟩
abbrev cX9_image : ByteArray := prog_11_method_110_code
def yX9_image : MethodName := ⟨RX9, "image", "(Z)Z"⟩
abbrev cX9_staleOnes : ByteArray := prog_11_method_111_code
def yX9_staleOnes : MethodName := ⟨RX9, "staleOnes", "()I"⟩
abbrev cX9_rightOnes : ByteArray := prog_11_method_112_code
def yX9_rightOnes : MethodName := ⟨RX9, "rightOnes", "()I"⟩
abbrev cX9_there : ByteArray := prog_11_method_113_code
def yX9_there : MethodName := ⟨RX9, "there", "()I"⟩
abbrev cX9_deepest : ByteArray := prog_11_method_114_code
def yX9_deepest : MethodName := ⟨RX9, "deepest", "()I"⟩
abbrev cX9_sumNodes : ByteArray := prog_11_method_115_code
def yX9_sumNodes : MethodName := ⟨RX9, "sumNodes", "()I"⟩
abbrev cX9_look : ByteArray := prog_11_method_116_code
def yX9_look : MethodName := ⟨RX9, "look", "(I)I"⟩
abbrev cX9_unlikeOnes : ByteArray := prog_11_method_117_code
def yX9_unlikeOnes : MethodName := ⟨RX9, "unlikeOnes", "()I"⟩
def RJ6 : String := "java/lang/Integer"
abbrev cJ6_bitCount_0f7a4 : ByteArray := prog_12_method_49_code
def yJ6_bitCount_0f7a4 : MethodName := ⟨RJ6, "bitCount", "(I)I"⟩
def RJ13 : String := "java/lang/Long"
abbrev cJ13_bitCount_95d88 : ByteArray := prog_13_method_50_code
def yJ13_bitCount_95d88 : MethodName := ⟨RJ13, "bitCount", "(J)I"⟩
def RJ9 : String := "java/lang/Math"
abbrev cJ9_abs_0f7a4 : ByteArray := prog_14_method_59_code
def yJ9_abs_0f7a4 : MethodName := ⟨RJ9, "abs", "(I)I"⟩
abbrev cJ9_max_7cf53 : ByteArray := prog_14_method_65_code
def yJ9_max_7cf53 : MethodName := ⟨RJ9, "max", "(II)I"⟩
abbrev cJ9_min_7cf53 : ByteArray := prog_14_method_69_code
def yJ9_min_7cf53 : MethodName := ⟨RJ9, "min", "(II)I"⟩
def RJ10 : String := "java/lang/System"
def RJ7 : String := "java/util/Arrays"
abbrev cJ7_fill_53178 : ByteArray := prog_16_method_103_code
def yJ7_fill_53178 : MethodName := ⟨RJ7, "fill", "([II)V"⟩
def RL : String := "BranchSumsLaw"
abbrev cL_law : ByteArray := code
def yL_law : MethodName := ⟨RL, "law", "([I)Z"⟩
abbrev vwCl : List vw_C := [(RX0, TX0, 7), (RX1, TX1, 6), (RX2, TX2, 3), (RX3, TX3, 2), (RX4, TX4, 4), (RX7, TX7, 7), (RX8, TX8, 12), (RX9, TX9, 20)]
