section
-- ===== PART A: goes FIRST, ahead of the names: the tables' words, and 'selects' of the private methods out of them =====
/-- a private method of a class that the tables say can be made, by its rows of tables_1 -/
def lw_okq (q : MethodName × Nat) : Prop := (q.1.cls ≠ "java/lang/invoke/MethodHandle" ∧ q.1.cls ≠ "java/lang/invoke/VarHandle") ∧ Cond.instantiable q.1.cls q.2 ∈ tables_1 ∧ Cond.privateMethod q.1 ∈ tables_1 ∧ Cond.instanceMethod q.1 ∈ tables_1
theorem lw_p0 : lw_okq (⟨"TwigMerge", "isFilled", "(I)Z"⟩, 8) := ⟨⟨by decide +kernel, by decide +kernel⟩, List.mem_of_getElem? (i := 13) (by decide +kernel), List.mem_of_getElem? (i := 283) (by decide +kernel), List.mem_of_getElem? (i := 284) (by decide +kernel)⟩
theorem lw_p1 : lw_okq (⟨"TwigMerge$Partners", "markAlikes", "()V"⟩, 8) := ⟨⟨by decide +kernel, by decide +kernel⟩, List.mem_of_getElem? (i := 70) (by decide +kernel), List.mem_of_getElem? (i := 312) (by decide +kernel), List.mem_of_getElem? (i := 313) (by decide +kernel)⟩
theorem lw_p2 : lw_okq (⟨"TwigMerge$Partners", "joinBestAlikes", "()Z"⟩, 8) := ⟨⟨by decide +kernel, by decide +kernel⟩, List.mem_of_getElem? (i := 70) (by decide +kernel), List.mem_of_getElem? (i := 317) (by decide +kernel), List.mem_of_getElem? (i := 318) (by decide +kernel)⟩
theorem lw_p3 : lw_okq (⟨"TwigMerge$Partners", "areFreeAlikes", "(II)Z"⟩, 8) := ⟨⟨by decide +kernel, by decide +kernel⟩, List.mem_of_getElem? (i := 70) (by decide +kernel), List.mem_of_getElem? (i := 321) (by decide +kernel), List.mem_of_getElem? (i := 322) (by decide +kernel)⟩
theorem lw_p4 : lw_okq (⟨"TwigMerge$Partners", "shareOfParents", "(II)I"⟩, 8) := ⟨⟨by decide +kernel, by decide +kernel⟩, List.mem_of_getElem? (i := 70) (by decide +kernel), List.mem_of_getElem? (i := 325) (by decide +kernel), List.mem_of_getElem? (i := 326) (by decide +kernel)⟩
theorem lw_p5 : lw_okq (⟨"TwigMerge$Partners", "share", "(II)I"⟩, 8) := ⟨⟨by decide +kernel, by decide +kernel⟩, List.mem_of_getElem? (i := 70) (by decide +kernel), List.mem_of_getElem? (i := 329) (by decide +kernel), List.mem_of_getElem? (i := 330) (by decide +kernel)⟩
theorem lw_p6 : lw_okq (⟨"TwigMerge$Partners", "joinTwigs", "(III)V"⟩, 8) := ⟨⟨by decide +kernel, by decide +kernel⟩, List.mem_of_getElem? (i := 70) (by decide +kernel), List.mem_of_getElem? (i := 333) (by decide +kernel), List.mem_of_getElem? (i := 334) (by decide +kernel)⟩
theorem lw_p7 : lw_okq (⟨"TwigMerge$Partners", "join", "(II)V"⟩, 8) := ⟨⟨by decide +kernel, by decide +kernel⟩, List.mem_of_getElem? (i := 70) (by decide +kernel), List.mem_of_getElem? (i := 338) (by decide +kernel), List.mem_of_getElem? (i := 339) (by decide +kernel)⟩
theorem lw_p8 : lw_okq (⟨"TwigMerge$Partners", "joinByShare", "()V"⟩, 8) := ⟨⟨by decide +kernel, by decide +kernel⟩, List.mem_of_getElem? (i := 70) (by decide +kernel), List.mem_of_getElem? (i := 344) (by decide +kernel), List.mem_of_getElem? (i := 345) (by decide +kernel)⟩
theorem lw_p9 : lw_okq (⟨"TwigMerge$Partners", "bestByShare", "(I)I"⟩, 8) := ⟨⟨by decide +kernel, by decide +kernel⟩, List.mem_of_getElem? (i := 70) (by decide +kernel), List.mem_of_getElem? (i := 348) (by decide +kernel), List.mem_of_getElem? (i := 349) (by decide +kernel)⟩
theorem lw_p10 : lw_okq (⟨"TwigMerge$Partners", "pairChildren", "(II)V"⟩, 8) := ⟨⟨by decide +kernel, by decide +kernel⟩, List.mem_of_getElem? (i := 70) (by decide +kernel), List.mem_of_getElem? (i := 358) (by decide +kernel), List.mem_of_getElem? (i := 359) (by decide +kernel)⟩
theorem lw_p11 : lw_okq (⟨"TwigMerge$Partners", "pairChildrenOnce", "(IIZ)V"⟩, 8) := ⟨⟨by decide +kernel, by decide +kernel⟩, List.mem_of_getElem? (i := 70) (by decide +kernel), List.mem_of_getElem? (i := 362) (by decide +kernel), List.mem_of_getElem? (i := 363) (by decide +kernel)⟩
theorem lw_p12 : lw_okq (⟨"TwigMerge$Partners", "firstFreeChild", "(IIZ)I"⟩, 8) := ⟨⟨by decide +kernel, by decide +kernel⟩, List.mem_of_getElem? (i := 70) (by decide +kernel), List.mem_of_getElem? (i := 366) (by decide +kernel), List.mem_of_getElem? (i := 367) (by decide +kernel)⟩
theorem lw_p13 : lw_okq (⟨"TwigMerge$Partners", "joinRoots", "()V"⟩, 8) := ⟨⟨by decide +kernel, by decide +kernel⟩, List.mem_of_getElem? (i := 70) (by decide +kernel), List.mem_of_getElem? (i := 370) (by decide +kernel), List.mem_of_getElem? (i := 371) (by decide +kernel)⟩
theorem lw_p14 : lw_okq (⟨"TwigMerge$Difference", "settleAll", "()V"⟩, 9) := ⟨⟨by decide +kernel, by decide +kernel⟩, List.mem_of_getElem? (i := 64) (by decide +kernel), List.mem_of_getElem? (i := 374) (by decide +kernel), List.mem_of_getElem? (i := 375) (by decide +kernel)⟩
theorem lw_p15 : lw_okq (⟨"TwigMerge$Difference", "settleChildren", "(II)V"⟩, 9) := ⟨⟨by decide +kernel, by decide +kernel⟩, List.mem_of_getElem? (i := 64) (by decide +kernel), List.mem_of_getElem? (i := 378) (by decide +kernel), List.mem_of_getElem? (i := 379) (by decide +kernel)⟩
def lw_privs_1 : List (MethodName × Nat) := [(⟨"TwigMerge", "isFilled", "(I)Z"⟩, 8), (⟨"TwigMerge$Partners", "markAlikes", "()V"⟩, 8), (⟨"TwigMerge$Partners", "joinBestAlikes", "()Z"⟩, 8), (⟨"TwigMerge$Partners", "areFreeAlikes", "(II)Z"⟩, 8), (⟨"TwigMerge$Partners", "shareOfParents", "(II)I"⟩, 8), (⟨"TwigMerge$Partners", "share", "(II)I"⟩, 8), (⟨"TwigMerge$Partners", "joinTwigs", "(III)V"⟩, 8), (⟨"TwigMerge$Partners", "join", "(II)V"⟩, 8), (⟨"TwigMerge$Partners", "joinByShare", "()V"⟩, 8), (⟨"TwigMerge$Partners", "bestByShare", "(I)I"⟩, 8), (⟨"TwigMerge$Partners", "pairChildren", "(II)V"⟩, 8), (⟨"TwigMerge$Partners", "pairChildrenOnce", "(IIZ)V"⟩, 8), (⟨"TwigMerge$Partners", "firstFreeChild", "(IIZ)I"⟩, 8), (⟨"TwigMerge$Partners", "joinRoots", "()V"⟩, 8), (⟨"TwigMerge$Difference", "settleAll", "()V"⟩, 9), (⟨"TwigMerge$Difference", "settleChildren", "(II)V"⟩, 9)]
theorem lw_r1 : ∀ q ∈ lw_privs_1, lw_okq q := List.forall_mem_cons.mpr ⟨lw_p0, List.forall_mem_cons.mpr ⟨lw_p1, List.forall_mem_cons.mpr ⟨lw_p2, List.forall_mem_cons.mpr ⟨lw_p3, List.forall_mem_cons.mpr ⟨lw_p4, List.forall_mem_cons.mpr ⟨lw_p5, List.forall_mem_cons.mpr ⟨lw_p6, List.forall_mem_cons.mpr ⟨lw_p7, List.forall_mem_cons.mpr ⟨lw_p8, List.forall_mem_cons.mpr ⟨lw_p9, List.forall_mem_cons.mpr ⟨lw_p10, List.forall_mem_cons.mpr ⟨lw_p11, List.forall_mem_cons.mpr ⟨lw_p12, List.forall_mem_cons.mpr ⟨lw_p13, List.forall_mem_cons.mpr ⟨lw_p14, List.forall_mem_cons.mpr ⟨lw_p15, fun _ h => absurd h List.not_mem_nil⟩⟩⟩⟩⟩⟩⟩⟩⟩⟩⟩⟩⟩⟩⟩⟩
theorem lw_p16 : lw_okq (⟨"TwigMerge$Difference", "gatherKept", "(II)I"⟩, 9) := ⟨⟨by decide +kernel, by decide +kernel⟩, List.mem_of_getElem? (i := 64) (by decide +kernel), List.mem_of_getElem? (i := 382) (by decide +kernel), List.mem_of_getElem? (i := 383) (by decide +kernel)⟩
theorem lw_p17 : lw_okq (⟨"TwigMerge$Difference", "measureReach", "(I)I"⟩, 9) := ⟨⟨by decide +kernel, by decide +kernel⟩, List.mem_of_getElem? (i := 64) (by decide +kernel), List.mem_of_getElem? (i := 390) (by decide +kernel), List.mem_of_getElem? (i := 391) (by decide +kernel)⟩
theorem lw_p18 : lw_okq (⟨"TwigMerge$Difference", "writeTwig", "(IIII)I"⟩, 9) := ⟨⟨by decide +kernel, by decide +kernel⟩, List.mem_of_getElem? (i := 64) (by decide +kernel), List.mem_of_getElem? (i := 399) (by decide +kernel), List.mem_of_getElem? (i := 400) (by decide +kernel)⟩
theorem lw_p19 : lw_okq (⟨"TwigMerge$Difference", "writeNode", "(III)I"⟩, 9) := ⟨⟨by decide +kernel, by decide +kernel⟩, List.mem_of_getElem? (i := 64) (by decide +kernel), List.mem_of_getElem? (i := 403) (by decide +kernel), List.mem_of_getElem? (i := 404) (by decide +kernel)⟩
theorem lw_p20 : lw_okq (⟨"TwigMerge$Script", "write", "(IIIIII)V"⟩, 2) := ⟨⟨by decide +kernel, by decide +kernel⟩, List.mem_of_getElem? (i := 103) (by decide +kernel), List.mem_of_getElem? (i := 415) (by decide +kernel), List.mem_of_getElem? (i := 416) (by decide +kernel)⟩
theorem lw_p21 : lw_okq (⟨"TwigMerge$Difference", "writeDeletes", "()V"⟩, 9) := ⟨⟨by decide +kernel, by decide +kernel⟩, List.mem_of_getElem? (i := 64) (by decide +kernel), List.mem_of_getElem? (i := 427) (by decide +kernel), List.mem_of_getElem? (i := 428) (by decide +kernel)⟩
theorem lw_p22 : lw_okq (⟨"TwigMerge$Script", "perform", "(ILTwigMerge$Forest;)V"⟩, 2) := ⟨⟨by decide +kernel, by decide +kernel⟩, List.mem_of_getElem? (i := 103) (by decide +kernel), List.mem_of_getElem? (i := 464) (by decide +kernel), List.mem_of_getElem? (i := 465) (by decide +kernel)⟩
theorem lw_p23 : lw_okq (⟨"TwigMerge$Merger", "mergeStep", "(I)Z"⟩, 9) := ⟨⟨by decide +kernel, by decide +kernel⟩, List.mem_of_getElem? (i := 154) (by decide +kernel), List.mem_of_getElem? (i := 493) (by decide +kernel), List.mem_of_getElem? (i := 494) (by decide +kernel)⟩
theorem lw_p24 : lw_okq (⟨"TwigMerge$Merger", "mergeInsert", "(I)Z"⟩, 9) := ⟨⟨by decide +kernel, by decide +kernel⟩, List.mem_of_getElem? (i := 154) (by decide +kernel), List.mem_of_getElem? (i := 498) (by decide +kernel), List.mem_of_getElem? (i := 499) (by decide +kernel)⟩
theorem lw_p25 : lw_okq (⟨"TwigMerge$Merger", "meaning", "(I)I"⟩, 9) := ⟨⟨by decide +kernel, by decide +kernel⟩, List.mem_of_getElem? (i := 154) (by decide +kernel), List.mem_of_getElem? (i := 502) (by decide +kernel), List.mem_of_getElem? (i := 503) (by decide +kernel)⟩
theorem lw_p26 : lw_okq (⟨"TwigMerge$Merger", "findTwin", "(III)I"⟩, 9) := ⟨⟨by decide +kernel, by decide +kernel⟩, List.mem_of_getElem? (i := 154) (by decide +kernel), List.mem_of_getElem? (i := 506) (by decide +kernel), List.mem_of_getElem? (i := 507) (by decide +kernel)⟩
theorem lw_p27 : lw_okq (⟨"TwigMerge$Merger", "isPutAt", "(III)Z"⟩, 9) := ⟨⟨by decide +kernel, by decide +kernel⟩, List.mem_of_getElem? (i := 154) (by decide +kernel), List.mem_of_getElem? (i := 510) (by decide +kernel), List.mem_of_getElem? (i := 511) (by decide +kernel)⟩
theorem lw_p28 : lw_okq (⟨"TwigMerge$Merger", "remember", "(I)V"⟩, 9) := ⟨⟨by decide +kernel, by decide +kernel⟩, List.mem_of_getElem? (i := 154) (by decide +kernel), List.mem_of_getElem? (i := 514) (by decide +kernel), List.mem_of_getElem? (i := 515) (by decide +kernel)⟩
theorem lw_p29 : lw_okq (⟨"TwigMerge$Merger", "canPut", "(II)Z"⟩, 9) := ⟨⟨by decide +kernel, by decide +kernel⟩, List.mem_of_getElem? (i := 154) (by decide +kernel), List.mem_of_getElem? (i := 519) (by decide +kernel), List.mem_of_getElem? (i := 520) (by decide +kernel)⟩
theorem lw_p30 : lw_okq (⟨"TwigMerge$Merger", "mergeUpdate", "(I)Z"⟩, 9) := ⟨⟨by decide +kernel, by decide +kernel⟩, List.mem_of_getElem? (i := 154) (by decide +kernel), List.mem_of_getElem? (i := 526) (by decide +kernel), List.mem_of_getElem? (i := 527) (by decide +kernel)⟩
theorem lw_p31 : lw_okq (⟨"TwigMerge$Merger", "mergeMove", "(I)Z"⟩, 9) := ⟨⟨by decide +kernel, by decide +kernel⟩, List.mem_of_getElem? (i := 154) (by decide +kernel), List.mem_of_getElem? (i := 535) (by decide +kernel), List.mem_of_getElem? (i := 536) (by decide +kernel)⟩
def lw_privs_2 : List (MethodName × Nat) := [(⟨"TwigMerge$Difference", "gatherKept", "(II)I"⟩, 9), (⟨"TwigMerge$Difference", "measureReach", "(I)I"⟩, 9), (⟨"TwigMerge$Difference", "writeTwig", "(IIII)I"⟩, 9), (⟨"TwigMerge$Difference", "writeNode", "(III)I"⟩, 9), (⟨"TwigMerge$Script", "write", "(IIIIII)V"⟩, 2), (⟨"TwigMerge$Difference", "writeDeletes", "()V"⟩, 9), (⟨"TwigMerge$Script", "perform", "(ILTwigMerge$Forest;)V"⟩, 2), (⟨"TwigMerge$Merger", "mergeStep", "(I)Z"⟩, 9), (⟨"TwigMerge$Merger", "mergeInsert", "(I)Z"⟩, 9), (⟨"TwigMerge$Merger", "meaning", "(I)I"⟩, 9), (⟨"TwigMerge$Merger", "findTwin", "(III)I"⟩, 9), (⟨"TwigMerge$Merger", "isPutAt", "(III)Z"⟩, 9), (⟨"TwigMerge$Merger", "remember", "(I)V"⟩, 9), (⟨"TwigMerge$Merger", "canPut", "(II)Z"⟩, 9), (⟨"TwigMerge$Merger", "mergeUpdate", "(I)Z"⟩, 9), (⟨"TwigMerge$Merger", "mergeMove", "(I)Z"⟩, 9)]
theorem lw_r2 : ∀ q ∈ lw_privs_2, lw_okq q := List.forall_mem_cons.mpr ⟨lw_p16, List.forall_mem_cons.mpr ⟨lw_p17, List.forall_mem_cons.mpr ⟨lw_p18, List.forall_mem_cons.mpr ⟨lw_p19, List.forall_mem_cons.mpr ⟨lw_p20, List.forall_mem_cons.mpr ⟨lw_p21, List.forall_mem_cons.mpr ⟨lw_p22, List.forall_mem_cons.mpr ⟨lw_p23, List.forall_mem_cons.mpr ⟨lw_p24, List.forall_mem_cons.mpr ⟨lw_p25, List.forall_mem_cons.mpr ⟨lw_p26, List.forall_mem_cons.mpr ⟨lw_p27, List.forall_mem_cons.mpr ⟨lw_p28, List.forall_mem_cons.mpr ⟨lw_p29, List.forall_mem_cons.mpr ⟨lw_p30, List.forall_mem_cons.mpr ⟨lw_p31, fun _ h => absurd h List.not_mem_nil⟩⟩⟩⟩⟩⟩⟩⟩⟩⟩⟩⟩⟩⟩⟩⟩
theorem lw_p32 : lw_okq (⟨"TwigMerge$Merger", "mergeDelete", "(I)Z"⟩, 9) := ⟨⟨by decide +kernel, by decide +kernel⟩, List.mem_of_getElem? (i := 154) (by decide +kernel), List.mem_of_getElem? (i := 544) (by decide +kernel), List.mem_of_getElem? (i := 545) (by decide +kernel)⟩
theorem lw_p33 : lw_okq (⟨"TwigMergeModel", "isNode", "(II)Z"⟩, 40) := ⟨⟨by decide +kernel, by decide +kernel⟩, List.mem_of_getElem? (i := 557) (by decide +kernel), List.mem_of_getElem? (i := 691) (by decide +kernel), List.mem_of_getElem? (i := 692) (by decide +kernel)⟩
theorem lw_p34 : lw_okq (⟨"TwigMergeModel", "compare", "(II)V"⟩, 40) := ⟨⟨by decide +kernel, by decide +kernel⟩, List.mem_of_getElem? (i := 557) (by decide +kernel), List.mem_of_getElem? (i := 711) (by decide +kernel), List.mem_of_getElem? (i := 712) (by decide +kernel)⟩
theorem lw_p35 : lw_okq (⟨"TwigMergeModel", "child", "(III)I"⟩, 40) := ⟨⟨by decide +kernel, by decide +kernel⟩, List.mem_of_getElem? (i := 557) (by decide +kernel), List.mem_of_getElem? (i := 715) (by decide +kernel), List.mem_of_getElem? (i := 716) (by decide +kernel)⟩
theorem lw_p36 : lw_okq (⟨"TwigMergeModel", "work", "(II)V"⟩, 40) := ⟨⟨by decide +kernel, by decide +kernel⟩, List.mem_of_getElem? (i := 557) (by decide +kernel), List.mem_of_getElem? (i := 723) (by decide +kernel), List.mem_of_getElem? (i := 724) (by decide +kernel)⟩
theorem lw_p37 : lw_okq (⟨"TwigMergeModel", "partners", "()V"⟩, 40) := ⟨⟨by decide +kernel, by decide +kernel⟩, List.mem_of_getElem? (i := 557) (by decide +kernel), List.mem_of_getElem? (i := 727) (by decide +kernel), List.mem_of_getElem? (i := 728) (by decide +kernel)⟩
theorem lw_p38 : lw_okq (⟨"TwigMergeModel", "look", "()V"⟩, 40) := ⟨⟨by decide +kernel, by decide +kernel⟩, List.mem_of_getElem? (i := 557) (by decide +kernel), List.mem_of_getElem? (i := 731) (by decide +kernel), List.mem_of_getElem? (i := 732) (by decide +kernel)⟩
theorem lw_p39 : lw_okq (⟨"TwigMergeModel", "isBelow", "(III)Z"⟩, 40) := ⟨⟨by decide +kernel, by decide +kernel⟩, List.mem_of_getElem? (i := 557) (by decide +kernel), List.mem_of_getElem? (i := 736) (by decide +kernel), List.mem_of_getElem? (i := 737) (by decide +kernel)⟩
theorem lw_p40 : lw_okq (⟨"TwigMergeModel", "best", "()I"⟩, 40) := ⟨⟨by decide +kernel, by decide +kernel⟩, List.mem_of_getElem? (i := 557) (by decide +kernel), List.mem_of_getElem? (i := 740) (by decide +kernel), List.mem_of_getElem? (i := 741) (by decide +kernel)⟩
theorem lw_p41 : lw_okq (⟨"TwigMergeModel", "share", "(II)I"⟩, 40) := ⟨⟨by decide +kernel, by decide +kernel⟩, List.mem_of_getElem? (i := 557) (by decide +kernel), List.mem_of_getElem? (i := 744) (by decide +kernel), List.mem_of_getElem? (i := 745) (by decide +kernel)⟩
theorem lw_p42 : lw_okq (⟨"TwigMergeModel", "wed", "(II)V"⟩, 40) := ⟨⟨by decide +kernel, by decide +kernel⟩, List.mem_of_getElem? (i := 557) (by decide +kernel), List.mem_of_getElem? (i := 748) (by decide +kernel), List.mem_of_getElem? (i := 749) (by decide +kernel)⟩
theorem lw_p43 : lw_okq (⟨"TwigMergeModel", "marry", "(II)V"⟩, 40) := ⟨⟨by decide +kernel, by decide +kernel⟩, List.mem_of_getElem? (i := 557) (by decide +kernel), List.mem_of_getElem? (i := 752) (by decide +kernel), List.mem_of_getElem? (i := 753) (by decide +kernel)⟩
theorem lw_p44 : lw_okq (⟨"TwigMergeModel", "likely", "(I)I"⟩, 40) := ⟨⟨by decide +kernel, by decide +kernel⟩, List.mem_of_getElem? (i := 557) (by decide +kernel), List.mem_of_getElem? (i := 756) (by decide +kernel), List.mem_of_getElem? (i := 757) (by decide +kernel)⟩
theorem lw_p45 : lw_okq (⟨"TwigMergeModel", "paired", "(II)V"⟩, 40) := ⟨⟨by decide +kernel, by decide +kernel⟩, List.mem_of_getElem? (i := 557) (by decide +kernel), List.mem_of_getElem? (i := 760) (by decide +kernel), List.mem_of_getElem? (i := 761) (by decide +kernel)⟩
theorem lw_p46 : lw_okq (⟨"TwigMergeModel", "script", "()V"⟩, 40) := ⟨⟨by decide +kernel, by decide +kernel⟩, List.mem_of_getElem? (i := 557) (by decide +kernel), List.mem_of_getElem? (i := 764) (by decide +kernel), List.mem_of_getElem? (i := 765) (by decide +kernel)⟩
theorem lw_p47 : lw_okq (⟨"TwigMergeModel", "settle", "(I)V"⟩, 40) := ⟨⟨by decide +kernel, by decide +kernel⟩, List.mem_of_getElem? (i := 557) (by decide +kernel), List.mem_of_getElem? (i := 768) (by decide +kernel), List.mem_of_getElem? (i := 769) (by decide +kernel)⟩
def lw_privs_3 : List (MethodName × Nat) := [(⟨"TwigMerge$Merger", "mergeDelete", "(I)Z"⟩, 9), (⟨"TwigMergeModel", "isNode", "(II)Z"⟩, 40), (⟨"TwigMergeModel", "compare", "(II)V"⟩, 40), (⟨"TwigMergeModel", "child", "(III)I"⟩, 40), (⟨"TwigMergeModel", "work", "(II)V"⟩, 40), (⟨"TwigMergeModel", "partners", "()V"⟩, 40), (⟨"TwigMergeModel", "look", "()V"⟩, 40), (⟨"TwigMergeModel", "isBelow", "(III)Z"⟩, 40), (⟨"TwigMergeModel", "best", "()I"⟩, 40), (⟨"TwigMergeModel", "share", "(II)I"⟩, 40), (⟨"TwigMergeModel", "wed", "(II)V"⟩, 40), (⟨"TwigMergeModel", "marry", "(II)V"⟩, 40), (⟨"TwigMergeModel", "likely", "(I)I"⟩, 40), (⟨"TwigMergeModel", "paired", "(II)V"⟩, 40), (⟨"TwigMergeModel", "script", "()V"⟩, 40), (⟨"TwigMergeModel", "settle", "(I)V"⟩, 40)]
theorem lw_r3 : ∀ q ∈ lw_privs_3, lw_okq q := List.forall_mem_cons.mpr ⟨lw_p32, List.forall_mem_cons.mpr ⟨lw_p33, List.forall_mem_cons.mpr ⟨lw_p34, List.forall_mem_cons.mpr ⟨lw_p35, List.forall_mem_cons.mpr ⟨lw_p36, List.forall_mem_cons.mpr ⟨lw_p37, List.forall_mem_cons.mpr ⟨lw_p38, List.forall_mem_cons.mpr ⟨lw_p39, List.forall_mem_cons.mpr ⟨lw_p40, List.forall_mem_cons.mpr ⟨lw_p41, List.forall_mem_cons.mpr ⟨lw_p42, List.forall_mem_cons.mpr ⟨lw_p43, List.forall_mem_cons.mpr ⟨lw_p44, List.forall_mem_cons.mpr ⟨lw_p45, List.forall_mem_cons.mpr ⟨lw_p46, List.forall_mem_cons.mpr ⟨lw_p47, fun _ h => absurd h List.not_mem_nil⟩⟩⟩⟩⟩⟩⟩⟩⟩⟩⟩⟩⟩⟩⟩⟩
theorem lw_p48 : lw_okq (⟨"TwigMergeModel", "walk", "()V"⟩, 40) := ⟨⟨by decide +kernel, by decide +kernel⟩, List.mem_of_getElem? (i := 557) (by decide +kernel), List.mem_of_getElem? (i := 772) (by decide +kernel), List.mem_of_getElem? (i := 773) (by decide +kernel)⟩
theorem lw_p49 : lw_okq (⟨"TwigMergeModel", "put", "(IIIIII)V"⟩, 40) := ⟨⟨by decide +kernel, by decide +kernel⟩, List.mem_of_getElem? (i := 557) (by decide +kernel), List.mem_of_getElem? (i := 776) (by decide +kernel), List.mem_of_getElem? (i := 777) (by decide +kernel)⟩
theorem lw_p50 : lw_okq (⟨"TwigMergeModel", "keep", "(I)V"⟩, 40) := ⟨⟨by decide +kernel, by decide +kernel⟩, List.mem_of_getElem? (i := 557) (by decide +kernel), List.mem_of_getElem? (i := 780) (by decide +kernel), List.mem_of_getElem? (i := 781) (by decide +kernel)⟩
theorem lw_p51 : lw_okq (⟨"TwigMergeModel", "begin", "(I)V"⟩, 40) := ⟨⟨by decide +kernel, by decide +kernel⟩, List.mem_of_getElem? (i := 557) (by decide +kernel), List.mem_of_getElem? (i := 800) (by decide +kernel), List.mem_of_getElem? (i := 801) (by decide +kernel)⟩
theorem lw_p52 : lw_okq (⟨"TwigMergeModel", "does", "(IIII)V"⟩, 40) := ⟨⟨by decide +kernel, by decide +kernel⟩, List.mem_of_getElem? (i := 557) (by decide +kernel), List.mem_of_getElem? (i := 804) (by decide +kernel), List.mem_of_getElem? (i := 805) (by decide +kernel)⟩
theorem lw_p53 : lw_okq (⟨"TwigMergeModel", "inserted", "(IIIII)V"⟩, 40) := ⟨⟨by decide +kernel, by decide +kernel⟩, List.mem_of_getElem? (i := 557) (by decide +kernel), List.mem_of_getElem? (i := 808) (by decide +kernel), List.mem_of_getElem? (i := 809) (by decide +kernel)⟩
theorem lw_p54 : lw_okq (⟨"TwigMergeModel", "into", "(III)V"⟩, 40) := ⟨⟨by decide +kernel, by decide +kernel⟩, List.mem_of_getElem? (i := 557) (by decide +kernel), List.mem_of_getElem? (i := 812) (by decide +kernel), List.mem_of_getElem? (i := 813) (by decide +kernel)⟩
theorem lw_p55 : lw_okq (⟨"TwigMergeModel", "out", "(I)V"⟩, 40) := ⟨⟨by decide +kernel, by decide +kernel⟩, List.mem_of_getElem? (i := 557) (by decide +kernel), List.mem_of_getElem? (i := 816) (by decide +kernel), List.mem_of_getElem? (i := 817) (by decide +kernel)⟩
theorem lw_p56 : lw_okq (⟨"TwigMergeModel", "nodes", "()I"⟩, 40) := ⟨⟨by decide +kernel, by decide +kernel⟩, List.mem_of_getElem? (i := 557) (by decide +kernel), List.mem_of_getElem? (i := 820) (by decide +kernel), List.mem_of_getElem? (i := 821) (by decide +kernel)⟩
theorem lw_p57 : lw_okq (⟨"TwigMergeModel", "second", "(II)Z"⟩, 40) := ⟨⟨by decide +kernel, by decide +kernel⟩, List.mem_of_getElem? (i := 557) (by decide +kernel), List.mem_of_getElem? (i := 828) (by decide +kernel), List.mem_of_getElem? (i := 829) (by decide +kernel)⟩
theorem lw_p58 : lw_okq (⟨"TwigMergeModel", "named", "(II)I"⟩, 40) := ⟨⟨by decide +kernel, by decide +kernel⟩, List.mem_of_getElem? (i := 557) (by decide +kernel), List.mem_of_getElem? (i := 832) (by decide +kernel), List.mem_of_getElem? (i := 833) (by decide +kernel)⟩
theorem lw_p59 : lw_okq (⟨"TwigMergeModel", "adds", "(IIII)Z"⟩, 40) := ⟨⟨by decide +kernel, by decide +kernel⟩, List.mem_of_getElem? (i := 557) (by decide +kernel), List.mem_of_getElem? (i := 836) (by decide +kernel), List.mem_of_getElem? (i := 837) (by decide +kernel)⟩
theorem lw_p60 : lw_okq (⟨"TwigMergeModel", "alikeInsert", "(IIII)I"⟩, 40) := ⟨⟨by decide +kernel, by decide +kernel⟩, List.mem_of_getElem? (i := 557) (by decide +kernel), List.mem_of_getElem? (i := 840) (by decide +kernel), List.mem_of_getElem? (i := 841) (by decide +kernel)⟩
theorem lw_p61 : lw_okq (⟨"TwigMergeModel", "fitsUnder", "(II)Z"⟩, 40) := ⟨⟨by decide +kernel, by decide +kernel⟩, List.mem_of_getElem? (i := 557) (by decide +kernel), List.mem_of_getElem? (i := 844) (by decide +kernel), List.mem_of_getElem? (i := 845) (by decide +kernel)⟩
theorem lw_p62 : lw_okq (⟨"TwigMergeModel", "present", "(I)Z"⟩, 40) := ⟨⟨by decide +kernel, by decide +kernel⟩, List.mem_of_getElem? (i := 557) (by decide +kernel), List.mem_of_getElem? (i := 848) (by decide +kernel), List.mem_of_getElem? (i := 849) (by decide +kernel)⟩
theorem lw_p63 : lw_okq (⟨"TwigMergeModel", "first", "(II)I"⟩, 40) := ⟨⟨by decide +kernel, by decide +kernel⟩, List.mem_of_getElem? (i := 557) (by decide +kernel), List.mem_of_getElem? (i := 852) (by decide +kernel), List.mem_of_getElem? (i := 853) (by decide +kernel)⟩
def lw_privs_4 : List (MethodName × Nat) := [(⟨"TwigMergeModel", "walk", "()V"⟩, 40), (⟨"TwigMergeModel", "put", "(IIIIII)V"⟩, 40), (⟨"TwigMergeModel", "keep", "(I)V"⟩, 40), (⟨"TwigMergeModel", "begin", "(I)V"⟩, 40), (⟨"TwigMergeModel", "does", "(IIII)V"⟩, 40), (⟨"TwigMergeModel", "inserted", "(IIIII)V"⟩, 40), (⟨"TwigMergeModel", "into", "(III)V"⟩, 40), (⟨"TwigMergeModel", "out", "(I)V"⟩, 40), (⟨"TwigMergeModel", "nodes", "()I"⟩, 40), (⟨"TwigMergeModel", "second", "(II)Z"⟩, 40), (⟨"TwigMergeModel", "named", "(II)I"⟩, 40), (⟨"TwigMergeModel", "adds", "(IIII)Z"⟩, 40), (⟨"TwigMergeModel", "alikeInsert", "(IIII)I"⟩, 40), (⟨"TwigMergeModel", "fitsUnder", "(II)Z"⟩, 40), (⟨"TwigMergeModel", "present", "(I)Z"⟩, 40), (⟨"TwigMergeModel", "first", "(II)I"⟩, 40)]
theorem lw_r4 : ∀ q ∈ lw_privs_4, lw_okq q := List.forall_mem_cons.mpr ⟨lw_p48, List.forall_mem_cons.mpr ⟨lw_p49, List.forall_mem_cons.mpr ⟨lw_p50, List.forall_mem_cons.mpr ⟨lw_p51, List.forall_mem_cons.mpr ⟨lw_p52, List.forall_mem_cons.mpr ⟨lw_p53, List.forall_mem_cons.mpr ⟨lw_p54, List.forall_mem_cons.mpr ⟨lw_p55, List.forall_mem_cons.mpr ⟨lw_p56, List.forall_mem_cons.mpr ⟨lw_p57, List.forall_mem_cons.mpr ⟨lw_p58, List.forall_mem_cons.mpr ⟨lw_p59, List.forall_mem_cons.mpr ⟨lw_p60, List.forall_mem_cons.mpr ⟨lw_p61, List.forall_mem_cons.mpr ⟨lw_p62, List.forall_mem_cons.mpr ⟨lw_p63, fun _ h => absurd h List.not_mem_nil⟩⟩⟩⟩⟩⟩⟩⟩⟩⟩⟩⟩⟩⟩⟩⟩
theorem lw_p64 : lw_okq (⟨"TwigMergeModel", "hasChildren", "(I)Z"⟩, 40) := ⟨⟨by decide +kernel, by decide +kernel⟩, List.mem_of_getElem? (i := 557) (by decide +kernel), List.mem_of_getElem? (i := 856) (by decide +kernel), List.mem_of_getElem? (i := 857) (by decide +kernel)⟩
theorem lw_p65 : lw_okq (⟨"TwigMergeModel", "within", "(II)Z"⟩, 40) := ⟨⟨by decide +kernel, by decide +kernel⟩, List.mem_of_getElem? (i := 557) (by decide +kernel), List.mem_of_getElem? (i := 860) (by decide +kernel), List.mem_of_getElem? (i := 861) (by decide +kernel)⟩
theorem lw_p66 : lw_okq (⟨"TwigMergeModel", "twig", "(II)I"⟩, 40) := ⟨⟨by decide +kernel, by decide +kernel⟩, List.mem_of_getElem? (i := 557) (by decide +kernel), List.mem_of_getElem? (i := 872) (by decide +kernel), List.mem_of_getElem? (i := 873) (by decide +kernel)⟩
def lw_privs_5 : List (MethodName × Nat) := [(⟨"TwigMergeModel", "hasChildren", "(I)Z"⟩, 40), (⟨"TwigMergeModel", "within", "(II)Z"⟩, 40), (⟨"TwigMergeModel", "twig", "(II)I"⟩, 40)]
theorem lw_r5 : ∀ q ∈ lw_privs_5, lw_okq q := List.forall_mem_cons.mpr ⟨lw_p64, List.forall_mem_cons.mpr ⟨lw_p65, List.forall_mem_cons.mpr ⟨lw_p66, fun _ h => absurd h List.not_mem_nil⟩⟩⟩
def lw_privs : List (MethodName × Nat) := lw_privs_1 ++ (lw_privs_2 ++ (lw_privs_3 ++ (lw_privs_4 ++ (lw_privs_5))))
def lw_tbl : List Cond := k2_sels lw_privs ++ tables_1
theorem lw_privs_ok : ∀ q ∈ lw_privs, lw_okq q := by
  show ∀ q ∈ lw_privs_1 ++ (lw_privs_2 ++ (lw_privs_3 ++ (lw_privs_4 ++ (lw_privs_5)))), lw_okq q
  exact List.forall_mem_append.mpr ⟨lw_r1, List.forall_mem_append.mpr ⟨lw_r2, List.forall_mem_append.mpr ⟨lw_r3, List.forall_mem_append.mpr ⟨lw_r4, lw_r5⟩⟩⟩⟩
end
section
/-! The program's tables, written by program (wip/gen/gen_tables.py) -/
/-- words that stay true whatever the machine loads -/
def pg_gd (w : Cond) : Bool := (w.onTables && w.keeps) || (match w with | .arrayClass _ => true | _ => false)
def pg_words : List Cond := lw_tbl.filter pg_gd
def pg_num : Nat := 132
def pg_cnL : List String := ["TwigMerge", "TwigMerge$Forest", "TwigMerge$Script", "TwigMerge$Partners", "TwigMerge$Difference", "TwigMerge$Merger", "TwigMergeModel", "TwigMergeLaw", "java/util/Arrays", "java/lang/Integer"]
def pg_cn (c : Nat) : String := pg_cnL.getD c ""
def pg_yL : List MethodName := [⟨"TwigMerge", "<init>", "()V"⟩, ⟨"TwigMerge$Forest", "<init>", "(I)V"⟩, ⟨"java/util/Arrays", "fill", "([II)V"⟩, ⟨"TwigMerge$Difference", "<init>", "()V"⟩, ⟨"TwigMerge$Partners", "<init>", "()V"⟩, ⟨"TwigMerge$Script", "<init>", "()V"⟩, ⟨"TwigMerge$Merger", "<init>", "()V"⟩, ⟨"TwigMerge", "add", "(IIII)I"⟩, ⟨"TwigMerge", "isTree", "(I)Z"⟩, ⟨"TwigMerge$Forest", "has", "(I)Z"⟩, ⟨"TwigMerge$Forest", "childCount", "(I)I"⟩, ⟨"TwigMerge$Forest", "childAt", "(II)I"⟩, ⟨"TwigMerge$Forest", "make", "(III)V"⟩, ⟨"TwigMerge$Forest", "putBehind", "(III)V"⟩, ⟨"TwigMerge", "clear", "(I)Z"⟩, ⟨"TwigMerge$Forest", "wipe", "()V"⟩, ⟨"TwigMerge", "size", "(I)I"⟩, ⟨"TwigMerge", "height", "(II)I"⟩, ⟨"TwigMerge$Forest", "measureHeights", "([I)V"⟩, ⟨"TwigMerge", "alike", "(IIII)Z"⟩, ⟨"TwigMerge$Forest", "sameTwig", "(LTwigMerge$Forest;ILTwigMerge$Forest;II)Z"⟩, ⟨"TwigMerge", "diff", "(II)I"⟩, ⟨"TwigMerge", "isFilled", "(I)Z"⟩, ⟨"TwigMerge$Forest", "copyFrom", "(LTwigMerge$Forest;)V"⟩, ⟨"TwigMerge$Difference", "find", "(LTwigMerge$Forest;LTwigMerge$Forest;)V"⟩, ⟨"TwigMerge$Partners", "find", "(LTwigMerge$Forest;LTwigMerge$Forest;)V"⟩, ⟨"TwigMerge$Forest", "markBelow", "([I)V"⟩, ⟨"TwigMerge$Partners", "markAlikes", "()V"⟩, ⟨"TwigMerge$Partners", "joinBestAlikes", "()Z"⟩, ⟨"TwigMerge$Partners", "areFreeAlikes", "(II)Z"⟩, ⟨"TwigMerge$Partners", "shareOfParents", "(II)I"⟩, ⟨"TwigMerge$Partners", "share", "(II)I"⟩, ⟨"TwigMerge$Partners", "joinTwigs", "(III)V"⟩, ⟨"TwigMerge$Partners", "join", "(II)V"⟩, ⟨"TwigMerge$Partners", "joinByShare", "()V"⟩, ⟨"TwigMerge$Partners", "bestByShare", "(I)I"⟩, ⟨"java/lang/Integer", "bitCount", "(I)I"⟩, ⟨"TwigMerge$Partners", "pairChildren", "(II)V"⟩, ⟨"TwigMerge$Partners", "pairChildrenOnce", "(IIZ)V"⟩, ⟨"TwigMerge$Partners", "firstFreeChild", "(IIZ)I"⟩, ⟨"TwigMerge$Partners", "joinRoots", "()V"⟩, ⟨"TwigMerge$Difference", "settleAll", "()V"⟩, ⟨"TwigMerge$Difference", "settleChildren", "(II)V"⟩, ⟨"TwigMerge$Difference", "gatherKept", "(II)I"⟩, ⟨"TwigMerge$Partners", "partnerOf", "(I)I"⟩, ⟨"TwigMerge$Difference", "measureReach", "(I)I"⟩, ⟨"TwigMerge$Script", "wipe", "()V"⟩, ⟨"TwigMerge$Difference", "writeTwig", "(IIII)I"⟩, ⟨"TwigMerge$Difference", "writeNode", "(III)I"⟩, ⟨"TwigMerge$Partners", "ownerOf", "(I)I"⟩, ⟨"TwigMerge$Script", "insertNode", "(IIIII)V"⟩, ⟨"TwigMerge$Script", "write", "(IIIIII)V"⟩, ⟨"TwigMerge$Script", "updateNode", "(II)V"⟩, ⟨"TwigMerge$Script", "moveNode", "(III)V"⟩, ⟨"TwigMerge$Difference", "writeDeletes", "()V"⟩, ⟨"TwigMerge$Script", "deleteNode", "(I)V"⟩, ⟨"TwigMerge", "partner", "(I)I"⟩, ⟨"TwigMerge", "step", "(II)I"⟩, ⟨"TwigMerge$Script", "part", "(II)I"⟩, ⟨"TwigMerge", "count", "(I)I"⟩, ⟨"TwigMerge$Script", "countOf", "(I)I"⟩, ⟨"TwigMerge", "replay", "(I)I"⟩, ⟨"TwigMerge$Script", "performFirst", "(ILTwigMerge$Forest;)V"⟩, ⟨"TwigMerge$Script", "perform", "(ILTwigMerge$Forest;)V"⟩, ⟨"TwigMerge$Forest", "relabel", "(II)V"⟩, ⟨"TwigMerge$Forest", "takeOut", "(I)V"⟩, ⟨"TwigMerge$Forest", "countThere", "()I"⟩, ⟨"TwigMerge", "merge", "()I"⟩, ⟨"TwigMerge$Merger", "run", "(LTwigMerge$Forest;LTwigMerge$Forest;LTwigMerge$Forest;)I"⟩, ⟨"TwigMerge$Merger", "mergeStep", "(I)Z"⟩, ⟨"TwigMerge$Merger", "mergeInsert", "(I)Z"⟩, ⟨"TwigMerge$Merger", "meaning", "(I)I"⟩, ⟨"TwigMerge$Merger", "findTwin", "(III)I"⟩, ⟨"TwigMerge$Merger", "isPutAt", "(III)Z"⟩, ⟨"TwigMerge$Merger", "remember", "(I)V"⟩, ⟨"TwigMerge$Merger", "canPut", "(II)Z"⟩, ⟨"TwigMerge$Merger", "mergeUpdate", "(I)Z"⟩, ⟨"TwigMerge$Script", "find", "(II)I"⟩, ⟨"TwigMerge$Merger", "mergeMove", "(I)Z"⟩, ⟨"TwigMerge$Forest", "isAtOrBelow", "(II)Z"⟩, ⟨"TwigMerge$Merger", "mergeDelete", "(I)Z"⟩, ⟨"TwigMerge", "node", "(II)I"⟩, ⟨"TwigMerge", "equal", "(I)Z"⟩, ⟨"TwigMergeModel", "<init>", "()V"⟩, ⟨"TwigMergeModel", "add", "(IIII)I"⟩, ⟨"TwigMergeModel", "isTree", "(I)Z"⟩, ⟨"TwigMergeModel", "isNode", "(II)Z"⟩, ⟨"TwigMergeModel", "clear", "(I)Z"⟩, ⟨"TwigMergeModel", "size", "(I)I"⟩, ⟨"TwigMergeModel", "height", "(II)I"⟩, ⟨"TwigMergeModel", "alike", "(IIII)Z"⟩, ⟨"TwigMergeModel", "compare", "(II)V"⟩, ⟨"TwigMergeModel", "child", "(III)I"⟩, ⟨"TwigMergeModel", "diff", "(II)I"⟩, ⟨"TwigMergeModel", "work", "(II)V"⟩, ⟨"TwigMergeModel", "partners", "()V"⟩, ⟨"TwigMergeModel", "look", "()V"⟩, ⟨"TwigMergeModel", "isBelow", "(III)Z"⟩, ⟨"TwigMergeModel", "best", "()I"⟩, ⟨"TwigMergeModel", "share", "(II)I"⟩, ⟨"TwigMergeModel", "wed", "(II)V"⟩, ⟨"TwigMergeModel", "marry", "(II)V"⟩, ⟨"TwigMergeModel", "likely", "(I)I"⟩, ⟨"TwigMergeModel", "paired", "(II)V"⟩, ⟨"TwigMergeModel", "script", "()V"⟩, ⟨"TwigMergeModel", "settle", "(I)V"⟩, ⟨"TwigMergeModel", "walk", "()V"⟩, ⟨"TwigMergeModel", "put", "(IIIIII)V"⟩, ⟨"TwigMergeModel", "keep", "(I)V"⟩, ⟨"TwigMergeModel", "partner", "(I)I"⟩, ⟨"TwigMergeModel", "step", "(II)I"⟩, ⟨"TwigMergeModel", "count", "(I)I"⟩, ⟨"TwigMergeModel", "replay", "(I)I"⟩, ⟨"TwigMergeModel", "begin", "(I)V"⟩, ⟨"TwigMergeModel", "does", "(IIII)V"⟩, ⟨"TwigMergeModel", "inserted", "(IIIII)V"⟩, ⟨"TwigMergeModel", "into", "(III)V"⟩, ⟨"TwigMergeModel", "out", "(I)V"⟩, ⟨"TwigMergeModel", "nodes", "()I"⟩, ⟨"TwigMergeModel", "merge", "()I"⟩, ⟨"TwigMergeModel", "second", "(II)Z"⟩, ⟨"TwigMergeModel", "named", "(II)I"⟩, ⟨"TwigMergeModel", "adds", "(IIII)Z"⟩, ⟨"TwigMergeModel", "alikeInsert", "(IIII)I"⟩, ⟨"TwigMergeModel", "fitsUnder", "(II)Z"⟩, ⟨"TwigMergeModel", "present", "(I)Z"⟩, ⟨"TwigMergeModel", "first", "(II)I"⟩, ⟨"TwigMergeModel", "hasChildren", "(I)Z"⟩, ⟨"TwigMergeModel", "within", "(II)Z"⟩, ⟨"TwigMergeModel", "node", "(II)I"⟩, ⟨"TwigMergeModel", "equal", "(I)Z"⟩, ⟨"TwigMergeModel", "twig", "(II)I"⟩, ⟨"TwigMergeLaw", "law", "([I)Z"⟩]
def pg_y (z : Nat) : MethodName := pg_yL.getD z ⟨"", "", ""⟩
def pg_codeL : List ByteArray := [prog_1_method_1_code, prog_3_method_1_code, prog_12_method_103_code, prog_2_method_1_code, prog_5_method_1_code, prog_6_method_1_code, prog_4_method_1_code, prog_1_method_2_code, prog_1_method_15_code, prog_3_method_4_code, prog_3_method_6_code, prog_3_method_7_code, prog_3_method_8_code, prog_3_method_9_code, prog_1_method_3_code, prog_3_method_2_code, prog_1_method_4_code, prog_1_method_5_code, prog_3_method_13_code, prog_1_method_6_code, prog_3_method_15_code, prog_1_method_7_code, prog_1_method_16_code, prog_3_method_3_code, prog_2_method_2_code, prog_5_method_4_code, prog_3_method_14_code, prog_5_method_7_code, prog_5_method_8_code, prog_5_method_9_code, prog_5_method_10_code, prog_5_method_6_code, prog_5_method_11_code, prog_5_method_5_code, prog_5_method_12_code, prog_5_method_13_code, prog_9_method_49_code, prog_5_method_15_code, prog_5_method_16_code, prog_5_method_17_code, prog_5_method_14_code, prog_2_method_3_code, prog_2_method_4_code, prog_2_method_5_code, prog_5_method_2_code, prog_2_method_6_code, prog_6_method_2_code, prog_2_method_7_code, prog_2_method_8_code, prog_5_method_3_code, prog_6_method_3_code, prog_6_method_7_code, prog_6_method_4_code, prog_6_method_5_code, prog_2_method_9_code, prog_6_method_6_code, prog_1_method_8_code, prog_1_method_9_code, prog_6_method_8_code, prog_1_method_10_code, prog_6_method_9_code, prog_1_method_11_code, prog_6_method_11_code, prog_6_method_12_code, prog_3_method_11_code, prog_3_method_10_code, prog_3_method_5_code, prog_1_method_12_code, prog_4_method_2_code, prog_4_method_3_code, prog_4_method_4_code, prog_4_method_12_code, prog_4_method_8_code, prog_4_method_9_code, prog_4_method_11_code, prog_4_method_10_code, prog_4_method_5_code, prog_6_method_10_code, prog_4_method_6_code, prog_3_method_12_code, prog_4_method_7_code, prog_1_method_13_code, prog_1_method_14_code, prog_8_method_1_code, prog_8_method_4_code, prog_8_method_2_code, prog_8_method_3_code, prog_8_method_5_code, prog_8_method_6_code, prog_8_method_7_code, prog_8_method_10_code, prog_8_method_8_code, prog_8_method_9_code, prog_8_method_26_code, prog_8_method_24_code, prog_8_method_19_code, prog_8_method_13_code, prog_8_method_11_code, prog_8_method_15_code, prog_8_method_12_code, prog_8_method_16_code, prog_8_method_14_code, prog_8_method_18_code, prog_8_method_17_code, prog_8_method_23_code, prog_8_method_20_code, prog_8_method_22_code, prog_8_method_21_code, prog_8_method_25_code, prog_8_method_27_code, prog_8_method_28_code, prog_8_method_29_code, prog_8_method_36_code, prog_8_method_30_code, prog_8_method_34_code, prog_8_method_33_code, prog_8_method_32_code, prog_8_method_31_code, prog_8_method_35_code, prog_8_method_46_code, prog_8_method_44_code, prog_8_method_37_code, prog_8_method_45_code, prog_8_method_39_code, prog_8_method_41_code, prog_8_method_40_code, prog_8_method_38_code, prog_8_method_43_code, prog_8_method_42_code, prog_8_method_47_code, prog_8_method_49_code, prog_8_method_48_code, code]
def pg_code (z : Nat) : ByteArray := pg_codeL.getD z ⟨#[]⟩
/-- own class, locals, kind of answer (0 none, 1 an int, 2 a boolean), kind (0 of an object, 1 a constructor, 2 static), parameters -/
def pg_M : List (Nat × Nat × Nat × Nat × Nat) := [(0, 2, 0, 1, 0), (1, 2, 0, 1, 1), (8, 4, 0, 2, 2), (4, 1, 0, 1, 0), (3, 1, 0, 1, 0), (2, 1, 0, 1, 0), (5, 1, 0, 1, 0), (0, 9, 1, 0, 4), (0, 1, 2, 2, 1), (1, 2, 2, 0, 1), (1, 4, 1, 0, 1), (1, 4, 1, 0, 2), (1, 4, 0, 0, 3), (1, 6, 0, 0, 3), (0, 2, 2, 0, 1), (1, 1, 0, 0, 0), (0, 2, 1, 0, 1), (0, 3, 1, 0, 2), (1, 3, 0, 0, 1), (0, 5, 2, 0, 4), (1, 7, 2, 2, 5), (0, 3, 1, 0, 2), (0, 2, 2, 0, 1), (1, 2, 0, 0, 1), (4, 3, 0, 0, 2), (3, 5, 0, 0, 2), (1, 3, 0, 0, 1), (3, 3, 0, 0, 0), (3, 8, 2, 0, 0), (3, 3, 2, 0, 2), (3, 3, 1, 0, 2), (3, 6, 1, 0, 2), (3, 6, 0, 0, 3), (3, 3, 0, 0, 2), (3, 3, 0, 0, 0), (3, 9, 1, 0, 1), (9, 1, 1, 2, 1), (3, 3, 0, 0, 2), (3, 6, 0, 0, 3), (3, 8, 1, 0, 3), (3, 2, 0, 0, 0), (4, 2, 0, 0, 0), (4, 7, 0, 0, 2), (4, 6, 1, 0, 2), (3, 2, 1, 0, 1), (4, 5, 1, 0, 1), (2, 1, 0, 0, 0), (4, 8, 1, 0, 4), (4, 6, 1, 0, 3), (3, 2, 1, 0, 1), (2, 6, 0, 0, 5), (2, 7, 0, 0, 6), (2, 3, 0, 0, 2), (2, 4, 0, 0, 3), (4, 2, 0, 0, 0), (2, 2, 0, 0, 1), (0, 2, 1, 0, 1), (0, 3, 1, 0, 2), (2, 3, 1, 0, 2), (0, 2, 1, 0, 1), (2, 4, 1, 0, 1), (0, 2, 1, 0, 1), (2, 4, 0, 0, 2), (2, 4, 0, 0, 2), (1, 3, 0, 0, 2), (1, 3, 0, 0, 1), (1, 3, 1, 0, 0), (0, 2, 1, 0, 0), (5, 5, 1, 0, 3), (5, 2, 2, 0, 1), (5, 6, 2, 0, 1), (5, 3, 1, 0, 1), (5, 6, 1, 0, 3), (5, 4, 2, 0, 3), (5, 2, 0, 0, 1), (5, 5, 2, 0, 2), (5, 5, 2, 0, 1), (2, 4, 1, 0, 2), (5, 6, 2, 0, 1), (1, 5, 2, 0, 2), (5, 4, 2, 0, 1), (0, 3, 1, 0, 2), (0, 2, 2, 0, 1), (6, 1, 0, 1, 0), (6, 6, 1, 0, 4), (6, 1, 2, 2, 1), (6, 3, 2, 0, 2), (6, 2, 2, 0, 1), (6, 2, 1, 0, 1), (6, 7, 1, 0, 2), (6, 5, 2, 0, 4), (6, 9, 0, 0, 2), (6, 6, 1, 0, 3), (6, 4, 1, 0, 2), (6, 3, 0, 0, 2), (6, 4, 0, 0, 0), (6, 3, 0, 0, 0), (6, 5, 2, 0, 3), (6, 8, 1, 0, 0), (6, 5, 1, 0, 2), (6, 7, 0, 0, 2), (6, 3, 0, 0, 2), (6, 8, 1, 0, 1), (6, 8, 0, 0, 2), (6, 6, 0, 0, 0), (6, 10, 0, 0, 1), (6, 6, 0, 0, 0), (6, 8, 0, 0, 6), (6, 3, 0, 0, 1), (6, 2, 1, 0, 1), (6, 4, 1, 0, 2), (6, 4, 1, 0, 1), (6, 3, 1, 0, 1), (6, 3, 0, 0, 1), (6, 5, 0, 0, 4), (6, 6, 0, 0, 5), (6, 6, 0, 0, 3), (6, 4, 0, 0, 1), (6, 3, 1, 0, 0), (6, 2, 1, 0, 0), (6, 7, 2, 0, 2), (6, 3, 1, 0, 2), (6, 7, 2, 0, 4), (6, 7, 1, 0, 4), (6, 3, 2, 0, 2), (6, 2, 2, 0, 1), (6, 4, 1, 0, 2), (6, 4, 2, 0, 1), (6, 5, 2, 0, 2), (6, 5, 1, 0, 2), (6, 7, 2, 0, 1), (6, 5, 1, 0, 2), (7, 4, 2, 2, 1)]
def pg_own (z : Nat) : Nat := (pg_M.getD z (99, 0, 9, 9, 0)).1
def pg_maxL (z : Nat) : Nat := (pg_M.getD z (99, 0, 9, 9, 0)).2.1
def pg_rk (z : Nat) : Nat := (pg_M.getD z (99, 0, 9, 9, 0)).2.2.1
def pg_mk (z : Nat) : Nat := (pg_M.getD z (99, 0, 9, 9, 0)).2.2.2.1
def pg_np (z : Nat) : Nat := (pg_M.getD z (99, 0, 9, 9, 0)).2.2.2.2
def pg_ret (z : Nat) : Option FieldType := match pg_rk z with
  | 0 => none
  | 1 => some .int
  | _ => some .boolean
def pg_ini (z : Nat) : Bool := pg_mk z == 1
def pg_w (z : Nat) : List Cond := Cond.code (pg_y z) (pg_code z) (pg_maxL z) (pg_ret z) :: pg_words
def pg_T0 : u_T := fun k => match k with
  | 0 => ("TwigMerge", "trees", "[LTwigMerge$Forest;", true)
  | 1 => ("TwigMerge", "heights", "[I", true)
  | 2 => ("TwigMerge", "start", "LTwigMerge$Forest;", true)
  | 3 => ("TwigMerge", "latest", "LTwigMerge$Difference;", true)
  | 4 => ("TwigMerge", "merger", "LTwigMerge$Merger;", true)
  | 5 => ("TwigMerge", "result", "LTwigMerge$Forest;", true)
  | 6 => ("TwigMerge", "hasDiff", "Z", false)
  | _ => ("TwigMerge", "hasResult", "Z", false)
def pg_t0 : Nat → FieldType := fun k => match k with
  | 0 => .array (.object "TwigMerge$Forest")
  | 1 => .array .int
  | 2 => .object "TwigMerge$Forest"
  | 3 => .object "TwigMerge$Difference"
  | 4 => .object "TwigMerge$Merger"
  | 5 => .object "TwigMerge$Forest"
  | 6 => .boolean
  | _ => .boolean
def pg_T1 : u_T := fun k => match k with
  | 0 => ("TwigMerge$Forest", "parent", "[I", true)
  | 1 => ("TwigMerge$Forest", "place", "[I", true)
  | 2 => ("TwigMerge$Forest", "type", "[I", true)
  | 3 => ("TwigMerge$Forest", "label", "[I", true)
  | _ => ("TwigMerge$Forest", "used", "I", false)
def pg_t1 : Nat → FieldType := fun k => match k with
  | 0 => .array .int
  | 1 => .array .int
  | 2 => .array .int
  | 3 => .array .int
  | _ => .int
def pg_T2 : u_T := fun k => match k with
  | 0 => ("TwigMerge$Script", "parts", "[[I", true)
  | _ => ("TwigMerge$Script", "length", "I", false)
def pg_t2 : Nat → FieldType := fun k => match k with
  | 0 => .array (.array .int)
  | _ => .int
def pg_T3 : u_T := fun k => match k with
  | 0 => ("TwigMerge$Partners", "partner", "[I", true)
  | 1 => ("TwigMerge$Partners", "owner", "[I", true)
  | 2 => ("TwigMerge$Partners", "fromHeights", "[I", true)
  | 3 => ("TwigMerge$Partners", "fromBelow", "[I", true)
  | 4 => ("TwigMerge$Partners", "toBelow", "[I", true)
  | 5 => ("TwigMerge$Partners", "alikes", "[I", true)
  | 6 => ("TwigMerge$Partners", "from", "LTwigMerge$Forest;", false)
  | _ => ("TwigMerge$Partners", "to", "LTwigMerge$Forest;", false)
def pg_t3 : Nat → FieldType := fun k => match k with
  | 0 => .array .int
  | 1 => .array .int
  | 2 => .array .int
  | 3 => .array .int
  | 4 => .array .int
  | 5 => .array .int
  | 6 => .object "TwigMerge$Forest"
  | _ => .object "TwigMerge$Forest"
def pg_T4 : u_T := fun k => match k with
  | 0 => ("TwigMerge$Difference", "partners", "LTwigMerge$Partners;", true)
  | 1 => ("TwigMerge$Difference", "script", "LTwigMerge$Script;", true)
  | 2 => ("TwigMerge$Difference", "settled", "[Z", true)
  | 3 => ("TwigMerge$Difference", "row", "[I", true)
  | 4 => ("TwigMerge$Difference", "places", "[I", true)
  | 5 => ("TwigMerge$Difference", "reach", "[I", true)
  | 6 => ("TwigMerge$Difference", "from", "LTwigMerge$Forest;", false)
  | 7 => ("TwigMerge$Difference", "to", "LTwigMerge$Forest;", false)
  | _ => ("TwigMerge$Difference", "inserts", "I", false)
def pg_t4 : Nat → FieldType := fun k => match k with
  | 0 => .object "TwigMerge$Partners"
  | 1 => .object "TwigMerge$Script"
  | 2 => .array .boolean
  | 3 => .array .int
  | 4 => .array .int
  | 5 => .array .int
  | 6 => .object "TwigMerge$Forest"
  | 7 => .object "TwigMerge$Forest"
  | _ => .int
def pg_T5 : u_T := fun k => match k with
  | 0 => ("TwigMerge$Merger", "result", "LTwigMerge$Forest;", true)
  | 1 => ("TwigMerge$Merger", "toLeft", "LTwigMerge$Difference;", true)
  | 2 => ("TwigMerge$Merger", "toRight", "LTwigMerge$Difference;", true)
  | 3 => ("TwigMerge$Merger", "first", "LTwigMerge$Script;", true)
  | 4 => ("TwigMerge$Merger", "second", "LTwigMerge$Script;", true)
  | 5 => ("TwigMerge$Merger", "taken", "[Z", true)
  | 6 => ("TwigMerge$Merger", "meant", "[I", true)
  | 7 => ("TwigMerge$Merger", "baseSize", "I", false)
  | _ => ("TwigMerge$Merger", "inserts", "I", false)
def pg_t5 : Nat → FieldType := fun k => match k with
  | 0 => .object "TwigMerge$Forest"
  | 1 => .object "TwigMerge$Difference"
  | 2 => .object "TwigMerge$Difference"
  | 3 => .object "TwigMerge$Script"
  | 4 => .object "TwigMerge$Script"
  | 5 => .array .boolean
  | 6 => .array .int
  | 7 => .int
  | _ => .int
def pg_T6 : u_T := fun k => match k with
  | 0 => ("TwigMergeModel", "size", "[I", true)
  | 1 => ("TwigMergeModel", "parent", "[I", true)
  | 2 => ("TwigMergeModel", "type", "[I", true)
  | 3 => ("TwigMergeModel", "label", "[I", true)
  | 4 => ("TwigMergeModel", "mate", "[I", true)
  | 5 => ("TwigMergeModel", "back", "[I", true)
  | 6 => ("TwigMergeModel", "same", "[Z", true)
  | 7 => ("TwigMergeModel", "lowFrom", "[Z", true)
  | 8 => ("TwigMergeModel", "lowTo", "[Z", true)
  | 9 => ("TwigMergeModel", "manyFrom", "[I", true)
  | 10 => ("TwigMergeModel", "manyTo", "[I", true)
  | 11 => ("TwigMergeModel", "tall", "[I", true)
  | 12 => ("TwigMergeModel", "settled", "[Z", true)
  | 13 => ("TwigMergeModel", "stands", "[I", true)
  | 14 => ("TwigMergeModel", "row", "[I", true)
  | 15 => ("TwigMergeModel", "kids", "[I", true)
  | 16 => ("TwigMergeModel", "from", "I", false)
  | 17 => ("TwigMergeModel", "to", "I", false)
  | 18 => ("TwigMergeModel", "steps", "[I", true)
  | 19 => ("TwigMergeModel", "kind", "[I", true)
  | 20 => ("TwigMergeModel", "node", "[I", true)
  | 21 => ("TwigMergeModel", "under", "[I", true)
  | 22 => ("TwigMergeModel", "behind", "[I", true)
  | 23 => ("TwigMergeModel", "kinds", "[I", true)
  | 24 => ("TwigMergeModel", "labels", "[I", true)
  | 25 => ("TwigMergeModel", "inserts", "[I", true)
  | 26 => ("TwigMergeModel", "found", "Z", false)
  | 27 => ("TwigMergeModel", "kept", "[I", true)
  | 28 => ("TwigMergeModel", "result", "Z", false)
  | 29 => ("TwigMergeModel", "names", "I", false)
  | 30 => ("TwigMergeModel", "there", "[Z", true)
  | 31 => ("TwigMergeModel", "above", "[I", true)
  | 32 => ("TwigMergeModel", "sort", "[I", true)
  | 33 => ("TwigMergeModel", "text", "[I", true)
  | 34 => ("TwigMergeModel", "line", "[I", true)
  | 35 => ("TwigMergeModel", "length", "I", false)
  | 36 => ("TwigMergeModel", "pairs", "[I", true)
  | 37 => ("TwigMergeModel", "others", "[I", true)
  | 38 => ("TwigMergeModel", "taken", "[Z", true)
  | _ => ("TwigMergeModel", "means", "[I", true)
def pg_t6 : Nat → FieldType := fun k => match k with
  | 0 => .array .int
  | 1 => .array .int
  | 2 => .array .int
  | 3 => .array .int
  | 4 => .array .int
  | 5 => .array .int
  | 6 => .array .boolean
  | 7 => .array .boolean
  | 8 => .array .boolean
  | 9 => .array .int
  | 10 => .array .int
  | 11 => .array .int
  | 12 => .array .boolean
  | 13 => .array .int
  | 14 => .array .int
  | 15 => .array .int
  | 16 => .int
  | 17 => .int
  | 18 => .array .int
  | 19 => .array .int
  | 20 => .array .int
  | 21 => .array .int
  | 22 => .array .int
  | 23 => .array .int
  | 24 => .array .int
  | 25 => .array .int
  | 26 => .boolean
  | 27 => .array .int
  | 28 => .boolean
  | 29 => .int
  | 30 => .array .boolean
  | 31 => .array .int
  | 32 => .array .int
  | 33 => .array .int
  | 34 => .array .int
  | 35 => .int
  | 36 => .array .int
  | 37 => .array .int
  | 38 => .array .boolean
  | _ => .array .int
def pg_T (ci : Nat) : u_T := match ci with
  | 0 => pg_T0
  | 1 => pg_T1
  | 2 => pg_T2
  | 3 => pg_T3
  | 4 => pg_T4
  | 5 => pg_T5
  | _ => pg_T6
def pg_t (ci : Nat) : Nat → FieldType := match ci with
  | 0 => pg_t0
  | 1 => pg_t1
  | 2 => pg_t2
  | 3 => pg_t3
  | 4 => pg_t4
  | 5 => pg_t5
  | _ => pg_t6
def pg_NL : List Nat := [8, 5, 2, 8, 9, 9, 40]
def pg_N (ci : Nat) : Nat := pg_NL.getD ci 0
def pg_cl : List vw_C := [("TwigMerge", pg_T0, 8), ("TwigMerge$Forest", pg_T1, 5), ("TwigMerge$Script", pg_T2, 2), ("TwigMerge$Partners", pg_T3, 8), ("TwigMerge$Difference", pg_T4, 9), ("TwigMerge$Merger", pg_T5, 9), ("TwigMergeModel", pg_T6, 40)]
def am_kd (ty : FieldType) : Nat := match ty with
  | .int => 0
  | .boolean => 1
  | .object _ => 2
  | .array _ => 2
  | _ => 9
def pg_fk (ci k : Nat) : Nat := am_kd (pg_t ci k)
def pg_ff (ci k : Nat) : Bool := (pg_T ci k).2.2.2
def pg_defL : List (List Value) := [[.null, .null, .null, .null, .null, .null, .int 0, .int 0], [.null, .null, .null, .null, .int 0], [.null, .int 0], [.null, .null, .null, .null, .null, .null, .null, .null], [.null, .null, .null, .null, .null, .null, .null, .null, .int 0], [.null, .null, .null, .null, .null, .null, .null, .int 0, .int 0], [.null, .null, .null, .null, .null, .null, .null, .null, .null, .null, .null, .null, .null, .null, .null, .null, .int 0, .int 0, .null, .null, .null, .null, .null, .null, .null, .null, .int 0, .null, .int 0, .int 0, .null, .null, .null, .null, .null, .int 0, .null, .null, .null, .null]]
def pg_def (ci : Nat) : List Value := pg_defL.getD ci []
def pg_ae : Nat := 1
def pg_tys (dA : Nat → ClassId) : List (ClassId × FieldType) := [(dA 0, .int), (dA 1, .boolean), (dA 2, .object (pg_cn pg_ae)), (dA 3, .array .int)]
/-- own class, pool number, class, field, place among the words -/
def pg_fldL : List (Nat × Nat × Nat × Nat × Nat) := [(0, 11, 0, 0, 259), (0, 18, 0, 1, 260), (0, 22, 0, 2, 261), (0, 29, 0, 3, 262), (0, 36, 0, 4, 263), (0, 40, 5, 0, 231), (0, 43, 0, 5, 264), (0, 44, 0, 6, 265), (0, 48, 0, 7, 266), (0, 55, 1, 4, 115), (0, 99, 4, 1, 192), (0, 103, 2, 1, 180), (0, 108, 4, 0, 189), (0, 135, 1, 0, 101), (0, 138, 1, 1, 104), (0, 141, 1, 2, 108), (0, 144, 1, 3, 111), (1, 9, 1, 0, 97), (1, 15, 1, 1, 102), (1, 18, 1, 2, 105), (1, 21, 1, 3, 109), (1, 30, 1, 4, 113), (2, 11, 2, 0, 177), (2, 16, 2, 1, 178), (3, 9, 3, 0, 144), (3, 15, 3, 1, 145), (3, 18, 3, 2, 146), (3, 21, 3, 3, 147), (3, 24, 3, 4, 148), (3, 27, 3, 5, 149), (3, 35, 3, 6, 150), (3, 39, 3, 7, 151), (3, 68, 1, 4, 117), (3, 88, 1, 0, 99), (3, 115, 1, 2, 107), (3, 131, 1, 3, 112), (4, 12, 4, 0, 188), (4, 21, 4, 1, 190), (4, 25, 4, 2, 193), (4, 29, 4, 3, 194), (4, 33, 4, 4, 195), (4, 36, 4, 5, 196), (4, 44, 4, 6, 197), (4, 48, 4, 7, 198), (4, 51, 4, 8, 199), (4, 72, 1, 4, 116), (4, 90, 1, 0, 98), (4, 93, 1, 1, 103), (4, 108, 1, 2, 106), (4, 111, 1, 3, 110), (5, 14, 5, 0, 230), (5, 23, 5, 1, 232), (5, 27, 5, 2, 233), (5, 30, 4, 1, 191), (5, 34, 5, 3, 234), (5, 37, 5, 4, 235), (5, 40, 5, 5, 236), (5, 44, 5, 6, 237), (5, 48, 5, 7, 238), (5, 52, 5, 8, 239), (5, 59, 1, 4, 114), (5, 66, 2, 1, 179), (5, 142, 1, 0, 100), (6, 7, 6, 0, 629), (6, 13, 6, 1, 630), (6, 16, 6, 2, 631), (6, 19, 6, 3, 632), (6, 22, 6, 4, 633), (6, 25, 6, 5, 634), (6, 28, 6, 6, 635), (6, 32, 6, 7, 636), (6, 35, 6, 8, 637), (6, 38, 6, 9, 638), (6, 41, 6, 10, 639), (6, 44, 6, 11, 640), (6, 47, 6, 12, 641), (6, 50, 6, 13, 642), (6, 53, 6, 14, 643), (6, 56, 6, 15, 644), (6, 59, 6, 18, 647), (6, 62, 6, 19, 648), (6, 65, 6, 20, 649), (6, 68, 6, 21, 650), (6, 71, 6, 22, 651), (6, 74, 6, 23, 652), (6, 77, 6, 24, 653), (6, 80, 6, 25, 654), (6, 83, 6, 27, 656), (6, 86, 6, 30, 659), (6, 89, 6, 31, 660), (6, 92, 6, 32, 661), (6, 95, 6, 33, 662), (6, 98, 6, 34, 663), (6, 101, 6, 36, 665), (6, 104, 6, 37, 666), (6, 107, 6, 38, 667), (6, 110, 6, 39, 668), (6, 129, 6, 16, 645), (6, 141, 6, 17, 646), (6, 190, 6, 26, 655), (6, 194, 6, 29, 658), (6, 197, 6, 35, 664), (6, 218, 6, 28, 657)]
def pg_fld (own idx : Nat) : Option (Nat × Nat) := (pg_fldL.find? (fun q => q.1 == own && q.2.1 == idx)).map (fun q => (q.2.2.1, q.2.2.2.1))
/-- own class, pool number, method, place among the words, a nest mate's -/
def pg_mthL : List (Nat × Nat × Nat × Nat × Nat) := [(0, 3, 1000, 84, 0), (0, 15, 1, 90, 0), (0, 28, 3, 132, 0), (0, 35, 6, 222, 0), (0, 51, 8, 288, 0), (0, 59, 9, 291, 0), (0, 62, 10, 295, 0), (0, 66, 11, 299, 0), (0, 70, 12, 303, 0), (0, 74, 13, 310, 0), (0, 77, 15, 319, 0), (0, 80, 18, 331, 0), (0, 84, 20, 339, 1), (0, 88, 22, 349, 0), (0, 91, 23, 353, 0), (0, 95, 24, 364, 0), (0, 112, 44, 505, 0), (0, 117, 58, 510, 0), (0, 120, 60, 518, 0), (0, 123, 62, 526, 0), (0, 127, 66, 544, 0), (0, 131, 68, 552, 0), (1, 3, 1000, 93, 0), (1, 24, 2, 94, 0), (1, 34, 15, 357, 0), (1, 37, 1002, 358, 0), (1, 43, 1003, 361, 0), (1, 49, 1001, 307, 0), (1, 52, 9, 314, 0), (1, 56, 10, 342, 0), (1, 60, 11, 343, 0), (1, 63, 20, 344, 0), (2, 3, 1000, 174, 0), (2, 20, 51, 481, 0), (2, 24, 63, 530, 0), (2, 28, 12, 534, 0), (2, 34, 13, 535, 0), (2, 37, 64, 536, 0), (2, 41, 65, 540, 0), (3, 3, 1000, 141, 0), (3, 32, 1, 143, 0), (3, 42, 2, 372, 0), (3, 48, 18, 373, 0), (3, 52, 26, 374, 0), (3, 55, 27, 378, 0), (3, 58, 28, 383, 0), (3, 62, 34, 410, 0), (3, 65, 40, 436, 0), (3, 72, 20, 382, 1), (3, 76, 29, 387, 0), (3, 80, 30, 391, 0), (3, 84, 32, 399, 0), (3, 91, 31, 395, 0), (3, 94, 9, 403, 0), (3, 98, 33, 404, 0), (3, 102, 10, 408, 0), (3, 106, 11, 409, 0), (3, 109, 35, 414, 0), (3, 112, 37, 424, 0), (3, 118, 36, 418, 0), (3, 123, 38, 428, 0), (3, 127, 39, 432, 0), (4, 3, 1000, 135, 0), (4, 11, 4, 138, 0), (4, 20, 5, 171, 0), (4, 41, 1, 187, 0), (4, 55, 25, 368, 0), (4, 59, 41, 440, 0), (4, 62, 46, 461, 0), (4, 65, 47, 465, 0), (4, 69, 54, 493, 0), (4, 75, 42, 444, 0), (4, 79, 44, 452, 0), (4, 83, 43, 448, 0), (4, 87, 45, 456, 0), (4, 96, 1001, 460, 0), (4, 101, 48, 469, 0), (4, 105, 49, 473, 0), (4, 114, 50, 477, 0), (4, 118, 52, 485, 0), (4, 121, 53, 489, 0), (4, 125, 55, 497, 0), (5, 3, 1000, 225, 0), (5, 11, 1, 227, 0), (5, 22, 3, 229, 0), (5, 55, 24, 556, 0), (5, 62, 23, 557, 0), (5, 71, 62, 558, 0), (5, 75, 69, 559, 0), (5, 79, 58, 563, 0), (5, 83, 70, 564, 0), (5, 86, 76, 592, 0), (5, 89, 78, 601, 0), (5, 92, 80, 610, 0), (5, 95, 71, 568, 0), (5, 99, 72, 572, 0), (5, 103, 74, 580, 0), (5, 106, 60, 584, 0), (5, 109, 75, 585, 0), (5, 113, 12, 590, 0), (5, 117, 13, 591, 0), (5, 120, 9, 589, 0), (5, 123, 77, 596, 0), (5, 125, 64, 600, 0), (5, 129, 73, 576, 0), (5, 133, 79, 605, 0), (5, 136, 65, 609, 0), (5, 139, 10, 614, 0), (6, 1, 1000, 628, 0), (6, 113, 85, 754, 0), (6, 117, 86, 757, 0), (6, 121, 92, 781, 0), (6, 125, 91, 777, 0), (6, 133, 89, 801, 0), (6, 137, 97, 802, 0), (6, 144, 99, 810, 0), (6, 147, 101, 818, 0), (6, 150, 96, 797, 0), (6, 153, 98, 806, 0), (6, 157, 100, 814, 0), (6, 160, 102, 822, 0), (6, 164, 103, 826, 0), (6, 167, 105, 834, 0), (6, 171, 106, 838, 0), (6, 174, 107, 842, 0), (6, 178, 95, 793, 0), (6, 181, 104, 830, 0), (6, 184, 94, 789, 0), (6, 187, 108, 846, 0), (6, 200, 116, 878, 0), (6, 204, 115, 874, 0), (6, 208, 117, 882, 0), (6, 211, 113, 866, 0), (6, 214, 114, 870, 0), (6, 221, 118, 886, 0), (6, 224, 125, 914, 0), (6, 227, 121, 898, 0), (6, 230, 122, 902, 0), (6, 234, 126, 918, 0), (6, 237, 127, 922, 0), (6, 240, 124, 910, 0), (6, 243, 128, 926, 0), (6, 246, 123, 906, 0), (6, 250, 120, 894, 0), (6, 253, 131, 938, 0), (7, 9, 0, 81, 0), (7, 12, 83, 625, 0), (7, 13, 7, 284, 0), (7, 17, 84, 750, 0), (7, 18, 14, 315, 0), (7, 22, 87, 761, 0), (7, 23, 16, 323, 0), (7, 27, 88, 765, 0), (7, 28, 17, 327, 0), (7, 32, 89, 769, 0), (7, 33, 19, 335, 0), (7, 37, 90, 773, 0), (7, 38, 21, 345, 0), (7, 41, 93, 785, 0), (7, 42, 56, 501, 0), (7, 45, 109, 850, 0), (7, 46, 57, 506, 0), (7, 49, 110, 854, 0), (7, 50, 59, 514, 0), (7, 53, 111, 858, 0), (7, 54, 61, 522, 0), (7, 57, 112, 862, 0), (7, 58, 67, 548, 0), (7, 62, 119, 890, 0), (7, 63, 81, 615, 0), (7, 66, 129, 930, 0), (7, 67, 82, 619, 0), (7, 70, 130, 934, 0)]
def pg_mth (own idx : Nat) : Option Nat := (pg_mthL.find? (fun q => q.1 == own && q.2.1 == idx)).map (fun q => q.2.2.1)
def pg_newL : List (Nat × Nat × Nat × Nat) := [(0, 9, 1, 87), (0, 26, 4, 130), (0, 33, 5, 220), (4, 9, 3, 136), (4, 18, 2, 169), (4, 39, 1, 186), (5, 9, 1, 226), (5, 20, 4, 228), (3, 30, 1, 142), (7, 7, 0, 79), (7, 10, 6, 623)]
def pg_new (own idx : Nat) : Option Nat := (pg_newL.find? (fun q => q.1 == own && q.2.1 == idx)).map (fun q => q.2.2.1)
def pg_ana (own idx : Nat) : Bool := pg_newL.any (fun q => q.1 == own && q.2.1 == idx && q.2.2.1 == pg_ae)
def pg_mna (own idx : Nat) : Bool := own == 2 && idx == 9
def pg_ldcL : List (Nat × Nat × Int32 × Nat) := [(9, 265, 1431655765, 421), (9, 266, 858993459, 422), (9, 267, 252645135, 423)]
def pg_ldc (own idx : Nat) : Option Int32 := (pg_ldcL.find? (fun q => q.1 == own && q.2.1 == idx)).map (fun q => q.2.2.1)
def pg_Z : List (Nat × Nat × Nat × Nat) := [(83, 82, 0, 68), (92, 91, 0, 69), (96, 95, 0, 70), (134, 133, 0, 71), (140, 139, 0, 72), (173, 172, 0, 73), (224, 223, 0, 74), (287, 285, 286, 68), (290, 289, 0, 68), (294, 292, 293, 69), (298, 296, 297, 69), (302, 300, 301, 69), (306, 304, 305, 69), (313, 311, 312, 69), (318, 316, 317, 68), (322, 320, 321, 69), (326, 324, 325, 68), (330, 328, 329, 68), (334, 332, 333, 69), (338, 336, 337, 68), (341, 340, 0, 69), (348, 346, 347, 68), (352, 351, 0, 68), (356, 354, 355, 69), (367, 365, 366, 71), (371, 369, 370, 72), (377, 375, 376, 69), (381, 380, 1, 72), (386, 385, 2, 72), (390, 389, 3, 72), (394, 393, 4, 72), (398, 397, 5, 72), (402, 401, 6, 72), (407, 406, 7, 72), (413, 412, 8, 72), (417, 416, 9, 72), (420, 419, 0, 78), (427, 426, 10, 72), (431, 430, 11, 72), (435, 434, 12, 72), (439, 438, 13, 72), (443, 442, 14, 71), (447, 446, 15, 71), (451, 450, 16, 71), (455, 453, 454, 72), (459, 458, 17, 71), (464, 462, 463, 73), (468, 467, 18, 71), (472, 471, 19, 71), (476, 474, 475, 72), (480, 478, 479, 73), (484, 483, 20, 73), (488, 486, 487, 73), (492, 490, 491, 73), (496, 495, 21, 71), (500, 498, 499, 73), (504, 502, 503, 68), (509, 507, 508, 68), (513, 511, 512, 73), (517, 515, 516, 68), (521, 519, 520, 73), (525, 523, 524, 68), (529, 527, 528, 73), (533, 532, 22, 73), (539, 537, 538, 69), (543, 541, 542, 69), (547, 545, 546, 69), (551, 549, 550, 68), (555, 553, 554, 74), (562, 561, 23, 74), (567, 566, 24, 74), (571, 570, 25, 74), (575, 574, 26, 74), (579, 578, 27, 74), (583, 582, 28, 74), (588, 587, 29, 74), (595, 594, 30, 74), (599, 597, 598, 73), (604, 603, 31, 74), (608, 606, 607, 69), (613, 612, 32, 74), (618, 616, 617, 68), (622, 620, 621, 68), (627, 626, 0, 75), (753, 751, 752, 75), (756, 755, 0, 75), (760, 759, 33, 75), (764, 762, 763, 75), (768, 766, 767, 75), (772, 770, 771, 75), (776, 774, 775, 75), (780, 779, 34, 75), (784, 783, 35, 75), (788, 786, 787, 75), (792, 791, 36, 75), (796, 795, 37, 75), (800, 799, 38, 75), (805, 804, 39, 75), (809, 808, 40, 75), (813, 812, 41, 75), (817, 816, 42, 75), (821, 820, 43, 75), (825, 824, 44, 75), (829, 828, 45, 75), (833, 832, 46, 75), (837, 836, 47, 75), (841, 840, 48, 75), (845, 844, 49, 75), (849, 848, 50, 75), (853, 851, 852, 75), (857, 855, 856, 75), (861, 859, 860, 75), (865, 863, 864, 75), (869, 868, 51, 75), (873, 872, 52, 75), (877, 876, 53, 75), (881, 880, 54, 75), (885, 884, 55, 75), (889, 888, 56, 75), (893, 891, 892, 75), (897, 896, 57, 75), (901, 900, 58, 75), (905, 904, 59, 75), (909, 908, 60, 75), (913, 912, 61, 75), (917, 916, 62, 75), (921, 920, 63, 75), (925, 924, 64, 75), (929, 928, 65, 75), (933, 931, 932, 75), (937, 935, 936, 75), (941, 940, 66, 75)]
def pg_zi (z : Nat) : Nat × Nat × Nat × Nat := pg_Z.getD z (0, 0, 0, 0)
end
section
/-! What the tables say, checked by program -/
def pg_is (w : Nat) (q : Cond) : Bool := decide (lw_tbl[w]? = some q) && pg_gd q
theorem pg_is_mem {w : Nat} {q : Cond} (h : pg_is w q = true) : q ∈ pg_words := by
  simp only [pg_is, Bool.and_eq_true] at h
  exact List.mem_filter.mpr ⟨List.mem_of_getElem? (of_decide_eq_true h.1), h.2⟩
theorem pg_good : ∀ w ∈ pg_words, (w.onTables && w.keeps) = true ∨ ∃ ty, w = .arrayClass ty := by
  intro w hw
  have h1 := (List.mem_filter.mp hw).2
  unfold pg_gd at h1
  rw [Bool.or_eq_true] at h1
  rcases h1 with h1 | h1
  · exact Or.inl h1
  · right; split at h1; exact ⟨_, rfl⟩; cases h1
theorem pg_in0 : ∀ w ∈ u_ws "TwigMerge" pg_T0 8, w ∈ pg_words := by
  have h : (List.range 8).all (fun k => pg_is ([267, 269, 271, 273, 275, 277, 279, 281].getD k 0) (u_lay "TwigMerge" pg_T0 k)) = true := by decide +kernel
  intro w hw
  obtain ⟨k, hk, rfl⟩ := List.mem_map.mp hw
  exact pg_is_mem (List.all_eq_true.mp h k hk)
theorem pg_nm0 : ∀ a, a < 8 → ∀ b, b < 8 → a ≠ b → (pg_T0 a).2.1 ≠ (pg_T0 b).2.1 := by decide +kernel
theorem pg_ty0 : ∀ k, k < 8 → parseFieldDescriptor (pg_T0 k).2.2.1 = some (pg_t0 k) := by decide +kernel
theorem pg_de0 : ∀ k, k < 8 → (pg_T0 k).1 = "TwigMerge" := by decide +kernel
theorem pg_df0 : ∀ k, k < 8 → defaultValue (pg_t0 k) = vp_V (pg_def 0) k := by decide +kernel
theorem pg_in1 : ∀ w ∈ u_ws "TwigMerge$Forest" pg_T1 5, w ∈ pg_words := by
  have h : (List.range 5).all (fun k => pg_is ([118, 120, 122, 124, 126].getD k 0) (u_lay "TwigMerge$Forest" pg_T1 k)) = true := by decide +kernel
  intro w hw
  obtain ⟨k, hk, rfl⟩ := List.mem_map.mp hw
  exact pg_is_mem (List.all_eq_true.mp h k hk)
theorem pg_nm1 : ∀ a, a < 5 → ∀ b, b < 5 → a ≠ b → (pg_T1 a).2.1 ≠ (pg_T1 b).2.1 := by decide +kernel
theorem pg_ty1 : ∀ k, k < 5 → parseFieldDescriptor (pg_T1 k).2.2.1 = some (pg_t1 k) := by decide +kernel
theorem pg_de1 : ∀ k, k < 5 → (pg_T1 k).1 = "TwigMerge$Forest" := by decide +kernel
theorem pg_df1 : ∀ k, k < 5 → defaultValue (pg_t1 k) = vp_V (pg_def 1) k := by decide +kernel
theorem pg_in2 : ∀ w ∈ u_ws "TwigMerge$Script" pg_T2 2, w ∈ pg_words := by
  have h : (List.range 2).all (fun k => pg_is ([181, 183].getD k 0) (u_lay "TwigMerge$Script" pg_T2 k)) = true := by decide +kernel
  intro w hw
  obtain ⟨k, hk, rfl⟩ := List.mem_map.mp hw
  exact pg_is_mem (List.all_eq_true.mp h k hk)
theorem pg_nm2 : ∀ a, a < 2 → ∀ b, b < 2 → a ≠ b → (pg_T2 a).2.1 ≠ (pg_T2 b).2.1 := by decide +kernel
theorem pg_ty2 : ∀ k, k < 2 → parseFieldDescriptor (pg_T2 k).2.2.1 = some (pg_t2 k) := by decide +kernel
theorem pg_de2 : ∀ k, k < 2 → (pg_T2 k).1 = "TwigMerge$Script" := by decide +kernel
theorem pg_df2 : ∀ k, k < 2 → defaultValue (pg_t2 k) = vp_V (pg_def 2) k := by decide +kernel
theorem pg_in3 : ∀ w ∈ u_ws "TwigMerge$Partners" pg_T3 8, w ∈ pg_words := by
  have h : (List.range 8).all (fun k => pg_is ([152, 154, 156, 158, 160, 162, 164, 166].getD k 0) (u_lay "TwigMerge$Partners" pg_T3 k)) = true := by decide +kernel
  intro w hw
  obtain ⟨k, hk, rfl⟩ := List.mem_map.mp hw
  exact pg_is_mem (List.all_eq_true.mp h k hk)
theorem pg_nm3 : ∀ a, a < 8 → ∀ b, b < 8 → a ≠ b → (pg_T3 a).2.1 ≠ (pg_T3 b).2.1 := by decide +kernel
theorem pg_ty3 : ∀ k, k < 8 → parseFieldDescriptor (pg_T3 k).2.2.1 = some (pg_t3 k) := by decide +kernel
theorem pg_de3 : ∀ k, k < 8 → (pg_T3 k).1 = "TwigMerge$Partners" := by decide +kernel
theorem pg_df3 : ∀ k, k < 8 → defaultValue (pg_t3 k) = vp_V (pg_def 3) k := by decide +kernel
theorem pg_in4 : ∀ w ∈ u_ws "TwigMerge$Difference" pg_T4 9, w ∈ pg_words := by
  have h : (List.range 9).all (fun k => pg_is ([200, 202, 204, 206, 208, 210, 212, 214, 216].getD k 0) (u_lay "TwigMerge$Difference" pg_T4 k)) = true := by decide +kernel
  intro w hw
  obtain ⟨k, hk, rfl⟩ := List.mem_map.mp hw
  exact pg_is_mem (List.all_eq_true.mp h k hk)
theorem pg_nm4 : ∀ a, a < 9 → ∀ b, b < 9 → a ≠ b → (pg_T4 a).2.1 ≠ (pg_T4 b).2.1 := by decide +kernel
theorem pg_ty4 : ∀ k, k < 9 → parseFieldDescriptor (pg_T4 k).2.2.1 = some (pg_t4 k) := by decide +kernel
theorem pg_de4 : ∀ k, k < 9 → (pg_T4 k).1 = "TwigMerge$Difference" := by decide +kernel
theorem pg_df4 : ∀ k, k < 9 → defaultValue (pg_t4 k) = vp_V (pg_def 4) k := by decide +kernel
theorem pg_in5 : ∀ w ∈ u_ws "TwigMerge$Merger" pg_T5 9, w ∈ pg_words := by
  have h : (List.range 9).all (fun k => pg_is ([240, 242, 244, 246, 248, 250, 252, 254, 256].getD k 0) (u_lay "TwigMerge$Merger" pg_T5 k)) = true := by decide +kernel
  intro w hw
  obtain ⟨k, hk, rfl⟩ := List.mem_map.mp hw
  exact pg_is_mem (List.all_eq_true.mp h k hk)
theorem pg_nm5 : ∀ a, a < 9 → ∀ b, b < 9 → a ≠ b → (pg_T5 a).2.1 ≠ (pg_T5 b).2.1 := by decide +kernel
theorem pg_ty5 : ∀ k, k < 9 → parseFieldDescriptor (pg_T5 k).2.2.1 = some (pg_t5 k) := by decide +kernel
theorem pg_de5 : ∀ k, k < 9 → (pg_T5 k).1 = "TwigMerge$Merger" := by decide +kernel
theorem pg_df5 : ∀ k, k < 9 → defaultValue (pg_t5 k) = vp_V (pg_def 5) k := by decide +kernel
theorem pg_in6 : ∀ w ∈ u_ws "TwigMergeModel" pg_T6 40, w ∈ pg_words := by
  have h : (List.range 40).all (fun k => pg_is ([669, 671, 673, 675, 677, 679, 681, 683, 685, 687, 689, 691, 693, 695, 697, 699, 701, 703, 705, 707, 709, 711, 713, 715, 717, 719, 721, 723, 725, 727, 729, 731, 733, 735, 737, 739, 741, 743, 745, 747].getD k 0) (u_lay "TwigMergeModel" pg_T6 k)) = true := by decide +kernel
  intro w hw
  obtain ⟨k, hk, rfl⟩ := List.mem_map.mp hw
  exact pg_is_mem (List.all_eq_true.mp h k hk)
theorem pg_nm6 : ∀ a, a < 40 → ∀ b, b < 40 → a ≠ b → (pg_T6 a).2.1 ≠ (pg_T6 b).2.1 := by decide +kernel
theorem pg_ty6 : ∀ k, k < 40 → parseFieldDescriptor (pg_T6 k).2.2.1 = some (pg_t6 k) := by decide +kernel
theorem pg_de6 : ∀ k, k < 40 → (pg_T6 k).1 = "TwigMergeModel" := by decide +kernel
theorem pg_df6 : ∀ k, k < 40 → defaultValue (pg_t6 k) = vp_V (pg_def 6) k := by decide +kernel
theorem pg_cls {ci : Nat} (h : ci < 7) : pg_cl[ci]? = some (pg_cn ci, pg_T ci, pg_N ci) ∧ (∀ w ∈ u_ws (pg_cn ci) (pg_T ci) (pg_N ci), w ∈ pg_words) ∧ (∀ a, a < pg_N ci → ∀ b, b < pg_N ci → a ≠ b → (pg_T ci a).2.1 ≠ (pg_T ci b).2.1) ∧ (∀ k, k < pg_N ci → parseFieldDescriptor (pg_T ci k).2.2.1 = some (pg_t ci k)) ∧ (∀ k, k < pg_N ci → (pg_T ci k).1 = pg_cn ci) ∧ (∀ k, k < pg_N ci → defaultValue (pg_t ci k) = vp_V (pg_def ci) k) ∧ (pg_def ci).length = pg_N ci := by
  match ci, h with
  | 0, _ => exact ⟨rfl, pg_in0, pg_nm0, pg_ty0, pg_de0, pg_df0, rfl⟩
  | 1, _ => exact ⟨rfl, pg_in1, pg_nm1, pg_ty1, pg_de1, pg_df1, rfl⟩
  | 2, _ => exact ⟨rfl, pg_in2, pg_nm2, pg_ty2, pg_de2, pg_df2, rfl⟩
  | 3, _ => exact ⟨rfl, pg_in3, pg_nm3, pg_ty3, pg_de3, pg_df3, rfl⟩
  | 4, _ => exact ⟨rfl, pg_in4, pg_nm4, pg_ty4, pg_de4, pg_df4, rfl⟩
  | 5, _ => exact ⟨rfl, pg_in5, pg_nm5, pg_ty5, pg_de5, pg_df5, rfl⟩
  | 6, _ => exact ⟨rfl, pg_in6, pg_nm6, pg_ty6, pg_de6, pg_df6, rfl⟩
def pg_fchk (q : Nat × Nat × Nat × Nat × Nat) : Bool := decide (q.2.2.1 < 7) && decide (q.2.2.2.1 < pg_N q.2.2.1) && pg_is q.2.2.2.2 (.fieldLink (pg_cn q.1) q.2.1 (pg_T q.2.2.1 q.2.2.2.1).1 (pg_T q.2.2.1 q.2.2.2.1).2.1 (pg_T q.2.2.1 q.2.2.2.1).2.2.1)
theorem pg_fall : pg_fldL.all pg_fchk = true := by decide +kernel
theorem pg_fld_ok {own idx ci k : Nat} (h : pg_fld own idx = some (ci, k)) : ∃ (C : String) (T : u_T) (N : Nat) (ty : Nat → FieldType), pg_cl[ci]? = some (C, T, N) ∧ k < N ∧ (∀ w ∈ u_ws C T N, w ∈ pg_words) ∧ Cond.fieldLink (pg_cn own) idx (T k).1 (T k).2.1 (T k).2.2.1 ∈ pg_words ∧ (∀ j, j < N → parseFieldDescriptor (T j).2.2.1 = some (ty j)) ∧ (∀ a, a < N → ∀ b, b < N → a ≠ b → (T a).2.1 ≠ (T b).2.1) ∧ am_kd (ty k) = pg_fk ci k ∧ (T k).2.2.2 = pg_ff ci k ∧ (T k).1 = C ∧ C = pg_cn ci := by
  unfold pg_fld at h
  obtain ⟨q, hq, he⟩ := Option.map_eq_some_iff.mp h
  have h1 := List.find?_some hq
  have h2 := List.all_eq_true.mp pg_fall q (List.mem_of_find?_eq_some hq)
  simp only [Bool.and_eq_true, beq_iff_eq] at h1
  simp only [pg_fchk, Bool.and_eq_true, decide_eq_true_eq] at h2
  obtain ⟨e1, e2⟩ := Prod.mk.inj he
  obtain ⟨rfl, rfl⟩ := h1
  subst e1; subst e2
  obtain ⟨c1, c2, c3, c4, c5, c6, c7⟩ := pg_cls h2.1.1
  exact ⟨_, _, _, pg_t q.2.2.1, c1, h2.1.2, c2, pg_is_mem h2.2, c4, c3, rfl, rfl, c5 _ h2.1.2, rfl⟩
def pg_nchk (q : Nat × Nat × Nat × Nat) : Bool := decide (q.2.2.1 < 7) && pg_is q.2.2.2 (.classLink (pg_cn q.1) q.2.1 (pg_cn q.2.2.1)) && pg_is ([80, 89, 170, 137, 131, 221, 624].getD q.2.2.1 0) (.instantiable (pg_cn q.2.2.1) (pg_N q.2.2.1)) && pg_is ([68, 69, 73, 72, 71, 74, 75].getD q.2.2.1 0) (.initialized (pg_cn q.2.2.1))
theorem pg_nall : pg_newL.all pg_nchk = true := by decide +kernel
theorem pg_new_ok {own idx ci : Nat} (h : pg_new own idx = some ci) : ∃ (C : String) (T : u_T) (N : Nat) (ty : Nat → FieldType), pg_cl[ci]? = some (C, T, N) ∧ (∀ w ∈ u_ws C T N, w ∈ pg_words) ∧ (∀ j, j < N → parseFieldDescriptor (T j).2.2.1 = some (ty j)) ∧ Cond.classLink (pg_cn own) idx C ∈ pg_words ∧ Cond.instantiable C N ∈ pg_words ∧ Cond.initialized C ∈ pg_words ∧ (pg_def ci).length = N ∧ (∀ j, j < N → defaultValue (ty j) = vp_V (pg_def ci) j) ∧ ci < 7 := by
  unfold pg_new at h
  obtain ⟨q, hq, he⟩ := Option.map_eq_some_iff.mp h
  have h1 := List.find?_some hq
  have h2 := List.all_eq_true.mp pg_nall q (List.mem_of_find?_eq_some hq)
  simp only [Bool.and_eq_true, beq_iff_eq] at h1
  simp only [pg_nchk, Bool.and_eq_true, decide_eq_true_eq] at h2
  obtain ⟨rfl, rfl⟩ := h1
  subst he
  obtain ⟨c1, c2, c3, c4, c5, c6, c7⟩ := pg_cls h2.1.1.1
  exact ⟨_, _, _, pg_t q.2.2.1, c1, c2, c4, pg_is_mem h2.1.1.2, pg_is_mem h2.1.2, pg_is_mem h2.2, c7, c6, h2.1.1.1⟩
theorem pg_i0 : Cond.instantiable (pg_cn 0) (pg_N 0) ∈ pg_words := pg_is_mem (w := 80) (by decide +kernel)
theorem pg_i1 : Cond.instantiable (pg_cn 1) (pg_N 1) ∈ pg_words := pg_is_mem (w := 89) (by decide +kernel)
theorem pg_i2 : Cond.instantiable (pg_cn 2) (pg_N 2) ∈ pg_words := pg_is_mem (w := 170) (by decide +kernel)
theorem pg_i3 : Cond.instantiable (pg_cn 3) (pg_N 3) ∈ pg_words := pg_is_mem (w := 137) (by decide +kernel)
theorem pg_i4 : Cond.instantiable (pg_cn 4) (pg_N 4) ∈ pg_words := pg_is_mem (w := 131) (by decide +kernel)
theorem pg_i5 : Cond.instantiable (pg_cn 5) (pg_N 5) ∈ pg_words := pg_is_mem (w := 221) (by decide +kernel)
theorem pg_i6 : Cond.instantiable (pg_cn 6) (pg_N 6) ∈ pg_words := pg_is_mem (w := 624) (by decide +kernel)
theorem pg_inst {ci : Nat} (h : ci < 7) : Cond.instantiable (pg_cn ci) (pg_N ci) ∈ pg_words := by
  match ci, h with
  | 0, _ => exact pg_i0
  | 1, _ => exact pg_i1
  | 2, _ => exact pg_i2
  | 3, _ => exact pg_i3
  | 4, _ => exact pg_i4
  | 5, _ => exact pg_i5
  | 6, _ => exact pg_i6
theorem pg_ac_int : Cond.arrayClass (newarray.typeOf .int) ∈ pg_words := pg_is_mem (w := 129) (by decide +kernel)
theorem pg_ac_bool : Cond.arrayClass (newarray.typeOf .boolean) ∈ pg_words := pg_is_mem (w := 219) (by decide +kernel)
theorem pg_ov_obj : Cond.arrayOver (.object (pg_cn pg_ae)) ∈ lw_tbl := List.mem_of_getElem? (i := 88) (by decide +kernel)
theorem pg_ov_arr : Cond.arrayOver (.array .int) ∈ lw_tbl := List.mem_of_getElem? (i := 176) (by decide +kernel)
theorem pg_ana_ok {own idx : Nat} (h : pg_ana own idx = true) : Cond.classLink (pg_cn own) idx (pg_cn pg_ae) ∈ pg_words := by
  unfold pg_ana at h
  obtain ⟨q, hq, h1⟩ := List.any_eq_true.mp h
  have h2 := List.all_eq_true.mp pg_nall q hq
  simp only [Bool.and_eq_true, beq_iff_eq] at h1
  simp only [pg_nchk, Bool.and_eq_true, decide_eq_true_eq] at h2
  obtain ⟨⟨rfl, rfl⟩, e⟩ := h1
  rw [← e]
  exact pg_is_mem h2.1.1.2
theorem pg_mna_ok {own idx : Nat} (h : pg_mna own idx = true) : Cond.classLink (pg_cn own) idx ("[" ++ (FieldType.array .int).toString) ∈ pg_words := by
  simp only [pg_mna, Bool.and_eq_true, beq_iff_eq] at h
  obtain ⟨rfl, rfl⟩ := h
  exact pg_is_mem (w := 175) (by decide +kernel)
theorem pg_ae_ok : ∃ (T : u_T) (N : Nat), pg_cl[pg_ae]? = some (pg_cn pg_ae, T, N) := ⟨_, _, rfl⟩
def pg_lchk (q : Nat × Nat × Int32 × Nat) : Bool := pg_is q.2.2.2 (.constant (pg_cn q.1) q.2.1 q.2.2.1)
theorem pg_lall : pg_ldcL.all pg_lchk = true := by decide +kernel
theorem pg_ldc_ok {own idx : Nat} {v : Int32} (h : pg_ldc own idx = some v) : Cond.constant (pg_cn own) idx v ∈ pg_words := by
  unfold pg_ldc at h
  obtain ⟨q, hq, he⟩ := Option.map_eq_some_iff.mp h
  have h1 := List.find?_some hq
  have h2 := List.all_eq_true.mp pg_lall q (List.mem_of_find?_eq_some hq)
  simp only [Bool.and_eq_true, beq_iff_eq] at h1
  obtain ⟨rfl, rfl⟩ := h1
  subst he
  exact pg_is_mem h2
set_option maxRecDepth 100000 in
theorem pg_c0 : Cond.code (pg_y 0) (pg_code 0) (pg_maxL 0) (pg_ret 0) ∈ lw_tbl := List.mem_of_getElem? (i := 83) rfl
set_option maxRecDepth 100000 in
theorem pg_c1 : Cond.code (pg_y 1) (pg_code 1) (pg_maxL 1) (pg_ret 1) ∈ lw_tbl := List.mem_of_getElem? (i := 92) rfl
set_option maxRecDepth 100000 in
theorem pg_c2 : Cond.code (pg_y 2) (pg_code 2) (pg_maxL 2) (pg_ret 2) ∈ lw_tbl := List.mem_of_getElem? (i := 96) rfl
set_option maxRecDepth 100000 in
theorem pg_c3 : Cond.code (pg_y 3) (pg_code 3) (pg_maxL 3) (pg_ret 3) ∈ lw_tbl := List.mem_of_getElem? (i := 134) rfl
set_option maxRecDepth 100000 in
theorem pg_c4 : Cond.code (pg_y 4) (pg_code 4) (pg_maxL 4) (pg_ret 4) ∈ lw_tbl := List.mem_of_getElem? (i := 140) rfl
set_option maxRecDepth 100000 in
theorem pg_c5 : Cond.code (pg_y 5) (pg_code 5) (pg_maxL 5) (pg_ret 5) ∈ lw_tbl := List.mem_of_getElem? (i := 173) rfl
set_option maxRecDepth 100000 in
theorem pg_c6 : Cond.code (pg_y 6) (pg_code 6) (pg_maxL 6) (pg_ret 6) ∈ lw_tbl := List.mem_of_getElem? (i := 224) rfl
set_option maxRecDepth 100000 in
theorem pg_c7 : Cond.code (pg_y 7) (pg_code 7) (pg_maxL 7) (pg_ret 7) ∈ lw_tbl := List.mem_of_getElem? (i := 287) rfl
set_option maxRecDepth 100000 in
theorem pg_c8 : Cond.code (pg_y 8) (pg_code 8) (pg_maxL 8) (pg_ret 8) ∈ lw_tbl := List.mem_of_getElem? (i := 290) rfl
set_option maxRecDepth 100000 in
theorem pg_c9 : Cond.code (pg_y 9) (pg_code 9) (pg_maxL 9) (pg_ret 9) ∈ lw_tbl := List.mem_of_getElem? (i := 294) rfl
set_option maxRecDepth 100000 in
theorem pg_c10 : Cond.code (pg_y 10) (pg_code 10) (pg_maxL 10) (pg_ret 10) ∈ lw_tbl := List.mem_of_getElem? (i := 298) rfl
set_option maxRecDepth 100000 in
theorem pg_c11 : Cond.code (pg_y 11) (pg_code 11) (pg_maxL 11) (pg_ret 11) ∈ lw_tbl := List.mem_of_getElem? (i := 302) rfl
set_option maxRecDepth 100000 in
theorem pg_c12 : Cond.code (pg_y 12) (pg_code 12) (pg_maxL 12) (pg_ret 12) ∈ lw_tbl := List.mem_of_getElem? (i := 306) rfl
set_option maxRecDepth 100000 in
theorem pg_c13 : Cond.code (pg_y 13) (pg_code 13) (pg_maxL 13) (pg_ret 13) ∈ lw_tbl := List.mem_of_getElem? (i := 313) rfl
set_option maxRecDepth 100000 in
theorem pg_c14 : Cond.code (pg_y 14) (pg_code 14) (pg_maxL 14) (pg_ret 14) ∈ lw_tbl := List.mem_of_getElem? (i := 318) rfl
set_option maxRecDepth 100000 in
theorem pg_c15 : Cond.code (pg_y 15) (pg_code 15) (pg_maxL 15) (pg_ret 15) ∈ lw_tbl := List.mem_of_getElem? (i := 322) rfl
set_option maxRecDepth 100000 in
theorem pg_c16 : Cond.code (pg_y 16) (pg_code 16) (pg_maxL 16) (pg_ret 16) ∈ lw_tbl := List.mem_of_getElem? (i := 326) rfl
set_option maxRecDepth 100000 in
theorem pg_c17 : Cond.code (pg_y 17) (pg_code 17) (pg_maxL 17) (pg_ret 17) ∈ lw_tbl := List.mem_of_getElem? (i := 330) rfl
set_option maxRecDepth 100000 in
theorem pg_c18 : Cond.code (pg_y 18) (pg_code 18) (pg_maxL 18) (pg_ret 18) ∈ lw_tbl := List.mem_of_getElem? (i := 334) rfl
set_option maxRecDepth 100000 in
theorem pg_c19 : Cond.code (pg_y 19) (pg_code 19) (pg_maxL 19) (pg_ret 19) ∈ lw_tbl := List.mem_of_getElem? (i := 338) rfl
set_option maxRecDepth 100000 in
theorem pg_c20 : Cond.code (pg_y 20) (pg_code 20) (pg_maxL 20) (pg_ret 20) ∈ lw_tbl := List.mem_of_getElem? (i := 341) rfl
set_option maxRecDepth 100000 in
theorem pg_c21 : Cond.code (pg_y 21) (pg_code 21) (pg_maxL 21) (pg_ret 21) ∈ lw_tbl := List.mem_of_getElem? (i := 348) rfl
set_option maxRecDepth 100000 in
theorem pg_c22 : Cond.code (pg_y 22) (pg_code 22) (pg_maxL 22) (pg_ret 22) ∈ lw_tbl := List.mem_of_getElem? (i := 352) rfl
set_option maxRecDepth 100000 in
theorem pg_c23 : Cond.code (pg_y 23) (pg_code 23) (pg_maxL 23) (pg_ret 23) ∈ lw_tbl := List.mem_of_getElem? (i := 356) rfl
set_option maxRecDepth 100000 in
theorem pg_c24 : Cond.code (pg_y 24) (pg_code 24) (pg_maxL 24) (pg_ret 24) ∈ lw_tbl := List.mem_of_getElem? (i := 367) rfl
set_option maxRecDepth 100000 in
theorem pg_c25 : Cond.code (pg_y 25) (pg_code 25) (pg_maxL 25) (pg_ret 25) ∈ lw_tbl := List.mem_of_getElem? (i := 371) rfl
set_option maxRecDepth 100000 in
theorem pg_c26 : Cond.code (pg_y 26) (pg_code 26) (pg_maxL 26) (pg_ret 26) ∈ lw_tbl := List.mem_of_getElem? (i := 377) rfl
set_option maxRecDepth 100000 in
theorem pg_c27 : Cond.code (pg_y 27) (pg_code 27) (pg_maxL 27) (pg_ret 27) ∈ lw_tbl := List.mem_of_getElem? (i := 381) rfl
set_option maxRecDepth 100000 in
theorem pg_c28 : Cond.code (pg_y 28) (pg_code 28) (pg_maxL 28) (pg_ret 28) ∈ lw_tbl := List.mem_of_getElem? (i := 386) rfl
set_option maxRecDepth 100000 in
theorem pg_c29 : Cond.code (pg_y 29) (pg_code 29) (pg_maxL 29) (pg_ret 29) ∈ lw_tbl := List.mem_of_getElem? (i := 390) rfl
set_option maxRecDepth 100000 in
theorem pg_c30 : Cond.code (pg_y 30) (pg_code 30) (pg_maxL 30) (pg_ret 30) ∈ lw_tbl := List.mem_of_getElem? (i := 394) rfl
set_option maxRecDepth 100000 in
theorem pg_c31 : Cond.code (pg_y 31) (pg_code 31) (pg_maxL 31) (pg_ret 31) ∈ lw_tbl := List.mem_of_getElem? (i := 398) rfl
set_option maxRecDepth 100000 in
theorem pg_c32 : Cond.code (pg_y 32) (pg_code 32) (pg_maxL 32) (pg_ret 32) ∈ lw_tbl := List.mem_of_getElem? (i := 402) rfl
set_option maxRecDepth 100000 in
theorem pg_c33 : Cond.code (pg_y 33) (pg_code 33) (pg_maxL 33) (pg_ret 33) ∈ lw_tbl := List.mem_of_getElem? (i := 407) rfl
set_option maxRecDepth 100000 in
theorem pg_c34 : Cond.code (pg_y 34) (pg_code 34) (pg_maxL 34) (pg_ret 34) ∈ lw_tbl := List.mem_of_getElem? (i := 413) rfl
set_option maxRecDepth 100000 in
theorem pg_c35 : Cond.code (pg_y 35) (pg_code 35) (pg_maxL 35) (pg_ret 35) ∈ lw_tbl := List.mem_of_getElem? (i := 417) rfl
set_option maxRecDepth 100000 in
theorem pg_c36 : Cond.code (pg_y 36) (pg_code 36) (pg_maxL 36) (pg_ret 36) ∈ lw_tbl := List.mem_of_getElem? (i := 420) rfl
set_option maxRecDepth 100000 in
theorem pg_c37 : Cond.code (pg_y 37) (pg_code 37) (pg_maxL 37) (pg_ret 37) ∈ lw_tbl := List.mem_of_getElem? (i := 427) rfl
set_option maxRecDepth 100000 in
theorem pg_c38 : Cond.code (pg_y 38) (pg_code 38) (pg_maxL 38) (pg_ret 38) ∈ lw_tbl := List.mem_of_getElem? (i := 431) rfl
set_option maxRecDepth 100000 in
theorem pg_c39 : Cond.code (pg_y 39) (pg_code 39) (pg_maxL 39) (pg_ret 39) ∈ lw_tbl := List.mem_of_getElem? (i := 435) rfl
set_option maxRecDepth 100000 in
theorem pg_c40 : Cond.code (pg_y 40) (pg_code 40) (pg_maxL 40) (pg_ret 40) ∈ lw_tbl := List.mem_of_getElem? (i := 439) rfl
set_option maxRecDepth 100000 in
theorem pg_c41 : Cond.code (pg_y 41) (pg_code 41) (pg_maxL 41) (pg_ret 41) ∈ lw_tbl := List.mem_of_getElem? (i := 443) rfl
set_option maxRecDepth 100000 in
theorem pg_c42 : Cond.code (pg_y 42) (pg_code 42) (pg_maxL 42) (pg_ret 42) ∈ lw_tbl := List.mem_of_getElem? (i := 447) rfl
set_option maxRecDepth 100000 in
theorem pg_c43 : Cond.code (pg_y 43) (pg_code 43) (pg_maxL 43) (pg_ret 43) ∈ lw_tbl := List.mem_of_getElem? (i := 451) rfl
set_option maxRecDepth 100000 in
theorem pg_c44 : Cond.code (pg_y 44) (pg_code 44) (pg_maxL 44) (pg_ret 44) ∈ lw_tbl := List.mem_of_getElem? (i := 455) rfl
set_option maxRecDepth 100000 in
theorem pg_c45 : Cond.code (pg_y 45) (pg_code 45) (pg_maxL 45) (pg_ret 45) ∈ lw_tbl := List.mem_of_getElem? (i := 459) rfl
set_option maxRecDepth 100000 in
theorem pg_c46 : Cond.code (pg_y 46) (pg_code 46) (pg_maxL 46) (pg_ret 46) ∈ lw_tbl := List.mem_of_getElem? (i := 464) rfl
set_option maxRecDepth 100000 in
theorem pg_c47 : Cond.code (pg_y 47) (pg_code 47) (pg_maxL 47) (pg_ret 47) ∈ lw_tbl := List.mem_of_getElem? (i := 468) rfl
set_option maxRecDepth 100000 in
theorem pg_c48 : Cond.code (pg_y 48) (pg_code 48) (pg_maxL 48) (pg_ret 48) ∈ lw_tbl := List.mem_of_getElem? (i := 472) rfl
set_option maxRecDepth 100000 in
theorem pg_c49 : Cond.code (pg_y 49) (pg_code 49) (pg_maxL 49) (pg_ret 49) ∈ lw_tbl := List.mem_of_getElem? (i := 476) rfl
set_option maxRecDepth 100000 in
theorem pg_c50 : Cond.code (pg_y 50) (pg_code 50) (pg_maxL 50) (pg_ret 50) ∈ lw_tbl := List.mem_of_getElem? (i := 480) rfl
set_option maxRecDepth 100000 in
theorem pg_c51 : Cond.code (pg_y 51) (pg_code 51) (pg_maxL 51) (pg_ret 51) ∈ lw_tbl := List.mem_of_getElem? (i := 484) rfl
set_option maxRecDepth 100000 in
theorem pg_c52 : Cond.code (pg_y 52) (pg_code 52) (pg_maxL 52) (pg_ret 52) ∈ lw_tbl := List.mem_of_getElem? (i := 488) rfl
set_option maxRecDepth 100000 in
theorem pg_c53 : Cond.code (pg_y 53) (pg_code 53) (pg_maxL 53) (pg_ret 53) ∈ lw_tbl := List.mem_of_getElem? (i := 492) rfl
set_option maxRecDepth 100000 in
theorem pg_c54 : Cond.code (pg_y 54) (pg_code 54) (pg_maxL 54) (pg_ret 54) ∈ lw_tbl := List.mem_of_getElem? (i := 496) rfl
set_option maxRecDepth 100000 in
theorem pg_c55 : Cond.code (pg_y 55) (pg_code 55) (pg_maxL 55) (pg_ret 55) ∈ lw_tbl := List.mem_of_getElem? (i := 500) rfl
set_option maxRecDepth 100000 in
theorem pg_c56 : Cond.code (pg_y 56) (pg_code 56) (pg_maxL 56) (pg_ret 56) ∈ lw_tbl := List.mem_of_getElem? (i := 504) rfl
set_option maxRecDepth 100000 in
theorem pg_c57 : Cond.code (pg_y 57) (pg_code 57) (pg_maxL 57) (pg_ret 57) ∈ lw_tbl := List.mem_of_getElem? (i := 509) rfl
set_option maxRecDepth 100000 in
theorem pg_c58 : Cond.code (pg_y 58) (pg_code 58) (pg_maxL 58) (pg_ret 58) ∈ lw_tbl := List.mem_of_getElem? (i := 513) rfl
set_option maxRecDepth 100000 in
theorem pg_c59 : Cond.code (pg_y 59) (pg_code 59) (pg_maxL 59) (pg_ret 59) ∈ lw_tbl := List.mem_of_getElem? (i := 517) rfl
set_option maxRecDepth 100000 in
theorem pg_c60 : Cond.code (pg_y 60) (pg_code 60) (pg_maxL 60) (pg_ret 60) ∈ lw_tbl := List.mem_of_getElem? (i := 521) rfl
set_option maxRecDepth 100000 in
theorem pg_c61 : Cond.code (pg_y 61) (pg_code 61) (pg_maxL 61) (pg_ret 61) ∈ lw_tbl := List.mem_of_getElem? (i := 525) rfl
set_option maxRecDepth 100000 in
theorem pg_c62 : Cond.code (pg_y 62) (pg_code 62) (pg_maxL 62) (pg_ret 62) ∈ lw_tbl := List.mem_of_getElem? (i := 529) rfl
set_option maxRecDepth 100000 in
theorem pg_c63 : Cond.code (pg_y 63) (pg_code 63) (pg_maxL 63) (pg_ret 63) ∈ lw_tbl := List.mem_of_getElem? (i := 533) rfl
set_option maxRecDepth 100000 in
theorem pg_c64 : Cond.code (pg_y 64) (pg_code 64) (pg_maxL 64) (pg_ret 64) ∈ lw_tbl := List.mem_of_getElem? (i := 539) rfl
set_option maxRecDepth 100000 in
theorem pg_c65 : Cond.code (pg_y 65) (pg_code 65) (pg_maxL 65) (pg_ret 65) ∈ lw_tbl := List.mem_of_getElem? (i := 543) rfl
set_option maxRecDepth 100000 in
theorem pg_c66 : Cond.code (pg_y 66) (pg_code 66) (pg_maxL 66) (pg_ret 66) ∈ lw_tbl := List.mem_of_getElem? (i := 547) rfl
set_option maxRecDepth 100000 in
theorem pg_c67 : Cond.code (pg_y 67) (pg_code 67) (pg_maxL 67) (pg_ret 67) ∈ lw_tbl := List.mem_of_getElem? (i := 551) rfl
set_option maxRecDepth 100000 in
theorem pg_c68 : Cond.code (pg_y 68) (pg_code 68) (pg_maxL 68) (pg_ret 68) ∈ lw_tbl := List.mem_of_getElem? (i := 555) rfl
set_option maxRecDepth 100000 in
theorem pg_c69 : Cond.code (pg_y 69) (pg_code 69) (pg_maxL 69) (pg_ret 69) ∈ lw_tbl := List.mem_of_getElem? (i := 562) rfl
set_option maxRecDepth 100000 in
theorem pg_c70 : Cond.code (pg_y 70) (pg_code 70) (pg_maxL 70) (pg_ret 70) ∈ lw_tbl := List.mem_of_getElem? (i := 567) rfl
set_option maxRecDepth 100000 in
theorem pg_c71 : Cond.code (pg_y 71) (pg_code 71) (pg_maxL 71) (pg_ret 71) ∈ lw_tbl := List.mem_of_getElem? (i := 571) rfl
set_option maxRecDepth 100000 in
theorem pg_c72 : Cond.code (pg_y 72) (pg_code 72) (pg_maxL 72) (pg_ret 72) ∈ lw_tbl := List.mem_of_getElem? (i := 575) rfl
set_option maxRecDepth 100000 in
theorem pg_c73 : Cond.code (pg_y 73) (pg_code 73) (pg_maxL 73) (pg_ret 73) ∈ lw_tbl := List.mem_of_getElem? (i := 579) rfl
set_option maxRecDepth 100000 in
theorem pg_c74 : Cond.code (pg_y 74) (pg_code 74) (pg_maxL 74) (pg_ret 74) ∈ lw_tbl := List.mem_of_getElem? (i := 583) rfl
set_option maxRecDepth 100000 in
theorem pg_c75 : Cond.code (pg_y 75) (pg_code 75) (pg_maxL 75) (pg_ret 75) ∈ lw_tbl := List.mem_of_getElem? (i := 588) rfl
set_option maxRecDepth 100000 in
theorem pg_c76 : Cond.code (pg_y 76) (pg_code 76) (pg_maxL 76) (pg_ret 76) ∈ lw_tbl := List.mem_of_getElem? (i := 595) rfl
set_option maxRecDepth 100000 in
theorem pg_c77 : Cond.code (pg_y 77) (pg_code 77) (pg_maxL 77) (pg_ret 77) ∈ lw_tbl := List.mem_of_getElem? (i := 599) rfl
set_option maxRecDepth 100000 in
theorem pg_c78 : Cond.code (pg_y 78) (pg_code 78) (pg_maxL 78) (pg_ret 78) ∈ lw_tbl := List.mem_of_getElem? (i := 604) rfl
set_option maxRecDepth 100000 in
theorem pg_c79 : Cond.code (pg_y 79) (pg_code 79) (pg_maxL 79) (pg_ret 79) ∈ lw_tbl := List.mem_of_getElem? (i := 608) rfl
set_option maxRecDepth 100000 in
theorem pg_c80 : Cond.code (pg_y 80) (pg_code 80) (pg_maxL 80) (pg_ret 80) ∈ lw_tbl := List.mem_of_getElem? (i := 613) rfl
set_option maxRecDepth 100000 in
theorem pg_c81 : Cond.code (pg_y 81) (pg_code 81) (pg_maxL 81) (pg_ret 81) ∈ lw_tbl := List.mem_of_getElem? (i := 618) rfl
set_option maxRecDepth 100000 in
theorem pg_c82 : Cond.code (pg_y 82) (pg_code 82) (pg_maxL 82) (pg_ret 82) ∈ lw_tbl := List.mem_of_getElem? (i := 622) rfl
set_option maxRecDepth 100000 in
theorem pg_c83 : Cond.code (pg_y 83) (pg_code 83) (pg_maxL 83) (pg_ret 83) ∈ lw_tbl := List.mem_of_getElem? (i := 627) rfl
set_option maxRecDepth 100000 in
theorem pg_c84 : Cond.code (pg_y 84) (pg_code 84) (pg_maxL 84) (pg_ret 84) ∈ lw_tbl := List.mem_of_getElem? (i := 753) rfl
set_option maxRecDepth 100000 in
theorem pg_c85 : Cond.code (pg_y 85) (pg_code 85) (pg_maxL 85) (pg_ret 85) ∈ lw_tbl := List.mem_of_getElem? (i := 756) rfl
set_option maxRecDepth 100000 in
theorem pg_c86 : Cond.code (pg_y 86) (pg_code 86) (pg_maxL 86) (pg_ret 86) ∈ lw_tbl := List.mem_of_getElem? (i := 760) rfl
set_option maxRecDepth 100000 in
theorem pg_c87 : Cond.code (pg_y 87) (pg_code 87) (pg_maxL 87) (pg_ret 87) ∈ lw_tbl := List.mem_of_getElem? (i := 764) rfl
set_option maxRecDepth 100000 in
theorem pg_c88 : Cond.code (pg_y 88) (pg_code 88) (pg_maxL 88) (pg_ret 88) ∈ lw_tbl := List.mem_of_getElem? (i := 768) rfl
set_option maxRecDepth 100000 in
theorem pg_c89 : Cond.code (pg_y 89) (pg_code 89) (pg_maxL 89) (pg_ret 89) ∈ lw_tbl := List.mem_of_getElem? (i := 772) rfl
set_option maxRecDepth 100000 in
theorem pg_c90 : Cond.code (pg_y 90) (pg_code 90) (pg_maxL 90) (pg_ret 90) ∈ lw_tbl := List.mem_of_getElem? (i := 776) rfl
set_option maxRecDepth 100000 in
theorem pg_c91 : Cond.code (pg_y 91) (pg_code 91) (pg_maxL 91) (pg_ret 91) ∈ lw_tbl := List.mem_of_getElem? (i := 780) rfl
set_option maxRecDepth 100000 in
theorem pg_c92 : Cond.code (pg_y 92) (pg_code 92) (pg_maxL 92) (pg_ret 92) ∈ lw_tbl := List.mem_of_getElem? (i := 784) rfl
set_option maxRecDepth 100000 in
theorem pg_c93 : Cond.code (pg_y 93) (pg_code 93) (pg_maxL 93) (pg_ret 93) ∈ lw_tbl := List.mem_of_getElem? (i := 788) rfl
set_option maxRecDepth 100000 in
theorem pg_c94 : Cond.code (pg_y 94) (pg_code 94) (pg_maxL 94) (pg_ret 94) ∈ lw_tbl := List.mem_of_getElem? (i := 792) rfl
set_option maxRecDepth 100000 in
theorem pg_c95 : Cond.code (pg_y 95) (pg_code 95) (pg_maxL 95) (pg_ret 95) ∈ lw_tbl := List.mem_of_getElem? (i := 796) rfl
set_option maxRecDepth 100000 in
theorem pg_c96 : Cond.code (pg_y 96) (pg_code 96) (pg_maxL 96) (pg_ret 96) ∈ lw_tbl := List.mem_of_getElem? (i := 800) rfl
set_option maxRecDepth 100000 in
theorem pg_c97 : Cond.code (pg_y 97) (pg_code 97) (pg_maxL 97) (pg_ret 97) ∈ lw_tbl := List.mem_of_getElem? (i := 805) rfl
set_option maxRecDepth 100000 in
theorem pg_c98 : Cond.code (pg_y 98) (pg_code 98) (pg_maxL 98) (pg_ret 98) ∈ lw_tbl := List.mem_of_getElem? (i := 809) rfl
set_option maxRecDepth 100000 in
theorem pg_c99 : Cond.code (pg_y 99) (pg_code 99) (pg_maxL 99) (pg_ret 99) ∈ lw_tbl := List.mem_of_getElem? (i := 813) rfl
set_option maxRecDepth 100000 in
theorem pg_c100 : Cond.code (pg_y 100) (pg_code 100) (pg_maxL 100) (pg_ret 100) ∈ lw_tbl := List.mem_of_getElem? (i := 817) rfl
set_option maxRecDepth 100000 in
theorem pg_c101 : Cond.code (pg_y 101) (pg_code 101) (pg_maxL 101) (pg_ret 101) ∈ lw_tbl := List.mem_of_getElem? (i := 821) rfl
set_option maxRecDepth 100000 in
theorem pg_c102 : Cond.code (pg_y 102) (pg_code 102) (pg_maxL 102) (pg_ret 102) ∈ lw_tbl := List.mem_of_getElem? (i := 825) rfl
set_option maxRecDepth 100000 in
theorem pg_c103 : Cond.code (pg_y 103) (pg_code 103) (pg_maxL 103) (pg_ret 103) ∈ lw_tbl := List.mem_of_getElem? (i := 829) rfl
set_option maxRecDepth 100000 in
theorem pg_c104 : Cond.code (pg_y 104) (pg_code 104) (pg_maxL 104) (pg_ret 104) ∈ lw_tbl := List.mem_of_getElem? (i := 833) rfl
set_option maxRecDepth 100000 in
theorem pg_c105 : Cond.code (pg_y 105) (pg_code 105) (pg_maxL 105) (pg_ret 105) ∈ lw_tbl := List.mem_of_getElem? (i := 837) rfl
set_option maxRecDepth 100000 in
theorem pg_c106 : Cond.code (pg_y 106) (pg_code 106) (pg_maxL 106) (pg_ret 106) ∈ lw_tbl := List.mem_of_getElem? (i := 841) rfl
set_option maxRecDepth 100000 in
theorem pg_c107 : Cond.code (pg_y 107) (pg_code 107) (pg_maxL 107) (pg_ret 107) ∈ lw_tbl := List.mem_of_getElem? (i := 845) rfl
set_option maxRecDepth 100000 in
theorem pg_c108 : Cond.code (pg_y 108) (pg_code 108) (pg_maxL 108) (pg_ret 108) ∈ lw_tbl := List.mem_of_getElem? (i := 849) rfl
set_option maxRecDepth 100000 in
theorem pg_c109 : Cond.code (pg_y 109) (pg_code 109) (pg_maxL 109) (pg_ret 109) ∈ lw_tbl := List.mem_of_getElem? (i := 853) rfl
set_option maxRecDepth 100000 in
theorem pg_c110 : Cond.code (pg_y 110) (pg_code 110) (pg_maxL 110) (pg_ret 110) ∈ lw_tbl := List.mem_of_getElem? (i := 857) rfl
set_option maxRecDepth 100000 in
theorem pg_c111 : Cond.code (pg_y 111) (pg_code 111) (pg_maxL 111) (pg_ret 111) ∈ lw_tbl := List.mem_of_getElem? (i := 861) rfl
set_option maxRecDepth 100000 in
theorem pg_c112 : Cond.code (pg_y 112) (pg_code 112) (pg_maxL 112) (pg_ret 112) ∈ lw_tbl := List.mem_of_getElem? (i := 865) rfl
set_option maxRecDepth 100000 in
theorem pg_c113 : Cond.code (pg_y 113) (pg_code 113) (pg_maxL 113) (pg_ret 113) ∈ lw_tbl := List.mem_of_getElem? (i := 869) rfl
set_option maxRecDepth 100000 in
theorem pg_c114 : Cond.code (pg_y 114) (pg_code 114) (pg_maxL 114) (pg_ret 114) ∈ lw_tbl := List.mem_of_getElem? (i := 873) rfl
set_option maxRecDepth 100000 in
theorem pg_c115 : Cond.code (pg_y 115) (pg_code 115) (pg_maxL 115) (pg_ret 115) ∈ lw_tbl := List.mem_of_getElem? (i := 877) rfl
set_option maxRecDepth 100000 in
theorem pg_c116 : Cond.code (pg_y 116) (pg_code 116) (pg_maxL 116) (pg_ret 116) ∈ lw_tbl := List.mem_of_getElem? (i := 881) rfl
set_option maxRecDepth 100000 in
theorem pg_c117 : Cond.code (pg_y 117) (pg_code 117) (pg_maxL 117) (pg_ret 117) ∈ lw_tbl := List.mem_of_getElem? (i := 885) rfl
set_option maxRecDepth 100000 in
theorem pg_c118 : Cond.code (pg_y 118) (pg_code 118) (pg_maxL 118) (pg_ret 118) ∈ lw_tbl := List.mem_of_getElem? (i := 889) rfl
set_option maxRecDepth 100000 in
theorem pg_c119 : Cond.code (pg_y 119) (pg_code 119) (pg_maxL 119) (pg_ret 119) ∈ lw_tbl := List.mem_of_getElem? (i := 893) rfl
set_option maxRecDepth 100000 in
theorem pg_c120 : Cond.code (pg_y 120) (pg_code 120) (pg_maxL 120) (pg_ret 120) ∈ lw_tbl := List.mem_of_getElem? (i := 897) rfl
set_option maxRecDepth 100000 in
theorem pg_c121 : Cond.code (pg_y 121) (pg_code 121) (pg_maxL 121) (pg_ret 121) ∈ lw_tbl := List.mem_of_getElem? (i := 901) rfl
set_option maxRecDepth 100000 in
theorem pg_c122 : Cond.code (pg_y 122) (pg_code 122) (pg_maxL 122) (pg_ret 122) ∈ lw_tbl := List.mem_of_getElem? (i := 905) rfl
set_option maxRecDepth 100000 in
theorem pg_c123 : Cond.code (pg_y 123) (pg_code 123) (pg_maxL 123) (pg_ret 123) ∈ lw_tbl := List.mem_of_getElem? (i := 909) rfl
set_option maxRecDepth 100000 in
theorem pg_c124 : Cond.code (pg_y 124) (pg_code 124) (pg_maxL 124) (pg_ret 124) ∈ lw_tbl := List.mem_of_getElem? (i := 913) rfl
set_option maxRecDepth 100000 in
theorem pg_c125 : Cond.code (pg_y 125) (pg_code 125) (pg_maxL 125) (pg_ret 125) ∈ lw_tbl := List.mem_of_getElem? (i := 917) rfl
set_option maxRecDepth 100000 in
theorem pg_c126 : Cond.code (pg_y 126) (pg_code 126) (pg_maxL 126) (pg_ret 126) ∈ lw_tbl := List.mem_of_getElem? (i := 921) rfl
set_option maxRecDepth 100000 in
theorem pg_c127 : Cond.code (pg_y 127) (pg_code 127) (pg_maxL 127) (pg_ret 127) ∈ lw_tbl := List.mem_of_getElem? (i := 925) rfl
set_option maxRecDepth 100000 in
theorem pg_c128 : Cond.code (pg_y 128) (pg_code 128) (pg_maxL 128) (pg_ret 128) ∈ lw_tbl := List.mem_of_getElem? (i := 929) rfl
set_option maxRecDepth 100000 in
theorem pg_c129 : Cond.code (pg_y 129) (pg_code 129) (pg_maxL 129) (pg_ret 129) ∈ lw_tbl := List.mem_of_getElem? (i := 933) rfl
set_option maxRecDepth 100000 in
theorem pg_c130 : Cond.code (pg_y 130) (pg_code 130) (pg_maxL 130) (pg_ret 130) ∈ lw_tbl := List.mem_of_getElem? (i := 937) rfl
set_option maxRecDepth 100000 in
theorem pg_c131 : Cond.code (pg_y 131) (pg_code 131) (pg_maxL 131) (pg_ret 131) ∈ lw_tbl := List.mem_of_getElem? (i := 941) rfl
def pg_Pc (z : Nat) : Prop := Cond.code (pg_y z) (pg_code z) (pg_maxL z) (pg_ret z) ∈ lw_tbl
theorem pg_q0 : ∀ z, z < 0 → pg_Pc z := fun z h => absurd h (Nat.not_lt_zero z)
theorem pg_q1 : ∀ z, z < 1 → pg_Pc z := lt_s (p := pg_Pc) pg_q0 pg_c0
theorem pg_q2 : ∀ z, z < 2 → pg_Pc z := lt_s (p := pg_Pc) pg_q1 pg_c1
theorem pg_q3 : ∀ z, z < 3 → pg_Pc z := lt_s (p := pg_Pc) pg_q2 pg_c2
theorem pg_q4 : ∀ z, z < 4 → pg_Pc z := lt_s (p := pg_Pc) pg_q3 pg_c3
theorem pg_q5 : ∀ z, z < 5 → pg_Pc z := lt_s (p := pg_Pc) pg_q4 pg_c4
theorem pg_q6 : ∀ z, z < 6 → pg_Pc z := lt_s (p := pg_Pc) pg_q5 pg_c5
theorem pg_q7 : ∀ z, z < 7 → pg_Pc z := lt_s (p := pg_Pc) pg_q6 pg_c6
theorem pg_q8 : ∀ z, z < 8 → pg_Pc z := lt_s (p := pg_Pc) pg_q7 pg_c7
theorem pg_q9 : ∀ z, z < 9 → pg_Pc z := lt_s (p := pg_Pc) pg_q8 pg_c8
theorem pg_q10 : ∀ z, z < 10 → pg_Pc z := lt_s (p := pg_Pc) pg_q9 pg_c9
theorem pg_q11 : ∀ z, z < 11 → pg_Pc z := lt_s (p := pg_Pc) pg_q10 pg_c10
theorem pg_q12 : ∀ z, z < 12 → pg_Pc z := lt_s (p := pg_Pc) pg_q11 pg_c11
theorem pg_q13 : ∀ z, z < 13 → pg_Pc z := lt_s (p := pg_Pc) pg_q12 pg_c12
theorem pg_q14 : ∀ z, z < 14 → pg_Pc z := lt_s (p := pg_Pc) pg_q13 pg_c13
theorem pg_q15 : ∀ z, z < 15 → pg_Pc z := lt_s (p := pg_Pc) pg_q14 pg_c14
theorem pg_q16 : ∀ z, z < 16 → pg_Pc z := lt_s (p := pg_Pc) pg_q15 pg_c15
theorem pg_q17 : ∀ z, z < 17 → pg_Pc z := lt_s (p := pg_Pc) pg_q16 pg_c16
theorem pg_q18 : ∀ z, z < 18 → pg_Pc z := lt_s (p := pg_Pc) pg_q17 pg_c17
theorem pg_q19 : ∀ z, z < 19 → pg_Pc z := lt_s (p := pg_Pc) pg_q18 pg_c18
theorem pg_q20 : ∀ z, z < 20 → pg_Pc z := lt_s (p := pg_Pc) pg_q19 pg_c19
theorem pg_q21 : ∀ z, z < 21 → pg_Pc z := lt_s (p := pg_Pc) pg_q20 pg_c20
theorem pg_q22 : ∀ z, z < 22 → pg_Pc z := lt_s (p := pg_Pc) pg_q21 pg_c21
theorem pg_q23 : ∀ z, z < 23 → pg_Pc z := lt_s (p := pg_Pc) pg_q22 pg_c22
theorem pg_q24 : ∀ z, z < 24 → pg_Pc z := lt_s (p := pg_Pc) pg_q23 pg_c23
theorem pg_q25 : ∀ z, z < 25 → pg_Pc z := lt_s (p := pg_Pc) pg_q24 pg_c24
theorem pg_q26 : ∀ z, z < 26 → pg_Pc z := lt_s (p := pg_Pc) pg_q25 pg_c25
theorem pg_q27 : ∀ z, z < 27 → pg_Pc z := lt_s (p := pg_Pc) pg_q26 pg_c26
theorem pg_q28 : ∀ z, z < 28 → pg_Pc z := lt_s (p := pg_Pc) pg_q27 pg_c27
theorem pg_q29 : ∀ z, z < 29 → pg_Pc z := lt_s (p := pg_Pc) pg_q28 pg_c28
theorem pg_q30 : ∀ z, z < 30 → pg_Pc z := lt_s (p := pg_Pc) pg_q29 pg_c29
theorem pg_q31 : ∀ z, z < 31 → pg_Pc z := lt_s (p := pg_Pc) pg_q30 pg_c30
theorem pg_q32 : ∀ z, z < 32 → pg_Pc z := lt_s (p := pg_Pc) pg_q31 pg_c31
theorem pg_q33 : ∀ z, z < 33 → pg_Pc z := lt_s (p := pg_Pc) pg_q32 pg_c32
theorem pg_q34 : ∀ z, z < 34 → pg_Pc z := lt_s (p := pg_Pc) pg_q33 pg_c33
theorem pg_q35 : ∀ z, z < 35 → pg_Pc z := lt_s (p := pg_Pc) pg_q34 pg_c34
theorem pg_q36 : ∀ z, z < 36 → pg_Pc z := lt_s (p := pg_Pc) pg_q35 pg_c35
theorem pg_q37 : ∀ z, z < 37 → pg_Pc z := lt_s (p := pg_Pc) pg_q36 pg_c36
theorem pg_q38 : ∀ z, z < 38 → pg_Pc z := lt_s (p := pg_Pc) pg_q37 pg_c37
theorem pg_q39 : ∀ z, z < 39 → pg_Pc z := lt_s (p := pg_Pc) pg_q38 pg_c38
theorem pg_q40 : ∀ z, z < 40 → pg_Pc z := lt_s (p := pg_Pc) pg_q39 pg_c39
theorem pg_q41 : ∀ z, z < 41 → pg_Pc z := lt_s (p := pg_Pc) pg_q40 pg_c40
theorem pg_q42 : ∀ z, z < 42 → pg_Pc z := lt_s (p := pg_Pc) pg_q41 pg_c41
theorem pg_q43 : ∀ z, z < 43 → pg_Pc z := lt_s (p := pg_Pc) pg_q42 pg_c42
theorem pg_q44 : ∀ z, z < 44 → pg_Pc z := lt_s (p := pg_Pc) pg_q43 pg_c43
theorem pg_q45 : ∀ z, z < 45 → pg_Pc z := lt_s (p := pg_Pc) pg_q44 pg_c44
theorem pg_q46 : ∀ z, z < 46 → pg_Pc z := lt_s (p := pg_Pc) pg_q45 pg_c45
theorem pg_q47 : ∀ z, z < 47 → pg_Pc z := lt_s (p := pg_Pc) pg_q46 pg_c46
theorem pg_q48 : ∀ z, z < 48 → pg_Pc z := lt_s (p := pg_Pc) pg_q47 pg_c47
theorem pg_q49 : ∀ z, z < 49 → pg_Pc z := lt_s (p := pg_Pc) pg_q48 pg_c48
theorem pg_q50 : ∀ z, z < 50 → pg_Pc z := lt_s (p := pg_Pc) pg_q49 pg_c49
theorem pg_q51 : ∀ z, z < 51 → pg_Pc z := lt_s (p := pg_Pc) pg_q50 pg_c50
theorem pg_q52 : ∀ z, z < 52 → pg_Pc z := lt_s (p := pg_Pc) pg_q51 pg_c51
theorem pg_q53 : ∀ z, z < 53 → pg_Pc z := lt_s (p := pg_Pc) pg_q52 pg_c52
theorem pg_q54 : ∀ z, z < 54 → pg_Pc z := lt_s (p := pg_Pc) pg_q53 pg_c53
theorem pg_q55 : ∀ z, z < 55 → pg_Pc z := lt_s (p := pg_Pc) pg_q54 pg_c54
theorem pg_q56 : ∀ z, z < 56 → pg_Pc z := lt_s (p := pg_Pc) pg_q55 pg_c55
theorem pg_q57 : ∀ z, z < 57 → pg_Pc z := lt_s (p := pg_Pc) pg_q56 pg_c56
theorem pg_q58 : ∀ z, z < 58 → pg_Pc z := lt_s (p := pg_Pc) pg_q57 pg_c57
theorem pg_q59 : ∀ z, z < 59 → pg_Pc z := lt_s (p := pg_Pc) pg_q58 pg_c58
theorem pg_q60 : ∀ z, z < 60 → pg_Pc z := lt_s (p := pg_Pc) pg_q59 pg_c59
theorem pg_q61 : ∀ z, z < 61 → pg_Pc z := lt_s (p := pg_Pc) pg_q60 pg_c60
theorem pg_q62 : ∀ z, z < 62 → pg_Pc z := lt_s (p := pg_Pc) pg_q61 pg_c61
theorem pg_q63 : ∀ z, z < 63 → pg_Pc z := lt_s (p := pg_Pc) pg_q62 pg_c62
theorem pg_q64 : ∀ z, z < 64 → pg_Pc z := lt_s (p := pg_Pc) pg_q63 pg_c63
theorem pg_q65 : ∀ z, z < 65 → pg_Pc z := lt_s (p := pg_Pc) pg_q64 pg_c64
theorem pg_q66 : ∀ z, z < 66 → pg_Pc z := lt_s (p := pg_Pc) pg_q65 pg_c65
theorem pg_q67 : ∀ z, z < 67 → pg_Pc z := lt_s (p := pg_Pc) pg_q66 pg_c66
theorem pg_q68 : ∀ z, z < 68 → pg_Pc z := lt_s (p := pg_Pc) pg_q67 pg_c67
theorem pg_q69 : ∀ z, z < 69 → pg_Pc z := lt_s (p := pg_Pc) pg_q68 pg_c68
theorem pg_q70 : ∀ z, z < 70 → pg_Pc z := lt_s (p := pg_Pc) pg_q69 pg_c69
theorem pg_q71 : ∀ z, z < 71 → pg_Pc z := lt_s (p := pg_Pc) pg_q70 pg_c70
theorem pg_q72 : ∀ z, z < 72 → pg_Pc z := lt_s (p := pg_Pc) pg_q71 pg_c71
theorem pg_q73 : ∀ z, z < 73 → pg_Pc z := lt_s (p := pg_Pc) pg_q72 pg_c72
theorem pg_q74 : ∀ z, z < 74 → pg_Pc z := lt_s (p := pg_Pc) pg_q73 pg_c73
theorem pg_q75 : ∀ z, z < 75 → pg_Pc z := lt_s (p := pg_Pc) pg_q74 pg_c74
theorem pg_q76 : ∀ z, z < 76 → pg_Pc z := lt_s (p := pg_Pc) pg_q75 pg_c75
theorem pg_q77 : ∀ z, z < 77 → pg_Pc z := lt_s (p := pg_Pc) pg_q76 pg_c76
theorem pg_q78 : ∀ z, z < 78 → pg_Pc z := lt_s (p := pg_Pc) pg_q77 pg_c77
theorem pg_q79 : ∀ z, z < 79 → pg_Pc z := lt_s (p := pg_Pc) pg_q78 pg_c78
theorem pg_q80 : ∀ z, z < 80 → pg_Pc z := lt_s (p := pg_Pc) pg_q79 pg_c79
theorem pg_q81 : ∀ z, z < 81 → pg_Pc z := lt_s (p := pg_Pc) pg_q80 pg_c80
theorem pg_q82 : ∀ z, z < 82 → pg_Pc z := lt_s (p := pg_Pc) pg_q81 pg_c81
theorem pg_q83 : ∀ z, z < 83 → pg_Pc z := lt_s (p := pg_Pc) pg_q82 pg_c82
theorem pg_q84 : ∀ z, z < 84 → pg_Pc z := lt_s (p := pg_Pc) pg_q83 pg_c83
theorem pg_q85 : ∀ z, z < 85 → pg_Pc z := lt_s (p := pg_Pc) pg_q84 pg_c84
theorem pg_q86 : ∀ z, z < 86 → pg_Pc z := lt_s (p := pg_Pc) pg_q85 pg_c85
theorem pg_q87 : ∀ z, z < 87 → pg_Pc z := lt_s (p := pg_Pc) pg_q86 pg_c86
theorem pg_q88 : ∀ z, z < 88 → pg_Pc z := lt_s (p := pg_Pc) pg_q87 pg_c87
theorem pg_q89 : ∀ z, z < 89 → pg_Pc z := lt_s (p := pg_Pc) pg_q88 pg_c88
theorem pg_q90 : ∀ z, z < 90 → pg_Pc z := lt_s (p := pg_Pc) pg_q89 pg_c89
theorem pg_q91 : ∀ z, z < 91 → pg_Pc z := lt_s (p := pg_Pc) pg_q90 pg_c90
theorem pg_q92 : ∀ z, z < 92 → pg_Pc z := lt_s (p := pg_Pc) pg_q91 pg_c91
theorem pg_q93 : ∀ z, z < 93 → pg_Pc z := lt_s (p := pg_Pc) pg_q92 pg_c92
theorem pg_q94 : ∀ z, z < 94 → pg_Pc z := lt_s (p := pg_Pc) pg_q93 pg_c93
theorem pg_q95 : ∀ z, z < 95 → pg_Pc z := lt_s (p := pg_Pc) pg_q94 pg_c94
theorem pg_q96 : ∀ z, z < 96 → pg_Pc z := lt_s (p := pg_Pc) pg_q95 pg_c95
theorem pg_q97 : ∀ z, z < 97 → pg_Pc z := lt_s (p := pg_Pc) pg_q96 pg_c96
theorem pg_q98 : ∀ z, z < 98 → pg_Pc z := lt_s (p := pg_Pc) pg_q97 pg_c97
theorem pg_q99 : ∀ z, z < 99 → pg_Pc z := lt_s (p := pg_Pc) pg_q98 pg_c98
theorem pg_q100 : ∀ z, z < 100 → pg_Pc z := lt_s (p := pg_Pc) pg_q99 pg_c99
theorem pg_q101 : ∀ z, z < 101 → pg_Pc z := lt_s (p := pg_Pc) pg_q100 pg_c100
theorem pg_q102 : ∀ z, z < 102 → pg_Pc z := lt_s (p := pg_Pc) pg_q101 pg_c101
theorem pg_q103 : ∀ z, z < 103 → pg_Pc z := lt_s (p := pg_Pc) pg_q102 pg_c102
theorem pg_q104 : ∀ z, z < 104 → pg_Pc z := lt_s (p := pg_Pc) pg_q103 pg_c103
theorem pg_q105 : ∀ z, z < 105 → pg_Pc z := lt_s (p := pg_Pc) pg_q104 pg_c104
theorem pg_q106 : ∀ z, z < 106 → pg_Pc z := lt_s (p := pg_Pc) pg_q105 pg_c105
theorem pg_q107 : ∀ z, z < 107 → pg_Pc z := lt_s (p := pg_Pc) pg_q106 pg_c106
theorem pg_q108 : ∀ z, z < 108 → pg_Pc z := lt_s (p := pg_Pc) pg_q107 pg_c107
theorem pg_q109 : ∀ z, z < 109 → pg_Pc z := lt_s (p := pg_Pc) pg_q108 pg_c108
theorem pg_q110 : ∀ z, z < 110 → pg_Pc z := lt_s (p := pg_Pc) pg_q109 pg_c109
theorem pg_q111 : ∀ z, z < 111 → pg_Pc z := lt_s (p := pg_Pc) pg_q110 pg_c110
theorem pg_q112 : ∀ z, z < 112 → pg_Pc z := lt_s (p := pg_Pc) pg_q111 pg_c111
theorem pg_q113 : ∀ z, z < 113 → pg_Pc z := lt_s (p := pg_Pc) pg_q112 pg_c112
theorem pg_q114 : ∀ z, z < 114 → pg_Pc z := lt_s (p := pg_Pc) pg_q113 pg_c113
theorem pg_q115 : ∀ z, z < 115 → pg_Pc z := lt_s (p := pg_Pc) pg_q114 pg_c114
theorem pg_q116 : ∀ z, z < 116 → pg_Pc z := lt_s (p := pg_Pc) pg_q115 pg_c115
theorem pg_q117 : ∀ z, z < 117 → pg_Pc z := lt_s (p := pg_Pc) pg_q116 pg_c116
theorem pg_q118 : ∀ z, z < 118 → pg_Pc z := lt_s (p := pg_Pc) pg_q117 pg_c117
theorem pg_q119 : ∀ z, z < 119 → pg_Pc z := lt_s (p := pg_Pc) pg_q118 pg_c118
theorem pg_q120 : ∀ z, z < 120 → pg_Pc z := lt_s (p := pg_Pc) pg_q119 pg_c119
theorem pg_q121 : ∀ z, z < 121 → pg_Pc z := lt_s (p := pg_Pc) pg_q120 pg_c120
theorem pg_q122 : ∀ z, z < 122 → pg_Pc z := lt_s (p := pg_Pc) pg_q121 pg_c121
theorem pg_q123 : ∀ z, z < 123 → pg_Pc z := lt_s (p := pg_Pc) pg_q122 pg_c122
theorem pg_q124 : ∀ z, z < 124 → pg_Pc z := lt_s (p := pg_Pc) pg_q123 pg_c123
theorem pg_q125 : ∀ z, z < 125 → pg_Pc z := lt_s (p := pg_Pc) pg_q124 pg_c124
theorem pg_q126 : ∀ z, z < 126 → pg_Pc z := lt_s (p := pg_Pc) pg_q125 pg_c125
theorem pg_q127 : ∀ z, z < 127 → pg_Pc z := lt_s (p := pg_Pc) pg_q126 pg_c126
theorem pg_q128 : ∀ z, z < 128 → pg_Pc z := lt_s (p := pg_Pc) pg_q127 pg_c127
theorem pg_q129 : ∀ z, z < 129 → pg_Pc z := lt_s (p := pg_Pc) pg_q128 pg_c128
theorem pg_q130 : ∀ z, z < 130 → pg_Pc z := lt_s (p := pg_Pc) pg_q129 pg_c129
theorem pg_q131 : ∀ z, z < 131 → pg_Pc z := lt_s (p := pg_Pc) pg_q130 pg_c130
theorem pg_q132 : ∀ z, z < 132 → pg_Pc z := lt_s (p := pg_Pc) pg_q131 pg_c131
theorem pg_call : ∀ z, z < pg_num → Cond.code (pg_y z) (pg_code z) (pg_maxL z) (pg_ret z) ∈ lw_tbl := pg_q132
def pg_zchk (z : Nat) : Bool := pg_is (pg_zi z).2.1 (if pg_mk z = 2 then .static (pg_y z) else .instanceMethod (pg_y z)) && (pg_mk z != 0 || pg_is (pg_zi z).2.2.1 (.selects (pg_cn (pg_own z)) (pg_y z) (pg_y z))) && pg_is (pg_zi z).2.2.2 (.initialized (pg_y z).cls)
theorem pg_zall : (List.range pg_num).all pg_zchk = true := by decide +kernel
def pg_dchk (z : Nat) : Bool := plainName (pg_y z).cls && decide ((pg_y z).cls = pg_cn (pg_own z)) && decide ((pg_y z).cls ≠ "java/lang/invoke/MethodHandle") && decide ((pg_y z).cls ≠ "java/lang/invoke/VarHandle") && decide ((parseMethodDescriptor (pg_y z).desc).map (fun d => d.parameters.length) = some (pg_np z)) && decide (pg_maxL z ≤ 41) && (pg_mk z != 1 || (decide ((pg_y z).name = "<init>") && decide (pg_rk z = 0))) && decide (pg_rk z ≤ 2) && (pg_mk z != 0 || decide (pg_own z < 7)) && decide (pg_mk z ≤ 2)
theorem pg_dall : (List.range (pg_num + 1)).all pg_dchk = true := by decide +kernel
theorem pg_d {z : Nat} (h : z ≤ pg_num) : plainName (pg_y z).cls = true ∧ (pg_y z).cls = pg_cn (pg_own z) ∧ (pg_y z).cls ≠ "java/lang/invoke/MethodHandle" ∧ (pg_y z).cls ≠ "java/lang/invoke/VarHandle" ∧ (parseMethodDescriptor (pg_y z).desc).map (fun d => d.parameters.length) = some (pg_np z) ∧ pg_maxL z ≤ 41 ∧ (pg_mk z = 1 → (pg_y z).name = "<init>" ∧ pg_rk z = 0) ∧ pg_rk z ≤ 2 ∧ (pg_mk z = 0 → pg_own z < 7) := by
  have h2 := List.all_eq_true.mp pg_dall z (List.mem_range.mpr (Nat.lt_succ_of_le h))
  simp only [pg_dchk, Bool.and_eq_true, Bool.or_eq_true, decide_eq_true_eq, bne_iff_ne] at h2
  obtain ⟨⟨⟨⟨⟨⟨⟨⟨⟨a1, a2⟩, a3⟩, a4⟩, a5⟩, a6⟩, a7⟩, a8⟩, a9⟩, a10⟩ := h2
  exact ⟨a1, a2, a3, a4, a5, a6, fun e => a7.resolve_left (fun n => n e), a8, fun e => a9.resolve_left (fun n => n e)⟩
theorem pg_plain {z : Nat} (h : z < pg_num) : plainName (pg_y z).cls = true := (pg_d (Nat.le_of_lt h)).1
theorem pg_own_ok {z : Nat} (h : z ≤ pg_num) : (pg_y z).cls = pg_cn (pg_own z) := (pg_d h).2.1
theorem pg_desc {z : Nat} (h : z < pg_num) : (pg_y z).cls ≠ "java/lang/invoke/MethodHandle" ∧ (pg_y z).cls ≠ "java/lang/invoke/VarHandle" ∧ (parseMethodDescriptor (pg_y z).desc).map (fun d => d.parameters.length) = some (pg_np z) := ⟨(pg_d (Nat.le_of_lt h)).2.2.1, (pg_d (Nat.le_of_lt h)).2.2.2.1, (pg_d (Nat.le_of_lt h)).2.2.2.2.1⟩
theorem pg_maxL_ok {z : Nat} (h : z < pg_num) : pg_maxL z ≤ 41 := (pg_d (Nat.le_of_lt h)).2.2.2.2.2.1
theorem pg_ini_ok {y : Nat} (hy : y ≤ pg_num) (h : pg_ini y = true) : (pg_y y).name = "<init>" := ((pg_d hy).2.2.2.2.2.2.1 (by simpa [pg_ini] using h)).1
theorem pg_rk_ok (y : Nat) : (pg_rk y = 0 → pg_ret y = none) ∧ (pg_rk y = 1 → pg_ret y = some .int) ∧ (pg_rk y = 2 → pg_ret y = some .boolean) := ⟨fun h => by unfold pg_ret; rw [h]; rfl, fun h => by unfold pg_ret; rw [h]; rfl, fun h => by unfold pg_ret; rw [h]; rfl⟩
theorem pg_zok {z : Nat} (h : z < pg_num) : Cond.code (pg_y z) (pg_code z) (pg_maxL z) (pg_ret z) ∈ pg_words ∧ (if pg_mk z = 2 then Cond.static (pg_y z) else Cond.instanceMethod (pg_y z)) ∈ pg_words ∧ (pg_mk z = 0 → Cond.selects (pg_cn (pg_own z)) (pg_y z) (pg_y z) ∈ pg_words) ∧ Cond.initialized (pg_y z).cls ∈ pg_words := by
  have h2 := List.all_eq_true.mp pg_zall z (List.mem_range.mpr h)
  simp only [pg_zchk, Bool.and_eq_true, Bool.or_eq_true, bne_iff_ne] at h2
  obtain ⟨⟨a2, a3⟩, a4⟩ := h2
  exact ⟨List.mem_filter.mpr ⟨pg_call z h, rfl⟩, pg_is_mem a2, fun e => pg_is_mem (a3.resolve_left (fun n => n e)), pg_is_mem a4⟩
theorem pg_wz {z : Nat} (h : z < pg_num) : Cond.code (pg_y z) (pg_code z) (pg_maxL z) (pg_ret z) ∈ pg_words := (pg_zok h).1
theorem pg_obj_ok {z : Nat} (h : z < pg_num) (hk : pg_mk z = 0) : ∃ (T : u_T) (N : Nat), pg_cl[pg_own z]? = some (pg_cn (pg_own z), T, N) := ⟨_, _, (pg_cls ((pg_d (Nat.le_of_lt h)).2.2.2.2.2.2.2.2 hk)).1⟩
def pg_spy (z : Nat) : MethodName := if z = 1000 then objectInit else if z = 1001 then Lib.Math.max.name else if z = 1002 then Lib.Math.min.name else arraycopyName
def pg_nest : List Cond := [.methodLinkNest "TwigMerge" 84 ⟨"TwigMerge$Forest", "sameTwig", "(LTwigMerge$Forest;ILTwigMerge$Forest;II)Z"⟩ "TwigMerge", .methodLinkNest "TwigMerge$Partners" 72 ⟨"TwigMerge$Forest", "sameTwig", "(LTwigMerge$Forest;ILTwigMerge$Forest;II)Z"⟩ "TwigMerge"]
theorem pg_nest_in : ∀ w ∈ pg_nest, w ∈ lw_tbl := by
  intro w hw
  simp only [pg_nest, List.mem_cons, List.not_mem_nil, or_false] at hw
  rcases hw with rfl | rfl
  · exact List.mem_of_getElem? (i := 339) (by decide +kernel)
  · exact List.mem_of_getElem? (i := 382) (by decide +kernel)
def pg_mchk (q : Nat × Nat × Nat × Nat × Nat) : Bool := if q.2.2.1 < 1000 then (if q.2.2.2.2 = 0 then pg_is q.2.2.2.1 (.methodLink (pg_cn q.1) q.2.1 (pg_y q.2.2.1)) else (pg_mk q.2.2.1 == 2 && decide (Cond.methodLinkNest (pg_cn q.1) q.2.1 (pg_y q.2.2.1) (pg_cn 0) ∈ pg_nest))) else pg_is q.2.2.2.1 (.methodLink (pg_cn q.1) q.2.1 (pg_spy q.2.2.1))
theorem pg_mall : pg_mthL.all pg_mchk = true := by decide +kernel
theorem pg_mth_ok {own idx z : Nat} (h : pg_mth own idx = some z) : (z < 1000 → Cond.methodLink (pg_cn own) idx (pg_y z) ∈ pg_words ∨ (pg_mk z = 2 ∧ Cond.methodLinkNest (pg_cn own) idx (pg_y z) (pg_cn 0) ∈ pg_nest)) ∧ (¬ z < 1000 → Cond.methodLink (pg_cn own) idx (pg_spy z) ∈ pg_words) := by
  unfold pg_mth at h
  obtain ⟨q, hq, he⟩ := Option.map_eq_some_iff.mp h
  have h1 := List.find?_some hq
  have h2 := List.all_eq_true.mp pg_mall q (List.mem_of_find?_eq_some hq)
  simp only [Bool.and_eq_true, beq_iff_eq] at h1
  obtain ⟨rfl, rfl⟩ := h1
  subst he
  unfold pg_mchk at h2
  refine ⟨fun hz => ?_, fun hz => ?_⟩
  · rw [if_pos hz] at h2
    split at h2
    · exact Or.inl (pg_is_mem h2)
    · simp only [Bool.and_eq_true, beq_iff_eq, decide_eq_true_eq] at h2
      exact Or.inr h2
  · rw [if_neg hz] at h2
    exact pg_is_mem h2
theorem pg_num_lt : pg_num < 1000 := by decide
theorem pg_callV {own idx z : Nat} (hm : pg_mth own idx = some z) (hz : z < pg_num) (hk : pg_mk z = 0) : Cond.methodLink (pg_cn own) idx (pg_y z) ∈ pg_words ∧ Cond.instanceMethod (pg_y z) ∈ pg_words ∧ Cond.selects (pg_cn (pg_own z)) (pg_y z) (pg_y z) ∈ pg_words ∧ Cond.initialized (pg_cn (pg_own z)) ∈ pg_words := by
  obtain ⟨a1, a2, a3, a4⟩ := pg_zok hz
  rw [if_neg (by omega)] at a2
  refine ⟨?_, a2, a3 hk, ?_⟩
  · rcases (pg_mth_ok hm).1 (Nat.lt_trans hz pg_num_lt) with h | ⟨h, -⟩
    · exact h
    · omega
  · rw [← pg_own_ok (Nat.le_of_lt hz)]; exact a4
theorem pg_callI {own idx z : Nat} (hm : pg_mth own idx = some z) (hz : z < pg_num) (hk : pg_mk z = 1) : Cond.methodLink (pg_cn own) idx (pg_y z) ∈ pg_words ∧ Cond.instanceMethod (pg_y z) ∈ pg_words ∧ Cond.initialized (pg_y z).cls ∈ pg_words ∧ (pg_y z).name = "<init>" ∧ pg_ret z = none := by
  obtain ⟨a1, a2, a3, a4⟩ := pg_zok hz
  rw [if_neg (by omega)] at a2
  obtain ⟨b1, b2⟩ := (pg_d (Nat.le_of_lt hz)).2.2.2.2.2.2.1 hk
  refine ⟨?_, a2, a4, b1, (pg_rk_ok z).1 b2⟩
  rcases (pg_mth_ok hm).1 (Nat.lt_trans hz pg_num_lt) with h | ⟨h, -⟩
  · exact h
  · omega
theorem pg_callS {own idx z : Nat} (hm : pg_mth own idx = some z) (hz : z < pg_num) (hk : pg_mk z = 2) : (Cond.methodLink (pg_cn own) idx (pg_y z) ∈ pg_words ∨ Cond.methodLinkNest (pg_cn own) idx (pg_y z) (pg_cn 0) ∈ pg_nest) ∧ Cond.static (pg_y z) ∈ pg_words ∧ Cond.initialized (pg_y z).cls ∈ pg_words := by
  obtain ⟨a1, a2, a3, a4⟩ := pg_zok hz
  rw [if_pos hk] at a2
  refine ⟨?_, a2, a4⟩
  rcases (pg_mth_ok hm).1 (Nat.lt_trans hz pg_num_lt) with h | ⟨-, h⟩
  · exact Or.inl h
  · exact Or.inr h
theorem pg_sp0 {own idx : Nat} (h : pg_mth own idx = some 1000) : Cond.methodLink (pg_cn own) idx objectInit ∈ pg_words ∧ Cond.instanceMethod objectInit ∈ pg_words ∧ Cond.code objectInit ⟨#[0xb1]⟩ 1 none ∈ pg_words := ⟨(pg_mth_ok h).2 (by decide), pg_is_mem (w := 85) (by decide +kernel), pg_is_mem (w := 86) (by decide +kernel)⟩
theorem pg_sp1 {own idx : Nat} (h : pg_mth own idx = some 1001) : Cond.methodLink (pg_cn own) idx Lib.Math.max.name ∈ pg_words ∧ Cond.static Lib.Math.max.name ∈ pg_words ∧ Cond.initialized "java/lang/Math" ∈ pg_words ∧ Cond.code Lib.Math.max.name Lib.Math.max.code 2 (some .int) ∈ pg_words := ⟨(pg_mth_ok h).2 (by decide), pg_is_mem (w := 308) (by decide +kernel), pg_is_mem (w := 76) (by decide +kernel), pg_is_mem (w := 309) (by decide +kernel)⟩
theorem pg_sp2 {own idx : Nat} (h : pg_mth own idx = some 1002) : Cond.methodLink (pg_cn own) idx Lib.Math.min.name ∈ pg_words ∧ Cond.static Lib.Math.min.name ∈ pg_words ∧ Cond.initialized "java/lang/Math" ∈ pg_words ∧ Cond.code Lib.Math.min.name Lib.Math.min.code 2 (some .int) ∈ pg_words := ⟨(pg_mth_ok h).2 (by decide), pg_is_mem (w := 359) (by decide +kernel), pg_is_mem (w := 76) (by decide +kernel), pg_is_mem (w := 360) (by decide +kernel)⟩
theorem pg_sp3 {own idx : Nat} (h : pg_mth own idx = some 1003) : Cond.methodLink (pg_cn own) idx arraycopyName ∈ pg_words ∧ Cond.native arraycopyName ∈ pg_words ∧ Cond.static arraycopyName ∈ pg_words ∧ Cond.initialized "java/lang/System" ∈ pg_words := ⟨(pg_mth_ok h).2 (by decide), pg_is_mem (w := 363) (by decide +kernel), pg_is_mem (w := 362) (by decide +kernel), pg_is_mem (w := 77) (by decide +kernel)⟩
end
section
/-! The abstract machine: a store of cells by place; a reference is a place; the script is the value '.float'. -/
abbrev am_E : Type := (Nat × vp_A) ⊕ (Nat × List Value)
abbrev am_S : Type := List am_E
abbrev am_C : Type := Nat × List Value × List Value × am_S
def am_ok (v : Value) : Bool := match v with
  | .int _ => true
  | .ref _ => true
  | .null => true
  | .float _ => true
  | _ => false
def am_in (i : Int32) (n : Nat) : Bool := !(decide (i < 0)) && decide (i.toNatClampNeg < n)
def am_to (pc : Nat) (off : Int) : Nat := ((pc : Int) + off).toNat
def am_j (pc : Nat) (off : Int) (ls st : List Value) (σ : am_S) : Option am_C :=
  if (pc : Int) + off = ((am_to pc off : Nat) : Int) then some (am_to pc off, ls, st, σ) else none
def am_cond (c : Jvm.ClassFile.Cond) (x y : Int32) : Bool := match c with
  | .eq => decide (x = y)
  | .ne => decide (¬ x = y)
  | .lt => decide (x < y)
  | .ge => decide (y ≤ x)
  | .gt => decide (y < x)
  | .le => decide (x ≤ y)
def am_il (k pc' : Nat) (ls st : List Value) (σ : am_S) : Option am_C := match ls[k]? with
  | some (.int x) => some (pc', ls, .int x :: st, σ)
  | _ => none
def am_al (k pc' : Nat) (ls st : List Value) (σ : am_S) : Option am_C := match ls[k]? with
  | some (.ref x) => some (pc', ls, .ref x :: st, σ)
  | some .null => some (pc', ls, .null :: st, σ)
  | some (.float x) => some (pc', ls, .float x :: st, σ)
  | _ => none
def am_is (k pc' : Nat) (ls st : List Value) (σ : am_S) : Option am_C := match st with
  | .int x :: r => if k < ls.length then some (pc', ls.set k (.int x), r, σ) else none
  | _ => none
def am_as (k pc' : Nat) (ls st : List Value) (σ : am_S) : Option am_C := match st with
  | .ref x :: r => if k < ls.length then some (pc', ls.set k (.ref x), r, σ) else none
  | _ => none
def am_inc (k : Nat) (n : Int) (pc' : Nat) (ls st : List Value) (σ : am_S) : Option am_C := match ls[k]? with
  | some (.int x) => some (pc', ls.set k (.int (x + Int32.ofInt n)), st, σ)
  | _ => none
def am_ii (f : Int32 → Int32 → Int32) (pc : Nat) (ls st : List Value) (σ : am_S) : Option am_C := match st with
  | .int b :: .int a :: r => some (pc + 1, ls, .int (f a b) :: r, σ)
  | _ => none
def am_dv (f : Int32 → Int32 → Int32) (pc : Nat) (ls st : List Value) (σ : am_S) : Option am_C := match st with
  | .int b :: .int a :: r => if b = 0 then none else some (pc + 1, ls, .int (f a b) :: r, σ)
  | _ => none
def am_ng (pc : Nat) (ls st : List Value) (σ : am_S) : Option am_C := match st with
  | .int a :: r => some (pc + 1, ls, .int (-a) :: r, σ)
  | _ => none
def am_d0 (pc : Nat) (ls st : List Value) (σ : am_S) : Option am_C := match st with
  | a :: r => if am_ok a then some (pc + 1, ls, a :: a :: r, σ) else none
  | _ => none
def am_po (pc : Nat) (ls st : List Value) (σ : am_S) : Option am_C := match st with
  | a :: r => if am_ok a then some (pc + 1, ls, r, σ) else none
  | _ => none
def am_d1 (pc : Nat) (ls st : List Value) (σ : am_S) : Option am_C := match st with
  | a :: b :: r => if am_ok a && am_ok b then some (pc + 1, ls, a :: b :: a :: r, σ) else none
  | _ => none
def am_dx (pc : Nat) (ls st : List Value) (σ : am_S) : Option am_C := match st with
  | a :: b :: d :: r => if am_ok a && am_ok b && am_ok d then some (pc + 1, ls, a :: b :: d :: a :: r, σ) else none
  | _ => none
def am_d2 (pc : Nat) (ls st : List Value) (σ : am_S) : Option am_C := match st with
  | a :: b :: r => if am_ok a && am_ok b then some (pc + 1, ls, a :: b :: a :: b :: r, σ) else none
  | _ => none
def am_if (c : Jvm.ClassFile.Cond) (off : Int) (pc : Nat) (ls st : List Value) (σ : am_S) : Option am_C := match st with
  | .int x :: r => if (pc : Int) + off = ((am_to pc off : Nat) : Int) then (if am_cond c x 0 then some (am_to pc off, ls, r, σ) else some (pc + 3, ls, r, σ)) else none
  | _ => none
def am_ic (c : Jvm.ClassFile.Cond) (off : Int) (pc : Nat) (ls st : List Value) (σ : am_S) : Option am_C := match st with
  | .int y :: .int x :: r => if (pc : Int) + off = ((am_to pc off : Nat) : Int) then (if am_cond c x y then some (am_to pc off, ls, r, σ) else some (pc + 3, ls, r, σ)) else none
  | _ => none
def am_ts (dflt lo hi : Int) (offs : Array Int) (pc : Nat) (ls st : List Value) (σ : am_S) : Option am_C := match st with
  | .int x :: r => if x.toInt < lo ∨ hi < x.toInt then am_j pc dflt ls r σ else
    match offs[(x.toInt - lo).toNat]? with
    | some off => am_j pc off ls r σ
    | none => none
  | _ => none
def am_lk (dflt : Int) (ps : Array (Int × Int)) (pc : Nat) (ls st : List Value) (σ : am_S) : Option am_C := match st with
  | .int x :: r => if (ps.toList.zip (ps.toList.drop 1)).all (fun (a, next) => a.1 < next.1) = true then am_j pc (Op.lookupswitch.offset ps.toList dflt x.toInt) ls r σ else none
  | _ => none
/-- a field's kind: 0 an int, 1 a boolean, 2 a reference -/
def am_fit (k : Nat) (v : Value) : Bool := match v with
  | .int x => k == 0 || (k == 1 && (decide (x = 0) || decide (x = 1)))
  | .ref _ => k == 2
  | _ => false
def am_gf (own idx pc : Nat) (ls st : List Value) (σ : am_S) : Option am_C := match st with
  | .ref p :: r => match pg_fld own idx, σ[p]? with
    | some (ci, k), some (.inr (ci', fs)) => if ci' = ci then (match fs[k]? with
      | some v => some (pc + 3, ls, v :: r, σ)
      | none => none) else none
    | _, _ => none
  | _ => none
def am_pf (y own idx pc : Nat) (ls st : List Value) (σ : am_S) : Option am_C := match st with
  | v :: .ref p :: r => match pg_fld own idx, σ[p]? with
    | some (ci, k), some (.inr (ci', fs)) => if ci' = ci ∧ k < fs.length ∧ am_fit (pg_fk ci k) v = true ∧ (pg_ff ci k = true → pg_ini y = true ∧ ci = own) then some (pc + 3, ls, r, σ.set p (.inr (ci, fs.set k v))) else none
    | _, _ => none
  | _ => none
def am_ild (L : Nat) (xs : Nat → Int32) (pc : Nat) (ls st : List Value) (σ : am_S) : Option am_C := match st with
  | .int i :: .ref p :: r => (match σ[p]? with
    | some (.inl (0, (n, .inl f))) => if am_in i n then some (pc + 1, ls, .int (f i.toNatClampNeg) :: r, σ) else none
    | _ => none)
  | .int i :: .float _ :: r => if am_in i L then some (pc + 1, ls, .int (xs i.toNatClampNeg) :: r, σ) else none
  | _ => none
def am_ist (pc : Nat) (ls st : List Value) (σ : am_S) : Option am_C := match st with
  | .int x :: .int i :: .ref p :: r => (match σ[p]? with
    | some (.inl (0, (n, .inl f))) => if am_in i n then some (pc + 1, ls, r, σ.set p (.inl (0, (n, .inl (upd f i.toNatClampNeg x))))) else none
    | _ => none)
  | _ => none
def am_zld (pc : Nat) (ls st : List Value) (σ : am_S) : Option am_C := match st with
  | .int i :: .ref p :: r => (match σ[p]? with
    | some (.inl (1, (n, .inl f))) => if am_in i n then some (pc + 1, ls, .int (f i.toNatClampNeg) :: r, σ) else none
    | _ => none)
  | _ => none
def am_zst (pc : Nat) (ls st : List Value) (σ : am_S) : Option am_C := match st with
  | .int x :: .int i :: .ref p :: r => (match σ[p]? with
    | some (.inl (1, (n, .inl f))) => if am_in i n then some (pc + 1, ls, r, σ.set p (.inl (1, (n, .inl (upd f i.toNatClampNeg (vp_nar .boolean x)))))) else none
    | _ => none)
  | _ => none
/-- arrays of references: kind 2 (objects of the class pg_ae), kind 3 (rows of ints) -/
def am_ald (pc : Nat) (ls st : List Value) (σ : am_S) : Option am_C := match st with
  | .int i :: .ref p :: r => (match σ[p]? with
    | some (.inl (t, (n, .inr (.inr (.inr (.inr f)))))) => if am_in i n ∧ (t = 2 ∨ t = 3) then (match f i.toNatClampNeg with
      | some q => some (pc + 1, ls, .ref q :: r, σ)
      | none => none) else none
    | _ => none)
  | _ => none
def am_ast (pc : Nat) (ls st : List Value) (σ : am_S) : Option am_C := match st with
  | .ref v :: .int i :: .ref p :: r => (match σ[p]?, σ[v]? with
    | some (.inl (2, (n, .inr (.inr (.inr (.inr f)))))), some (.inr (ci, _)) => if am_in i n ∧ ci = pg_ae then some (pc + 1, ls, r, σ.set p (.inl (2, (n, .inr (.inr (.inr (.inr (va_up f i.toNatClampNeg (some v))))))))) else none
    | _, _ => none)
  | _ => none
def am_len (Lo : Option Nat) (pc : Nat) (ls st : List Value) (σ : am_S) : Option am_C := match st with
  | .ref p :: r => (match σ[p]? with
    | some (.inl (t, a)) => if t < 4 then some (pc + 1, ls, .int (Int32.ofNat a.1) :: r, σ) else none
    | _ => none)
  | .float _ :: r => (match Lo with
    | some L => some (pc + 1, ls, .int (Int32.ofNat L) :: r, σ)
    | none => none)
  | _ => none
def am_new (own idx pc : Nat) (ls st : List Value) (σ : am_S) : Option am_C := match pg_new own idx with
  | some ci => some (pc + 3, ls, .ref σ.length :: st, σ ++ [.inr (ci, pg_def ci)])
  | none => none
def am_na (t : ArrayType) (pc : Nat) (ls st : List Value) (σ : am_S) : Option am_C := match st with
  | .int n :: r => if n < 0 ∨ 10000 < n.toNatClampNeg then none else (match t with
    | .int => some (pc + 2, ls, .ref σ.length :: r, σ ++ [.inl (0, (n.toNatClampNeg, .inl (fun _ => 0)))])
    | .boolean => some (pc + 2, ls, .ref σ.length :: r, σ ++ [.inl (1, (n.toNatClampNeg, .inl (fun _ => 0)))])
    | _ => none)
  | _ => none
def am_ar (own idx pc : Nat) (ls st : List Value) (σ : am_S) : Option am_C := match st with
  | .int n :: r => if n < 0 ∨ 10000 < n.toNatClampNeg then none else (if pg_ana own idx = true then some (pc + 3, ls, .ref σ.length :: r, σ ++ [.inl (2, (n.toNatClampNeg, .inr (.inr (.inr (.inr (fun _ => none))))))]) else none)
  | _ => none
def am_row (k : Nat) : am_E := .inl (0, (k, .inl (fun _ => 0)))
def am_ma (own idx pc : Nat) (ls st : List Value) (σ : am_S) : Option am_C := match st with
  | .int k :: .int n :: r => if n < 0 ∨ k < 0 ∨ 10000 < n.toNatClampNeg ∨ 10000 < k.toNatClampNeg then none else (if pg_mna own idx = true then
    some (pc + 4, ls, .ref σ.length :: r, σ ++ (.inl (3, (n.toNatClampNeg, .inr (.inr (.inr (.inr (fun j => if j < n.toNatClampNeg then some (σ.length + 1 + j) else none)))))) :: List.replicate n.toNatClampNeg (am_row k.toNatClampNeg))) else none)
  | _ => none
/-- calls that are one step: 1000 Object's constructor, 1001 Math.max, 1002 Math.min, 1003 System.arraycopy -/
def am_sp (d sp pc : Nat) (ls st : List Value) (σ : am_S) : Option am_C := match d with
  | 0 => none
  | _ + 1 => match sp, st with
    | 1000, .ref _ :: r => if r.length ≤ 8 then some (pc + 3, ls, r, σ) else none
    | 1001, .int b :: .int a :: r => if r.length ≤ 8 then some (pc + 3, ls, .int (if a < b then b else a) :: r, σ) else none
    | 1002, .int b :: .int a :: r => if r.length ≤ 8 then some (pc + 3, ls, .int (if b < a then b else a) :: r, σ) else none
    | 1003, .int n :: .int dp :: .ref q :: .int sp :: .ref p :: r => (match σ[p]?, σ[q]? with
      | some (.inl (0, (n0, .inl f))), some (.inl (0, (n1, .inl g))) =>
        if r.length ≤ 8 ∧ ¬ sp < 0 ∧ ¬ dp < 0 ∧ ¬ n < 0 ∧ sp.toNatClampNeg + n.toNatClampNeg ≤ n0 ∧ dp.toNatClampNeg + n.toNatClampNeg ≤ n1
        then some (pc + 3, ls, r, σ.set q (.inl (0, (n1, .inl (va_cpy f g sp.toNatClampNeg dp.toNatClampNeg n.toNatClampNeg))))) else none
      | _, _ => none)
    | _, _ => none
def am_spc (kd d own idx pc : Nat) (ls st : List Value) (σ : am_S) : Option am_C := match pg_mth own idx with
  | some sp => if (kd = 0 ∧ sp = 1000) ∨ (kd = 1 ∧ 1000 < sp) then am_sp d sp pc ls st σ else none
  | none => none
def am_simple (L : Nat) (xs : Nat → Int32) (d y : Nat) (i : Instr) (pc : Nat) (ls st : List Value) (σ : am_S) : Option am_C := match i with
  | .iconst n => some (pc + 1, ls, .int (Int32.ofInt n) :: st, σ)
  | .bipush n => some (pc + 2, ls, .int (Int8.ofInt n).toInt32 :: st, σ)
  | .sipush n => some (pc + 3, ls, .int (Int16.ofInt n).toInt32 :: st, σ)
  | .ldc idx => match pg_ldc (pg_own y) idx with
    | some v => some (pc + 2, ls, .int v :: st, σ)
    | none => none
  | .ldc_w idx => match pg_ldc (pg_own y) idx with
    | some v => some (pc + 3, ls, .int v :: st, σ)
    | none => none
  | .iload_n k => am_il k.val (pc + 1) ls st σ
  | .iload k => am_il k (pc + 2) ls st σ
  | .aload_n k => am_al k.val (pc + 1) ls st σ
  | .aload k => am_al k (pc + 2) ls st σ
  | .istore_n k => am_is k.val (pc + 1) ls st σ
  | .istore k => am_is k (pc + 2) ls st σ
  | .astore_n k => am_as k.val (pc + 1) ls st σ
  | .astore k => am_as k (pc + 2) ls st σ
  | .iinc k n => am_inc k n (pc + 3) ls st σ
  | .iadd => am_ii (fun a b => a + b) pc ls st σ
  | .isub => am_ii (fun a b => a - b) pc ls st σ
  | .imul => am_ii (fun a b => a * b) pc ls st σ
  | .iand => am_ii (fun a b => a &&& b) pc ls st σ
  | .ior => am_ii (fun a b => a ||| b) pc ls st σ
  | .ixor => am_ii (fun a b => a ^^^ b) pc ls st σ
  | .ishl => am_ii (fun a b => a <<< (b &&& 31)) pc ls st σ
  | .ishr => am_ii (fun a b => a >>> (b &&& 31)) pc ls st σ
  | .iushr => am_ii (fun a b => (a.toUInt32 >>> (b.toUInt32 &&& Int32.toUInt32 31)).toInt32) pc ls st σ
  | .idiv => am_dv (fun a b => a / b) pc ls st σ
  | .irem => am_dv (fun a b => a - a / b * b) pc ls st σ
  | .ineg => am_ng pc ls st σ
  | .dup => am_d0 pc ls st σ
  | .pop => am_po pc ls st σ
  | .dup_x1 => am_d1 pc ls st σ
  | .dup_x2 => am_dx pc ls st σ
  | .dup2 => am_d2 pc ls st σ
  | .ifCond c off => am_if c off pc ls st σ
  | .if_icmp c off => am_ic c off pc ls st σ
  | .goto off => am_j pc off ls st σ
  | .tableswitch dflt lo hi offs => am_ts dflt lo hi offs pc ls st σ
  | .lookupswitch dflt ps => am_lk dflt ps pc ls st σ
  | .getfield idx => am_gf (pg_own y) idx pc ls st σ
  | .putfield idx => am_pf y (pg_own y) idx pc ls st σ
  | .iaload => am_ild (if y = pg_num then L else 0) (if y = pg_num then xs else fun _ => 0) pc ls st σ
  | .iastore => am_ist pc ls st σ
  | .baload => am_zld pc ls st σ
  | .bastore => am_zst pc ls st σ
  | .aaload => am_ald pc ls st σ
  | .aastore => am_ast pc ls st σ
  | .arraylength => am_len (if y = pg_num then some L else none) pc ls st σ
  | .new idx => am_new (pg_own y) idx pc ls st σ
  | .newarray t => am_na t pc ls st σ
  | .anewarray idx => am_ar (pg_own y) idx pc ls st σ
  | .multianewarray idx _ => am_ma (pg_own y) idx pc ls st σ
  | .invokespecial idx => am_spc 0 d (pg_own y) idx pc ls st σ
  | .invokestatic idx => am_spc 1 d (pg_own y) idx pc ls st σ
  | _ => none
/-- how long an instruction is -/
def am_lo (i : Instr) (len : Nat) : Bool := match i with
  | .bipush _ => len == 2
  | .sipush _ => len == 3
  | .ldc _ => len == 2
  | .ldc_w _ => len == 3
  | .iload _ => len == 2
  | .aload _ => len == 2
  | .istore _ => len == 2
  | .astore _ => len == 2
  | .iinc _ _ => len == 3
  | .ifCond _ _ => len == 3
  | .if_icmp _ _ => len == 3
  | .goto _ => len == 3
  | .tableswitch _ _ _ _ => true
  | .lookupswitch _ _ => true
  | .getfield _ => len == 3
  | .putfield _ => len == 3
  | .new _ => len == 3
  | .newarray _ => len == 2
  | .anewarray _ => len == 3
  | .multianewarray _ k => len == 4 && k == 2
  | .invokespecial _ => len == 3
  | .invokestatic _ => len == 3
  | .invokevirtual _ => len == 3
  | _ => len == 1
def am_ret (y : Nat) (i : Instr) (st : List Value) : Option (Option Value) := match i with
  | .ireturn => (match st with
    | [.int v] => if pg_rk y = 1 ∨ (pg_rk y = 2 ∧ (v = 0 ∨ v = 1)) then some (some (.int v)) else none
    | _ => none)
  | .return_ => (match st with
    | [] => if pg_rk y = 0 then some none else none
    | _ => none)
  | _ => none
/-- a call: the callee, its arguments, what stays on the stack -/
def am_cl (y : Nat) (i : Instr) (st : List Value) (σ : am_S) : Option (Nat × List Value × List Value) := match i with
  | .invokevirtual idx => (match pg_mth (pg_own y) idx with
    | some z => if z < pg_num ∧ pg_mk z = 0 then (match st.drop (pg_np z) with
      | .ref b :: r => (match σ[b]? with
        | some (.inr (ci, _)) => if ci = pg_own z ∧ r.length ≤ 4 ∧ (st.take (pg_np z)).length = pg_np z then some (z, .ref b :: (st.take (pg_np z)).reverse, r) else none
        | _ => none)
      | _ => none) else none
    | none => none)
  | .invokespecial idx => (match pg_mth (pg_own y) idx with
    | some z => if z < pg_num ∧ pg_mk z = 1 then (match st.drop (pg_np z) with
      | .ref b :: r => if r.length ≤ 4 ∧ (st.take (pg_np z)).length = pg_np z then some (z, .ref b :: (st.take (pg_np z)).reverse, r) else none
      | _ => none) else none
    | none => none)
  | .invokestatic idx => (match pg_mth (pg_own y) idx with
    | some z => if z < pg_num ∧ pg_mk z = 2 then (if (st.drop (pg_np z)).length ≤ 4 ∧ (st.take (pg_np z)).length = pg_np z then some (z, (st.take (pg_np z)).reverse, st.drop (pg_np z)) else none) else none
    | none => none)
  | _ => none
/-- the locals at a method's start -/
def am_en (z : Nat) (as : List Value) : List Value := as ++ List.replicate (pg_maxL z - as.length) (.retAddr 0)
def am_body (L : Nat) (xs : Nat → Int32) (rec : Nat → Nat → Nat → List Value → List Value → am_S → Option (Option Value × am_S)) (d y pc : Nat) (ls st : List Value) (σ : am_S) : Option (Option Value × am_S) := match decode (pg_code y) pc with
    | .error _ => none
    | .ok (i, len) => if am_lo i len = false then none else
      match am_ret y i st with
      | some r => some (r, σ)
      | none => match am_cl y i st σ with
        | some (z, as, rest) => if as.all am_ok = true ∧ as.length ≤ pg_maxL z then (match d with
          | 0 => none
          | d' + 1 => (match rec d' z 0 (am_en z as) [] σ with
            | none => none
            | some (r, σ1) => rec (d' + 1) y (pc + 3) ls (r.toList ++ rest) σ1)) else none
        | none => match am_simple L xs d y i pc ls st σ with
          | some (pc', ls', st', σ1) => rec d y pc' ls' st' σ1
          | none => none
def am_run (L : Nat) (xs : Nat → Int32) : Nat → Nat → Nat → Nat → List Value → List Value → am_S → Option (Option Value × am_S)
  | 0 => fun _ _ _ _ _ _ => none
  | n + 1 => am_body L xs (am_run L xs n)
def am_Rn (L : Nat) (xs : Nat → Int32) (d y pc : Nat) (ls st : List Value) (σ : am_S) (Q : Option Value → am_S → Prop) : Prop :=
  ∃ (n : Nat) (r : Option Value) (σ' : am_S), am_run L xs n d y pc ls st σ = some (r, σ') ∧ Q r σ'
end
section
/-! How a store of the machine lies in the heap -/
def am_cv (bs hz : Nat) (v : Value) : Value := match v with
  | .ref p => .ref (hz + p)
  | .float _ => .ref bs
  | w => w
def am_ca (hz : Nat) (a : vp_A) : vp_A := (a.1, match a.2 with
  | .inl f => .inl f
  | .inr (.inl f) => .inr (.inl f)
  | .inr (.inr (.inl f)) => .inr (.inr (.inl f))
  | .inr (.inr (.inr (.inl f))) => .inr (.inr (.inr (.inl f)))
  | .inr (.inr (.inr (.inr f))) => .inr (.inr (.inr (.inr (fun j => (f j).map (fun q => hz + q))))))
def am_ce (bs hz : Nat) (dA : Nat → ClassId) (x : am_E) : va_E := match x with
  | .inl (t, a) => .inl (dA t, am_ca hz a)
  | .inr (ci, fs) => .inr (ci, fs.map (am_cv bs hz))
def am_w (bs hz : Nat) (dA : Nat → ClassId) (σ : am_S) : va_W := σ.mapIdx (fun k x => (hz + k, am_ce bs hz dA x))
theorem am_w_get (bs hz : Nat) (dA : Nat → ClassId) (σ : am_S) (k : Nat) : (am_w bs hz dA σ)[k]? = (σ[k]?).map (fun x => (hz + k, am_ce bs hz dA x)) := by
  simp [am_w, List.getElem?_mapIdx]
theorem am_w_at {bs hz : Nat} {dA : Nat → ClassId} {σ : am_S} {k : Nat} {x : am_E} (h : σ[k]? = some x) : (am_w bs hz dA σ)[k]? = some (hz + k, am_ce bs hz dA x) := by
  rw [am_w_get, h]; rfl
theorem am_w_len (bs hz : Nat) (dA : Nat → ClassId) (σ : am_S) : (am_w bs hz dA σ).length = σ.length := by
  simp [am_w]
theorem am_w_set (bs hz : Nat) (dA : Nat → ClassId) (σ : am_S) (k : Nat) (x : am_E) : (am_w bs hz dA σ).set k (hz + k, am_ce bs hz dA x) = am_w bs hz dA (σ.set k x) := by
  apply List.ext_getElem?
  intro j
  rw [am_w_get, List.getElem?_set, List.getElem?_set, am_w_len, am_w_get]
  by_cases h : k = j
  · subst h
    by_cases h2 : k < σ.length
    · simp [h2]
    · simp [h2]
  · simp [h]
theorem am_w_push (bs hz : Nat) (dA : Nat → ClassId) (σ : am_S) (x : am_E) : am_w bs hz dA (σ ++ [x]) = am_w bs hz dA σ ++ [(hz + σ.length, am_ce bs hz dA x)] := by
  simp [am_w, List.mapIdx_append]
theorem am_w_D (bs hz : Nat) (dA : Nat → ClassId) (σ : am_S) : va_D (fun q => hz ≤ q) (am_w bs hz dA σ) := by
  refine ⟨fun i j a b hi hj hab => ?_, fun k q hk => ?_⟩
  · rw [am_w_get] at hi hj
    obtain ⟨x, -, rfl⟩ := Option.map_eq_some_iff.mp hi
    obtain ⟨z, -, rfl⟩ := Option.map_eq_some_iff.mp hj
    have : hz + i = hz + j := hab
    omega
  · rw [am_w_get] at hk
    obtain ⟨x, -, rfl⟩ := Option.map_eq_some_iff.mp hk
    exact Nat.le_add_right _ _
theorem am_cat {bs hz : Nat} {v : Value} (h : am_ok v = true) : (am_cv bs hz v).category = 1 := by
  cases v <;> first | rfl | simp [am_ok] at h
theorem am_def_cv (bs hz : Nat) {ci : Nat} (h : ci < 7) : (pg_def ci).map (am_cv bs hz) = pg_def ci := by
  match ci, h with
  | 0, _ => rfl
  | 1, _ => rfl
  | 2, _ => rfl
  | 3, _ => rfl
  | 4, _ => rfl
  | 5, _ => rfl
  | 6, _ => rfl
/-- the locals -/
def am_L (bs hz : Nat) (lsA : Array Slot) (ls : List Value) (nL : Nat) : Prop :=
  ls.length = nL ∧ lsA.size = nL ∧ lv_wf lsA ∧ ∀ (i : Nat) (v : Value), ls[i]? = some v → am_ok v = true → lsA[i]? = some (.val (am_cv bs hz v))
def am_lv (bs hz : Nat) (ls : List Value) : List (Nat × Value) := (ls.mapIdx (fun i v => (i, v))).filterMap (fun q => if am_ok q.2 = true then some (q.1, am_cv bs hz q.2) else none)
theorem am_lv_mem {bs hz : Nat} {ls : List Value} {q : Nat × Value} : q ∈ am_lv bs hz ls ↔ ∃ v, ls[q.1]? = some v ∧ am_ok v = true ∧ q.2 = am_cv bs hz v := by
  unfold am_lv
  rw [List.mem_filterMap]
  constructor
  · rintro ⟨⟨i, v⟩, h1, h2⟩
    obtain ⟨j, hj⟩ := List.getElem?_of_mem h1
    rw [List.getElem?_mapIdx] at hj
    obtain ⟨w, hw, he⟩ := Option.map_eq_some_iff.mp hj
    obtain ⟨rfl, rfl⟩ := Prod.mk.inj he
    dsimp only at h2
    split at h2
    next hok =>
      obtain rfl := Option.some.inj h2
      exact ⟨w, hw, hok, rfl⟩
    next => cases h2
  · rintro ⟨v, h1, h2, h3⟩
    refine ⟨(q.1, v), ?_, ?_⟩
    · refine List.mem_of_getElem? (i := q.1) ?_
      rw [List.getElem?_mapIdx, h1]; rfl
    · dsimp only
      rw [if_pos h2, ← h3]
theorem am_L_has {bs hz : Nat} {lsA : Array Slot} {ls : List Value} {nL : Nat} (h : am_L bs hz lsA ls nL) : lv_has lsA nL (am_lv bs hz ls) := by
  refine ⟨h.2.1, h.2.2.1, fun q hq => ?_⟩
  obtain ⟨v, h1, h2, h3⟩ := am_lv_mem.mp hq
  rw [h3]
  exact h.2.2.2 _ v h1 h2
theorem am_L_set {bs hz : Nat} {lsA ls1 : Array Slot} {ls : List Value} {nL i : Nat} {v : Value} (h : am_L bs hz lsA ls nL) (hv : am_ok v = true)
    (h1 : lv_has ls1 nL ((i, am_cv bs hz v) :: (am_lv bs hz ls).filter (fun q => !(q.1 == i) && !(q.1 + 1 == i && q.2.category == 2)))) : am_L bs hz ls1 (ls.set i v) nL := by
  refine ⟨by rw [List.length_set]; exact h.1, h1.1, h1.2.1, fun j w hj hw => ?_⟩
  rw [List.getElem?_set] at hj
  by_cases hij : i = j
  · subst hij
    rw [if_pos rfl] at hj
    split at hj
    · obtain rfl := Option.some.inj hj
      exact h1.2.2 _ List.mem_cons_self
    · cases hj
  · rw [if_neg hij] at hj
    refine h1.2.2 (j, am_cv bs hz w) (List.mem_cons_of_mem _ (List.mem_filter.mpr ⟨am_lv_mem.mpr ⟨w, hj, hw, rfl⟩, ?_⟩))
    have hc := am_cat (bs := bs) (hz := hz) hw
    simp [hc, Ne.symm hij]
theorem am_L_in {bs hz : Nat} {vs : List Value} {nL : Nat} (hn : vs.length ≤ nL) (hv : ∀ v ∈ vs, am_ok v = true) :
    am_L bs hz ((lg_sl (vs.map (am_cv bs hz)) ++ List.replicate (nL - (lg_sl (vs.map (am_cv bs hz))).length) Slot.unset).toArray) (vs ++ List.replicate (nL - vs.length) (.retAddr 0)) nL ∧ (lg_sl (vs.map (am_cv bs hz))).length ≤ nL := by
  have hsl : ∀ (us : List Value), (∀ v ∈ us, am_ok v = true) → (lg_sl (us.map (am_cv bs hz))) = us.map (fun v => Slot.val (am_cv bs hz v)) := by
    intro us
    induction us with
    | nil => intro _; rfl
    | cons u us ih =>
      intro h
      have hc := am_cat (bs := bs) (hz := hz) (h u List.mem_cons_self)
      have h2 := ih (fun v hv => h v (List.mem_cons_of_mem _ hv))
      unfold lg_sl at h2 ⊢
      simp only [List.map_cons, List.flatMap_cons, hc, h2]
      rfl
  have he := hsl vs hv
  have hlen : (lg_sl (vs.map (am_cv bs hz))).length ≤ nL := by rw [he, List.length_map]; exact hn
  have hE := lv_entry (vs.map (am_cv bs hz)) hlen
  refine ⟨⟨by simp; omega, hE.1, hE.2.1, fun i v hi hok => ?_⟩, hlen⟩
  by_cases hi2 : i < vs.length
  · rw [List.getElem?_append_left hi2] at hi
    rw [List.getElem?_toArray, he, List.getElem?_append_left (by rw [List.length_map]; exact hi2), List.getElem?_map, hi]
    rfl
  · rw [List.getElem?_append_right (by omega)] at hi
    have := List.mem_of_getElem? hi
    rw [List.mem_replicate] at this
    rw [this.2] at hok
    cases hok
/-- slots in use -/
def am_z (x : am_E) : Nat := match x with
  | .inl (_, a) => a.1
  | .inr (_, fs) => fs.length
def am_ns (σ : am_S) : Nat := (σ.map am_z).sum
theorem am_ns_set {σ : am_S} {k : Nat} {x x' : am_E} (h : σ[k]? = some x) (hx : am_z x' = am_z x) : am_ns (σ.set k x') = am_ns σ := by
  unfold am_ns
  congr 1
  apply List.ext_getElem?
  intro j
  rw [List.getElem?_map, List.getElem?_map, List.getElem?_set]
  by_cases hj : k = j
  · subst hj
    have hl := (List.getElem?_eq_some_iff.mp h).1
    rw [if_pos rfl, if_pos hl, h]
    simp only [Option.map_some, hx]
  · rw [if_neg hj]
theorem am_ns_setE {σ : am_S} {k n : Nat} {x x' : am_E} (h : σ[k]? = some x) (hx : am_z x' = am_z x) : n + am_ns σ = n + am_ns (σ.set k x') := by rw [am_ns_set h hx]
theorem am_ns_app (σ τ : am_S) : am_ns (σ ++ τ) = am_ns σ + am_ns τ := by
  simp [am_ns]
/-- the dynamic part: the store lies in the heap, nothing below hz has changed, so many cells are new -/
def am_Dy (bs hz : Nat) (dC : Nat → ClassId) (dI : Nat → Nat → Nat) (dA : Nat → ClassId) (s : State) (H : Heap) (locs : List Loc) (cells : Nat) (σ : am_S) : Prop :=
  va_P (dC, dI) pg_cl (am_w bs hz dA σ) H ∧ va_S (fun q => hz ≤ q) s.heap H locs ∧ s.heap.size + cells = hz + σ.length
/-- what else is known of the tables: the arrays' classes, the links to a nest mate's method -/
def am_OA (U : State) : Prop := ∃ (comp cA : ClassId) (kA : Class), U.vm.findClass (FieldType.array .int).toString = some comp ∧ U.vm.classes[cA]? = some kA ∧ kA.kind = .array comp (.array .int) ∧ U.vm.findClass ("[" ++ (FieldType.array .int).toString) = some cA
theorem am_OA.moved {u U : State} (hvm : u.vm.Alike U.vm) (h : am_OA u) : am_OA U := by
  obtain ⟨comp, cA, kA, h1, h2, h3, h4⟩ := h
  obtain ⟨k', hk', he⟩ := hvm.2.2 _ _ h2
  exact ⟨comp, cA, k', by rw [hvm.findClass]; exact h1, hk', by rw [he]; exact h3, by rw [hvm.findClass]; exact h4⟩
def am_X0 (U : State) : Prop := va_AO (pg_cn pg_ae) U ∧ am_OA U ∧ ∀ w ∈ pg_nest, va_Nw w U
theorem am_X0.warm {u U : State} (hW : u.WarmedH U.vm) (h : am_X0 u) : am_X0 U := by
  refine ⟨h.1.moved hW.alike, h.2.1.moved hW.alike, fun w hw => ?_⟩
  have h2 := h.2.2 w hw
  simp only [pg_nest, List.mem_cons, List.not_mem_nil, or_false] at hw
  rcases hw with rfl | rfl
  · exact va_Nw.warmM hW h2
  · exact va_Nw.warmM hW h2
theorem am_X0.same {u U : State} (e : u.vm = U.vm) (h : am_X0 u) : am_X0 U := by
  refine ⟨h.1.moved (by rw [e]; exact Vm.Alike.refl _), h.2.1.moved (by rw [e]; exact Vm.Alike.refl _), fun w hw => ?_⟩
  have h2 := h.2.2 w hw
  simp only [pg_nest, List.mem_cons, List.not_mem_nil, or_false] at hw
  rcases hw with rfl | rfl
  · exact va_Nw.same rfl e h2
  · exact va_Nw.same rfl e h2
/-- the static part -/
def am_Fr (bs hz : Nat) (dC : Nat → ClassId) (dI : Nat → Nat → Nat) (dA : Nat → ClassId) (L : Nat) (xs : Nat → Int32) (p : Program) (R : Room) (s : State) (m : MethodId) (args : Array Value) (meth : Method) (c : Code) (d y : Nat) : Prop :=
  p.tables.exec = Jvm.exec ∧ c.code = pg_code y ∧ c.maxLocals = pg_maxL y ∧ meth.sig.returnType = pg_ret y ∧ meth.locks = false ∧ (pg_ini y = true → meth.name = (pg_y y).name) ∧ s.vm.findClass (pg_cn (pg_own y)) = some m.cls ∧
  (∀ w ∈ pg_words, w.before args s = true) ∧ va_K (dC, dI) pg_cl (pg_tys dA) s ∧ va_X bs L xs s s.heap ∧ bs < hz ∧ hz ≤ s.heap.size ∧ d ≤ R.frames ∧ 60 * d ≤ R.locals ∧ y ≤ pg_num ∧ am_X0 s
section amW
variable {p : Program} {l : Launch} {e : Env} {R : Room} {s : State} {m : MethodId} {args : Array Value} {below : List Frame} {meth : Method} {c : Code} {H : Heap} {locs : List Loc} {cells slots : Nat} {Q : State → Prop}
variable {bs hz : Nat} {dC : Nat → ClassId} {dI : Nat → Nat → Nat} {dA : Nat → ClassId} {L : Nat} {xs : Nat → Int32}
/-- the heap's size is known: it ends behind the store -/
theorem am_size {σ : am_S} {g : JFrame} (hD : am_Dy bs hz dC dI dA s H locs cells σ) (hh : hz ≤ s.heap.size) (k : H.size = hz + σ.length → W p l e R s m args below meth c H locs cells slots Q g) : W p l e R s m args below meth c H locs cells slots Q g := by
  intro T hT X
  refine k ?_ T hT X
  have h1 : T.heap.size ≤ s.heap.size + cells := X.same.2.2.1
  rw [hT] at h1
  obtain ⟨hP, hS, hc⟩ := hD
  have h2 : hz + σ.length ≤ H.size := by
    by_cases h0 : σ.length = 0
    · have := hS.1
      omega
    · have hg : σ[σ.length - 1]? = some (σ[σ.length - 1]'(by omega)) := List.getElem?_eq_getElem (by omega)
      have := (hP _ _ (am_w_at hg)).lt
      dsimp only at this
      omega
  omega
end amW
end
section
/-! One step of the abstract machine is a step of the machine -/
theorem am_in_of {i : Int32} {n : Nat} (h : am_in i n = true) : vp_in i n := by
  simp only [am_in, Bool.and_eq_true, Bool.not_eq_true', decide_eq_false_iff_not, decide_eq_true_eq] at h
  rintro (h1 | h1)
  · exact h.1 h1
  · omega
section amS
variable {p : Program} {l : Launch} {e : Env} {R : Room} {s : State} {m : MethodId} {args : Array Value} {below : List Frame} {meth : Method} {c : Code} {H : Heap} {locs : List Loc} {cells slots : Nat} {Q : State → Prop}
variable {bs hz : Nat} {dC : Nat → ClassId} {dI : Nat → Nat → Nat} {dA : Nat → ClassId} {L : Nat} {xs : Nat → Int32}
variable {d y pc : Nat} {ls st ls' st' : List Value} {σ σ1 : am_S} {lsA : Array Slot} {pc' len : Nat}
/-- what is to be shown of a step -/
abbrev am_G (p : Program) (l : Launch) (e : Env) (R : Room) (s : State) (m : MethodId) (args : Array Value) (below : List Frame) (meth : Method) (c : Code) (H : Heap) (locs : List Loc) (cells slots : Nat) (Q : State → Prop)
    (bs hz : Nat) (dC : Nat → ClassId) (dI : Nat → Nat → Nat) (dA : Nat → ClassId) (y pc : Nat) (st : List Value) (σ : am_S) (lsA : Array Slot) (pc' : Nat) (ls' st' : List Value) (σ1 : am_S) : Prop :=
  (∀ (H1 : Heap) (locs1 : List Loc) (cells1 slots1 : Nat) (lsA1 : Array Slot), am_Dy bs hz dC dI dA s H1 locs1 cells1 σ1 → am_L bs hz lsA1 ls' (pg_maxL y) → cells1 + σ.length = cells + σ1.length → slots1 + am_ns σ = slots + am_ns σ1 →
    W p l e R s m args below meth c H1 locs1 cells1 slots1 Q (F0 m pc' lsA1 (st'.map (am_cv bs hz)))) →
  W p l e R s m args below meth c H locs cells slots Q (F0 m pc lsA (st.map (am_cv bs hz)))
theorem am_s_il {i : Instr} {k : Nat} (hF : am_Fr bs hz dC dI dA L xs p R s m args meth c d y) (hD : am_Dy bs hz dC dI dA s H locs cells σ) (hL : am_L bs hz lsA ls (pg_maxL y))
    (hd : decode (pg_code y) pc = .ok (i, len)) (hi : (∃ q : Fin 4, i = .iload_n q ∧ q.val = k ∧ len = 1) ∨ (i = .iload k ∧ len = 2)) (hs : am_il k (pc + len) ls st σ = some (pc', ls', st', σ1)) :
    am_G p l e R s m args below meth c H locs cells slots Q bs hz dC dI dA y pc st σ lsA pc' ls' st' σ1 := by
  intro kk
  unfold am_il at hs
  split at hs
  next x hx1 =>
    obtain ⟨rfl, rfl, rfl, rfl⟩ : pc + len = pc' ∧ ls = ls' ∧ Value.int x :: st = st' ∧ σ = σ1 := by simpa using hs
    have hg := hL.2.2.2 k _ hx1 rfl
    have kk := kk H locs cells slots lsA hD hL rfl rfl
    rcases hi with ⟨q, rfl, hq, rfl⟩ | ⟨rfl, rfl⟩
    · exact lv_iload_n hF.1 hF.2.1 hd hq hg kk
    · exact lv_iload hF.1 hF.2.1 hd hg kk
  next => cases hs
theorem am_s_al {i : Instr} {k : Nat} (hF : am_Fr bs hz dC dI dA L xs p R s m args meth c d y) (hD : am_Dy bs hz dC dI dA s H locs cells σ) (hL : am_L bs hz lsA ls (pg_maxL y))
    (hd : decode (pg_code y) pc = .ok (i, len)) (hi : (∃ q : Fin 4, i = .aload_n q ∧ q.val = k ∧ len = 1) ∨ (i = .aload k ∧ len = 2)) (hs : am_al k (pc + len) ls st σ = some (pc', ls', st', σ1)) :
    am_G p l e R s m args below meth c H locs cells slots Q bs hz dC dI dA y pc st σ lsA pc' ls' st' σ1 := by
  intro kk
  unfold am_al at hs
  split at hs
  next x hx1 =>
    obtain ⟨rfl, rfl, rfl, rfl⟩ : pc + len = pc' ∧ ls = ls' ∧ Value.ref x :: st = st' ∧ σ = σ1 := by simpa using hs
    have hg := hL.2.2.2 k _ hx1 rfl
    have kk := kk H locs cells slots lsA hD hL rfl rfl
    rcases hi with ⟨q, rfl, hq, rfl⟩ | ⟨rfl, rfl⟩
    · exact lv_aload_n hF.1 hF.2.1 hd hq hg kk
    · exact lv_aload hF.1 hF.2.1 hd hg kk
  next hx1 =>
    obtain ⟨rfl, rfl, rfl, rfl⟩ : pc + len = pc' ∧ ls = ls' ∧ Value.null :: st = st' ∧ σ = σ1 := by simpa using hs
    have hg := hL.2.2.2 k _ hx1 rfl
    have kk := kk H locs cells slots lsA hD hL rfl rfl
    rcases hi with ⟨q, rfl, hq, rfl⟩ | ⟨rfl, rfl⟩
    · exact lv_aload_nN hF.1 hF.2.1 hd hq hg kk
    · exact lv_aloadN hF.1 hF.2.1 hd hg kk
  next x hx1 =>
    obtain ⟨rfl, rfl, rfl, rfl⟩ : pc + len = pc' ∧ ls = ls' ∧ Value.float x :: st = st' ∧ σ = σ1 := by simpa using hs
    have hg := hL.2.2.2 k _ hx1 rfl
    have kk := kk H locs cells slots lsA hD hL rfl rfl
    rcases hi with ⟨q, rfl, hq, rfl⟩ | ⟨rfl, rfl⟩
    · exact lv_aload_n hF.1 hF.2.1 hd hq hg kk
    · exact lv_aload hF.1 hF.2.1 hd hg kk
  next => cases hs
theorem am_s_is {i : Instr} {k : Nat} (hF : am_Fr bs hz dC dI dA L xs p R s m args meth c d y) (hD : am_Dy bs hz dC dI dA s H locs cells σ) (hL : am_L bs hz lsA ls (pg_maxL y))
    (hd : decode (pg_code y) pc = .ok (i, len)) (hi : (∃ q : Fin 4, i = .istore_n q ∧ q.val = k ∧ len = 1) ∨ (i = .istore k ∧ len = 2)) (hs : am_is k (pc + len) ls st σ = some (pc', ls', st', σ1)) :
    am_G p l e R s m args below meth c H locs cells slots Q bs hz dC dI dA y pc st σ lsA pc' ls' st' σ1 := by
  intro kk
  unfold am_is at hs
  split at hs
  next x r =>
    split at hs
    next hk =>
      obtain ⟨rfl, rfl, rfl, rfl⟩ : pc + len = pc' ∧ ls.set k (.int x) = ls' ∧ r = st' ∧ σ = σ1 := by simpa using hs
      rw [hL.1] at hk
      rcases hi with ⟨q, rfl, hq, rfl⟩ | ⟨rfl, rfl⟩
      · exact lv_istore_n hF.1 hF.2.1 hd hq (am_L_has hL) hk rfl (fun ls1 h1 => kk H locs cells slots ls1 hD (am_L_set hL (v := .int x) rfl h1) rfl rfl)
      · exact lv_istore hF.1 hF.2.1 hd (am_L_has hL) hk rfl (fun ls1 h1 => kk H locs cells slots ls1 hD (am_L_set hL (v := .int x) rfl h1) rfl rfl)
    next => cases hs
  next => cases hs
theorem am_s_as {i : Instr} {k : Nat} (hF : am_Fr bs hz dC dI dA L xs p R s m args meth c d y) (hD : am_Dy bs hz dC dI dA s H locs cells σ) (hL : am_L bs hz lsA ls (pg_maxL y))
    (hd : decode (pg_code y) pc = .ok (i, len)) (hi : (∃ q : Fin 4, i = .astore_n q ∧ q.val = k ∧ len = 1) ∨ (i = .astore k ∧ len = 2)) (hs : am_as k (pc + len) ls st σ = some (pc', ls', st', σ1)) :
    am_G p l e R s m args below meth c H locs cells slots Q bs hz dC dI dA y pc st σ lsA pc' ls' st' σ1 := by
  intro kk
  unfold am_as at hs
  split at hs
  next x r =>
    split at hs
    next hk =>
      obtain ⟨rfl, rfl, rfl, rfl⟩ : pc + len = pc' ∧ ls.set k (.ref x) = ls' ∧ r = st' ∧ σ = σ1 := by simpa using hs
      rw [hL.1] at hk
      rcases hi with ⟨q, rfl, hq, rfl⟩ | ⟨rfl, rfl⟩
      · exact lv_astore_n hF.1 hF.2.1 hd hq (am_L_has hL) hk rfl (fun ls1 h1 => kk H locs cells slots ls1 hD (am_L_set hL (v := .ref x) rfl h1) rfl rfl)
      · exact lv_astore hF.1 hF.2.1 hd (am_L_has hL) hk rfl (fun ls1 h1 => kk H locs cells slots ls1 hD (am_L_set hL (v := .ref x) rfl h1) rfl rfl)
    next => cases hs
  next => cases hs
theorem am_s_inc {k : Nat} {n : Int} (hF : am_Fr bs hz dC dI dA L xs p R s m args meth c d y) (hD : am_Dy bs hz dC dI dA s H locs cells σ) (hL : am_L bs hz lsA ls (pg_maxL y))
    (hd : decode (pg_code y) pc = .ok (.iinc k n, 3)) (hs : am_inc k n (pc + 3) ls st σ = some (pc', ls', st', σ1)) :
    am_G p l e R s m args below meth c H locs cells slots Q bs hz dC dI dA y pc st σ lsA pc' ls' st' σ1 := by
  intro kk
  unfold am_inc at hs
  split at hs
  next x hx1 =>
    obtain ⟨rfl, rfl, rfl, rfl⟩ : pc + 3 = pc' ∧ ls.set k (.int (x + Int32.ofInt n)) = ls' ∧ st = st' ∧ σ = σ1 := by simpa using hs
    have hk : k < pg_maxL y := by rw [← hL.1]; exact (List.getElem?_eq_some_iff.mp hx1).1
    obtain ⟨j, hj⟩ := List.getElem?_of_mem (am_lv_mem (bs := bs) (hz := hz) (q := (k, .int x)) |>.mpr ⟨_, hx1, rfl, rfl⟩)
    exact lv_iinc hF.1 hF.2.1 hd (am_L_has hL) hj rfl hk rfl (fun ls1 h1 => kk H locs cells slots ls1 hD (am_L_set hL (v := .int (x + Int32.ofInt n)) rfl h1) rfl rfl)
  next => cases hs
theorem am_s_ii {i : Instr} {f : Int32 → Int32 → Int32} (hD : am_Dy bs hz dC dI dA s H locs cells σ) (hL : am_L bs hz lsA ls (pg_maxL y))
    (row : ∀ (a b : Int32) (rest : List Value), W p l e R s m args below meth c H locs cells slots Q (F0 m (pc + 1) lsA (.int (f a b) :: rest)) → W p l e R s m args below meth c H locs cells slots Q (F0 m pc lsA (.int b :: .int a :: rest)))
    (hs : am_ii f pc ls st σ = some (pc', ls', st', σ1)) :
    am_G p l e R s m args below meth c H locs cells slots Q bs hz dC dI dA y pc st σ lsA pc' ls' st' σ1 := by
  intro kk
  unfold am_ii at hs
  split at hs
  next b a r =>
    obtain ⟨rfl, rfl, rfl, rfl⟩ : pc + 1 = pc' ∧ ls = ls' ∧ Value.int (f a b) :: r = st' ∧ σ = σ1 := by simpa using hs
    exact row a b _ (kk H locs cells slots lsA hD hL rfl rfl)
  next => cases hs
theorem am_s_dv {i : Instr} {f : Int32 → Int32 → Int32} (hD : am_Dy bs hz dC dI dA s H locs cells σ) (hL : am_L bs hz lsA ls (pg_maxL y))
    (row : ∀ (a b : Int32) (rest : List Value), ¬ b = 0 → W p l e R s m args below meth c H locs cells slots Q (F0 m (pc + 1) lsA (.int (f a b) :: rest)) → W p l e R s m args below meth c H locs cells slots Q (F0 m pc lsA (.int b :: .int a :: rest)))
    (hs : am_dv f pc ls st σ = some (pc', ls', st', σ1)) :
    am_G p l e R s m args below meth c H locs cells slots Q bs hz dC dI dA y pc st σ lsA pc' ls' st' σ1 := by
  intro kk
  unfold am_dv at hs
  split at hs
  next b a r =>
    split at hs
    next => cases hs
    next hb0 =>
      obtain ⟨rfl, rfl, rfl, rfl⟩ : pc + 1 = pc' ∧ ls = ls' ∧ Value.int (f a b) :: r = st' ∧ σ = σ1 := by simpa using hs
      exact row a b _ hb0 (kk H locs cells slots lsA hD hL rfl rfl)
  next => cases hs
theorem am_s_if {cnd : Jvm.ClassFile.Cond} {off : Int} (hF : am_Fr bs hz dC dI dA L xs p R s m args meth c d y) (hD : am_Dy bs hz dC dI dA s H locs cells σ) (hL : am_L bs hz lsA ls (pg_maxL y))
    (hd : decode (pg_code y) pc = .ok (.ifCond cnd off, 3)) (hs : am_if cnd off pc ls st σ = some (pc', ls', st', σ1)) :
    am_G p l e R s m args below meth c H locs cells slots Q bs hz dC dI dA y pc st σ lsA pc' ls' st' σ1 := by
  intro kk
  unfold am_if at hs
  split at hs
  next x r =>
    split at hs
    next ht =>
      by_cases hc : am_cond cnd x 0 = true
      · rw [if_pos hc] at hs
        obtain ⟨rfl, rfl, rfl, rfl⟩ : am_to pc off = pc' ∧ ls = ls' ∧ r = st' ∧ σ = σ1 := by simpa using hs
        have kk := kk H locs cells slots lsA hD hL rfl rfl
        cases cnd <;> simp only [am_cond, decide_eq_true_eq] at hc
        · exact lv_if_eq hF.1 hF.2.1 hd ht (fun _ => kk) (fun h => absurd hc h)
        · exact lv_if_ne hF.1 hF.2.1 hd ht (fun _ => kk) (fun h => absurd h hc)
        · exact lv_if_lt hF.1 hF.2.1 hd ht (fun _ => kk) (fun h => absurd hc h)
        · exact lv_if_ge hF.1 hF.2.1 hd ht (fun _ => kk) (fun h => absurd hc h)
        · exact lv_if_gt hF.1 hF.2.1 hd ht (fun _ => kk) (fun h => absurd hc h)
        · exact lv_if_le hF.1 hF.2.1 hd ht (fun _ => kk) (fun h => absurd hc h)
      · rw [if_neg hc] at hs
        obtain ⟨rfl, rfl, rfl, rfl⟩ : pc + 3 = pc' ∧ ls = ls' ∧ r = st' ∧ σ = σ1 := by simpa using hs
        have kk := kk H locs cells slots lsA hD hL rfl rfl
        cases cnd <;> simp only [am_cond, decide_eq_true_eq] at hc
        · exact lv_if_eq hF.1 hF.2.1 hd ht (fun h => absurd h hc) (fun _ => kk)
        · exact lv_if_ne hF.1 hF.2.1 hd ht (fun h => absurd h hc) (fun _ => kk)
        · exact lv_if_lt hF.1 hF.2.1 hd ht (fun h => absurd h hc) (fun _ => kk)
        · exact lv_if_ge hF.1 hF.2.1 hd ht (fun h => absurd h hc) (fun _ => kk)
        · exact lv_if_gt hF.1 hF.2.1 hd ht (fun h => absurd h hc) (fun _ => kk)
        · exact lv_if_le hF.1 hF.2.1 hd ht (fun h => absurd h hc) (fun _ => kk)
    next => cases hs
  next => cases hs
theorem am_s_ic {cnd : Jvm.ClassFile.Cond} {off : Int} (hF : am_Fr bs hz dC dI dA L xs p R s m args meth c d y) (hD : am_Dy bs hz dC dI dA s H locs cells σ) (hL : am_L bs hz lsA ls (pg_maxL y))
    (hd : decode (pg_code y) pc = .ok (.if_icmp cnd off, 3)) (hs : am_ic cnd off pc ls st σ = some (pc', ls', st', σ1)) :
    am_G p l e R s m args below meth c H locs cells slots Q bs hz dC dI dA y pc st σ lsA pc' ls' st' σ1 := by
  intro kk
  unfold am_ic at hs
  split at hs
  next z x r =>
    split at hs
    next ht =>
      by_cases hc : am_cond cnd x z = true
      · rw [if_pos hc] at hs
        obtain ⟨rfl, rfl, rfl, rfl⟩ : am_to pc off = pc' ∧ ls = ls' ∧ r = st' ∧ σ = σ1 := by simpa using hs
        have kk := kk H locs cells slots lsA hD hL rfl rfl
        cases cnd <;> simp only [am_cond, decide_eq_true_eq] at hc
        · exact lv_icmp_eq hF.1 hF.2.1 hd ht (fun _ => kk) (fun h => absurd hc h)
        · exact lv_icmp_ne hF.1 hF.2.1 hd ht (fun _ => kk) (fun h => absurd h hc)
        · exact lv_icmp_lt hF.1 hF.2.1 hd ht (fun _ => kk) (fun h => absurd hc h)
        · exact lv_icmp_ge hF.1 hF.2.1 hd ht (fun _ => kk) (fun h => absurd hc h)
        · exact lv_icmp_gt hF.1 hF.2.1 hd ht (fun _ => kk) (fun h => absurd hc h)
        · exact lv_icmp_le hF.1 hF.2.1 hd ht (fun _ => kk) (fun h => absurd hc h)
      · rw [if_neg hc] at hs
        obtain ⟨rfl, rfl, rfl, rfl⟩ : pc + 3 = pc' ∧ ls = ls' ∧ r = st' ∧ σ = σ1 := by simpa using hs
        have kk := kk H locs cells slots lsA hD hL rfl rfl
        cases cnd <;> simp only [am_cond, decide_eq_true_eq] at hc
        · exact lv_icmp_eq hF.1 hF.2.1 hd ht (fun h => absurd h hc) (fun _ => kk)
        · exact lv_icmp_ne hF.1 hF.2.1 hd ht (fun h => absurd h hc) (fun _ => kk)
        · exact lv_icmp_lt hF.1 hF.2.1 hd ht (fun h => absurd h hc) (fun _ => kk)
        · exact lv_icmp_ge hF.1 hF.2.1 hd ht (fun h => absurd h hc) (fun _ => kk)
        · exact lv_icmp_gt hF.1 hF.2.1 hd ht (fun h => absurd h hc) (fun _ => kk)
        · exact lv_icmp_le hF.1 hF.2.1 hd ht (fun h => absurd h hc) (fun _ => kk)
    next => cases hs
  next => cases hs
theorem am_s_ts {dflt lo hi : Int} {offs : Array Int} (hF : am_Fr bs hz dC dI dA L xs p R s m args meth c d y) (hD : am_Dy bs hz dC dI dA s H locs cells σ) (hL : am_L bs hz lsA ls (pg_maxL y))
    (hd : decode (pg_code y) pc = .ok (.tableswitch dflt lo hi offs, len)) (hs : am_ts dflt lo hi offs pc ls st σ = some (pc', ls', st', σ1)) :
    am_G p l e R s m args below meth c H locs cells slots Q bs hz dC dI dA y pc st σ lsA pc' ls' st' σ1 := by
  intro kk
  unfold am_ts at hs
  split at hs
  next x r =>
    split at hs
    next hout =>
      unfold am_j at hs
      split at hs
      next ht =>
        obtain ⟨rfl, rfl, rfl, rfl⟩ : am_to pc dflt = pc' ∧ ls = ls' ∧ r = st' ∧ σ = σ1 := by simpa using hs
        exact lv_tableOut hF.1 hF.2.1 hd hout ht (kk H locs cells slots lsA hD hL rfl rfl)
      next => cases hs
    next hin =>
      split at hs
      next off ho =>
        unfold am_j at hs
        split at hs
        next ht =>
          obtain ⟨rfl, rfl, rfl, rfl⟩ : am_to pc off = pc' ∧ ls = ls' ∧ r = st' ∧ σ = σ1 := by simpa using hs
          exact lv_tableIn hF.1 hF.2.1 hd (fun h => hin (Or.inl h)) (fun h => hin (Or.inr h)) ho ht (kk H locs cells slots lsA hD hL rfl rfl)
        next => cases hs
      next => cases hs
  next => cases hs
theorem am_s_lk {dflt : Int} {ps : Array (Int × Int)} (hF : am_Fr bs hz dC dI dA L xs p R s m args meth c d y) (hD : am_Dy bs hz dC dI dA s H locs cells σ) (hL : am_L bs hz lsA ls (pg_maxL y))
    (hd : decode (pg_code y) pc = .ok (.lookupswitch dflt ps, len)) (hs : am_lk dflt ps pc ls st σ = some (pc', ls', st', σ1)) :
    am_G p l e R s m args below meth c H locs cells slots Q bs hz dC dI dA y pc st σ lsA pc' ls' st' σ1 := by
  intro kk
  unfold am_lk at hs
  split at hs
  next x r =>
    split at hs
    next hp =>
      unfold am_j at hs
      split at hs
      next ht =>
        obtain ⟨rfl, rfl, rfl, rfl⟩ : am_to pc (Op.lookupswitch.offset ps.toList dflt x.toInt) = pc' ∧ ls = ls' ∧ r = st' ∧ σ = σ1 := by simpa using hs
        exact lv_lookup hF.1 hF.2.1 hd hp rfl ht (kk H locs cells slots lsA hD hL rfl rfl)
      next => cases hs
    next => cases hs
  next => cases hs
theorem am_s_goto {off : Int} (hF : am_Fr bs hz dC dI dA L xs p R s m args meth c d y) (hD : am_Dy bs hz dC dI dA s H locs cells σ) (hL : am_L bs hz lsA ls (pg_maxL y))
    (hd : decode (pg_code y) pc = .ok (.goto off, 3)) (hs : am_j pc off ls st σ = some (pc', ls', st', σ1)) :
    am_G p l e R s m args below meth c H locs cells slots Q bs hz dC dI dA y pc st σ lsA pc' ls' st' σ1 := by
  intro kk
  unfold am_j at hs
  split at hs
  next ht =>
    obtain ⟨rfl, rfl, rfl, rfl⟩ : am_to pc off = pc' ∧ ls = ls' ∧ st = st' ∧ σ = σ1 := by simpa using hs
    exact lv_goto hF.1 hF.2.1 hd ht (kk H locs cells slots lsA hD hL rfl rfl)
  next => cases hs
end amS
end
section
/-! The steps that read or write the store -/
theorem am_fit_ok {bs hz k : Nat} {ty : FieldType} {v : Value} (hk : am_kd ty = k) (h : am_fit k v = true) : narrow ty (am_cv bs hz v) = am_cv bs hz v ∧ fits ty (am_cv bs hz v) = true := by
  subst hk
  cases v with
  | int x =>
    simp only [am_fit, Bool.or_eq_true, Bool.and_eq_true, beq_iff_eq, decide_eq_true_eq] at h
    rcases h with h | ⟨h, hx⟩
    · cases ty <;> simp [am_kd] at h
      exact ⟨rfl, rfl⟩
    · cases ty <;> simp [am_kd] at h
      rcases hx with rfl | rfl
      · exact ⟨show narrow .boolean (.int 0) = .int 0 by decide +kernel, show fits .boolean (.int 0) = true by decide +kernel⟩
      · exact ⟨show narrow .boolean (.int 1) = .int 1 by decide +kernel, show fits .boolean (.int 1) = true by decide +kernel⟩
  | ref a =>
    simp only [am_fit, beq_iff_eq] at h
    cases ty <;> simp [am_kd] at h
    · exact ⟨rfl, rfl⟩
    · exact ⟨rfl, rfl⟩
  | _ => simp [am_fit] at h
section amS
variable {p : Program} {l : Launch} {e : Env} {R : Room} {s : State} {m : MethodId} {args : Array Value} {below : List Frame} {meth : Method} {c : Code} {H : Heap} {locs : List Loc} {cells slots : Nat} {Q : State → Prop}
variable {bs hz : Nat} {dC : Nat → ClassId} {dI : Nat → Nat → Nat} {dA : Nat → ClassId} {L : Nat} {xs : Nat → Int32}
variable {d y pc : Nat} {ls st ls' st' : List Value} {σ σ1 : am_S} {lsA : Array Slot} {pc' len : Nat}
theorem am_Fr.words (hF : am_Fr bs hz dC dI dA L xs p R s m args meth c d y) : ∀ w ∈ pg_words, w.before args s = true := hF.2.2.2.2.2.2.2.1
theorem am_Fr.own (hF : am_Fr bs hz dC dI dA L xs p R s m args meth c d y) : s.vm.findClass (pg_cn (pg_own y)) = some m.cls := hF.2.2.2.2.2.2.1
theorem am_Fr.K (hF : am_Fr bs hz dC dI dA L xs p R s m args meth c d y) : va_K (dC, dI) pg_cl (pg_tys dA) s := hF.2.2.2.2.2.2.2.2.1
theorem am_Fr.X (hF : am_Fr bs hz dC dI dA L xs p R s m args meth c d y) : va_X bs L xs s s.heap := hF.2.2.2.2.2.2.2.2.2.1
theorem am_Fr.bl (hF : am_Fr bs hz dC dI dA L xs p R s m args meth c d y) : bs < hz := hF.2.2.2.2.2.2.2.2.2.2.1
theorem am_Fr.hl (hF : am_Fr bs hz dC dI dA L xs p R s m args meth c d y) : hz ≤ s.heap.size := hF.2.2.2.2.2.2.2.2.2.2.2.1
theorem am_Fr.fr (hF : am_Fr bs hz dC dI dA L xs p R s m args meth c d y) : d ≤ R.frames := hF.2.2.2.2.2.2.2.2.2.2.2.2.1
theorem am_Fr.lo (hF : am_Fr bs hz dC dI dA L xs p R s m args meth c d y) : 60 * d ≤ R.locals := hF.2.2.2.2.2.2.2.2.2.2.2.2.2.1
theorem am_Fr.num (hF : am_Fr bs hz dC dI dA L xs p R s m args meth c d y) : y ≤ pg_num := hF.2.2.2.2.2.2.2.2.2.2.2.2.2.2.1
theorem am_Fr.x0 (hF : am_Fr bs hz dC dI dA L xs p R s m args meth c d y) : am_X0 s := hF.2.2.2.2.2.2.2.2.2.2.2.2.2.2.2
theorem am_s_gf {idx : Nat} (hF : am_Fr bs hz dC dI dA L xs p R s m args meth c d y) (hD : am_Dy bs hz dC dI dA s H locs cells σ) (hL : am_L bs hz lsA ls (pg_maxL y))
    (hd : decode (pg_code y) pc = .ok (.getfield idx, 3)) (hs : am_gf (pg_own y) idx pc ls st σ = some (pc', ls', st', σ1)) :
    am_G p l e R s m args below meth c H locs cells slots Q bs hz dC dI dA y pc st σ lsA pc' ls' st' σ1 := by
  intro kk
  unfold am_gf at hs
  split at hs
  next q r =>
    split at hs
    next ci k ci' fs hfl hsq =>
      split at hs
      next hci =>
        subst hci
        split at hs
        next v hv =>
          obtain ⟨rfl, rfl, rfl, rfl⟩ : pc + 3 = pc' ∧ ls = ls' ∧ v :: r = st' ∧ σ = σ1 := by simpa using hs
          obtain ⟨C, T, N, ty, hcl, hkN, hin, hlk, hty, hnm, hkd, hfin, hdecl, hC⟩ := pg_fld_ok hfl
          refine va_get (D := (dC, dI)) hF.1 hF.2.1 hF.words hin hF.own hF.K hD.1 q (am_w_at hsq) hcl k hkN (hF.words _ hlk) (fun _ h => h) (v := am_cv bs hz v) (by rw [List.getElem?_map, hv]; rfl) hd ?_
          exact kk H locs cells slots lsA hD hL rfl rfl
        next => cases hs
      next => cases hs
    next => cases hs
  next => cases hs
theorem am_Dy.put {x x' : am_E} {k : Nat} {H1 : Heap} {locs1 : List Loc} (hD : am_Dy bs hz dC dI dA s H locs cells σ) (hk : σ[k]? = some x)
    (hP : va_P (dC, dI) pg_cl ((am_w bs hz dA σ).set k (hz + k, am_ce bs hz dA x')) H1) (hS : va_S (fun q => hz ≤ q) s.heap H1 locs1) : am_Dy bs hz dC dI dA s H1 locs1 cells (σ.set k x') := by
  refine ⟨by rw [am_w_set] at hP; exact hP, hS, by rw [List.length_set]; exact hD.2.2⟩
theorem am_s_pf {idx : Nat} (hF : am_Fr bs hz dC dI dA L xs p R s m args meth c d y) (hD : am_Dy bs hz dC dI dA s H locs cells σ) (hL : am_L bs hz lsA ls (pg_maxL y))
    (hd : decode (pg_code y) pc = .ok (.putfield idx, 3)) (hs : am_pf y (pg_own y) idx pc ls st σ = some (pc', ls', st', σ1)) :
    am_G p l e R s m args below meth c H locs cells slots Q bs hz dC dI dA y pc st σ lsA pc' ls' st' σ1 := by
  intro kk
  unfold am_pf at hs
  split at hs
  next v q r =>
    split at hs
    next ci k ci' fs hfl hsq =>
      split at hs
      next hc =>
        obtain ⟨rfl, hkl, hft, hff⟩ := hc
        obtain ⟨rfl, rfl, rfl, rfl⟩ : pc + 3 = pc' ∧ ls = ls' ∧ r = st' ∧ σ.set q (.inr (ci', fs.set k v)) = σ1 := by simpa using hs
        obtain ⟨C, T, N, ty, hcl, hkN, hin, hlk, hty, hnm, hkd, hfin, hdecl, hC⟩ := pg_fld_ok hfl
        obtain ⟨hn, hf⟩ := am_fit_ok (bs := bs) (hz := hz) hkd hft
        have hez : am_ns (σ.set q (.inr (ci', fs.set k v))) = am_ns σ := am_ns_set hsq (by simp [am_z])
        have fin : ∀ (H1 : Heap) (locs1 : List Loc), va_P (dC, dI) pg_cl ((am_w bs hz dA σ).set q (hz + q, .inr (ci', (fs.map (am_cv bs hz)).set k (am_cv bs hz v)))) H1 → va_D (fun q => hz ≤ q) ((am_w bs hz dA σ).set q (hz + q, .inr (ci', (fs.map (am_cv bs hz)).set k (am_cv bs hz v)))) → va_S (fun q => hz ≤ q) s.heap H1 locs1 →
            W p l e R s m args below meth c H1 locs1 cells slots Q (F0 m (pc + 3) lsA (r.map (am_cv bs hz))) := by
          intro H1 locs1 h1 h2 h3
          refine kk H1 locs1 cells slots lsA (hD.put hsq (x' := .inr (ci', fs.set k v)) ?_ h3) hL (by rw [List.length_set]) (by rw [hez])
          have e1 : am_ce bs hz dA (.inr (ci', fs.set k v)) = .inr (ci', (fs.map (am_cv bs hz)).set k (am_cv bs hz v)) := by
            simp [am_ce, List.map_set]
          rw [e1]; exact h1
        cases hfb : pg_ff ci' k with
        | false =>
          refine va_put (D := (dC, dI)) hF.1 hF.2.1 hF.words hin ty hty hnm hF.own hF.K hD.1 (am_w_D bs hz dA σ) hD.2.1 q (am_w_at hsq) hcl k hkN (hF.words _ hlk) (fun _ h => h) (by rw [hfin]; exact hfb) (ty := ty k) (hty k hkN) hn hf (by rw [List.length_map]; exact hkl) hd fin
        | true =>
          obtain ⟨hini, hown⟩ := hff hfb
          refine va_putF (D := (dC, dI)) hF.1 hF.2.1 hF.words hin ty hty hnm hF.own hF.K hD.1 (am_w_D bs hz dA σ) hD.2.1 q (am_w_at hsq) hcl k hkN (hF.words _ hlk) (fun _ h => h) (by rw [hfin]; exact hfb) ((hF.2.2.2.2.2.1 hini).trans (pg_ini_ok hF.num hini)) (by rw [hdecl, hC, hown]) (ty := ty k) (hty k hkN) hn hf (by rw [List.length_map]; exact hkl) hd fin
      next => cases hs
    next => cases hs
  next => cases hs
theorem am_s_ild (hF : am_Fr bs hz dC dI dA L xs p R s m args meth c d y) (hD : am_Dy bs hz dC dI dA s H locs cells σ) (hL : am_L bs hz lsA ls (pg_maxL y))
    (hd : decode (pg_code y) pc = .ok (.iaload, 1)) {L' : Nat} {xs' : Nat → Int32} (hLx : (L' = L ∧ xs' = xs) ∨ L' = 0) (hs : am_ild L' xs' pc ls st σ = some (pc', ls', st', σ1)) :
    am_G p l e R s m args below meth c H locs cells slots Q bs hz dC dI dA y pc st σ lsA pc' ls' st' σ1 := by
  intro kk
  unfold am_ild at hs
  split at hs
  next i q r =>
    split at hs
    next n f hsq =>
      split at hs
      next hi =>
        obtain ⟨rfl, rfl, rfl, rfl⟩ : pc + 1 = pc' ∧ ls = ls' ∧ Value.int (f i.toNatClampNeg) :: r = st' ∧ σ = σ1 := by simpa using hs
        exact va_iald hF.1 hF.2.1 hF.K hD.1 q 0 (cA := dA 0) (n := n) (f := f) (am_w_at hsq) rfl (am_in_of hi) hd (kk H locs cells slots lsA hD hL rfl rfl)
      next => cases hs
    next => cases hs
  next i z r =>
    split at hs
    next hi =>
      rcases hLx with ⟨rfl, rfl⟩ | rfl
      case inr => exact absurd (am_in_of hi) (fun h => h (Or.inr (Nat.zero_le _)))
      obtain ⟨rfl, rfl, rfl, rfl⟩ : pc + 1 = pc' ∧ ls = ls' ∧ Value.int (xs' i.toNatClampNeg) :: r = st' ∧ σ = σ1 := by simpa using hs
      exact va_sld hF.1 hF.2.1 hF.X (Nat.lt_of_lt_of_le hF.bl hF.hl) (Nat.not_le.mpr hF.bl) hD.2.1 (am_in_of hi) hd (kk H locs cells slots lsA hD hL rfl rfl)
    next => cases hs
  next => cases hs
theorem am_s_ist (hF : am_Fr bs hz dC dI dA L xs p R s m args meth c d y) (hD : am_Dy bs hz dC dI dA s H locs cells σ) (hL : am_L bs hz lsA ls (pg_maxL y))
    (hd : decode (pg_code y) pc = .ok (.iastore, 1)) (hs : am_ist pc ls st σ = some (pc', ls', st', σ1)) :
    am_G p l e R s m args below meth c H locs cells slots Q bs hz dC dI dA y pc st σ lsA pc' ls' st' σ1 := by
  intro kk
  unfold am_ist at hs
  split at hs
  next x i q r =>
    split at hs
    next n f hsq =>
      split at hs
      next hi =>
        obtain ⟨rfl, rfl, rfl, rfl⟩ : pc + 1 = pc' ∧ ls = ls' ∧ r = st' ∧ σ.set q (.inl (0, (n, .inl (upd f i.toNatClampNeg x)))) = σ1 := by simpa using hs
        exact va_iast hF.1 hF.2.1 hF.K hD.1 (am_w_D bs hz dA σ) hD.2.1 q 0 (cA := dA 0) (n := n) (f := f) (am_w_at hsq) rfl (am_in_of hi) hd (fun H1 locs1 h1 _ h3 =>
          kk H1 locs1 cells slots lsA (hD.put hsq (x' := .inl (0, (n, .inl (upd f i.toNatClampNeg x)))) h1 h3) hL (by rw [List.length_set]) (by apply am_ns_setE hsq; rfl))
      next => cases hs
    next => cases hs
  next => cases hs
theorem am_s_zld (hF : am_Fr bs hz dC dI dA L xs p R s m args meth c d y) (hD : am_Dy bs hz dC dI dA s H locs cells σ) (hL : am_L bs hz lsA ls (pg_maxL y))
    (hd : decode (pg_code y) pc = .ok (.baload, 1)) (hs : am_zld pc ls st σ = some (pc', ls', st', σ1)) :
    am_G p l e R s m args below meth c H locs cells slots Q bs hz dC dI dA y pc st σ lsA pc' ls' st' σ1 := by
  intro kk
  unfold am_zld at hs
  split at hs
  next i q r =>
    split at hs
    next n f hsq =>
      split at hs
      next hi =>
        obtain ⟨rfl, rfl, rfl, rfl⟩ : pc + 1 = pc' ∧ ls = ls' ∧ Value.int (f i.toNatClampNeg) :: r = st' ∧ σ = σ1 := by simpa using hs
        exact va_zald hF.1 hF.2.1 hF.K hD.1 q 1 (cA := dA 1) (n := n) (f := f) (am_w_at hsq) rfl (am_in_of hi) hd (kk H locs cells slots lsA hD hL rfl rfl)
      next => cases hs
    next => cases hs
  next => cases hs
theorem am_s_zst (hF : am_Fr bs hz dC dI dA L xs p R s m args meth c d y) (hD : am_Dy bs hz dC dI dA s H locs cells σ) (hL : am_L bs hz lsA ls (pg_maxL y))
    (hd : decode (pg_code y) pc = .ok (.bastore, 1)) (hs : am_zst pc ls st σ = some (pc', ls', st', σ1)) :
    am_G p l e R s m args below meth c H locs cells slots Q bs hz dC dI dA y pc st σ lsA pc' ls' st' σ1 := by
  intro kk
  unfold am_zst at hs
  split at hs
  next x i q r =>
    split at hs
    next n f hsq =>
      split at hs
      next hi =>
        obtain ⟨rfl, rfl, rfl, rfl⟩ : pc + 1 = pc' ∧ ls = ls' ∧ r = st' ∧ σ.set q (.inl (1, (n, .inl (upd f i.toNatClampNeg (vp_nar .boolean x))))) = σ1 := by simpa using hs
        exact va_zast hF.1 hF.2.1 hF.K hD.1 (am_w_D bs hz dA σ) hD.2.1 q 1 (cA := dA 1) (n := n) (f := f) (am_w_at hsq) rfl (am_in_of hi) hd (fun H1 locs1 h1 _ h3 =>
          kk H1 locs1 cells slots lsA (hD.put hsq (x' := .inl (1, (n, .inl (upd f i.toNatClampNeg (vp_nar .boolean x))))) h1 h3) hL (by rw [List.length_set]) (by apply am_ns_setE hsq; rfl))
      next => cases hs
    next => cases hs
  next => cases hs
theorem am_s_ald (hF : am_Fr bs hz dC dI dA L xs p R s m args meth c d y) (hD : am_Dy bs hz dC dI dA s H locs cells σ) (hL : am_L bs hz lsA ls (pg_maxL y))
    (hd : decode (pg_code y) pc = .ok (.aaload, 1)) (hs : am_ald pc ls st σ = some (pc', ls', st', σ1)) :
    am_G p l e R s m args below meth c H locs cells slots Q bs hz dC dI dA y pc st σ lsA pc' ls' st' σ1 := by
  intro kk
  unfold am_ald at hs
  split at hs
  next i q r =>
    split at hs
    next t n f hsq =>
      split at hs
      next hi =>
        split at hs
        next v hv =>
          obtain ⟨rfl, rfl, rfl, rfl⟩ : pc + 1 = pc' ∧ ls = ls' ∧ Value.ref v :: r = st' ∧ σ = σ1 := by simpa using hs
          obtain ⟨hi, ht⟩ := hi
          have hin := am_in_of hi
          have hlt : i.toNatClampNeg < n := Nat.not_le.mp fun q => hin (Or.inr q)
          have kk := kk H locs cells slots lsA hD hL rfl rfl
          have hcell : H[hz + q]? = some (arrV (dA t) n (fun j => va_rf ((f j).map (fun z => hz + z)))) := hD.1 q _ (am_w_at hsq)
          have hrd : (arrV (dA t) n (fun j => va_rf ((f j).map (fun z => hz + z)))).slots[i.toNatClampNeg]? = some (.ref (hz + v)) := by
            rw [arrV_read _ _ hlt, hv]; rfl
          rcases ht with rfl | rfl
          · exact W.aald (v := .ref (hz + v)) (ty := .object (pg_cn pg_ae)) hF.1 hF.2.1 hcell ((hF.K.2 2 _ rfl).1 n _) rfl (fun q => by cases q) (by rw [arrV_size]; exact hin) hrd rfl rfl hd kk
          · exact W.aald (v := .ref (hz + v)) (ty := .array .int) hF.1 hF.2.1 hcell ((hF.K.2 3 _ rfl).1 n _) rfl (fun q => by cases q) (by rw [arrV_size]; exact hin) hrd rfl rfl hd kk
        next => cases hs
      next => cases hs
    next => cases hs
  next => cases hs
theorem am_s_ast (hF : am_Fr bs hz dC dI dA L xs p R s m args meth c d y) (hD : am_Dy bs hz dC dI dA s H locs cells σ) (hL : am_L bs hz lsA ls (pg_maxL y))
    (hd : decode (pg_code y) pc = .ok (.aastore, 1)) (hs : am_ast pc ls st σ = some (pc', ls', st', σ1)) :
    am_G p l e R s m args below meth c H locs cells slots Q bs hz dC dI dA y pc st σ lsA pc' ls' st' σ1 := by
  intro kk
  unfold am_ast at hs
  split at hs
  next v i q r =>
    split at hs
    next n f ci vs hsq hsv =>
      split at hs
      next hi =>
        obtain ⟨hi, rfl⟩ := hi
        obtain ⟨rfl, rfl, rfl, rfl⟩ : pc + 1 = pc' ∧ ls = ls' ∧ r = st' ∧ σ.set q (.inl (2, (n, .inr (.inr (.inr (.inr (va_up f i.toNatClampNeg (some v)))))))) = σ1 := by simpa using hs
        obtain ⟨T, N, hcl⟩ := pg_ae_ok
        refine va_astq hF.1 hF.2.1 hF.K hD.1 (am_w_D bs hz dA σ) hD.2.1 q 2 v pg_ae (cA := dA 2) (r := (pg_cn pg_ae, T, N)) (n := n) (f := fun j => (f j).map (fun z => hz + z)) (am_w_at hsq) rfl (am_w_at hsv) hcl (am_in_of hi) hd (fun H1 locs1 h1 _ h3 => ?_)
        refine kk H1 locs1 cells slots lsA (hD.put hsq (x' := .inl (2, (n, .inr (.inr (.inr (.inr (va_up f i.toNatClampNeg (some v)))))))) ?_ h3) hL (by rw [List.length_set]) (by apply am_ns_setE hsq; rfl)
        have e1 : (fun j => (va_up f i.toNatClampNeg (some v) j).map (fun z => hz + z)) = va_up (fun j => (f j).map (fun z => hz + z)) i.toNatClampNeg (some (hz + v)) := by
          funext j
          unfold va_up
          split <;> rfl
        show va_P (dC, dI) pg_cl ((am_w bs hz dA σ).set q (hz + q, .inl (dA 2, (n, .inr (.inr (.inr (.inr (fun j => (va_up f i.toNatClampNeg (some v) j).map (fun z => hz + z))))))))) H1
        rw [e1]
        exact h1
      next => cases hs
    next => cases hs
  next => cases hs
theorem am_s_len (hF : am_Fr bs hz dC dI dA L xs p R s m args meth c d y) (hD : am_Dy bs hz dC dI dA s H locs cells σ) (hL : am_L bs hz lsA ls (pg_maxL y))
    (hd : decode (pg_code y) pc = .ok (.arraylength, 1)) {Lo : Option Nat} (hLo : Lo = some L ∨ Lo = none) (hs : am_len Lo pc ls st σ = some (pc', ls', st', σ1)) :
    am_G p l e R s m args below meth c H locs cells slots Q bs hz dC dI dA y pc st σ lsA pc' ls' st' σ1 := by
  intro kk
  unfold am_len at hs
  split at hs
  next q r =>
    split at hs
    next t a hsq =>
      split at hs
      next ht =>
        obtain ⟨rfl, rfl, rfl, rfl⟩ : pc + 1 = pc' ∧ ls = ls' ∧ Value.int (Int32.ofNat a.1) :: r = st' ∧ σ = σ1 := by simpa using hs
        have kk := kk H locs cells slots lsA hD hL rfl rfl
        have hty : ∃ ty, (pg_tys dA)[t]? = some (dA t, ty) := by
          match t, ht with
          | 0, _ => exact ⟨_, rfl⟩
          | 1, _ => exact ⟨_, rfl⟩
          | 2, _ => exact ⟨_, rfl⟩
          | 3, _ => exact ⟨_, rfl⟩
        obtain ⟨ty, hty⟩ := hty
        exact va_alen hF.1 hF.2.1 hF.K hD.1 q t (cA := dA t) (x := am_ca hz a) (am_w_at hsq) hty (v := Int32.ofNat a.1) rfl hd kk
      next => cases hs
    next => cases hs
  next z r =>
    rcases hLo with rfl | rfl
    case inr => cases hs
    obtain ⟨rfl, rfl, rfl, rfl⟩ : pc + 1 = pc' ∧ ls = ls' ∧ Value.int (Int32.ofNat L) :: r = st' ∧ σ = σ1 := by simpa using hs
    exact va_slen hF.1 hF.2.1 hF.X (Nat.lt_of_lt_of_le hF.bl hF.hl) (Nat.not_le.mpr hF.bl) hD.2.1 hd (kk H locs cells slots lsA hD hL rfl rfl)
  next => cases hs
/-- a new cell lies at the next place -/
theorem am_Dy.new {x : am_E} {q : Nat} {H1 : Heap} (hh : hz ≤ s.heap.size) (hD : am_Dy bs hz dC dI dA s H locs cells σ)
    (hP : va_P (dC, dI) pg_cl (am_w bs hz dA σ ++ [(q, am_ce bs hz dA x)]) H1) (hDD : va_D (fun q => hz ≤ q) (am_w bs hz dA σ ++ [(q, am_ce bs hz dA x)])) (hS : va_S (fun q => hz ≤ q) s.heap H1 locs)
    {g : JFrame} (k : q = hz + σ.length → am_Dy bs hz dC dI dA s H1 locs (cells + 1) (σ ++ [x]) → W p l e R s m args below meth c H1 locs (cells + 1) slots Q g) : W p l e R s m args below meth c H1 locs (cells + 1) slots Q g := by
  intro T hT X
  have h1 : T.heap.size ≤ s.heap.size + (cells + 1) := X.same.2.2.1
  rw [hT] at h1
  have hc := hD.2.2
  have hl := am_w_len bs hz dA σ
  have hat : (am_w bs hz dA σ ++ [(q, am_ce bs hz dA x)])[σ.length]? = some (q, am_ce bs hz dA x) := by
    rw [List.getElem?_append_right (by omega), hl, Nat.sub_self]; rfl
  have h2 : q < H1.size := (hP _ _ hat).lt
  have h3 : hz ≤ q := hDD.2 _ _ hat
  have h4 : ∀ k, k < σ.length → q ≠ hz + k := by
    intro k hk he
    have hg : σ[k]? = some (σ[k]'hk) := List.getElem?_eq_getElem hk
    have h5 : (am_w bs hz dA σ ++ [(q, am_ce bs hz dA x)])[k]? = some (hz + k, am_ce bs hz dA (σ[k]'hk)) := by
      rw [List.getElem?_append_left (by omega)]; exact am_w_at hg
    have := hDD.1 _ _ _ _ hat h5 he
    omega
  have hq : q = hz + σ.length := by
    by_cases h6 : q < hz + σ.length
    · exact absurd (show q = hz + (q - hz) by omega) (h4 (q - hz) (by omega))
    · omega
  subst hq
  exact k rfl ⟨by rw [am_w_push]; exact hP, hS, by rw [List.length_append]; simp; omega⟩ T hT X
theorem am_s_new {idx : Nat} (hF : am_Fr bs hz dC dI dA L xs p R s m args meth c d y) (hD : am_Dy bs hz dC dI dA s H locs cells σ) (hL : am_L bs hz lsA ls (pg_maxL y))
    (hd : decode (pg_code y) pc = .ok (.new idx, 3)) (hs : am_new (pg_own y) idx pc ls st σ = some (pc', ls', st', σ1)) (hrc : cells + σ1.length ≤ R.cells + σ.length) (hrs : slots + am_ns σ1 ≤ R.slots + am_ns σ) :
    am_G p l e R s m args below meth c H locs cells slots Q bs hz dC dI dA y pc st σ lsA pc' ls' st' σ1 := by
  intro kk
  unfold am_new at hs
  split at hs
  next ci hn =>
    obtain ⟨rfl, rfl, rfl, rfl⟩ : pc + 3 = pc' ∧ ls = ls' ∧ Value.ref σ.length :: st = st' ∧ σ ++ [.inr (ci, pg_def ci)] = σ1 := by simpa using hs
    obtain ⟨C, T, N, ty, hcl, hin, hty, hlk, hins, hini, hlen, hdef, hci⟩ := pg_new_ok hn
    have hcv := am_def_cv bs hz hci
    have hz1 : am_ns [.inr (ci, pg_def ci)] = N := by simp [am_ns, am_z, hlen]
    rw [am_ns_app, hz1] at hrs
    rw [List.length_append, List.length_singleton] at hrc
    refine va_new (c0 := c) (D := (dC, dI)) hF.1 hF.2.1 hF.words hin ty hty hF.own (hF.words _ hlk) (hF.words _ hins) (hF.words _ hini) hF.K hD.1 (am_w_D bs hz dA σ) hD.2.1 (fun q h => Nat.le_trans hF.hl h) hcl (fs := pg_def ci) hdef (by omega) (by omega) hd (fun q H1 h1 h2 h3 => ?_)
    have e1 : am_ce bs hz dA (.inr (ci, pg_def ci)) = .inr (ci, pg_def ci) := by simp only [am_ce]; rw [hcv]
    rw [← e1] at h1 h2
    refine am_Dy.new hF.hl hD h1 h2 h3 (fun hq hD1 => ?_)
    subst hq
    exact kk H1 locs (cells + 1) (slots + N) lsA hD1 hL (by rw [List.length_append, List.length_singleton]; omega) (by rw [am_ns_app, hz1]; omega)
  next => cases hs
theorem am_s_na {t : ArrayType} (hF : am_Fr bs hz dC dI dA L xs p R s m args meth c d y) (hD : am_Dy bs hz dC dI dA s H locs cells σ) (hL : am_L bs hz lsA ls (pg_maxL y))
    (hd : decode (pg_code y) pc = .ok (.newarray t, 2)) (hs : am_na t pc ls st σ = some (pc', ls', st', σ1)) (hrc : cells + σ1.length ≤ R.cells + σ.length) (hrs : slots + am_ns σ1 ≤ R.slots + am_ns σ) :
    am_G p l e R s m args below meth c H locs cells slots Q bs hz dC dI dA y pc st σ lsA pc' ls' st' σ1 := by
  intro kk
  unfold am_na at hs
  split at hs
  next n r =>
    split at hs
    next => cases hs
    next hn =>
      have hn0 : ¬ n < 0 := fun h => hn (Or.inl h)
      have hn1 : n.toNatClampNeg ≤ 10000 := Nat.not_lt.mp fun h => hn (Or.inr h)
      split at hs
      · obtain ⟨rfl, rfl, rfl, rfl⟩ : pc + 2 = pc' ∧ ls = ls' ∧ Value.ref σ.length :: r = st' ∧ σ ++ [.inl (0, (n.toNatClampNeg, .inl (fun _ => 0)))] = σ1 := by simpa using hs
        have hz1 : am_ns [.inl (0, (n.toNatClampNeg, .inl (fun _ => 0)))] = n.toNatClampNeg := by simp [am_ns, am_z]
        rw [am_ns_app, hz1] at hrs
        rw [List.length_append, List.length_singleton] at hrc
        refine va_newa (ty := .int) hF.1 hF.2.1 (hF.words _ pg_ac_int) rfl hF.K hD.1 (am_w_D bs hz dA σ) hD.2.1 (fun q h => Nat.le_trans hF.hl h) (a0 := (n.toNatClampNeg, .inl (fun _ => 0))) (fun _ => rfl) hn0 rfl (by simp only [componentBytes]; omega) (by omega) (by omega) hd (fun q cA H1 hK1 h1 h2 h3 => ?_)
        have e0 : dA 0 = cA := Option.some.inj ((hF.K.2 0 _ rfl).2.symm.trans (hK1.2 4 (cA, .int) rfl).2)
        subst e0
        refine am_Dy.new (x := .inl (0, (n.toNatClampNeg, .inl (fun _ => 0)))) hF.hl hD h1 h2 h3 (fun hq hD1 => ?_)
        subst hq
        exact kk H1 locs (cells + 1) (slots + n.toNatClampNeg) lsA hD1 hL (by rw [List.length_append, List.length_singleton]; omega) (by rw [am_ns_app, hz1]; omega)
      · obtain ⟨rfl, rfl, rfl, rfl⟩ : pc + 2 = pc' ∧ ls = ls' ∧ Value.ref σ.length :: r = st' ∧ σ ++ [.inl (1, (n.toNatClampNeg, .inl (fun _ => 0)))] = σ1 := by simpa using hs
        have hz1 : am_ns [.inl (1, (n.toNatClampNeg, .inl (fun _ => 0)))] = n.toNatClampNeg := by simp [am_ns, am_z]
        rw [am_ns_app, hz1] at hrs
        rw [List.length_append, List.length_singleton] at hrc
        refine va_newa (ty := .boolean) hF.1 hF.2.1 (hF.words _ pg_ac_bool) rfl hF.K hD.1 (am_w_D bs hz dA σ) hD.2.1 (fun q h => Nat.le_trans hF.hl h) (a0 := (n.toNatClampNeg, .inl (fun _ => 0))) (fun _ => rfl) hn0 rfl (by simp only [componentBytes]; omega) (by omega) (by omega) hd (fun q cA H1 hK1 h1 h2 h3 => ?_)
        have e0 : dA 1 = cA := Option.some.inj ((hF.K.2 1 _ rfl).2.symm.trans (hK1.2 4 (cA, .boolean) rfl).2)
        subst e0
        refine am_Dy.new (x := .inl (1, (n.toNatClampNeg, .inl (fun _ => 0)))) hF.hl hD h1 h2 h3 (fun hq hD1 => ?_)
        subst hq
        exact kk H1 locs (cells + 1) (slots + n.toNatClampNeg) lsA hD1 hL (by rw [List.length_append, List.length_singleton]; omega) (by rw [am_ns_app, hz1]; omega)
      · cases hs
  next => cases hs
theorem am_s_ar {idx : Nat} (hF : am_Fr bs hz dC dI dA L xs p R s m args meth c d y) (hD : am_Dy bs hz dC dI dA s H locs cells σ) (hL : am_L bs hz lsA ls (pg_maxL y))
    (hd : decode (pg_code y) pc = .ok (.anewarray idx, 3)) (hs : am_ar (pg_own y) idx pc ls st σ = some (pc', ls', st', σ1)) (hrc : cells + σ1.length ≤ R.cells + σ.length) (hrs : slots + am_ns σ1 ≤ R.slots + am_ns σ) :
    am_G p l e R s m args below meth c H locs cells slots Q bs hz dC dI dA y pc st σ lsA pc' ls' st' σ1 := by
  intro kk
  unfold am_ar at hs
  split at hs
  next n r =>
    split at hs
    next => cases hs
    next hn =>
      have hn0 : ¬ n < 0 := fun h => hn (Or.inl h)
      have hn1 : n.toNatClampNeg ≤ 10000 := Nat.not_lt.mp fun h => hn (Or.inr h)
      split at hs
      next hana =>
        obtain ⟨rfl, rfl, rfl, rfl⟩ : pc + 3 = pc' ∧ ls = ls' ∧ Value.ref σ.length :: r = st' ∧ σ ++ [.inl (2, (n.toNatClampNeg, .inr (.inr (.inr (.inr (fun _ => none))))))] = σ1 := by simpa using hs
        have hz1 : am_ns [.inl (2, (n.toNatClampNeg, .inr (.inr (.inr (.inr (fun _ => none))))))] = n.toNatClampNeg := by simp [am_ns, am_z]
        rw [am_ns_app, hz1] at hrs
        rw [List.length_append, List.length_singleton] at hrc
        have hlk := pg_ana_ok hana
        refine va_newq hF.1 hF.2.1 hF.own (hF.words _ hlk) hF.x0.1 hF.K hD.1 (am_w_D bs hz dA σ) hD.2.1 (fun q h => Nat.le_trans hF.hl h) hn0 rfl (by omega) (by omega) (by omega) hd (fun q cA H1 hK1 h1 h2 h3 => ?_)
        have e0 : dA 2 = cA := by
          obtain ⟨_, _, _, _, _, h6⟩ := (hF.K.2 2 _ rfl).2
          obtain ⟨_, _, _, _, _, h7⟩ := (hK1.2 4 (cA, .object (pg_cn pg_ae)) rfl).2
          exact Option.some.inj (h6.symm.trans h7)
        subst e0
        refine am_Dy.new (x := .inl (2, (n.toNatClampNeg, .inr (.inr (.inr (.inr (fun _ => none))))))) hF.hl hD h1 h2 h3 (fun hq hD1 => ?_)
        subst hq
        exact kk H1 locs (cells + 1) (slots + n.toNatClampNeg) lsA hD1 hL (by rw [List.length_append, List.length_singleton]; omega) (by rw [am_ns_app, hz1]; omega)
      next => cases hs
  next => cases hs
end amS
end
section
/-! An array of rows of ints, made at once: the outer array, then its rows, one behind the other -/
def mw_i (comp : ClassId) (M : Nat) : Cell := arrV comp M (fun _ => .int 0)
def mw_o (k : ClassId) (N h0 i : Nat) : Cell := arrV k N (fun j => if j < i then .ref (h0 + 1 + j) else .null)
def mw_s (s : State) (k comp : ClassId) (N M : Nat) : Nat → State
  | 0 => s.pushCell (mw_o k N s.heap.size 0)
  | i + 1 => ((mw_s s k comp N M i).pushCell (mw_i comp M)).setCell s.heap.size (mw_o k N s.heap.size (i + 1))
theorem mw_next (k : ClassId) (N h0 i : Nat) : (mw_o k N h0 i).setSlot i (.ref (h0 + 1 + i)) = mw_o k N h0 (i + 1) := by
  unfold mw_o
  rw [arrV_store]
  congr 1
  funext j
  unfold updV
  by_cases h : j = i
  · rw [if_pos h, if_pos (by omega), h]
  · rw [if_neg h]
    dsimp only
    by_cases h2 : j < i
    · rw [if_pos h2, if_pos (by omega)]
    · rw [if_neg h2, if_neg (by omega)]
theorem mw_facts (s : State) (k comp : ClassId) (N M : Nat) : ∀ i, (mw_s s k comp N M i).heap.size = s.heap.size + 1 + i ∧ (mw_s s k comp N M i).heap[s.heap.size]? = some (mw_o k N s.heap.size i) ∧ (mw_s s k comp N M i).vm = s.vm ∧ (mw_s s k comp N M i).slotsUsed = s.slotsUsed + N + i * M
  | 0 => ⟨by simp [mw_s], by simp [mw_s], rfl, by simp [mw_s, mw_o, arrV_size]⟩
  | i + 1 => by
    obtain ⟨a, b, d, u⟩ := mw_facts s k comp N M i
    have hlt : s.heap.size < (mw_s s k comp N M i).heap.size := by omega
    have hb' : ((mw_s s k comp N M i).pushCell (mw_i comp M)).heap[s.heap.size]? = some (mw_o k N s.heap.size i) := by rw [State.heap_pushCell_of_lt (h := hlt)]; exact b
    refine ⟨?_, State.heap_setCell_self hb', by simp [mw_s, d], ?_⟩
    · simp [mw_s, State.setCell, a]; omega
    · simp [mw_s, u, mw_i, arrV_size, Nat.succ_mul]; omega
theorem mw_old (s : State) (k comp : ClassId) (N M : Nat) {a : Addr} (ha : a < s.heap.size) : ∀ i, (mw_s s k comp N M i).heap[a]? = s.heap[a]?
  | 0 => State.heap_pushCell_of_lt _ _ ha
  | i + 1 => by
    have f1 := (mw_facts s k comp N M i).1
    have hlt : a < (mw_s s k comp N M i).heap.size := Nat.lt_of_lt_of_le ha (by rw [f1]; omega)
    show (((mw_s s k comp N M i).pushCell (mw_i comp M)).setCell s.heap.size _).heap[a]? = _
    rw [State.heap_setCell_other (Nat.ne_of_gt ha), State.heap_pushCell_of_lt (h := hlt)]
    exact mw_old s k comp N M ha i
theorem mw_row (s : State) (k comp : ClassId) (N M : Nat) : ∀ i j, j < i → (mw_s s k comp N M i).heap[s.heap.size + 1 + j]? = some (mw_i comp M)
  | 0, _, h => absurd h (Nat.not_lt_zero _)
  | i + 1, j, h => by
    have f1 := (mw_facts s k comp N M i).1
    show (((mw_s s k comp N M i).pushCell (mw_i comp M)).setCell s.heap.size _).heap[s.heap.size + 1 + j]? = _
    rw [State.heap_setCell_other (show s.heap.size ≠ s.heap.size + 1 + j by omega)]
    by_cases hj : j < i
    · have hlt : s.heap.size + 1 + j < (mw_s s k comp N M i).heap.size := by omega
      rw [State.heap_pushCell_of_lt (h := hlt)]
      exact mw_row s k comp N M i j hj
    · have e : j = i := by omega
      subst e
      rw [← f1]
      exact State.heap_pushCell_size _ _
theorem mw_top (s : State) (f : JFrame) (k comp : ClassId) (N M : Nat) : ∀ i, mw_s (s.setTop f) k comp N M i = (mw_s s k comp N M i).setTop f
  | 0 => rfl
  | i + 1 => by simp only [mw_s, mw_top s f k comp N M i, State.heap_setTop, State.pushCell_setTop, State.setCell_setTop]
section mwP
variable {E : CtlPost} {e : Env} {d : Bool} {acts : List Action} {s : State}
theorem mw_new1 {k comp : ClassId} {kl : Class} {type : FieldType} {len : Nat} {init : Value} (hk : s.vm.classes[k]? = some kl) (hkind : kl.kind = .array comp type)
    (hlimit : ¬ len > e.platform.arrayLengthLimit) (hheap : ¬ len * componentBytes type > e.platform.maxHeapBytes) (hfit : fits type init = true) (hdef : init.isDefault = true) {Q : Addr → Pre}
    (h1 : s.heap.size < e.platform.maxCells) (h2 : s.slotsUsed + len ≤ e.platform.maxSlots)
    (hq : Q s.heap.size d acts (s.pushCell (arrV k len (fun _ => init)))) : wp (Jvm.newArray k len init) Q E e d acts s := by
  rw [← arrV_new] at hq
  have hfits : ∀ i v, (Array.replicate len init)[i]? = some v → s.fitsSlot k .none i v = true := by
    intro i v hv
    rw [Array.getElem?_replicate] at hv
    split at hv
    · cases hv; simp [State.fitsSlot, State.slotType?, hk, hkind, hfit]
    · cases hv
  have hda : allocActs (Array.replicate len init) s.heap.size acts = acts := by
    unfold allocActs
    rw [if_pos]
    rw [Array.all_replicate]; split <;> simp [hdef]
  simp only [Jvm.newArray, Jvm.arrayFits, wp_bind', W.ask, W.ite, hlimit, if_false, wp_pure', W.theClass, hk, hkind, hheap, W.alloc, W.stop, Option.some.injEq, exists_eq_left', Array.size_replicate, hda]
  rw [if_neg (by omega)]
  exact ⟨h1, h2, hfits, hq⟩
theorem mw_make1 {comp cc : ClassId} {kc : Class} {m : Int32} (hkc : s.vm.classes[comp]? = some kc) (hkindc : kc.kind = .array cc .int) (hm : ¬ m < 0)
    (hl2 : ¬ m.toNatClampNeg > e.platform.arrayLengthLimit) (hh2 : ¬ m.toNatClampNeg * 4 > e.platform.maxHeapBytes)
    (h1 : s.heap.size < e.platform.maxCells) (h2 : s.slotsUsed + m.toNatClampNeg ≤ e.platform.maxSlots)
    {Q : Addr → Pre} (hq : Q s.heap.size d acts (s.pushCell (mw_i comp m.toNatClampNeg))) : wp (multianewarray.make comp [m]) Q E e d acts s := by
  rw [multianewarray.make]
  simp only [wp_bind', W.ite, hm, if_false, wp_pure', W.theClass, hkc, hkindc, Option.some.injEq, exists_eq_left']
  exact mw_new1 hkc hkindc hl2 hh2 rfl rfl h1 h2 hq
theorem mw_make2 {k comp cc : ClassId} {kl kc : Class} {n m : Int32} (hk : s.vm.classes[k]? = some kl) (hkind : kl.kind = .array comp (.array .int))
    (hkc : s.vm.classes[comp]? = some kc) (hkindc : kc.kind = .array cc .int) (hn : ¬ n < 0) (hm : ¬ m < 0)
    (hl1 : ¬ n.toNatClampNeg > e.platform.arrayLengthLimit) (hh1 : ¬ n.toNatClampNeg * 4 > e.platform.maxHeapBytes)
    (hl2 : ¬ m.toNatClampNeg > e.platform.arrayLengthLimit) (hh2 : ¬ m.toNatClampNeg * 4 > e.platform.maxHeapBytes)
    (hc : s.heap.size + 1 + n.toNatClampNeg ≤ e.platform.maxCells) (hs : s.slotsUsed + n.toNatClampNeg + n.toNatClampNeg * m.toNatClampNeg ≤ e.platform.maxSlots)
    {Q : Addr → Pre} (hq : ∀ d' acts', Q s.heap.size d' acts' (mw_s s k comp n.toNatClampNeg m.toNatClampNeg n.toNatClampNeg)) : wp (multianewarray.make k [n, m]) Q E e d acts s := by
  have hfind : ([m].find? (· < 0)) = none := by simp [hm]
  have h00 : mw_o k n.toNatClampNeg s.heap.size 0 = arrV k n.toNatClampNeg (fun _ => .null) := by
    unfold mw_o; congr 1
  rw [multianewarray.make]
  simp only [wp_bind', W.ite, hn, if_false, wp_pure', W.theClass, hk, hkind, Option.some.injEq, exists_eq_left']
  refine mw_new1 hk hkind hl1 hh1 rfl rfl (by omega) (by have := Nat.zero_le (n.toNatClampNeg * m.toNatClampNeg); omega) ?_
  rw [← h00]
  simp only [hfind]
  rw [ite_self, wp_bind', Std.Legacy.Range.forIn_eq_forIn_range']
  have hsz : ([:n.toNatClampNeg] : Std.Legacy.Range).size = n.toNatClampNeg := by simp [Std.Legacy.Range.size]
  rw [hsz]
  show wp (forIn (List.range' 0 n.toNatClampNeg 1) PUnit.unit _) _ E e d acts _
  refine wp_forIn_inv (fun rest s' => ∃ i, i ≤ n.toNatClampNeg ∧ rest = List.range' i (n.toNatClampNeg - i) ∧ s' = mw_s s k comp n.toNatClampNeg m.toNatClampNeg i) _ _ ⟨0, Nat.zero_le _, rfl, rfl⟩ ?_ ?_
  · rintro x rest s' d' acts' Q' ⟨i, hi, hl, rfl⟩ hnext
    have hlt : i < n.toNatClampNeg := by
      by_cases h : i < n.toNatClampNeg
      · exact h
      · rw [show n.toNatClampNeg - i = 0 from by omega] at hl; simp at hl
    obtain ⟨rfl, hrest⟩ : x = i ∧ rest = List.range' (i + 1) (n.toNatClampNeg - (i + 1)) := by
      rw [show n.toNatClampNeg - i = (n.toNatClampNeg - (i + 1)) + 1 from by omega, List.range'_succ] at hl
      exact ⟨(List.cons.inj hl).1, (List.cons.inj hl).2⟩
    obtain ⟨f1, f2, f3, f4⟩ := mw_facts s k comp n.toNatClampNeg m.toNatClampNeg x
    have hmul : x * m.toNatClampNeg + m.toNatClampNeg ≤ n.toNatClampNeg * m.toNatClampNeg := by
      have := Nat.mul_le_mul_right m.toNatClampNeg (show x + 1 ≤ n.toNatClampNeg from hlt)
      rw [Nat.succ_mul] at this; exact this
    simp only [wp_bind']
    refine mw_make1 (by rw [f3]; exact hkc) hkindc hm hl2 hh2 (by rw [f1]; omega) (by rw [f4]; omega) ?_
    have hlt0 : s.heap.size < (mw_s s k comp n.toNatClampNeg m.toNatClampNeg x).heap.size := by rw [f1]; omega
    simp only [wp_bind', W.writeLoc, wp_pure']
    refine ⟨mw_o k n.toNatClampNeg s.heap.size x, by rw [State.heap_pushCell_of_lt (h := hlt0)]; exact f2, by unfold mw_o arrV; simp, by unfold mw_o; rw [arrV_size]; exact hlt, ?_, hnext _ _ _ ⟨x + 1, hlt, hrest, ?_⟩⟩
    · show State.fitsSlot _ k .none x _ = true
      simp [State.fitsSlot, State.slotType?, f3, hk, hkind, fits]
    · rw [f1, mw_next]; rfl
  · rintro s' d' acts' ⟨i, hi, hl, rfl⟩
    have hiN : i = n.toNatClampNeg := by
      by_cases h : i < n.toNatClampNeg
      · rw [show n.toNatClampNeg - i = (n.toNatClampNeg - (i + 1)) + 1 from by omega, List.range'_succ] at hl; cases hl
      · omega
    subst hiN
    simp only [wp_pure']
    exact hq _ _
end mwP
section mwW
variable {p : Program} {l : Launch} {e : Env} {R : Room} {s : State} {m : MethodId} {args : Array Value} {below : List Frame} {meth : Method} {c : Code} {H : Heap} {T : State} {locs : List Loc} {cells slots : Nat} {Q : State → Prop}
theorem mw_stand (X : Stand p l e R s m args below meth c T locs cells slots) (cA comp : ClassId) (N M : Nat) :
    ∀ i, Stand p l e R s m args below meth c (mw_s T cA comp N M i) (locs ++ (List.range i).map fun j => ⟨T.heap.size, j⟩) (cells + 1 + i) (slots + N + i * M)
  | 0 => by
    have h := X.pushed (mw_o cA N T.heap.size 0)
    have e1 : (mw_o cA N T.heap.size 0).slots.size = N := by unfold mw_o; rw [arrV_size]
    rw [e1] at h
    simpa [mw_s] using h
  | i + 1 => by
    have Xi := mw_stand X cA comp N M i
    obtain ⟨f1, f2, f3, f4⟩ := mw_facts T cA comp N M i
    have hlt0 : T.heap.size < (mw_s T cA comp N M i).heap.size := by rw [f1]; omega
    have hcell : ((mw_s T cA comp N M i).pushCell (mw_i comp M)).heap[T.heap.size]? = some (mw_o cA N T.heap.size i) := by rw [State.heap_pushCell_of_lt (h := hlt0)]; exact f2
    have h := (Xi.pushed (mw_i comp M)).stored hcell i (.ref (T.heap.size + 1 + i))
    have e1 : (mw_i comp M).slots.size = M := by unfold mw_i; rw [arrV_size]
    rw [e1, mw_next] at h
    have e2 : (locs ++ (List.range (i + 1)).map fun j => (⟨T.heap.size, j⟩ : Loc)) = (locs ++ (List.range i).map fun j => (⟨T.heap.size, j⟩ : Loc)) ++ [⟨T.heap.size, i⟩] := by simp [List.range_succ, List.append_assoc]
    have e3 : slots + N + (i + 1) * M = slots + N + i * M + M := by rw [Nat.succ_mul]; omega
    rw [e2, e3]
    exact h
theorem mw_W (hexec : p.tables.exec = Jvm.exec) {cc : ByteArray} (hb : c.code = cc) {own : String} {index : Nat} (hown : s.vm.findClass own = some m.cls) (hclink : (Cond.classLink own index ("[" ++ (FieldType.array .int).toString)).before args s = true)
    (hover : am_OA s) (harr : (Cond.arrayClass .int).before args s = true)
    {pc : Nat} {ls : Array Slot} (hdg : decode cc pc = .ok (.multianewarray index 2, 4)) {n k : Int32} {rest : List Value} (hn : ¬ n < 0) (hk : ¬ k < 0) (hb1 : n.toNatClampNeg * 4 ≤ 536870912) (hb2 : k.toNatClampNeg * 4 ≤ 536870912)
    (hcells : cells + (1 + n.toNatClampNeg) ≤ R.cells) (hslots : slots + (n.toNatClampNeg + n.toNatClampNeg * k.toNatClampNeg) ≤ R.slots)
    (kk : ∀ (cA comp : ClassId) (H1 : Heap), s.vm.findClass ("[" ++ (FieldType.array .int).toString) = some cA → s.vm.findClass (FieldType.array .int).toString = some comp →
      H1.size = H.size + 1 + n.toNatClampNeg → (∀ a, a < H.size → H1[a]? = H[a]?) → H1[H.size]? = some (mw_o cA n.toNatClampNeg H.size n.toNatClampNeg) → (∀ j, j < n.toNatClampNeg → H1[H.size + 1 + j]? = some (mw_i comp k.toNatClampNeg)) →
      W p l e R s m args below meth c H1 (locs ++ (List.range n.toNatClampNeg).map fun j => ⟨H.size, j⟩) (cells + 1 + n.toNatClampNeg) (slots + n.toNatClampNeg + n.toNatClampNeg * k.toNatClampNeg) Q (F0 m (pc + 4) ls (.ref H.size :: rest))) :
    W p l e R s m args below meth c H locs cells slots Q (F0 m pc ls (.int k :: .int n :: rest)) := by
  intro T hT X
  subst hT; subst hb
  have hpl : e.platform.magicAccessors = ({} : Platform).magicAccessors := by rw [X.admits.platform]
  obtain ⟨comp, cA, kA, hcomp, hkA, hkindA, hnameA⟩ := hover
  obtain ⟨comp', kC, cc', hcomp', hkC, hkindC⟩ := Cond.arrayClass_spec harr
  have ecomp : comp' = comp := Option.some.inj (hcomp'.symm.trans hcomp)
  subst ecomp
  obtain ⟨c0, hfc0, hcl⟩ := Cond.classLink_spec hown hclink e.platform hpl
  cases hnameA.symm.trans hfc0
  obtain ⟨hg₁, hwarm₁, hready₁⟩ := State.classEntry (e := e) X.warmed hcl
  generalize T.vm.noted m.cls index (.cls cA) = vm₁ at hg₁ hwarm₁ hready₁
  have hal : s.vm.Alike vm₁ := hwarm₁.alike
  obtain ⟨kA₁, hkA₁, heA⟩ := hal.2.2 _ _ hkA
  obtain ⟨kC₁, hkC₁, heC⟩ := hal.2.2 _ _ hkC
  have hkindA₁ : kA₁.kind = .array comp' (.array .int) := by rw [heA]; exact hkindA
  have hkindC₁ : kC₁.kind = .array cc' .int := by rw [heC]; exact hkindC
  have X₁ := X.noted hwarm₁
  obtain ⟨hr1, hr2⟩ := X.roomAbove hcells hslots
  have XF := mw_stand X₁ cA comp' n.toNatClampNeg k.toNatClampNeg n.toNatClampNeg
  obtain ⟨f1, f2, f3, f4⟩ := mw_facts (T.setVm vm₁) cA comp' n.toNatClampNeg k.toNatClampNeg n.toNatClampNeg
  obtain ⟨t, a1, b1⟩ := kk cA comp' (mw_s (T.setVm vm₁) cA comp' n.toNatClampNeg k.toNatClampNeg n.toNatClampNeg).heap hnameA hcomp f1 (fun a ha => mw_old (T.setVm vm₁) cA comp' _ _ ha _) f2 (fun j hj => mw_row (T.setVm vm₁) cA comp' _ _ _ j hj) _ rfl XF
  refine ⟨t, ?_, b1⟩
  have hl1 : ¬ n.toNatClampNeg > e.platform.arrayLengthLimit := by rw [Launch.admits_arrayLengthLimit X.admits]; omega
  have hh1 : ¬ n.toNatClampNeg * 4 > e.platform.maxHeapBytes := by rw [Launch.admits_maxHeapBytes X.admits]; omega
  have hl2 : ¬ k.toNatClampNeg > e.platform.arrayLengthLimit := by rw [Launch.admits_arrayLengthLimit X.admits]; omega
  have hh2 : ¬ k.toNatClampNeg * 4 > e.platform.maxHeapBytes := by rw [Launch.admits_maxHeapBytes X.admits]; omega
  jvm_step X.here [hexec, hdg]
  simp only [multianewarray.sem, wp_bind', W.resolveClassAt_links (State.method?_setTop (F0 m pc ls (.int k :: .int n :: rest)) X.here.top) hg₁]
  rw [W.popN, if_neg (by decide)]
  refine ⟨F0 m pc ls (.int k :: .int n :: rest), State.topJava?_setTop' (s := T.setVm vm₁) (F0 m pc ls (.int k :: .int n :: rest)) X.here.top, [.int n, .int k], rest, rfl, rfl, ?_⟩
  simp only [List.mapM_cons, List.mapM_nil, wp_bind', wp_pure']
  refine mw_make2 (kl := kA₁) (kc := kC₁) (comp := comp') (cc := cc') hkA₁ hkindA₁ hkC₁ hkindC₁ hn hk hl1 hh1 hl2 hh2 (by show T.heap.size + 1 + _ ≤ _; omega) (by show T.slotsUsed + _ + _ ≤ _; omega) (fun d' acts' => ?_)
  have eS : ((T.setTop (F0 m pc ls (.int k :: .int n :: rest))).setVm vm₁).setTop { F0 m pc ls (.int k :: .int n :: rest) with stack := rest } = (T.setVm vm₁).setTop { F0 m pc ls (.int k :: .int n :: rest) with stack := rest } := by
    show ((T.setVm vm₁).setTop (F0 m pc ls (.int k :: .int n :: rest))).setTop _ = _
    rw [State.setTop_setTop]
  rw [eS, mw_top]
  simp only [wp_bind', W.mark, W.pushRef, State.topJava?_setTop' _ XF.here.top, Option.some.injEq, exists_eq_left', State.setTop_setTop, State.heap_setTop]
  intro acts
  simp [jvm, XF.here.top]
  exact a1
end mwW
end
section
/-! The abstract machine's runs are the machine's -/
section amS
variable {p : Program} {l : Launch} {e : Env} {R : Room} {s : State} {m : MethodId} {args : Array Value} {below : List Frame} {meth : Method} {c : Code} {H : Heap} {locs : List Loc} {cells slots : Nat} {Q : State → Prop}
variable {bs hz : Nat} {dC : Nat → ClassId} {dI : Nat → Nat → Nat} {dA : Nat → ClassId} {L : Nat} {xs : Nat → Int32}
variable {d y pc : Nat} {ls st ls' st' : List Value} {σ σ1 : am_S} {lsA : Array Slot} {pc' len : Nat}
theorem am_catsum {bs hz : Nat} : ∀ (r : List Value), ((r.map (am_cv bs hz)).map fun v => v.category).sum ≤ 2 * r.length
  | [] => Nat.le_refl _
  | v :: r => by
    have h1 := am_catsum (bs := bs) (hz := hz) r
    have h2 : (am_cv bs hz v).category ≤ 2 := by rcases lv_cat (am_cv bs hz v) with h | h <;> omega
    simp only [List.map_cons, List.sum_cons, List.length_cons]
    omega
theorem am_s_sp {idx sp : Nat} {i : Instr} (hF : am_Fr bs hz dC dI dA L xs p R s m args meth c d y) (hD : am_Dy bs hz dC dI dA s H locs cells σ) (hL : am_L bs hz lsA ls (pg_maxL y)) (hrc : cells ≤ R.cells) (hrs : slots ≤ R.slots)
    (hd : decode (pg_code y) pc = .ok (i, 3)) (hi : (i = .invokespecial idx ∧ sp = 1000) ∨ (i = .invokestatic idx ∧ sp ≠ 1000)) (hm : pg_mth (pg_own y) idx = some sp) (hs : am_sp d sp pc ls st σ = some (pc', ls', st', σ1)) :
    am_G p l e R s m args below meth c H locs cells slots Q bs hz dC dI dA y pc st σ lsA pc' ls' st' σ1 := by
  intro kk
  have hlo := hF.lo
  have hfr := hF.fr
  unfold am_sp at hs
  split at hs
  next => cases hs
  next d' =>
    have hsz : c.maxLocals = lsA.size := by rw [hF.2.2.1, hL.2.1]
    split at hs
    next a r =>
      split at hs
      next hr =>
        obtain ⟨rfl, rfl, rfl, rfl⟩ : pc + 3 = pc' ∧ ls = ls' ∧ r = st' ∧ σ = σ1 := by simpa using hs
        rcases hi with ⟨rfl, -⟩ | ⟨-, h⟩
        · obtain ⟨h1, h2, h3⟩ := pg_sp0 hm
          have hcs := am_catsum (bs := bs) (hz := hz) r
          refine W.objInit hF.1 hF.2.1 hF.own (hF.words _ h1) (hF.words _ h2) (hF.words _ h3) rfl (by show lsA.size = _; rw [hsz]) rfl hd (by omega) ?_ ?_
          · show 2 * 0 + _ + 12 ≤ _
            omega
          · exact kk H locs cells slots lsA hD hL rfl rfl
        · exact absurd rfl h
      next => cases hs
    next b a r =>
      split at hs
      next hr =>
        obtain ⟨rfl, rfl, rfl, rfl⟩ : pc + 3 = pc' ∧ ls = ls' ∧ Value.int (if a < b then b else a) :: r = st' ∧ σ = σ1 := by simpa using hs
        rcases hi with ⟨-, h⟩ | ⟨rfl, -⟩
        · cases h
        · obtain ⟨h1, h2, h3, h4⟩ := pg_sp1 hm
          have hcs := am_catsum (bs := bs) (hz := hz) r
          exact va_mmax hF.1 hF.2.1 hsz hF.own (hF.words _ h1) (hF.words _ h2) (hF.words _ h3) (hF.words _ h4) (by omega) (by omega) hrc hrs hd (kk H locs cells slots lsA hD hL rfl rfl)
      next => cases hs
    next b a r =>
      split at hs
      next hr =>
        obtain ⟨rfl, rfl, rfl, rfl⟩ : pc + 3 = pc' ∧ ls = ls' ∧ Value.int (if b < a then b else a) :: r = st' ∧ σ = σ1 := by simpa using hs
        rcases hi with ⟨-, h⟩ | ⟨rfl, -⟩
        · cases h
        · obtain ⟨h1, h2, h3, h4⟩ := pg_sp2 hm
          have hcs := am_catsum (bs := bs) (hz := hz) r
          exact va_mmin hF.1 hF.2.1 hsz hF.own (hF.words _ h1) (hF.words _ h2) (hF.words _ h3) (hF.words _ h4) (by omega) (by omega) hrc hrs hd (kk H locs cells slots lsA hD hL rfl rfl)
      next => cases hs
    next n dp q sp' a r =>
      split at hs
      next n0 f n1 g hsp hsq =>
        split at hs
        next hc =>
          obtain ⟨hr, h1, h2, h3, h4, h5⟩ := hc
          obtain ⟨rfl, rfl, rfl, rfl⟩ : pc + 3 = pc' ∧ ls = ls' ∧ r = st' ∧ σ.set q (.inl (0, (n1, .inl (va_cpy f g sp'.toNatClampNeg dp.toNatClampNeg n.toNatClampNeg)))) = σ1 := by simpa using hs
          rcases hi with ⟨-, h⟩ | ⟨rfl, -⟩
          · cases h
          · obtain ⟨g1, g2, g3, g4⟩ := pg_sp3 hm
            have hcs := am_catsum (bs := bs) (hz := hz) r
            exact va_copyi hF.1 hF.2.1 hsz hF.own (hF.words _ g1) (hF.words _ g2) (hF.words _ g3) (hF.words _ g4) hF.K hD.1 (am_w_D bs hz dA σ) hD.2.1 a q 0 0 (c0 := dA 0) (c1 := dA 0) (n0 := n0) (n1 := n1) (f := f) (g := g) (ty := .int) (am_w_at hsp) (am_w_at hsq) rfl rfl rfl h1 h2 h3 h4 h5 (fun _ _ => rfl) (by omega) (by
                show _ + (7 + 11) ≤ _
                omega) hd (fun H1 locs1 k1 _ k3 => kk H1 locs1 cells slots lsA (hD.put hsq (x' := .inl (0, (n1, .inl (va_cpy f g sp'.toNatClampNeg dp.toNatClampNeg n.toNatClampNeg)))) k1 k3) hL (by rw [List.length_set]) (by apply am_ns_setE hsq; rfl))
        next => cases hs
      next => cases hs
    next => cases hs
theorem am_s_ma {idx k2 : Nat} (hF : am_Fr bs hz dC dI dA L xs p R s m args meth c d y) (hD : am_Dy bs hz dC dI dA s H locs cells σ) (hL : am_L bs hz lsA ls (pg_maxL y))
    (hd : decode (pg_code y) pc = .ok (.multianewarray idx 2, 4)) (hs : am_ma (pg_own y) idx pc ls st σ = some (pc', ls', st', σ1)) (hrc : cells + σ1.length ≤ R.cells + σ.length) (hrs : slots + am_ns σ1 ≤ R.slots + am_ns σ) :
    am_G p l e R s m args below meth c H locs cells slots Q bs hz dC dI dA y pc st σ lsA pc' ls' st' σ1 := by
  intro kk
  unfold am_ma at hs
  split at hs
  next k n r =>
    split at hs
    next => cases hs
    next hn =>
      have hn0 : ¬ n < 0 := fun h => hn (Or.inl h)
      have hk0 : ¬ k < 0 := fun h => hn (Or.inr (Or.inl h))
      have hn1 : n.toNatClampNeg ≤ 10000 := Nat.not_lt.mp fun h => hn (Or.inr (Or.inr (Or.inl h)))
      have hk1 : k.toNatClampNeg ≤ 10000 := Nat.not_lt.mp fun h => hn (Or.inr (Or.inr (Or.inr h)))
      split at hs
      next hmna =>
        generalize hN : n.toNatClampNeg = N at hs hn1
        generalize hM : k.toNatClampNeg = M at hs hk1
        obtain ⟨rfl, rfl, rfl, rfl⟩ : pc + 4 = pc' ∧ ls = ls' ∧ Value.ref σ.length :: r = st' ∧ σ ++ (.inl (3, (N, .inr (.inr (.inr (.inr (fun j => if j < N then some (σ.length + 1 + j) else none)))))) :: List.replicate N (am_row M)) = σ1 := by simpa using hs
        have hsum : ∀ q, am_ns (List.replicate q (am_row M)) = q * M := by
          intro q
          induction q with
          | zero => simp [am_ns]
          | succ q ih =>
            rw [List.replicate_succ]
            have : am_ns (am_row M :: List.replicate q (am_row M)) = M + am_ns (List.replicate q (am_row M)) := by simp [am_ns, am_row, am_z]
            rw [this, ih, Nat.succ_mul]; omega
        have hz1 : am_ns (.inl (3, (N, .inr (.inr (.inr (.inr (fun j => if j < N then some (σ.length + 1 + j) else none)))))) :: List.replicate N (am_row M)) = N + N * M := by
          rw [← hsum N]; simp [am_ns, am_z]
        rw [am_ns_app, hz1] at hrs
        rw [List.length_append, List.length_cons, List.length_replicate] at hrc
        refine am_size hD hF.hl (fun hsz => ?_)
        refine mw_W hF.1 hF.2.1 hF.own (hF.words _ (pg_mna_ok hmna)) hF.x0.2.1 (hF.words _ pg_ac_int) hd hn0 hk0 (by omega) (by omega) (by omega) (by rw [hN, hM]; omega) (fun cA comp H1 f1 f2 z1 o1 e1 e2 => ?_)
        rw [hN] at z1 e1 e2
        rw [hM] at e2
        rw [hN, hM]
        have a3 : dA 3 = cA := Option.some.inj ((hF.K.2 3 _ rfl).2.symm.trans f1)
        have a0 : dA 0 = comp := Option.some.inj ((hF.K.2 0 _ rfl).2.symm.trans f2)
        subst a3; subst a0
        rw [hsz] at z1 o1 e1 e2
        show W p l e R s m args below meth c H1 _ _ _ Q (F0 m (pc + 4) lsA (.ref H.size :: r.map (am_cv bs hz)))
        rw [hsz]
        refine kk H1 _ _ _ lsA ⟨?_, ⟨?_, ?_, ?_⟩, ?_⟩ hL ?_ ?_
        · intro j q hj
          rw [am_w_get] at hj
          obtain ⟨x, hx, rfl⟩ := Option.map_eq_some_iff.mp hj
          by_cases hjl : j < σ.length
          · rw [List.getElem?_append_left hjl] at hx
            exact (hD.1 j _ (am_w_at hx)).kept (o1 (hz + j) (by omega))
          · rw [List.getElem?_append_right (by omega)] at hx
            by_cases hj0 : j = σ.length
            · subst hj0
              rw [Nat.sub_self] at hx
              cases hx
              show H1[hz + σ.length]? = some (vp_cell (dA 3) (am_ca hz _))
              rw [e1]
              unfold mw_o
              congr 1
              show _ = arrV (dA 3) N (fun j => va_rf ((if j < N then some (σ.length + 1 + j) else none : Option Nat).map (fun q => hz + q)))
              congr 1
              funext i
              by_cases hi : i < N
              · simp only [hi, if_true]
                exact congrArg Value.ref (by omega : (hz + σ.length + 1 + i : Nat) = hz + (σ.length + 1 + i))
              · simp only [hi, if_false]; rfl
            · have hx2 : (List.replicate N (am_row M))[j - σ.length - 1]? = some x := by
                rw [show j - σ.length = (j - σ.length - 1) + 1 by omega, List.getElem?_cons_succ] at hx
                exact hx
              have hlt : j - σ.length - 1 < N := by
                have := (List.getElem?_eq_some_iff.mp hx2).1
                rw [List.length_replicate] at this
                exact this
              rw [List.getElem?_replicate, if_pos hlt] at hx2
              cases hx2
              show H1[hz + j]? = some (vp_cell (dA 0) (am_ca hz _))
              have := e2 (j - σ.length - 1) hlt
              rw [show hz + σ.length + 1 + (j - σ.length - 1) = hz + j by omega] at this
              rw [this]
              rfl
        · have := hD.2.1.1
          omega
        · intro q h1 h2
          have := hF.hl
          rw [o1 q (by omega)]
          exact hD.2.1.2.1 q h1 h2
        · intro q hq
          rcases List.mem_append.mp hq with h | h
          · exact hD.2.1.2.2 q h
          · obtain ⟨z, -, rfl⟩ := List.mem_map.mp h
            show hz ≤ hz + σ.length
            omega
        · have := hD.2.2
          rw [List.length_append, List.length_cons, List.length_replicate]
          omega
        · rw [List.length_append, List.length_cons, List.length_replicate]; omega
        · rw [am_ns_app, hz1]; omega
      next => cases hs
  next => cases hs
set_option maxHeartbeats 4000000 in
theorem am_sim {i : Instr} (hF : am_Fr bs hz dC dI dA L xs p R s m args meth c d y) (hD : am_Dy bs hz dC dI dA s H locs cells σ) (hL : am_L bs hz lsA ls (pg_maxL y))
    (hd : decode (pg_code y) pc = .ok (i, len)) (hlo : am_lo i len = true) (hs : am_simple L xs d y i pc ls st σ = some (pc', ls', st', σ1)) (hc0 : cells ≤ R.cells) (hs0 : slots ≤ R.slots) (hrc : cells + σ1.length ≤ R.cells + σ.length) (hrs : slots + am_ns σ1 ≤ R.slots + am_ns σ) :
    am_G p l e R s m args below meth c H locs cells slots Q bs hz dC dI dA y pc st σ lsA pc' ls' st' σ1 := by
  have hx := hF.1
  have hb := hF.2.1
  cases i <;> try (simp only [am_simple] at hs; cases hs; done)
  case iconst n =>
    simp only [am_lo, beq_iff_eq] at hlo; subst hlo
    intro kk
    obtain ⟨rfl, rfl, rfl, rfl⟩ : pc + 1 = pc' ∧ ls = ls' ∧ Value.int (Int32.ofInt n) :: st = st' ∧ σ = σ1 := by simpa [am_simple] using hs
    exact lv_iconst hx hb hd rfl (kk H locs cells slots lsA hD hL rfl rfl)
  case bipush n =>
    simp only [am_lo, beq_iff_eq] at hlo; subst hlo
    intro kk
    obtain ⟨rfl, rfl, rfl, rfl⟩ : pc + 2 = pc' ∧ ls = ls' ∧ Value.int (Int8.ofInt n).toInt32 :: st = st' ∧ σ = σ1 := by simpa [am_simple] using hs
    exact lv_bipush hx hb hd rfl (kk H locs cells slots lsA hD hL rfl rfl)
  case sipush n =>
    simp only [am_lo, beq_iff_eq] at hlo; subst hlo
    intro kk
    obtain ⟨rfl, rfl, rfl, rfl⟩ : pc + 3 = pc' ∧ ls = ls' ∧ Value.int (Int16.ofInt n).toInt32 :: st = st' ∧ σ = σ1 := by simpa [am_simple] using hs
    exact lv_sipush hx hb hd rfl (kk H locs cells slots lsA hD hL rfl rfl)
  case ldc idx =>
    simp only [am_lo, beq_iff_eq] at hlo; subst hlo
    intro kk
    simp only [am_simple] at hs
    split at hs
    next v hv =>
      obtain ⟨rfl, rfl, rfl, rfl⟩ : pc + 2 = pc' ∧ ls = ls' ∧ Value.int v :: st = st' ∧ σ = σ1 := by simpa using hs
      exact lv_ldc hx hb hF.own (hF.words _ (pg_ldc_ok hv)) hd (kk H locs cells slots lsA hD hL rfl rfl)
    next => cases hs
  case ldc_w idx =>
    simp only [am_lo, beq_iff_eq] at hlo; subst hlo
    intro kk
    simp only [am_simple] at hs
    split at hs
    next v hv =>
      obtain ⟨rfl, rfl, rfl, rfl⟩ : pc + 3 = pc' ∧ ls = ls' ∧ Value.int v :: st = st' ∧ σ = σ1 := by simpa using hs
      exact lv_ldcw hx hb hF.own (hF.words _ (pg_ldc_ok hv)) hd (kk H locs cells slots lsA hD hL rfl rfl)
    next => cases hs
  case iload_n k => simp only [am_lo, beq_iff_eq] at hlo; subst hlo; exact am_s_il hF hD hL hd (Or.inl ⟨k, rfl, rfl, rfl⟩) hs
  case iload k => simp only [am_lo, beq_iff_eq] at hlo; subst hlo; exact am_s_il hF hD hL hd (Or.inr ⟨rfl, rfl⟩) hs
  case aload_n k => simp only [am_lo, beq_iff_eq] at hlo; subst hlo; exact am_s_al hF hD hL hd (Or.inl ⟨k, rfl, rfl, rfl⟩) hs
  case aload k => simp only [am_lo, beq_iff_eq] at hlo; subst hlo; exact am_s_al hF hD hL hd (Or.inr ⟨rfl, rfl⟩) hs
  case istore_n k => simp only [am_lo, beq_iff_eq] at hlo; subst hlo; exact am_s_is hF hD hL hd (Or.inl ⟨k, rfl, rfl, rfl⟩) hs
  case istore k => simp only [am_lo, beq_iff_eq] at hlo; subst hlo; exact am_s_is hF hD hL hd (Or.inr ⟨rfl, rfl⟩) hs
  case astore_n k => simp only [am_lo, beq_iff_eq] at hlo; subst hlo; exact am_s_as hF hD hL hd (Or.inl ⟨k, rfl, rfl, rfl⟩) hs
  case astore k => simp only [am_lo, beq_iff_eq] at hlo; subst hlo; exact am_s_as hF hD hL hd (Or.inr ⟨rfl, rfl⟩) hs
  case iinc k n => simp only [am_lo, beq_iff_eq] at hlo; subst hlo; exact am_s_inc hF hD hL hd hs
  case iadd => simp only [am_lo, beq_iff_eq] at hlo; subst hlo; exact am_s_ii (i := .iadd) hD hL (fun a b rest k => lv_iadd hx hb hd k) hs
  case isub => simp only [am_lo, beq_iff_eq] at hlo; subst hlo; exact am_s_ii (i := .isub) hD hL (fun a b rest k => lv_isub hx hb hd k) hs
  case imul => simp only [am_lo, beq_iff_eq] at hlo; subst hlo; exact am_s_ii (i := .imul) hD hL (fun a b rest k => lv_imul hx hb hd k) hs
  case iand => simp only [am_lo, beq_iff_eq] at hlo; subst hlo; exact am_s_ii (i := .iand) hD hL (fun a b rest k => lv_iand hx hb hd k) hs
  case ior => simp only [am_lo, beq_iff_eq] at hlo; subst hlo; exact am_s_ii (i := .ior) hD hL (fun a b rest k => lv_ior hx hb hd k) hs
  case ixor => simp only [am_lo, beq_iff_eq] at hlo; subst hlo; exact am_s_ii (i := .ixor) hD hL (fun a b rest k => lv_ixor hx hb hd k) hs
  case ishl => simp only [am_lo, beq_iff_eq] at hlo; subst hlo; exact am_s_ii (i := .ishl) hD hL (fun a b rest k => lv_ishl hx hb hd k) hs
  case ishr => simp only [am_lo, beq_iff_eq] at hlo; subst hlo; exact am_s_ii (i := .ishr) hD hL (fun a b rest k => lv_ishr hx hb hd k) hs
  case iushr => simp only [am_lo, beq_iff_eq] at hlo; subst hlo; exact am_s_ii (i := .iushr) hD hL (fun a b rest k => lv_iushr hx hb hd rfl k) hs
  case idiv => simp only [am_lo, beq_iff_eq] at hlo; subst hlo; exact am_s_dv (i := .idiv) hD hL (fun a b rest h k => lv_idiv hx hb hd h k) hs
  case irem => simp only [am_lo, beq_iff_eq] at hlo; subst hlo; exact am_s_dv (i := .irem) hD hL (fun a b rest h k => lv_irem hx hb hd h k) hs
  case ineg =>
    simp only [am_lo, beq_iff_eq] at hlo; subst hlo
    intro kk
    simp only [am_simple, am_ng] at hs
    split at hs
    next a r =>
      obtain ⟨rfl, rfl, rfl, rfl⟩ : pc + 1 = pc' ∧ ls = ls' ∧ Value.int (-a) :: r = st' ∧ σ = σ1 := by simpa using hs
      exact lv_ineg hx hb hd (kk H locs cells slots lsA hD hL rfl rfl)
    next => cases hs
  case dup =>
    simp only [am_lo, beq_iff_eq] at hlo; subst hlo
    intro kk
    simp only [am_simple, am_d0] at hs
    split at hs
    next a r =>
      split at hs
      next ha =>
        obtain ⟨rfl, rfl, rfl, rfl⟩ : pc + 1 = pc' ∧ ls = ls' ∧ a :: a :: r = st' ∧ σ = σ1 := by simpa using hs
        exact lv_dup hx hb hd (am_cat ha) (kk H locs cells slots lsA hD hL rfl rfl)
      next => cases hs
    next => cases hs
  case pop =>
    simp only [am_lo, beq_iff_eq] at hlo; subst hlo
    intro kk
    simp only [am_simple, am_po] at hs
    split at hs
    next a r =>
      split at hs
      next ha =>
        obtain ⟨rfl, rfl, rfl, rfl⟩ : pc + 1 = pc' ∧ ls = ls' ∧ r = st' ∧ σ = σ1 := by simpa using hs
        exact lv_pop hx hb hd (am_cat ha) (kk H locs cells slots lsA hD hL rfl rfl)
      next => cases hs
    next => cases hs
  case dup_x1 =>
    simp only [am_lo, beq_iff_eq] at hlo; subst hlo
    intro kk
    simp only [am_simple, am_d1] at hs
    split at hs
    next a b r =>
      split at hs
      next ha =>
        simp only [Bool.and_eq_true] at ha
        obtain ⟨rfl, rfl, rfl, rfl⟩ : pc + 1 = pc' ∧ ls = ls' ∧ a :: b :: a :: r = st' ∧ σ = σ1 := by simpa using hs
        exact lv_dup_x1 hx hb hd (am_cat ha.1) (am_cat ha.2) (kk H locs cells slots lsA hD hL rfl rfl)
      next => cases hs
    next => cases hs
  case dup_x2 =>
    simp only [am_lo, beq_iff_eq] at hlo; subst hlo
    intro kk
    simp only [am_simple, am_dx] at hs
    split at hs
    next a b z r =>
      split at hs
      next ha =>
        simp only [Bool.and_eq_true] at ha
        obtain ⟨rfl, rfl, rfl, rfl⟩ : pc + 1 = pc' ∧ ls = ls' ∧ a :: b :: z :: a :: r = st' ∧ σ = σ1 := by simpa using hs
        exact lv_dup_x2 hx hb hd (am_cat ha.1.1) (am_cat ha.1.2) (am_cat ha.2) (kk H locs cells slots lsA hD hL rfl rfl)
      next => cases hs
    next => cases hs
  case dup2 =>
    simp only [am_lo, beq_iff_eq] at hlo; subst hlo
    intro kk
    simp only [am_simple, am_d2] at hs
    split at hs
    next a b r =>
      split at hs
      next ha =>
        simp only [Bool.and_eq_true] at ha
        obtain ⟨rfl, rfl, rfl, rfl⟩ : pc + 1 = pc' ∧ ls = ls' ∧ a :: b :: a :: b :: r = st' ∧ σ = σ1 := by simpa using hs
        exact lv_dup2_11 hx hb hd (am_cat ha.1) (am_cat ha.2) (kk H locs cells slots lsA hD hL rfl rfl)
      next => cases hs
    next => cases hs
  case ifCond cn off => simp only [am_lo, beq_iff_eq] at hlo; subst hlo; exact am_s_if hF hD hL hd hs
  case if_icmp cn off => simp only [am_lo, beq_iff_eq] at hlo; subst hlo; exact am_s_ic hF hD hL hd hs
  case goto off => simp only [am_lo, beq_iff_eq] at hlo; subst hlo; exact am_s_goto hF hD hL hd hs
  case tableswitch dflt lo hi offs => exact am_s_ts hF hD hL hd hs
  case lookupswitch dflt ps => exact am_s_lk hF hD hL hd hs
  case getfield idx => simp only [am_lo, beq_iff_eq] at hlo; subst hlo; exact am_s_gf hF hD hL hd hs
  case putfield idx => simp only [am_lo, beq_iff_eq] at hlo; subst hlo; exact am_s_pf hF hD hL hd hs
  case iaload => simp only [am_lo, beq_iff_eq] at hlo; subst hlo; exact am_s_ild hF hD hL hd (by by_cases h : y = pg_num <;> simp [h]) hs
  case iastore => simp only [am_lo, beq_iff_eq] at hlo; subst hlo; exact am_s_ist hF hD hL hd hs
  case baload => simp only [am_lo, beq_iff_eq] at hlo; subst hlo; exact am_s_zld hF hD hL hd hs
  case bastore => simp only [am_lo, beq_iff_eq] at hlo; subst hlo; exact am_s_zst hF hD hL hd hs
  case aaload => simp only [am_lo, beq_iff_eq] at hlo; subst hlo; exact am_s_ald hF hD hL hd hs
  case aastore => simp only [am_lo, beq_iff_eq] at hlo; subst hlo; exact am_s_ast hF hD hL hd hs
  case arraylength => simp only [am_lo, beq_iff_eq] at hlo; subst hlo; exact am_s_len hF hD hL hd (by by_cases h : y = pg_num <;> simp [h]) hs
  case new idx => simp only [am_lo, beq_iff_eq] at hlo; subst hlo; exact am_s_new hF hD hL hd hs hrc hrs
  case newarray t => simp only [am_lo, beq_iff_eq] at hlo; subst hlo; exact am_s_na hF hD hL hd hs hrc hrs
  case anewarray idx => simp only [am_lo, beq_iff_eq] at hlo; subst hlo; exact am_s_ar hF hD hL hd hs hrc hrs
  case multianewarray idx k2 =>
    simp only [am_lo, Bool.and_eq_true, beq_iff_eq] at hlo
    obtain ⟨rfl, rfl⟩ := hlo
    exact am_s_ma (k2 := 2) hF hD hL hd hs hrc hrs
  case invokespecial idx =>
    simp only [am_lo, beq_iff_eq] at hlo; subst hlo
    simp only [am_simple, am_spc] at hs
    split at hs
    next sp hm =>
      split at hs
      next hsp =>
        refine am_s_sp hF hD hL hc0 hs0 hd (Or.inl ⟨rfl, by rcases hsp with ⟨-, h⟩ | ⟨h, -⟩ <;> first | exact h | cases h⟩) hm hs
      next => cases hs
    next => cases hs
  case invokestatic idx =>
    simp only [am_lo, beq_iff_eq] at hlo; subst hlo
    simp only [am_simple, am_spc] at hs
    split at hs
    next sp hm =>
      split at hs
      next hsp =>
        refine am_s_sp hF hD hL hc0 hs0 hd (Or.inr ⟨rfl, by rcases hsp with ⟨h, -⟩ | ⟨-, h⟩ <;> first | omega | cases h⟩) hm hs
      next => cases hs
    next => cases hs
end amS
end
section
/-! The store only grows -/
theorem am_j_same {pc : Nat} {off : Int} {ls st ls' st' : List Value} {σ σ1 : am_S} {pc' : Nat} (h : am_j pc off ls st σ = some (pc', ls', st', σ1)) : σ1 = σ := by
  unfold am_j at h
  split at h
  · simp at h; exact h.2.2.2.symm
  · cases h
set_option maxHeartbeats 4000000 in
theorem am_grow {L : Nat} {xs : Nat → Int32} {d y pc pc' : Nat} {i : Instr} {ls st ls' st' : List Value} {σ σ1 : am_S} (h : am_simple L xs d y i pc ls st σ = some (pc', ls', st', σ1)) : σ.length ≤ σ1.length ∧ am_ns σ ≤ am_ns σ1 := by
  have same : σ1 = σ → σ.length ≤ σ1.length ∧ am_ns σ ≤ am_ns σ1 := fun e => by rw [e]; exact ⟨Nat.le_refl _, Nat.le_refl _⟩
  have app : ∀ τ, σ1 = σ ++ τ → σ.length ≤ σ1.length ∧ am_ns σ ≤ am_ns σ1 := fun τ e => by rw [e, List.length_append, am_ns_app]; exact ⟨Nat.le_add_right _ _, Nat.le_add_right _ _⟩
  have put : ∀ (k : Nat) (x x' : am_E), σ[k]? = some x → am_z x' = am_z x → σ1 = σ.set k x' → σ.length ≤ σ1.length ∧ am_ns σ ≤ am_ns σ1 := fun k x x' h1 h2 e => by rw [e, List.length_set, am_ns_set h1 h2]; exact ⟨Nat.le_refl _, Nat.le_refl _⟩
  cases i <;> simp only [am_simple] at h <;> try (cases h; done)
  all_goals first
    | (simp only [Option.some.injEq, Prod.mk.injEq] at h; exact same h.2.2.2.symm)
    | exact same (am_j_same h)
    | skip
  all_goals try simp only [am_il, am_al, am_is, am_as, am_inc, am_ii, am_dv, am_ng, am_d0, am_po, am_d1, am_dx, am_d2, am_if, am_ic, am_ts, am_lk, am_gf, am_pf, am_ild, am_ist, am_zld, am_zst, am_ald, am_ast, am_len, am_new, am_na, am_ar, am_ma, am_spc, am_sp] at h
  all_goals repeat' split at h
  all_goals first
    | (cases h; done)
    | exact same (am_j_same h)
    | (simp only [Option.some.injEq, Prod.mk.injEq] at h
       first
       | exact same h.2.2.2.symm
       | exact app _ h.2.2.2.symm
       | exact put _ _ _ (by assumption) (by simp [am_z]) h.2.2.2.symm)
theorem am_rgrow {L : Nat} {xs : Nat → Int32} : ∀ (n d y pc : Nat) (ls st : List Value) (σ : am_S) (r : Option Value) (σ' : am_S), am_run L xs n d y pc ls st σ = some (r, σ') → σ.length ≤ σ'.length ∧ am_ns σ ≤ am_ns σ'
  | 0, _, _, _, _, _, _, _, _, h => by cases h
  | n + 1, d, y, pc, ls, st, σ, r, σ', h => by
    unfold am_run am_body at h
    split at h
    next => cases h
    next i len hd =>
      split at h
      next => cases h
      next =>
        split at h
        next =>
          simp only [Option.some.injEq, Prod.mk.injEq] at h
          rw [h.2]; exact ⟨Nat.le_refl _, Nat.le_refl _⟩
        next =>
          split at h
          next z as rest hcl =>
            split at h
            next =>
              split at h
              next => cases h
              next d' =>
                split at h
                next => cases h
                next r1 σ1 h1 =>
                  have a := am_rgrow n _ _ _ _ _ _ _ _ h1
                  have b := am_rgrow n _ _ _ _ _ _ _ _ h
                  exact ⟨Nat.le_trans a.1 b.1, Nat.le_trans a.2 b.2⟩
            next => cases h
          next =>
            split at h
            next pc' ls' st' σ1 h1 =>
              have a := am_grow h1
              have b := am_rgrow n _ _ _ _ _ _ _ _ h
              exact ⟨Nat.le_trans a.1 b.1, Nat.le_trans a.2 b.2⟩
            next => cases h
/-- what a method's end says -/
def am_Q (bs hz : Nat) (dC : Nat → ClassId) (dI : Nat → Nat → Nat) (dA : Nat → ClassId) (r : Option Value) (σ : am_S) : Array Value → State → Outcome → State → Prop := fun _ st o t =>
  o = .returned (r.map (am_cv bs hz)) ∧ va_P (dC, dI) pg_cl (am_w bs hz dA σ) t.heap ∧ ∀ q : Nat, q < hz → t.heap[q]? = st.heap[q]?
/-- a method's start -/
def am_Pc (bs hz : Nat) (dC : Nat → ClassId) (dI : Nat → Nat → Nat) (dA : Nat → ClassId) (L : Nat) (xs : Nat → Int32) (as : List Value) (σ : am_S) : Array Value → State → Prop := fun v U =>
  v = (as.map (am_cv bs hz)).toArray ∧ U.heap.size = hz + σ.length ∧ va_P (dC, dI) pg_cl (am_w bs hz dA σ) U.heap ∧ va_K (dC, dI) pg_cl (pg_tys dA) U ∧ va_X bs L xs U U.heap ∧ am_X0 U
theorem am_blind (bs hz : Nat) (dC : Nat → ClassId) (dI : Nat → Nat → Nat) (dA : Nat → ClassId) (L : Nat) (xs : Nat → Int32) (as : List Value) (σ : am_S) : FrameBlind (am_Pc bs hz dC dI dA L xs as σ) := by
  intro a U g mk h
  obtain ⟨h1, h2, h3, h4, h5, h6⟩ := h
  exact ⟨h1, h2, h3, va_K.moved (u := U) (U := U.calling g mk a) (Vm.Alike.refl U.vm) h4, va_X.moved (u := U) (U := U.calling g mk a) (Vm.Alike.refl U.vm) h5, am_X0.same (u := U) (U := U.calling g mk a) rfl h6⟩
section amR
variable {p : Program} {l : Launch} {e : Env} {R : Room} {s : State} {m : MethodId} {args : Array Value} {below : List Frame} {meth : Method} {c : Code} {H : Heap} {locs : List Loc} {cells slots : Nat} {Q : State → Prop}
variable {bs hz : Nat} {dC : Nat → ClassId} {dI : Nat → Nat → Nat} {dA : Nat → ClassId} {L : Nat} {xs : Nat → Int32}
theorem am_pre {as : List Value} {σ : am_S} (hK : va_K (dC, dI) pg_cl (pg_tys dA) s) (hX : va_X bs L xs s s.heap) (hx0 : am_X0 s) (hbs : bs < hz) (hh : hz ≤ s.heap.size) (hD : am_Dy bs hz dC dI dA s H locs cells σ) (hsz : H.size = hz + σ.length) :
    ∀ U : State, U.heap = H → s.WarmedH U.vm → am_Pc bs hz dC dI dA L xs as σ (as.map (am_cv bs hz)).toArray U := by
  intro U hU hW
  refine ⟨rfl, by rw [hU]; exact hsz, by rw [hU]; exact hD.1, va_K.moved hW.alike hK, ?_, am_X0.warm hW hx0⟩
  rw [hU]
  refine va_X.moved hW.alike (hX.kept ?_)
  exact hD.2.1.2.1 bs (Nat.lt_of_lt_of_le hbs hh) (Nat.not_le.mpr hbs)
theorem am_back {σ1 : am_S} {r1 : Option Value} {mcc mss pc : Nat} {lsA : Array Slot} {stA restA : List Value} {arr : Array Value} {σ : am_S} (hh : hz ≤ s.heap.size) (hD : am_Dy bs hz dC dI dA s H locs cells σ) (hmc : mcc + σ.length = σ1.length)
    (hr : va_Run p l e R s m args below meth c H locs cells slots mcc mss (F0 m pc lsA stA) restA (am_Q bs hz dC dI dA r1 σ1 arr) (fun q => hz ≤ q))
    (kk : ∀ (H1 : Heap) (locs1 : List Loc), am_Dy bs hz dC dI dA s H1 locs1 (cells + mcc) σ1 → W p l e R s m args below meth c H1 locs1 (cells + mcc) (slots + mss) Q (F0 m (pc + 3) lsA ((r1.map (am_cv bs hz)).toList ++ restA))) :
    W p l e R s m args below meth c H locs cells slots Q (F0 m pc lsA stA) := by
  intro T hT X
  obtain ⟨v, st₀, t, T', LL, h0, X', hLL, e1, e2, ⟨hv, hP, hfr⟩, st⟩ := hr T hT X
  have hv2 : v = r1.map (am_cv bs hz) := Outcome.returned.inj hv
  subst hv2
  have hsz : s.heap.size ≤ T'.heap.size := X'.same.2.1
  obtain ⟨t2, a1, b1⟩ := kk T'.heap (locs ++ LL) ⟨by rw [e1]; exact hP, ⟨hsz, fun q h1 h2 => by
      rw [e1, hfr q (Nat.not_le.mp h2), h0]
      exact hD.2.1.2.1 q h1 h2, fun q hq => by
      rcases List.mem_append.mp hq with h | h
      · exact hD.2.1.2.2 q h
      · exact hLL q h⟩, by have := hD.2.2; omega⟩ T' rfl X'
  exact ⟨t2, st t2 a1, b1⟩
end amR
theorem am_map_toList (bs hz : Nat) (r : Option Value) (rest : List Value) : (r.map (am_cv bs hz)).toList ++ rest.map (am_cv bs hz) = (r.toList ++ rest).map (am_cv bs hz) := by
  cases r <;> simp
end
section
/-! Soundness -/
section amT
variable {p : Program} {l : Launch} {e : Env} {R : Room} {s : State} {m : MethodId} {args : Array Value} {below : List Frame} {meth : Method} {c : Code} {H : Heap} {locs : List Loc} {cells slots : Nat} {Q : State → Prop}
variable {bs hz : Nat} {dC : Nat → ClassId} {dI : Nat → Nat → Nat} {dA : Nat → ClassId} {L : Nat} {xs : Nat → Int32}
theorem am_s_ret {d y pc len : Nat} {st : List Value} {σ : am_S} {lsA : Array Slot} {i : Instr} {r : Option Value} (hF : am_Fr bs hz dC dI dA L xs p R s m args meth c d y) (hD : am_Dy bs hz dC dI dA s H locs cells σ)
    (hd : decode (pg_code y) pc = .ok (i, len)) (hlo : am_lo i len = true) (h : am_ret y i st = some r) :
    W p l e R s m args below meth c H locs cells slots (MQ below (am_Q bs hz dC dI dA r σ) args s cells slots (fun q => hz ≤ q)) (F0 m pc lsA (st.map (am_cv bs hz))) := by
  have hlocks : meth.locks = false := hF.2.2.2.2.1
  have hret := hF.2.2.2.1
  have fin : ∀ (v : Option Value) (t : State), t.heap = H → am_Q bs hz dC dI dA v σ args s (.returned (v.map (am_cv bs hz))) t := by
    intro v t ht
    refine ⟨rfl, by rw [ht]; exact hD.1, fun q hq => ?_⟩
    rw [ht]
    exact hD.2.1.2.1 q (Nat.lt_of_lt_of_le hq hF.hl) (Nat.not_le.mpr hq)
  cases i <;> simp only [am_ret] at h <;> try (cases h; done)
  · simp only [am_lo, beq_iff_eq] at hlo
    subst hlo
    split at h
    next v =>
      split at h
      next hk =>
        obtain rfl := Option.some.inj h
        have hrt := pg_rk_ok y
        rcases hk with hk | ⟨hk, hv⟩
        · rw [hk] at hrt
          exact W.iret hF.1 hF.2.1 (hret.trans (hrt.2.1 rfl)) (fun t ht _ => fin (some (.int v)) t ht) hD.2.1.2.2 hd
        · rw [hk] at hrt
          refine W.zret (ty := .boolean) hF.1 hF.2.1 (hret.trans (hrt.2.2 rfl)) ?_ (fun t ht _ => fin (some (.int v)) t ht) hD.2.1.2.2 hd
          rcases hv with rfl | rfl <;> decide +kernel
      next => cases h
    next => cases h
  · simp only [am_lo, beq_iff_eq] at hlo
    subst hlo
    split at h
    next =>
      split at h
      next hk =>
        obtain rfl := Option.some.inj h
        have hrt := pg_rk_ok y
        exact W.vret hF.1 hF.2.1 (hret.trans (hrt.1 hk)) (fun t ht _ => fin none t ht) hD.2.1.2.2 hd
      next => cases h
    next => cases h
theorem am_cl_num {y : Nat} {i : Instr} {st : List Value} {σ : am_S} {z : Nat} {as rest : List Value} (h : am_cl y i st σ = some (z, as, rest)) : z < pg_num := by
  cases i <;> simp only [am_cl] at h <;> try (cases h; done)
  all_goals repeat' split at h
  all_goals first
    | (cases h; done)
    | (simp only [Option.some.injEq, Prod.mk.injEq] at h
       obtain ⟨rfl, -, -⟩ := h
       first
       | exact (‹_ ∧ pg_mk _ = 0›).1
       | exact (‹_ ∧ pg_mk _ = 1›).1
       | exact (‹_ ∧ pg_mk _ = 2›).1)
theorem am_good_V {own idx z : Nat} (hm : pg_mth own idx = some z) (hz1 : z < pg_num) (hk : pg_mk z = 0) : GoodIn pg_words (wsV (pg_cn own) idx (pg_cn (pg_own z)) (pg_y z) (pg_w z)) := by
  obtain ⟨h1, h2, h3, h4⟩ := pg_callV hm hz1 hk
  intro w hw
  refine ⟨?_, ?_⟩
  · simp only [wsV, pg_w, List.mem_append, List.mem_cons, List.not_mem_nil, or_false] at hw
    rcases hw with (rfl | rfl | rfl | rfl) | rfl | hw
    · exact h1
    · exact h2
    · exact h3
    · exact h4
    · exact pg_wz hz1
    · exact hw
  · refine pg_good w ?_
    simp only [wsV, pg_w, List.mem_append, List.mem_cons, List.not_mem_nil, or_false] at hw
    rcases hw with (rfl | rfl | rfl | rfl) | rfl | hw
    · exact h1
    · exact h2
    · exact h3
    · exact h4
    · exact pg_wz hz1
    · exact hw
theorem am_good_z {z : Nat} (hz1 : z < pg_num) : GoodIn pg_words (pg_w z) := by
  intro w hw
  have h : w ∈ pg_words := by
    rcases List.mem_cons.mp hw with rfl | hw
    · exact pg_wz hz1
    · exact hw
  exact ⟨h, pg_good w h⟩
theorem am_callrun {d d' y z pc len mcc mss : Nat} {st as rest : List Value} {σ σ1 : am_S} {lsA : Array Slot} {i : Instr} {r1 : Option Value} (hF : am_Fr bs hz dC dI dA L xs p R s m args meth c d y) (hD : am_Dy bs hz dC dI dA s H locs cells σ)
    (hlo : am_lo i len = true) (hd : decode (pg_code y) pc = .ok (i, len)) (hcl : am_cl y i st σ = some (z, as, rest)) (hfix : CallFix p m c (pg_code y) (pg_maxL y) s args pg_words (pg_cn (pg_own y)))
    (hM : Met l (pg_y z) (pg_w z) ({ frames := d', cells := mcc, slots := mss, locals := 60 * d' }) (am_Pc bs hz dC dI dA L xs as σ) (am_Q bs hz dC dI dA r1 σ1) mcc mss (fun q => hz ≤ q))
    (hpre : ∀ U : State, U.heap = H → s.WarmedH U.vm → am_Pc bs hz dC dI dA L xs as σ (as.map (am_cv bs hz)).toArray U) (hroom : d' + 1 ≤ R.frames ∧ 8 + (pg_maxL z + 11) + 60 * d' ≤ R.locals) (hsz : lsA.size = pg_maxL y) (hf : cells + mcc ≤ R.cells ∧ slots + mss ≤ R.slots) :
    va_Run p l e R s m args below meth c H locs cells slots mcc mss (F0 m pc lsA (st.map (am_cv bs hz))) (rest.map (am_cv bs hz)) (am_Q bs hz dC dI dA r1 σ1 (as.map (am_cv bs hz)).toArray) (fun q => hz ≤ q) := by
  have hcat : ∀ r : List Value, r.length ≤ 4 → 2 * (F0 m pc lsA (st.map (am_cv bs hz))).monitorRoom + ((r.map (am_cv bs hz)).map fun v => v.category).sum ≤ 8 := by
    intro r hr
    refine lv_room ?_
    have := am_catsum (bs := bs) (hz := hz) r
    omega
  cases i <;> simp only [am_cl] at hcl <;> try (cases hcl; done)
  case invokevirtual idx =>
    simp only [am_lo, beq_iff_eq] at hlo
    subst hlo
    split at hcl
    next z' hm =>
      split at hcl
      next hz1 =>
        split at hcl
        next b r hdr =>
          split at hcl
          next ci fs hsb =>
            split at hcl
            next hc =>
              obtain ⟨rfl, rfl, rfl⟩ : z' = z ∧ Value.ref b :: (st.take (pg_np z')).reverse = as ∧ r = rest := by simpa using hcl
              obtain ⟨rfl, hr4, hnp⟩ := hc
              obtain ⟨T, N, hcl2⟩ := pg_obj_ok hz1.1 hz1.2
              obtain ⟨d1, d2, d3⟩ := pg_desc hz1.1
              refine va_runV (C := pg_cn (pg_own z')) (b := hz + b) (As := ((st.take (pg_np z')).reverse).map (am_cv bs hz)) hfix hM (cwV (pg_np z') hF.words (am_good_V hm hz1.1 hz1.2) rfl rfl rfl ⟨pg_own_ok (Nat.le_of_lt hz1.1), d1, d2, d3⟩ hroom) ⟨am_blind _ _ _ _ _ _ _ _ _, ?_, fun U hU hW => hpre U hU hW⟩ rfl ?_ hsz ?_ (hcat _ hr4) hd hf
              · exact va_recv hF.K hD.1 hcl2 (am_w_at hsb)
              · rw [List.length_map, List.length_reverse]; exact hnp
              · show st.map (am_cv bs hz) = _
                rw [← List.map_reverse, List.reverse_reverse]
                have e1 : st = st.take (pg_np z') ++ .ref b :: r := by rw [← hdr, List.take_append_drop]
                conv => lhs; rw [e1]
                rw [List.map_append, List.map_cons]
                rfl
            next => cases hcl
          next => cases hcl
        next => cases hcl
      next => cases hcl
    next => cases hcl
  case invokespecial idx =>
    simp only [am_lo, beq_iff_eq] at hlo
    subst hlo
    split at hcl
    next z' hm =>
      split at hcl
      next hz1 =>
        split at hcl
        next b r hdr =>
          split at hcl
          next hc =>
            obtain ⟨rfl, rfl, rfl⟩ : z' = z ∧ Value.ref b :: (st.take (pg_np z')).reverse = as ∧ r = rest := by simpa using hcl
            obtain ⟨hr4, hnp⟩ := hc
            obtain ⟨h1, h2, h3, h4, h5⟩ := pg_callI hm hz1.1 hz1.2
            obtain ⟨d1, d2, d3⟩ := pg_desc hz1.1
            refine va_runI (bytes := pg_code z') (maxL := pg_maxL z') (b := hz + b) (As := ((st.take (pg_np z')).reverse).map (am_cv bs hz)) hfix hM (cwI (ws' := pg_words) (pg_np z') hF.words (am_good_z hz1.1) (by unfold pg_w; rw [h5]) rfl rfl (hF.words _ h3) (hF.words _ h1) (hF.words _ h2) h4 ⟨d1, d2, d3⟩ hroom) ⟨am_blind _ _ _ _ _ _ _ _ _, fun U hU hW => hpre U hU hW⟩ rfl ?_ hsz ?_ (hcat _ hr4) hd hf
            · rw [List.length_map, List.length_reverse]; exact hnp
            · show st.map (am_cv bs hz) = _
              rw [← List.map_reverse, List.reverse_reverse]
              have e1 : st = st.take (pg_np z') ++ .ref b :: r := by rw [← hdr, List.take_append_drop]
              conv => lhs; rw [e1]
              rw [List.map_append, List.map_cons]
              rfl
          next => cases hcl
        next => cases hcl
      next => cases hcl
    next => cases hcl
  case invokestatic idx =>
    simp only [am_lo, beq_iff_eq] at hlo
    subst hlo
    split at hcl
    next z' hm =>
      split at hcl
      next hz1 =>
        split at hcl
        next hc =>
          obtain ⟨rfl, rfl, rfl⟩ : z' = z ∧ (st.take (pg_np z')).reverse = as ∧ st.drop (pg_np z') = rest := by simpa using hcl
          obtain ⟨hr4, hnp⟩ := hc
          obtain ⟨h1, h2, h3⟩ := pg_callS hm hz1.1 hz1.2
          obtain ⟨d1, d2, d3⟩ := pg_desc hz1.1
          have hstk : (F0 m pc lsA (st.map (am_cv bs hz))).stack = (((st.take (pg_np z')).reverse).map (am_cv bs hz)).reverse ++ (st.drop (pg_np z')).map (am_cv bs hz) := by
            show st.map (am_cv bs hz) = _
            rw [← List.map_reverse, List.reverse_reverse, ← List.map_append, List.take_append_drop]
          rcases h1 with h1 | h1
          · refine va_runS (bytes := pg_code z') (maxL := pg_maxL z') (ret := pg_ret z') (As := ((st.take (pg_np z')).reverse).map (am_cv bs hz)) hfix hM ⟨callB_of (ws' := pg_words) (pg_np z') hF.words (am_good_z hz1.1) rfl rfl rfl (hF.words _ h3) (hF.words _ h1) ⟨d1, d2, d3⟩ hroom, hF.words _ h2⟩ ⟨am_blind _ _ _ _ _ _ _ _ _, fun U hU hW => hpre U hU hW⟩ rfl ?_ hsz hstk (hcat _ hr4) hd hf
            rw [List.length_map, List.length_reverse]; exact hnp
          · refine va_runSN (bytes := pg_code z') (maxL := pg_maxL z') (ret := pg_ret z') (host := pg_cn 0) (As := ((st.take (pg_np z')).reverse).map (am_cv bs hz)) hfix hM ⟨va_cnB (ws' := pg_words) (pg_np z') hF.words (am_good_z hz1.1) rfl rfl rfl (hF.x0.2.2 _ h1) (hF.words _ h3) ⟨d1, d2, d3⟩ hroom, hF.words _ h2, trivial⟩ ⟨am_blind _ _ _ _ _ _ _ _ _, fun U hU hW => hpre U hU hW⟩ rfl ?_ hsz hstk (hcat _ hr4) hd hf
            rw [List.length_map, List.length_reverse]; exact hnp
        next => cases hcl
      next => cases hcl
    next => cases hcl
end amT
set_option maxHeartbeats 4000000 in
theorem am_sound {l : Launch} {bs hz : Nat} {dC : Nat → ClassId} {dI : Nat → Nat → Nat} {dA : Nat → ClassId} {L : Nat} {xs : Nat → Int32} :
    ∀ (n d y pc : Nat) (ls st : List Value) (σ : am_S) (r : Option Value) (σ' : am_S), am_run L xs n d y pc ls st σ = some (r, σ') →
    ∀ (p : Program) (e : Env) (R : Room) (s : State) (m : MethodId) (args : Array Value) (below : List Frame) (meth : Method) (c : Code) (H : Heap) (locs : List Loc) (cells slots mc ms : Nat) (lsA : Array Slot),
    am_Fr bs hz dC dI dA L xs p R s m args meth c d y → am_Dy bs hz dC dI dA s H locs cells σ → am_L bs hz lsA ls (pg_maxL y) → cells + σ'.length = mc + σ.length → slots + am_ns σ' = ms + am_ns σ → mc ≤ R.cells → ms ≤ R.slots →
    W p l e R s m args below meth c H locs cells slots (MQ below (am_Q bs hz dC dI dA r σ') args s mc ms (fun q => hz ≤ q)) (F0 m pc lsA (st.map (am_cv bs hz)))
  | 0, _, _, _, _, _, _, _, _, h => by cases h
  | n + 1, d, y, pc, ls, st, σ, r, σ', h => by
    intro p e R s m args below meth c H locs cells slots mc ms lsA hF hD hL hmc hms hRc hRs
    unfold am_run am_body at h
    split at h
    next => cases h
    next i len hd =>
      split at h
      next => cases h
      next hlo =>
        have hlo : am_lo i len = true := by simpa using hlo
        split at h
        next r0 hret =>
          obtain ⟨rfl, rfl⟩ : r0 = r ∧ σ = σ' := by simpa using h
          have e1 : cells = mc := by omega
          have e2 : slots = ms := by omega
          subst e1; subst e2
          exact am_s_ret hF hD hd hlo hret
        next hret =>
          split at h
          next z as rest hcl =>
            split at h
            next has =>
              obtain ⟨hok, hal⟩ := has
              have hok : ∀ v ∈ as, am_ok v = true := fun v hv => List.all_eq_true.mp hok v hv
              split at h
              next => cases h
              next d' =>
                split at h
                next => cases h
                next r1 σ1 h1 =>
                  have g1 := am_rgrow _ _ _ _ _ _ _ _ _ h1
                  have g2 := am_rgrow _ _ _ _ _ _ _ _ _ h
                  have hfr := hF.fr
                  have hlo' := hF.lo
                  have hzn : z < pg_num := am_cl_num hcl
                  have hM : Met l (pg_y z) (pg_w z) ({ frames := d', cells := σ1.length - σ.length, slots := am_ns σ1 - am_ns σ, locals := 60 * d' }) (am_Pc bs hz dC dI dA L xs as σ) (am_Q bs hz dC dI dA r1 σ1) (σ1.length - σ.length) (am_ns σ1 - am_ns σ) (fun q => hz ≤ q) := by
                    refine Met.ofW (cc := pg_code z) (maxL := pg_maxL z) (ret := pg_ret z) (pg_plain hzn) rfl ?_
                    intro p e s m args below meth c s₁ B hml hv
                    obtain ⟨rfl, hsz, hP, hK, hX, hx0⟩ := hv
                    have hin := am_L_in (bs := bs) (hz := hz) hal hok
                    rw [lg_entry_eq]
                    refine am_sound n d' z 0 (am_en z as) [] σ r1 σ1 h1 p e _ s m _ below meth c s.heap [] 0 0 _ _ _ ⟨B.exec, B.bytes, hml, B.returns, B.notSynchronized, fun _ => (name_of_methodNamed B.named B.method).1, ?_, fun w hw => atoms_spec (ws := pg_w z) B.pre w (List.mem_cons_of_mem _ hw), hK, hX, hF.bl, by omega, Nat.le_refl _, Nat.le_refl _, Nat.le_of_lt hzn, hx0⟩ ⟨hP, va_S.rf, by omega⟩ hin.1 (by omega) (by omega) (Nat.le_refl _) (Nat.le_refl _)
                    rw [← pg_own_ok (Nat.le_of_lt hzn)]
                    exact findClass_of_methodNamed B.named
                  have hnl := pg_maxL_ok hzn
                  refine am_size hD hF.hl (fun hsz => ?_)
                  have hpre := am_pre (as := as) hF.K hF.X hF.x0 hF.bl hF.hl hD hsz
                  have hroom : d' + 1 ≤ R.frames ∧ 8 + (pg_maxL z + 11) + 60 * d' ≤ R.locals := ⟨hfr, by omega⟩
                  have go : ∀ (H1 : Heap) (locs1 : List Loc), am_Dy bs hz dC dI dA s H1 locs1 (cells + (σ1.length - σ.length)) σ1 →
                      W p l e R s m args below meth c H1 locs1 (cells + (σ1.length - σ.length)) (slots + (am_ns σ1 - am_ns σ)) (MQ below (am_Q bs hz dC dI dA r σ') args s mc ms (fun q => hz ≤ q)) (F0 m (pc + 3) lsA ((r1.map (am_cv bs hz)).toList ++ rest.map (am_cv bs hz))) := by
                    intro H1 locs1 hD1
                    rw [am_map_toList]
                    exact am_sound n (d' + 1) y (pc + 3) ls (r1.toList ++ rest) σ1 r σ' h p e R s m args below meth c H1 locs1 _ _ mc ms lsA hF hD1 hL (by omega) (by omega) hRc hRs
                  have hfix : CallFix p m c (pg_code y) (pg_maxL y) s args pg_words (pg_cn (pg_own y)) := ⟨hF.1, hF.2.1, hF.2.2.1, hF.own, hF.words⟩
                  refine am_back (arr := (as.map (am_cv bs hz)).toArray) hF.hl hD (by omega) ?_ go
                  exact am_callrun hF hD hlo hd hcl hfix hM hpre hroom hL.2.1 ⟨by omega, by omega⟩
            next => cases h
          next hcl =>
            split at h
            next pc' ls' st' σ1 hs =>
              have g1 := am_grow hs
              have g2 := am_rgrow _ _ _ _ _ _ _ _ _ h
              refine am_sim hF hD hL hd hlo hs (by omega) (by omega) (by omega) (by omega) ?_
              intro H1 locs1 cells1 slots1 lsA1 hD1 hL1 e1 e2
              exact am_sound n d y pc' ls' st' σ1 r σ' h p e R s m args below meth c H1 locs1 cells1 slots1 mc ms lsA1 hF hD1 hL1 (by omega) (by omega) hRc hRs
            next => cases h
end
section
/-! Rows of the abstract machine: what runs from an instruction is what runs from the next -/
theorem am_body_mono {L : Nat} {xs : Nat → Int32} {f g : Nat → Nat → Nat → List Value → List Value → am_S → Option (Option Value × am_S)} (hfg : ∀ d y pc ls st σ v, f d y pc ls st σ = some v → g d y pc ls st σ = some v)
    {d y pc : Nat} {ls st : List Value} {σ : am_S} {v : Option Value × am_S} (h : am_body L xs f d y pc ls st σ = some v) : am_body L xs g d y pc ls st σ = some v := by
  unfold am_body at h ⊢
  cases hd : decode (pg_code y) pc with
  | error _ => rw [hd] at h; cases h
  | ok w =>
    obtain ⟨i, len⟩ := w
    rw [hd] at h
    dsimp only at h ⊢
    by_cases hl : am_lo i len = false
    · rw [if_pos hl] at h; cases h
    · rw [if_neg hl] at h ⊢
      cases hr : am_ret y i st with
      | some r => rw [hr] at h; exact h
      | none =>
        rw [hr] at h
        dsimp only at h ⊢
        cases hc : am_cl y i st σ with
        | some w =>
          obtain ⟨z, as, rest⟩ := w
          rw [hc] at h
          dsimp only at h ⊢
          by_cases ho : as.all am_ok = true ∧ as.length ≤ pg_maxL z
          · rw [if_pos ho] at h ⊢
            cases d with
            | zero => cases h
            | succ d' =>
              dsimp only at h ⊢
              cases hf : f d' z 0 (am_en z as) [] σ with
              | none => rw [hf] at h; cases h
              | some w =>
                obtain ⟨r, σ1⟩ := w
                rw [hf] at h
                rw [hfg _ _ _ _ _ _ _ hf]
                exact hfg _ _ _ _ _ _ _ h
          · rw [if_neg ho] at h; cases h
        | none =>
          rw [hc] at h
          dsimp only at h ⊢
          cases hs : am_simple L xs d y i pc ls st σ with
          | none => rw [hs] at h; cases h
          | some w =>
            obtain ⟨pc', ls', st', σ1⟩ := w
            rw [hs] at h
            exact hfg _ _ _ _ _ _ _ h
theorem am_mono1 {L : Nat} {xs : Nat → Int32} : ∀ (n d y pc : Nat) (ls st : List Value) (σ : am_S) (v : Option Value × am_S), am_run L xs n d y pc ls st σ = some v → am_run L xs (n + 1) d y pc ls st σ = some v
  | 0, _, _, _, _, _, _, _, h => by cases h
  | n + 1, _, _, _, _, _, _, _, h => am_body_mono (am_mono1 n) h
theorem am_mono {L : Nat} {xs : Nat → Int32} {n d y pc : Nat} {ls st : List Value} {σ : am_S} {v : Option Value × am_S} (h : am_run L xs n d y pc ls st σ = some v) : ∀ k, am_run L xs (n + k) d y pc ls st σ = some v
  | 0 => h
  | k + 1 => am_mono1 _ _ _ _ _ _ _ _ (am_mono h k)
section amRows
variable {L : Nat} {xs : Nat → Int32} {d y pc : Nat} {ls st : List Value} {σ : am_S} {Q : Option Value → am_S → Prop}
theorem am_step {i : Instr} {len pc' : Nat} {ls' st' : List Value} {σ1 : am_S} (hd : decode (pg_code y) pc = .ok (i, len)) (hl : am_lo i len = true) (hr : am_ret y i st = none) (hc : am_cl y i st σ = none) (hs : am_simple L xs d y i pc ls st σ = some (pc', ls', st', σ1)) :
    am_Rn L xs d y pc ls st σ Q = am_Rn L xs d y pc' ls' st' σ1 Q := by
  have e : ∀ n, am_run L xs (n + 1) d y pc ls st σ = am_run L xs n d y pc' ls' st' σ1 := by
    intro n
    show am_body L xs (am_run L xs n) d y pc ls st σ = _
    unfold am_body
    rw [hd]
    dsimp only
    rw [if_neg (by rw [hl]; decide), hr]
    dsimp only
    rw [hc]
    dsimp only
    rw [hs]
  apply propext
  constructor
  · rintro ⟨n, r, σ', h, hq⟩
    cases n with
    | zero => cases h
    | succ n => exact ⟨n, r, σ', by rw [← e]; exact h, hq⟩
  · rintro ⟨n, r, σ', h, hq⟩
    exact ⟨n + 1, r, σ', by rw [e]; exact h, hq⟩
theorem am_call {i : Instr} {len z : Nat} {as rest : List Value} (hd : decode (pg_code y) pc = .ok (i, len)) (hl : am_lo i len = true) (hr : am_ret y i st = none) (hc : am_cl y i st σ = some (z, as, rest)) (ho : as.all am_ok = true ∧ as.length ≤ pg_maxL z) :
    am_Rn L xs (d + 1) y pc ls st σ Q = am_Rn L xs d z 0 (am_en z as) [] σ (fun r σ1 => am_Rn L xs (d + 1) y (pc + 3) ls (r.toList ++ rest) σ1 Q) := by
  have e : ∀ n, am_run L xs (n + 1) (d + 1) y pc ls st σ = (match am_run L xs n d z 0 (am_en z as) [] σ with
      | none => none
      | some (r, σ1) => am_run L xs n (d + 1) y (pc + 3) ls (r.toList ++ rest) σ1) := by
    intro n
    show am_body L xs (am_run L xs n) (d + 1) y pc ls st σ = _
    unfold am_body
    rw [hd]
    dsimp only
    rw [if_neg (by rw [hl]; decide), hr]
    dsimp only
    rw [hc]
    dsimp only
    rw [if_pos ho]
    all_goals (cases am_run L xs n d z 0 (am_en z as) [] σ <;> rfl)
  apply propext
  constructor
  · rintro ⟨n, r, σ', h, hq⟩
    cases n with
    | zero => cases h
    | succ n =>
      rw [e] at h
      cases hf : am_run L xs n d z 0 (am_en z as) [] σ with
      | none => rw [hf] at h; cases h
      | some w =>
        obtain ⟨r1, σ1⟩ := w
        rw [hf] at h
        exact ⟨n, r1, σ1, hf, n, r, σ', h, hq⟩
  · rintro ⟨n, r1, σ1, hf, k, r, σ', h, hq⟩
    refine ⟨n + k + 1, r, σ', ?_, hq⟩
    rw [e, am_mono hf k]
    dsimp only
    rw [Nat.add_comm n k]
    exact am_mono h n
theorem am_end {i : Instr} {len : Nat} {r : Option Value} (hd : decode (pg_code y) pc = .ok (i, len)) (hl : am_lo i len = true) (hr : am_ret y i st = some r) : am_Rn L xs d y pc ls st σ Q = Q r σ := by
  have e : ∀ n, am_run L xs (n + 1) d y pc ls st σ = some (r, σ) := by
    intro n
    show am_body L xs (am_run L xs n) d y pc ls st σ = _
    unfold am_body
    rw [hd]
    dsimp only
    rw [if_neg (by rw [hl]; decide), hr]
  apply propext
  constructor
  · rintro ⟨n, r', σ', h, hq⟩
    cases n with
    | zero => cases h
    | succ n =>
      rw [e] at h
      obtain ⟨rfl, rfl⟩ := Prod.mk.inj (Option.some.inj h)
      exact hq
  · intro hq
    exact ⟨1, r, σ, e 0, hq⟩
end amRows
end
section
/-! The rows, one for each kind of instruction -/
section amO
variable {L : Nat} {xs : Nat → Int32} {d y pc : Nat} {ls st : List Value} {σ : am_S} {Q : Option Value → am_S → Prop}
theorem am_stuck {i : Instr} {len : Nat} (hd : decode (pg_code y) pc = .ok (i, len)) (hl : am_lo i len = true) (hr : am_ret y i st = none) (hc : am_cl y i st σ = none) (hs : am_simple L xs d y i pc ls st σ = none) :
    am_Rn L xs d y pc ls st σ Q = False := by
  have e : ∀ n, am_run L xs (n + 1) d y pc ls st σ = none := by
    intro n
    show am_body L xs (am_run L xs n) d y pc ls st σ = _
    unfold am_body
    rw [hd]
    dsimp only
    rw [if_neg (by rw [hl]; decide), hr]
    dsimp only
    rw [hc]
    dsimp only
    rw [hs]
  apply propext
  refine ⟨?_, fun h => h.elim⟩
  rintro ⟨n, r, σ', h, hq⟩
  cases n with
  | zero => cases h
  | succ n => rw [e] at h; cases h
theorem am_cnd {i : Instr} {len pc' : Nat} {ls' st' : List Value} {σ1 : am_S} {cnd : Prop} (hd : decode (pg_code y) pc = .ok (i, len)) (hl : am_lo i len = true) (hr : am_ret y i st = none) (hc : am_cl y i st σ = none)
    (ht : cnd → am_simple L xs d y i pc ls st σ = some (pc', ls', st', σ1)) (hf : ¬ cnd → am_simple L xs d y i pc ls st σ = none) : am_Rn L xs d y pc ls st σ Q = (cnd ∧ am_Rn L xs d y pc' ls' st' σ1 Q) := by
  by_cases h : cnd
  · rw [am_step hd hl hr hc (ht h)]
    exact propext ⟨fun q => ⟨h, q⟩, fun q => q.2⟩
  · rw [am_stuck hd hl hr hc (hf h)]
    exact propext ⟨fun q => q.elim, fun q => h q.1⟩
/-- reading the locals -/
def am_li (ls : List Value) (k : Nat) (f : Int32 → Prop) : Prop := match ls[k]? with
  | some (.int x) => f x
  | _ => False
def am_la (ls : List Value) (k : Nat) (f : Value → Prop) : Prop := match ls[k]? with
  | some (.ref x) => f (.ref x)
  | some .null => f .null
  | some (.float x) => f (.float x)
  | _ => False
def am_fd (σ : am_S) (p ci k : Nat) (f : Value → Prop) : Prop := match σ[p]? with
  | some (.inr (ci', fs)) => ci' = ci ∧ (match fs[k]? with
    | some v => f v
    | none => False)
  | _ => False
def am_ai (t : Nat) (σ : am_S) (p : Nat) (i : Int32) (f : Int32 → Prop) : Prop := match σ[p]? with
  | some (.inl (t', (n, .inl g))) => t' = t ∧ am_in i n = true ∧ f (g i.toNatClampNeg)
  | _ => False
def am_wi (t : Nat) (σ : am_S) (p : Nat) (i x : Int32) (f : am_S → Prop) : Prop := match σ[p]? with
  | some (.inl (t', (n, .inl g))) => t' = t ∧ am_in i n = true ∧ f (σ.set p (.inl (t, (n, .inl (upd g i.toNatClampNeg x)))))
  | _ => False
def am_ar2 (σ : am_S) (p : Nat) (i : Int32) (f : Nat → Prop) : Prop := match σ[p]? with
  | some (.inl (t', (n, .inr (.inr (.inr (.inr g)))))) => (t' = 2 ∨ t' = 3) ∧ am_in i n = true ∧ (match g i.toNatClampNeg with
    | some q => f q
    | none => False)
  | _ => False
def am_wf (y σo : Nat) (σ : am_S) (p ci k : Nat) (v : Value) (f : am_S → Prop) : Prop := match σ[p]? with
  | some (.inr (ci', fs)) => (ci' = ci ∧ k < fs.length ∧ am_fit (pg_fk ci k) v = true ∧ (pg_ff ci k = true → pg_ini y = true ∧ ci = σo)) ∧ f (σ.set p (.inr (ci, fs.set k v)))
  | _ => False
def am_ln (σ : am_S) (p : Nat) (f : Int32 → Prop) : Prop := match σ[p]? with
  | some (.inl (t, a)) => t < 4 ∧ f (Int32.ofNat a.1)
  | _ => False
theorem am_r_iconst {n : Int} {v : Int32} (hd : decode (pg_code y) pc = .ok (.iconst n, 1)) (hv : Int32.ofInt n = v) : am_Rn L xs d y pc ls st σ Q = am_Rn L xs d y (pc + 1) ls (.int v :: st) σ Q := by
  subst hv; exact am_step hd rfl rfl rfl rfl
theorem am_r_bipush {n : Int} {v : Int32} (hd : decode (pg_code y) pc = .ok (.bipush n, 2)) (hv : (Int8.ofInt n).toInt32 = v) : am_Rn L xs d y pc ls st σ Q = am_Rn L xs d y (pc + 2) ls (.int v :: st) σ Q := by
  subst hv; exact am_step hd rfl rfl rfl rfl
theorem am_r_sipush {n : Int} {v : Int32} (hd : decode (pg_code y) pc = .ok (.sipush n, 3)) (hv : (Int16.ofInt n).toInt32 = v) : am_Rn L xs d y pc ls st σ Q = am_Rn L xs d y (pc + 3) ls (.int v :: st) σ Q := by
  subst hv; exact am_step hd rfl rfl rfl rfl
theorem am_r_ldc {idx : Nat} {v : Int32} (hd : decode (pg_code y) pc = .ok (.ldc idx, 2)) (hv : pg_ldc (pg_own y) idx = some v) : am_Rn L xs d y pc ls st σ Q = am_Rn L xs d y (pc + 2) ls (.int v :: st) σ Q :=
  am_step hd rfl rfl rfl (by simp only [am_simple, hv])
theorem am_r_ldc_w {idx : Nat} {v : Int32} (hd : decode (pg_code y) pc = .ok (.ldc_w idx, 3)) (hv : pg_ldc (pg_own y) idx = some v) : am_Rn L xs d y pc ls st σ Q = am_Rn L xs d y (pc + 3) ls (.int v :: st) σ Q :=
  am_step hd rfl rfl rfl (by simp only [am_simple, hv])
theorem am_il_eq {i : Instr} {len k : Nat} (hd : decode (pg_code y) pc = .ok (i, len)) (hl : am_lo i len = true) (hr : am_ret y i st = none) (hc : am_cl y i st σ = none) (hs : am_simple L xs d y i pc ls st σ = am_il k (pc + len) ls st σ) :
    am_Rn L xs d y pc ls st σ Q = am_li ls k (fun x => am_Rn L xs d y (pc + len) ls (.int x :: st) σ Q) := by
  unfold am_li
  split
  next x h => exact am_step hd hl hr hc (by rw [hs]; simp only [am_il, h])
  next h =>
    refine am_stuck hd hl hr hc ?_
    rw [hs]
    unfold am_il
    split
    next x h2 => exact absurd h2 (h x)
    next => rfl
theorem am_r_iload_n {k : Fin 4} (hd : decode (pg_code y) pc = .ok (.iload_n k, 1)) : am_Rn L xs d y pc ls st σ Q = am_li ls k.val (fun x => am_Rn L xs d y (pc + 1) ls (.int x :: st) σ Q) := am_il_eq hd rfl rfl rfl rfl
theorem am_r_iload {k : Nat} (hd : decode (pg_code y) pc = .ok (.iload k, 2)) : am_Rn L xs d y pc ls st σ Q = am_li ls k (fun x => am_Rn L xs d y (pc + 2) ls (.int x :: st) σ Q) := am_il_eq hd rfl rfl rfl rfl
theorem am_al_eq {i : Instr} {len k : Nat} (hd : decode (pg_code y) pc = .ok (i, len)) (hl : am_lo i len = true) (hr : am_ret y i st = none) (hc : am_cl y i st σ = none) (hs : am_simple L xs d y i pc ls st σ = am_al k (pc + len) ls st σ) :
    am_Rn L xs d y pc ls st σ Q = am_la ls k (fun x => am_Rn L xs d y (pc + len) ls (x :: st) σ Q) := by
  unfold am_la
  split
  next x h => exact am_step hd hl hr hc (by rw [hs]; simp only [am_al, h])
  next h => exact am_step hd hl hr hc (by rw [hs]; simp only [am_al, h])
  next x h => exact am_step hd hl hr hc (by rw [hs]; simp only [am_al, h])
  next h1 h2 h3 =>
    refine am_stuck hd hl hr hc ?_
    rw [hs]
    unfold am_al
    split
    next x h => exact absurd h (h1 x)
    next h => exact absurd h h2
    next x h => exact absurd h (h3 x)
    next => rfl
theorem am_r_aload_n {k : Fin 4} (hd : decode (pg_code y) pc = .ok (.aload_n k, 1)) : am_Rn L xs d y pc ls st σ Q = am_la ls k.val (fun x => am_Rn L xs d y (pc + 1) ls (x :: st) σ Q) := am_al_eq hd rfl rfl rfl rfl
theorem am_r_aload {k : Nat} (hd : decode (pg_code y) pc = .ok (.aload k, 2)) : am_Rn L xs d y pc ls st σ Q = am_la ls k (fun x => am_Rn L xs d y (pc + 2) ls (x :: st) σ Q) := am_al_eq hd rfl rfl rfl rfl
theorem am_is_eq {i : Instr} {len k : Nat} {x : Int32} (hd : decode (pg_code y) pc = .ok (i, len)) (hl : am_lo i len = true) (hr : am_ret y i (.int x :: st) = none) (hc : am_cl y i (.int x :: st) σ = none) (hs : am_simple L xs d y i pc ls (.int x :: st) σ = am_is k (pc + len) ls (.int x :: st) σ) :
    am_Rn L xs d y pc ls (.int x :: st) σ Q = (k < ls.length ∧ am_Rn L xs d y (pc + len) (ls.set k (.int x)) st σ Q) := by
  exact am_cnd hd hl hr hc (fun h => by rw [hs]; simp only [am_is, h, if_true]) (fun h => by rw [hs]; simp only [am_is, h, if_false])
theorem am_r_istore_n {k : Fin 4} {x : Int32} (hd : decode (pg_code y) pc = .ok (.istore_n k, 1)) : am_Rn L xs d y pc ls (.int x :: st) σ Q = (k.val < ls.length ∧ am_Rn L xs d y (pc + 1) (ls.set k.val (.int x)) st σ Q) := am_is_eq hd rfl rfl rfl rfl
theorem am_r_istore {k : Nat} {x : Int32} (hd : decode (pg_code y) pc = .ok (.istore k, 2)) : am_Rn L xs d y pc ls (.int x :: st) σ Q = (k < ls.length ∧ am_Rn L xs d y (pc + 2) (ls.set k (.int x)) st σ Q) := am_is_eq hd rfl rfl rfl rfl
theorem am_as_eq {i : Instr} {len k x : Nat} (hd : decode (pg_code y) pc = .ok (i, len)) (hl : am_lo i len = true) (hr : am_ret y i (.ref x :: st) = none) (hc : am_cl y i (.ref x :: st) σ = none) (hs : am_simple L xs d y i pc ls (.ref x :: st) σ = am_as k (pc + len) ls (.ref x :: st) σ) :
    am_Rn L xs d y pc ls (.ref x :: st) σ Q = (k < ls.length ∧ am_Rn L xs d y (pc + len) (ls.set k (.ref x)) st σ Q) := by
  exact am_cnd hd hl hr hc (fun h => by rw [hs]; simp only [am_as, h, if_true]) (fun h => by rw [hs]; simp only [am_as, h, if_false])
theorem am_r_astore_n {k : Fin 4} {x : Nat} (hd : decode (pg_code y) pc = .ok (.astore_n k, 1)) : am_Rn L xs d y pc ls (.ref x :: st) σ Q = (k.val < ls.length ∧ am_Rn L xs d y (pc + 1) (ls.set k.val (.ref x)) st σ Q) := am_as_eq hd rfl rfl rfl rfl
theorem am_r_astore {k x : Nat} (hd : decode (pg_code y) pc = .ok (.astore k, 2)) : am_Rn L xs d y pc ls (.ref x :: st) σ Q = (k < ls.length ∧ am_Rn L xs d y (pc + 2) (ls.set k (.ref x)) st σ Q) := am_as_eq hd rfl rfl rfl rfl
theorem am_r_iinc {k : Nat} {n : Int} {v : Int32} (hd : decode (pg_code y) pc = .ok (.iinc k n, 3)) (hv : Int32.ofInt n = v) : am_Rn L xs d y pc ls st σ Q = am_li ls k (fun x => am_Rn L xs d y (pc + 3) (ls.set k (.int (x + v))) st σ Q) := by
  subst hv
  unfold am_li
  split
  next x h => exact am_step hd rfl rfl rfl (by simp only [am_simple, am_inc, h])
  next h =>
    refine am_stuck hd rfl rfl rfl ?_
    simp only [am_simple]
    unfold am_inc
    split
    next x h2 => exact absurd h2 (h x)
    next => rfl
theorem am_r_iadd {a b : Int32} (hd : decode (pg_code y) pc = .ok (.iadd, 1)) : am_Rn L xs d y pc ls (.int b :: .int a :: st) σ Q = am_Rn L xs d y (pc + 1) ls (.int (a + b) :: st) σ Q := am_step hd rfl rfl rfl rfl
theorem am_r_isub {a b : Int32} (hd : decode (pg_code y) pc = .ok (.isub, 1)) : am_Rn L xs d y pc ls (.int b :: .int a :: st) σ Q = am_Rn L xs d y (pc + 1) ls (.int (a - b) :: st) σ Q := am_step hd rfl rfl rfl rfl
theorem am_r_imul {a b : Int32} (hd : decode (pg_code y) pc = .ok (.imul, 1)) : am_Rn L xs d y pc ls (.int b :: .int a :: st) σ Q = am_Rn L xs d y (pc + 1) ls (.int (a * b) :: st) σ Q := am_step hd rfl rfl rfl rfl
theorem am_r_iand {a b : Int32} (hd : decode (pg_code y) pc = .ok (.iand, 1)) : am_Rn L xs d y pc ls (.int b :: .int a :: st) σ Q = am_Rn L xs d y (pc + 1) ls (.int (a &&& b) :: st) σ Q := am_step hd rfl rfl rfl rfl
theorem am_r_ior {a b : Int32} (hd : decode (pg_code y) pc = .ok (.ior, 1)) : am_Rn L xs d y pc ls (.int b :: .int a :: st) σ Q = am_Rn L xs d y (pc + 1) ls (.int (a ||| b) :: st) σ Q := am_step hd rfl rfl rfl rfl
theorem am_r_ixor {a b : Int32} (hd : decode (pg_code y) pc = .ok (.ixor, 1)) : am_Rn L xs d y pc ls (.int b :: .int a :: st) σ Q = am_Rn L xs d y (pc + 1) ls (.int (a ^^^ b) :: st) σ Q := am_step hd rfl rfl rfl rfl
theorem am_r_ishl {a b : Int32} (hd : decode (pg_code y) pc = .ok (.ishl, 1)) : am_Rn L xs d y pc ls (.int b :: .int a :: st) σ Q = am_Rn L xs d y (pc + 1) ls (.int (a <<< (b &&& 31)) :: st) σ Q := am_step hd rfl rfl rfl rfl
theorem am_r_ishr {a b : Int32} (hd : decode (pg_code y) pc = .ok (.ishr, 1)) : am_Rn L xs d y pc ls (.int b :: .int a :: st) σ Q = am_Rn L xs d y (pc + 1) ls (.int (a >>> (b &&& 31)) :: st) σ Q := am_step hd rfl rfl rfl rfl
theorem am_r_iushr {a b : Int32} (hd : decode (pg_code y) pc = .ok (.iushr, 1)) : am_Rn L xs d y pc ls (.int b :: .int a :: st) σ Q = am_Rn L xs d y (pc + 1) ls (.int ((a.toUInt32 >>> (b.toUInt32 &&& Int32.toUInt32 31)).toInt32) :: st) σ Q := am_step hd rfl rfl rfl rfl
theorem am_r_ineg {a : Int32} (hd : decode (pg_code y) pc = .ok (.ineg, 1)) : am_Rn L xs d y pc ls (.int a :: st) σ Q = am_Rn L xs d y (pc + 1) ls (.int (-a) :: st) σ Q := am_step hd rfl rfl rfl rfl
theorem am_r_idiv {a b : Int32} (hd : decode (pg_code y) pc = .ok (.idiv, 1)) : am_Rn L xs d y pc ls (.int b :: .int a :: st) σ Q = (b ≠ 0 ∧ am_Rn L xs d y (pc + 1) ls (.int (a / b) :: st) σ Q) := by
  exact am_cnd hd rfl rfl rfl (fun h => by simp only [am_simple, am_dv]; rw [if_neg h]) (fun h => by simp only [am_simple, am_dv]; rw [if_pos (Classical.not_not.mp h)])
theorem am_r_irem {a b : Int32} (hd : decode (pg_code y) pc = .ok (.irem, 1)) : am_Rn L xs d y pc ls (.int b :: .int a :: st) σ Q = (b ≠ 0 ∧ am_Rn L xs d y (pc + 1) ls (.int (a - a / b * b) :: st) σ Q) := by
  exact am_cnd hd rfl rfl rfl (fun h => by simp only [am_simple, am_dv]; rw [if_neg h]) (fun h => by simp only [am_simple, am_dv]; rw [if_pos (Classical.not_not.mp h)])
theorem am_r_dup {a : Value} (hd : decode (pg_code y) pc = .ok (.dup, 1)) : am_Rn L xs d y pc ls (a :: st) σ Q = (am_ok a = true ∧ am_Rn L xs d y (pc + 1) ls (a :: a :: st) σ Q) := by
  exact am_cnd hd rfl rfl rfl (fun h => by simp only [am_simple, am_d0]; rw [if_pos h]) (fun h => by simp only [am_simple, am_d0]; rw [if_neg h])
theorem am_r_pop {a : Value} (hd : decode (pg_code y) pc = .ok (.pop, 1)) : am_Rn L xs d y pc ls (a :: st) σ Q = (am_ok a = true ∧ am_Rn L xs d y (pc + 1) ls st σ Q) := by
  exact am_cnd hd rfl rfl rfl (fun h => by simp only [am_simple, am_po]; rw [if_pos h]) (fun h => by simp only [am_simple, am_po]; rw [if_neg h])
theorem am_r_dup_x1 {a b : Value} (hd : decode (pg_code y) pc = .ok (.dup_x1, 1)) : am_Rn L xs d y pc ls (a :: b :: st) σ Q = ((am_ok a && am_ok b) = true ∧ am_Rn L xs d y (pc + 1) ls (a :: b :: a :: st) σ Q) := by
  exact am_cnd hd rfl rfl rfl (fun h => by simp only [am_simple, am_d1]; rw [if_pos h]) (fun h => by simp only [am_simple, am_d1]; rw [if_neg h])
theorem am_r_dup_x2 {a b b2 : Value} (hd : decode (pg_code y) pc = .ok (.dup_x2, 1)) : am_Rn L xs d y pc ls (a :: b :: b2 :: st) σ Q = ((am_ok a && am_ok b && am_ok b2) = true ∧ am_Rn L xs d y (pc + 1) ls (a :: b :: b2 :: a :: st) σ Q) := by
  exact am_cnd hd rfl rfl rfl (fun h => by simp only [am_simple, am_dx]; rw [if_pos h]) (fun h => by simp only [am_simple, am_dx]; rw [if_neg h])
theorem am_r_dup2 {a b : Value} (hd : decode (pg_code y) pc = .ok (.dup2, 1)) : am_Rn L xs d y pc ls (a :: b :: st) σ Q = ((am_ok a && am_ok b) = true ∧ am_Rn L xs d y (pc + 1) ls (a :: b :: a :: b :: st) σ Q) := by
  exact am_cnd hd rfl rfl rfl (fun h => by simp only [am_simple, am_d2]; rw [if_pos h]) (fun h => by simp only [am_simple, am_d2]; rw [if_neg h])
theorem am_r_if {c : Jvm.ClassFile.Cond} {off : Int} {t : Nat} {x : Int32} (hd : decode (pg_code y) pc = .ok (.ifCond c off, 3)) (ht : (pc : Int) + off = (t : Int)) : am_Rn L xs d y pc ls (.int x :: st) σ Q = if am_cond c x 0 = true then am_Rn L xs d y t ls st σ Q else am_Rn L xs d y (pc + 3) ls st σ Q := by
  have h1 : am_to pc off = t := by unfold am_to; rw [ht]; rfl
  have h2 : (pc : Int) + off = ((am_to pc off : Nat) : Int) := by rw [h1]; exact ht
  by_cases h : am_cond c x 0 = true
  · rw [if_pos h, ← h1]
    exact am_step hd rfl rfl rfl (by simp only [am_simple, am_if]; rw [if_pos h2, if_pos h])
  · rw [if_neg h]
    exact am_step hd rfl rfl rfl (by simp only [am_simple, am_if]; rw [if_pos h2, if_neg h])
theorem am_r_icmp {c : Jvm.ClassFile.Cond} {off : Int} {t : Nat} {x z : Int32} (hd : decode (pg_code y) pc = .ok (.if_icmp c off, 3)) (ht : (pc : Int) + off = (t : Int)) : am_Rn L xs d y pc ls (.int z :: .int x :: st) σ Q = if am_cond c x z = true then am_Rn L xs d y t ls st σ Q else am_Rn L xs d y (pc + 3) ls st σ Q := by
  have h1 : am_to pc off = t := by unfold am_to; rw [ht]; rfl
  have h2 : (pc : Int) + off = ((am_to pc off : Nat) : Int) := by rw [h1]; exact ht
  by_cases h : am_cond c x z = true
  · rw [if_pos h, ← h1]
    exact am_step hd rfl rfl rfl (by simp only [am_simple, am_ic]; rw [if_pos h2, if_pos h])
  · rw [if_neg h]
    exact am_step hd rfl rfl rfl (by simp only [am_simple, am_ic]; rw [if_pos h2, if_neg h])
theorem am_r_goto {off : Int} {t : Nat} (hd : decode (pg_code y) pc = .ok (.goto off, 3)) (ht : (pc : Int) + off = (t : Int)) : am_Rn L xs d y pc ls st σ Q = am_Rn L xs d y t ls st σ Q := by
  have h1 : am_to pc off = t := by unfold am_to; rw [ht]; rfl
  have h2 : (pc : Int) + off = ((am_to pc off : Nat) : Int) := by rw [h1]; exact ht
  rw [← h1]
  exact am_step hd rfl rfl rfl (by simp only [am_simple, am_j]; rw [if_pos h2])
theorem am_r_getfield {idx p ci k : Nat} (hd : decode (pg_code y) pc = .ok (.getfield idx, 3)) (hf : pg_fld (pg_own y) idx = some (ci, k)) : am_Rn L xs d y pc ls (.ref p :: st) σ Q = am_fd σ p ci k (fun v => am_Rn L xs d y (pc + 3) ls (v :: st) σ Q) := by
  unfold am_fd
  split
  next ci' fs h =>
    split
    next v hv =>
      exact am_cnd hd rfl rfl rfl (fun hc => by simp only [am_simple, am_gf, hf, h]; rw [if_pos hc, hv]) (fun hc => by simp only [am_simple, am_gf, hf, h]; rw [if_neg hc])
    next hv =>
      rw [and_false]
      refine am_stuck hd rfl rfl rfl ?_
      simp only [am_simple, am_gf, hf, h]
      split
      · rw [hv]
      · rfl
  next h =>
    refine am_stuck hd rfl rfl rfl ?_
    simp only [am_simple, am_gf, hf]
    split
    next ci2 k2 ci' fs h1 h2 => exact absurd h2 (h ci' fs)
    next => rfl
theorem am_r_putfield {idx p ci k : Nat} {v : Value} (hd : decode (pg_code y) pc = .ok (.putfield idx, 3)) (hf : pg_fld (pg_own y) idx = some (ci, k)) : am_Rn L xs d y pc ls (v :: .ref p :: st) σ Q = am_wf y (pg_own y) σ p ci k v (fun σ1 => am_Rn L xs d y (pc + 3) ls st σ1 Q) := by
  unfold am_wf
  split
  next ci' fs h =>
    exact am_cnd hd rfl rfl rfl (fun hc => by simp only [am_simple, am_pf, hf, h]; rw [if_pos hc]) (fun hc => by simp only [am_simple, am_pf, hf, h]; rw [if_neg hc])
  next h =>
    refine am_stuck hd rfl rfl rfl ?_
    simp only [am_simple, am_pf, hf]
    split
    next ci2 k2 ci' fs h1 h2 => exact absurd h2 (h ci' fs)
    next => rfl
end amO
end
section
/-! The rows, continued: arrays, ends, calls -/
section amO
variable {L : Nat} {xs : Nat → Int32} {d y pc : Nat} {ls st : List Value} {σ : am_S} {Q : Option Value → am_S → Prop}
theorem am_r_iaload {p : Nat} {i : Int32} (hd : decode (pg_code y) pc = .ok (.iaload, 1)) : am_Rn L xs d y pc ls (.int i :: .ref p :: st) σ Q = am_ai 0 σ p i (fun x => am_Rn L xs d y (pc + 1) ls (.int x :: st) σ Q) := by
  unfold am_ai
  split
  next t n f h =>
    by_cases ht : t = 0
    · subst ht
      rw [eq_self, true_and]
      exact am_cnd hd rfl rfl rfl (fun hi => by simp only [am_simple, am_ild, h]; rw [if_pos hi]) (fun hi => by simp only [am_simple, am_ild, h]; rw [if_neg hi])
    · refine Eq.trans (am_stuck hd rfl rfl rfl ?_) (propext ⟨fun q => q.elim, fun q => ht q.1⟩)
      simp only [am_simple, am_ild, h]
      split
      next n2 f2 h2 =>
        simp only [Option.some.injEq, Sum.inl.injEq, Prod.mk.injEq] at h2
        exact absurd h2.1 ht
      next => rfl
  next h =>
    refine am_stuck hd rfl rfl rfl ?_
    simp only [am_simple, am_ild]
    split
    next n f h2 => exact absurd h2 (h _ _ _)
    next => rfl
theorem am_r_sload {b : UInt32} {i : Int32} (hd : decode (pg_code y) pc = .ok (.iaload, 1)) (hy : y = pg_num) : am_Rn L xs d y pc ls (.int i :: .float b :: st) σ Q = (am_in i L = true ∧ am_Rn L xs d y (pc + 1) ls (.int (xs i.toNatClampNeg) :: st) σ Q) := by
  exact am_cnd hd rfl rfl rfl (fun hi => by simp only [am_simple, am_ild, hy, if_true]; rw [if_pos hi]) (fun hi => by simp only [am_simple, am_ild, hy, if_true]; rw [if_neg hi])
theorem am_r_iastore {p : Nat} {i x : Int32} (hd : decode (pg_code y) pc = .ok (.iastore, 1)) : am_Rn L xs d y pc ls (.int x :: .int i :: .ref p :: st) σ Q = am_wi 0 σ p i x (fun σ1 => am_Rn L xs d y (pc + 1) ls st σ1 Q) := by
  unfold am_wi
  split
  next t n f h =>
    by_cases ht : t = 0
    · subst ht
      rw [eq_self, true_and]
      exact am_cnd hd rfl rfl rfl (fun hi => by simp only [am_simple, am_ist, h]; rw [if_pos hi]) (fun hi => by simp only [am_simple, am_ist, h]; rw [if_neg hi])
    · refine Eq.trans (am_stuck hd rfl rfl rfl ?_) (propext ⟨fun q => q.elim, fun q => ht q.1⟩)
      simp only [am_simple, am_ist, h]
      split
      next n2 f2 h2 =>
        simp only [Option.some.injEq, Sum.inl.injEq, Prod.mk.injEq] at h2
        exact absurd h2.1 ht
      next => rfl
  next h =>
    refine am_stuck hd rfl rfl rfl ?_
    simp only [am_simple, am_ist]
    split
    next n f h2 => exact absurd h2 (h _ _ _)
    next => rfl
theorem am_r_baload {p : Nat} {i : Int32} (hd : decode (pg_code y) pc = .ok (.baload, 1)) : am_Rn L xs d y pc ls (.int i :: .ref p :: st) σ Q = am_ai 1 σ p i (fun x => am_Rn L xs d y (pc + 1) ls (.int x :: st) σ Q) := by
  unfold am_ai
  split
  next t n f h =>
    by_cases ht : t = 1
    · subst ht
      rw [eq_self, true_and]
      exact am_cnd hd rfl rfl rfl (fun hi => by simp only [am_simple, am_zld, h]; rw [if_pos hi]) (fun hi => by simp only [am_simple, am_zld, h]; rw [if_neg hi])
    · refine Eq.trans (am_stuck hd rfl rfl rfl ?_) (propext ⟨fun q => q.elim, fun q => ht q.1⟩)
      simp only [am_simple, am_zld, h]
      split
      next n2 f2 h2 =>
        simp only [Option.some.injEq, Sum.inl.injEq, Prod.mk.injEq] at h2
        exact absurd h2.1 ht
      next => rfl
  next h =>
    refine am_stuck hd rfl rfl rfl ?_
    simp only [am_simple, am_zld]
    split
    next n f h2 => exact absurd h2 (h _ _ _)
    next => rfl
theorem am_r_bastore {p : Nat} {i x : Int32} (hd : decode (pg_code y) pc = .ok (.bastore, 1)) : am_Rn L xs d y pc ls (.int x :: .int i :: .ref p :: st) σ Q = am_wi 1 σ p i (vp_nar .boolean x) (fun σ1 => am_Rn L xs d y (pc + 1) ls st σ1 Q) := by
  unfold am_wi
  split
  next t n f h =>
    by_cases ht : t = 1
    · subst ht
      rw [eq_self, true_and]
      exact am_cnd hd rfl rfl rfl (fun hi => by simp only [am_simple, am_zst, h]; rw [if_pos hi]) (fun hi => by simp only [am_simple, am_zst, h]; rw [if_neg hi])
    · refine Eq.trans (am_stuck hd rfl rfl rfl ?_) (propext ⟨fun q => q.elim, fun q => ht q.1⟩)
      simp only [am_simple, am_zst, h]
      split
      next n2 f2 h2 =>
        simp only [Option.some.injEq, Sum.inl.injEq, Prod.mk.injEq] at h2
        exact absurd h2.1 ht
      next => rfl
  next h =>
    refine am_stuck hd rfl rfl rfl ?_
    simp only [am_simple, am_zst]
    split
    next n f h2 => exact absurd h2 (h _ _ _)
    next => rfl
theorem am_r_aaload {p : Nat} {i : Int32} (hd : decode (pg_code y) pc = .ok (.aaload, 1)) : am_Rn L xs d y pc ls (.int i :: .ref p :: st) σ Q = am_ar2 σ p i (fun q => am_Rn L xs d y (pc + 1) ls (.ref q :: st) σ Q) := by
  unfold am_ar2
  split
  next t n f h =>
    split
    next q hv =>
      have e := am_cnd (Q := Q) (cnd := am_in i n = true ∧ (t = 2 ∨ t = 3)) (L := L) (xs := xs) (d := d) (ls := ls) (σ := σ) (st := .int i :: .ref p :: st) hd rfl rfl rfl (fun hi => by simp only [am_simple, am_ald, h]; rw [if_pos hi, hv]) (fun hi => by simp only [am_simple, am_ald, h]; rw [if_neg hi])
      rw [e]
      exact propext ⟨fun q => ⟨q.1.2, q.1.1, q.2⟩, fun q => ⟨⟨q.2.1, q.1⟩, q.2.2⟩⟩
    next hv =>
      rw [and_false, and_false]
      refine am_stuck hd rfl rfl rfl ?_
      simp only [am_simple, am_ald, h]
      split
      · rw [hv]
      · rfl
  next h =>
    refine am_stuck hd rfl rfl rfl ?_
    simp only [am_simple, am_ald]
theorem am_r_arraylength {p : Nat} (hd : decode (pg_code y) pc = .ok (.arraylength, 1)) : am_Rn L xs d y pc ls (.ref p :: st) σ Q = am_ln σ p (fun x => am_Rn L xs d y (pc + 1) ls (.int x :: st) σ Q) := by
  unfold am_ln
  split
  next t a h =>
    exact am_cnd hd rfl rfl rfl (fun hi => by simp only [am_simple, am_len, h]; rw [if_pos hi]) (fun hi => by simp only [am_simple, am_len, h]; rw [if_neg hi])
  next h =>
    refine am_stuck hd rfl rfl rfl ?_
    simp only [am_simple, am_len]
theorem am_r_slen {b : UInt32} (hd : decode (pg_code y) pc = .ok (.arraylength, 1)) (hy : y = pg_num) : am_Rn L xs d y pc ls (.float b :: st) σ Q = am_Rn L xs d y (pc + 1) ls (.int (Int32.ofNat L) :: st) σ Q :=
  am_step hd rfl rfl rfl (by simp only [am_simple, am_len, hy, if_true])
theorem am_r_ireturn {v : Int32} (hd : decode (pg_code y) pc = .ok (.ireturn, 1)) (hk : pg_rk y = 1) : am_Rn L xs d y pc ls [.int v] σ Q = Q (some (.int v)) σ :=
  am_end hd rfl (by simp only [am_ret]; rw [if_pos (Or.inl hk)])
theorem am_r_zreturn {v : Int32} (hd : decode (pg_code y) pc = .ok (.ireturn, 1)) (hk : pg_rk y = 2) (hv : v = 0 ∨ v = 1) : am_Rn L xs d y pc ls [.int v] σ Q = Q (some (.int v)) σ :=
  am_end hd rfl (by simp only [am_ret]; rw [if_pos (Or.inr ⟨hk, hv⟩)])
theorem am_r_return (hd : decode (pg_code y) pc = .ok (.return_, 1)) (hk : pg_rk y = 0) : am_Rn L xs d y pc ls [] σ Q = Q none σ :=
  am_end hd rfl (by simp only [am_ret]; rw [if_pos hk])
/-- a call that comes back -/
def am_Call (L : Nat) (xs : Nat → Int32) (d z : Nat) (as : List Value) (σ : am_S) (Q : Option Value → am_S → Prop) : Prop := am_Rn L xs d z 0 (am_en z as) [] σ Q
theorem am_val {n z : Nat} {as : List Value} {r : Option Value} {σ1 : am_S} (h : am_run L xs n d z 0 (am_en z as) [] σ = some (r, σ1)) : am_Call L xs d z as σ Q = Q r σ1 := by
  apply propext
  constructor
  · rintro ⟨k, r2, σ2, h2, hq⟩
    have a := am_mono h k
    have b := am_mono h2 n
    rw [Nat.add_comm] at b
    rw [a] at b
    obtain ⟨rfl, rfl⟩ := Prod.mk.inj (Option.some.inj b)
    exact hq
  · intro hq
    exact ⟨n, r, σ1, h, hq⟩
/-- an instance method of an object at p: the arguments lie above it, the last on top -/
theorem am_r_virtual {idx z p ci : Nat} {fs as rest : List Value} (hd : decode (pg_code y) pc = .ok (.invokevirtual idx, 3)) (hm : pg_mth (pg_own y) idx = some z) (hz : z < pg_num ∧ pg_mk z = 0) (ha : as.length = pg_np z) (hr : rest.length ≤ 4) (hp : σ[p]? = some (.inr (ci, fs))) (hc : ci = pg_own z) (ho : as.all am_ok = true ∧ as.length + 1 ≤ pg_maxL z) :
    am_Rn L xs (d + 1) y pc ls (as.reverse ++ .ref p :: rest) σ Q = am_Call L xs d z (.ref p :: as) σ (fun r σ1 => am_Rn L xs (d + 1) y (pc + 3) ls (r.toList ++ rest) σ1 Q) := by
  have hl : as.reverse.length = pg_np z := by rw [List.length_reverse]; exact ha
  have h1 : (as.reverse ++ Value.ref p :: rest).drop (pg_np z) = .ref p :: rest := by rw [← hl, List.drop_left']; rfl
  have h2 : (as.reverse ++ Value.ref p :: rest).take (pg_np z) = as.reverse := by rw [← hl, List.take_left']; rfl
  refine am_call hd rfl rfl ?_ ⟨by rw [List.all_cons, ho.1]; rfl, ho.2⟩
  simp only [am_cl, hm]
  rw [if_pos hz, h1, h2]
  simp only [hp]
  rw [if_pos ⟨hc, hr, hl⟩, List.reverse_reverse]
theorem am_r_special {idx z p : Nat} {as rest : List Value} (hd : decode (pg_code y) pc = .ok (.invokespecial idx, 3)) (hm : pg_mth (pg_own y) idx = some z) (hz : z < pg_num ∧ pg_mk z = 1) (ha : as.length = pg_np z) (hr : rest.length ≤ 4) (ho : as.all am_ok = true ∧ as.length + 1 ≤ pg_maxL z) :
    am_Rn L xs (d + 1) y pc ls (as.reverse ++ .ref p :: rest) σ Q = am_Call L xs d z (.ref p :: as) σ (fun r σ1 => am_Rn L xs (d + 1) y (pc + 3) ls (r.toList ++ rest) σ1 Q) := by
  have hl : as.reverse.length = pg_np z := by rw [List.length_reverse]; exact ha
  have h1 : (as.reverse ++ Value.ref p :: rest).drop (pg_np z) = .ref p :: rest := by rw [← hl, List.drop_left']; rfl
  have h2 : (as.reverse ++ Value.ref p :: rest).take (pg_np z) = as.reverse := by rw [← hl, List.take_left']; rfl
  refine am_call hd rfl rfl ?_ ⟨by rw [List.all_cons, ho.1]; rfl, ho.2⟩
  simp only [am_cl, hm]
  rw [if_pos hz, h1, h2]
  dsimp only
  rw [if_pos ⟨hr, hl⟩, List.reverse_reverse]
theorem am_r_static {idx z : Nat} {as rest : List Value} (hd : decode (pg_code y) pc = .ok (.invokestatic idx, 3)) (hm : pg_mth (pg_own y) idx = some z) (hz : z < pg_num ∧ pg_mk z = 2) (ha : as.length = pg_np z) (hr : rest.length ≤ 4) (ho : as.all am_ok = true ∧ as.length ≤ pg_maxL z) :
    am_Rn L xs (d + 1) y pc ls (as.reverse ++ rest) σ Q = am_Call L xs d z as σ (fun r σ1 => am_Rn L xs (d + 1) y (pc + 3) ls (r.toList ++ rest) σ1 Q) := by
  have hl : as.reverse.length = pg_np z := by rw [List.length_reverse]; exact ha
  have h1 : (as.reverse ++ rest).drop (pg_np z) = rest := by rw [← hl, List.drop_left']; rfl
  have h2 : (as.reverse ++ rest).take (pg_np z) = as.reverse := by rw [← hl, List.take_left']; rfl
  refine am_call hd rfl rfl ?_ ho
  simp only [am_cl, hm]
  rw [if_pos hz, h1, h2, if_pos ⟨hr, hl⟩, List.reverse_reverse]
theorem am_r_new {idx ci : Nat} (hd : decode (pg_code y) pc = .ok (.new idx, 3)) (hn : pg_new (pg_own y) idx = some ci) : am_Rn L xs d y pc ls st σ Q = am_Rn L xs d y (pc + 3) ls (.ref σ.length :: st) (σ ++ [.inr (ci, pg_def ci)]) Q :=
  am_step hd rfl rfl rfl (by simp only [am_simple, am_new, hn])
theorem am_r_sp {i : Instr} {idx sp pc' : Nat} {ls' st' : List Value} {σ1 : am_S} (hd : decode (pg_code y) pc = .ok (i, 3)) (hi : (i = .invokespecial idx ∧ sp = 1000) ∨ (i = .invokestatic idx ∧ 1000 < sp)) (hm : pg_mth (pg_own y) idx = some sp) (hn : ¬ sp < pg_num) (hs : am_sp d sp pc ls st σ = some (pc', ls', st', σ1)) :
    am_Rn L xs d y pc ls st σ Q = am_Rn L xs d y pc' ls' st' σ1 Q := by
  rcases hi with ⟨rfl, rfl⟩ | ⟨rfl, hsp⟩
  · refine am_step hd rfl rfl ?_ ?_
    · simp only [am_cl, hm]; rw [if_neg (fun h => hn h.1)]
    · show am_spc 0 d (pg_own y) idx pc ls st σ = _
      unfold am_spc
      rw [hm]
      exact (if_pos (Or.inl ⟨rfl, rfl⟩)).trans hs
  · refine am_step hd rfl rfl ?_ ?_
    · simp only [am_cl, hm]; rw [if_neg (fun h => hn h.1)]
    · show am_spc 1 d (pg_own y) idx pc ls st σ = _
      unfold am_spc
      rw [hm]
      exact (if_pos (Or.inr ⟨rfl, hsp⟩)).trans hs
/-- only the law reads the script -/
theorem am_nol_s (L : Nat) (xs : Nat → Int32) {d z : Nat} (hz : z < pg_num) (i : Instr) (pc : Nat) (ls st : List Value) (σ : am_S) : am_simple L xs d z i pc ls st σ = am_simple 0 (fun _ => 0) d z i pc ls st σ := by
  have h : ¬ z = pg_num := Nat.ne_of_lt hz
  cases i <;> first | rfl | simp only [am_simple, h, if_false]
theorem am_nol (L : Nat) (xs : Nat → Int32) : ∀ (n d z pc : Nat) (ls st : List Value) (σ : am_S), z < pg_num → am_run L xs n d z pc ls st σ = am_run 0 (fun _ => 0) n d z pc ls st σ
  | 0, _, _, _, _, _, _, _ => rfl
  | n + 1, d, z, pc, ls, st, σ, hz => by
    show am_body L xs (am_run L xs n) d z pc ls st σ = am_body 0 (fun _ => 0) (am_run 0 (fun _ => 0) n) d z pc ls st σ
    unfold am_body
    cases decode (pg_code z) pc with
    | error _ => rfl
    | ok w =>
      obtain ⟨i, len⟩ := w
      dsimp only
      by_cases hl : am_lo i len = false
      · rw [if_pos hl, if_pos hl]
      · rw [if_neg hl, if_neg hl]
        cases am_ret z i st with
        | some r => rfl
        | none =>
          dsimp only
          cases hc : am_cl z i st σ with
          | none =>
            dsimp only
            rw [am_nol_s L xs hz]
            cases am_simple 0 (fun _ => 0) d z i pc ls st σ with
            | none => rfl
            | some w => exact am_nol L xs n _ _ _ _ _ _ hz
          | some w =>
            obtain ⟨z', as, rest⟩ := w
            dsimp only
            by_cases ho : as.all am_ok = true ∧ as.length ≤ pg_maxL z'
            · rw [if_pos ho, if_pos ho]
              cases d with
              | zero => rfl
              | succ d' =>
                dsimp only
                rw [am_nol L xs n d' z' 0 _ _ _ (am_cl_num hc)]
                cases am_run 0 (fun _ => 0) n d' z' 0 (am_en z' as) [] σ with
                | none => rfl
                | some w => exact am_nol L xs n _ _ _ _ _ _ hz
            · rw [if_neg ho, if_neg ho]
end amO
end
section
/-! Calls as rows, by the number of arguments -/
theorem am_ite {a b : Prop} [Decidable a] [Decidable b] (c d : Prop) (_ : True) (e : (a) = (b)) : (if a then c else d) = (if b then c else d) := by
  subst e
  by_cases h : a
  · rw [if_pos h, if_pos h]
  · rw [if_neg h, if_neg h]
section amV
variable {L : Nat} {xs : Nat → Int32} {d y pc : Nat} {ls st : List Value} {σ : am_S} {Q : Option Value → am_S → Prop}
theorem am_stuckC {i : Instr} {len z : Nat} {as rest : List Value} (hd : decode (pg_code y) pc = .ok (i, len)) (hl : am_lo i len = true) (hr : am_ret y i st = none) (hc : am_cl y i st σ = some (z, as, rest)) (ho : ¬ (as.all am_ok = true ∧ as.length ≤ pg_maxL z)) :
    am_Rn L xs d y pc ls st σ Q = False := by
  have e : ∀ n, am_run L xs (n + 1) d y pc ls st σ = none := by
    intro n
    show am_body L xs (am_run L xs n) d y pc ls st σ = _
    unfold am_body
    rw [hd]
    dsimp only
    rw [if_neg (by rw [hl]; decide), hr]
    dsimp only
    rw [hc]
    dsimp only
    rw [if_neg ho]
  apply propext
  refine ⟨?_, fun h => h.elim⟩
  rintro ⟨n, r, σ', h, hq⟩
  cases n with
  | zero => cases h
  | succ n => rw [e] at h; cases h
/-- the class of the object at a place -/
def am_oc (σ : am_S) (p : Nat) : Nat := match σ[p]? with
  | some (.inr (ci, _)) => ci
  | _ => 99
theorem am_R_virtual {idx z p c n : Nat} {as : List Value} (hd : decode (pg_code y) pc = .ok (.invokevirtual idx, 3)) (hm : pg_mth (pg_own y) idx = some z) (hz : z < pg_num ∧ pg_mk z = 0) (ha : pg_np z = n) (han : as.length = n) (hc : pg_own z = c) (hl : n + 1 ≤ pg_maxL z) :
    am_Rn L xs (d + 1) y pc ls (as.reverse ++ .ref p :: st) σ Q = ((am_oc σ p = c ∧ st.length ≤ 4 ∧ as.all am_ok = true) ∧ am_Call L xs d z (.ref p :: as) σ (fun r σ1 => am_Rn L xs (d + 1) y (pc + 3) ls (r.toList ++ st) σ1 Q)) := by
  have hc7 : c < 7 := by rw [← hc]; exact (pg_d (Nat.le_of_lt hz.1)).2.2.2.2.2.2.2.2 hz.2
  have hla : as.length = pg_np z := by rw [ha]; exact han
  have hl2 : as.reverse.length = pg_np z := by rw [List.length_reverse]; exact hla
  have h1 : (as.reverse ++ Value.ref p :: st).drop (pg_np z) = .ref p :: st := by rw [← hl2, List.drop_left']; rfl
  have h2 : (as.reverse ++ Value.ref p :: st).take (pg_np z) = as.reverse := by rw [← hl2, List.take_left']; rfl
  by_cases h : am_oc σ p = c ∧ st.length ≤ 4 ∧ as.all am_ok = true
  · obtain ⟨g1, g2, g3⟩ := h
    have hp : ∃ fs, σ[p]? = some (.inr (c, fs)) := by
      unfold am_oc at g1
      split at g1
      next ci fs hq => subst g1; exact ⟨fs, hq⟩
      next => omega
    obtain ⟨fs, hp⟩ := hp
    rw [am_r_virtual hd hm hz hla g2 hp hc.symm ⟨g3, by omega⟩]
    exact propext ⟨fun q => ⟨⟨g1, g2, g3⟩, q⟩, fun q => q.2⟩
  · refine Eq.trans ?_ (propext ⟨fun q => q.elim, fun q => h q.1⟩ : False = _)
    by_cases h3 : am_oc σ p = c ∧ st.length ≤ 4
    · have hp : ∃ fs, σ[p]? = some (.inr (c, fs)) := by
        have g1 := h3.1
        unfold am_oc at g1
        split at g1
        next ci fs hq => subst g1; exact ⟨fs, hq⟩
        next => omega
      obtain ⟨fs, hp⟩ := hp
      refine am_stuckC (z := z) (as := .ref p :: as) (rest := st) hd rfl rfl ?_ (fun q => h ⟨h3.1, h3.2, ?_⟩)
      · simp only [am_cl, hm]
        rw [if_pos hz, h1, h2]
        simp only [hp]
        rw [if_pos ⟨hc.symm, h3.2, hl2⟩, List.reverse_reverse]
      · have := q.1
        rw [List.all_cons, Bool.and_eq_true] at this
        exact this.2
    · refine am_stuck hd rfl rfl ?_ rfl
      simp only [am_cl, hm]
      rw [if_pos hz, h1]
      dsimp only
      split
      next ci fs hq =>
        rw [if_neg]
        rintro ⟨q1, q2, -⟩
        refine h3 ⟨?_, q2⟩
        unfold am_oc
        rw [hq]
        rw [← hc]; exact q1
      next => rfl
theorem am_R_special {idx z p n : Nat} {as : List Value} (hd : decode (pg_code y) pc = .ok (.invokespecial idx, 3)) (hm : pg_mth (pg_own y) idx = some z) (hz : z < pg_num ∧ pg_mk z = 1) (ha : pg_np z = n) (han : as.length = n) (hl : n + 1 ≤ pg_maxL z) (hr : st.length ≤ 4 ∧ as.all am_ok = true) :
    am_Rn L xs (d + 1) y pc ls (as.reverse ++ .ref p :: st) σ Q = am_Call L xs d z (.ref p :: as) σ (fun r σ1 => am_Rn L xs (d + 1) y (pc + 3) ls (r.toList ++ st) σ1 Q) :=
  am_r_special hd hm hz (by rw [ha]; exact han) hr.1 ⟨hr.2, by omega⟩
theorem am_R_static {idx z n : Nat} {as : List Value} (hd : decode (pg_code y) pc = .ok (.invokestatic idx, 3)) (hm : pg_mth (pg_own y) idx = some z) (hz : z < pg_num ∧ pg_mk z = 2) (ha : pg_np z = n) (han : as.length = n) (hl : n ≤ pg_maxL z) :
    am_Rn L xs (d + 1) y pc ls (as.reverse ++ st) σ Q = ((st.length ≤ 4 ∧ as.all am_ok = true) ∧ am_Call L xs d z as σ (fun r σ1 => am_Rn L xs (d + 1) y (pc + 3) ls (r.toList ++ st) σ1 Q)) := by
  have hla : as.length = pg_np z := by rw [ha]; exact han
  have hl2 : as.reverse.length = pg_np z := by rw [List.length_reverse]; exact hla
  have h1 : (as.reverse ++ st).drop (pg_np z) = st := by rw [← hl2, List.drop_left']; rfl
  have h2 : (as.reverse ++ st).take (pg_np z) = as.reverse := by rw [← hl2, List.take_left']; rfl
  by_cases h : st.length ≤ 4 ∧ as.all am_ok = true
  · rw [am_r_static hd hm hz hla h.1 ⟨h.2, by omega⟩]
    exact propext ⟨fun q => ⟨h, q⟩, fun q => q.2⟩
  · refine Eq.trans ?_ (propext ⟨fun q => q.elim, fun q => h q.1⟩ : False = _)
    by_cases h3 : st.length ≤ 4
    · refine am_stuckC (z := z) (as := as) (rest := st) hd rfl rfl ?_ (fun q => h ⟨h3, q.1⟩)
      simp only [am_cl, hm]
      rw [if_pos hz, h1, h2, if_pos ⟨h3, hl2⟩, List.reverse_reverse]
    · refine am_stuck hd rfl rfl ?_ ?_
      · simp only [am_cl, hm]
        rw [if_pos hz, h1, if_neg (fun q => h3 q.1)]
      · show am_spc 1 d.succ (pg_own y) idx pc ls _ σ = none
        unfold am_spc
        rw [hm]
        refine if_neg ?_
        have := pg_num_lt
        rintro (⟨q, -⟩ | ⟨-, q⟩)
        · cases q
        · omega
theorem am_R_virtual0 {idx z p c : Nat} (hd : decode (pg_code y) pc = .ok (.invokevirtual idx, 3)) (hm : pg_mth (pg_own y) idx = some z) (hz : z < pg_num ∧ pg_mk z = 0) (ha : pg_np z = 0) (hc : pg_own z = c) (hl : 1 ≤ pg_maxL z) : am_Rn L xs (d + 1) y pc ls (.ref p :: st) σ Q = ((am_oc σ p = c ∧ st.length ≤ 4) ∧ am_Call L xs d z [.ref p] σ (fun r σ1 => am_Rn L xs (d + 1) y (pc + 3) ls (r.toList ++ st) σ1 Q)) := by
  refine (am_R_virtual (as := []) hd hm hz ha rfl hc hl).trans ?_
  simp only [List.all_cons, List.all_nil, Bool.and_eq_true, and_true]
theorem am_R_static0 {idx z : Nat} (hd : decode (pg_code y) pc = .ok (.invokestatic idx, 3)) (hm : pg_mth (pg_own y) idx = some z) (hz : z < pg_num ∧ pg_mk z = 2) (ha : pg_np z = 0) (hl : 0 ≤ pg_maxL z) : am_Rn L xs (d + 1) y pc ls (st) σ Q = ((st.length ≤ 4) ∧ am_Call L xs d z [] σ (fun r σ1 => am_Rn L xs (d + 1) y (pc + 3) ls (r.toList ++ st) σ1 Q)) := by
  refine (am_R_static (as := []) hd hm hz ha rfl hl).trans ?_
  simp only [List.all_cons, List.all_nil, Bool.and_eq_true, and_true]
theorem am_R_virtual1 {idx z p c : Nat} {a1 : Value} (hd : decode (pg_code y) pc = .ok (.invokevirtual idx, 3)) (hm : pg_mth (pg_own y) idx = some z) (hz : z < pg_num ∧ pg_mk z = 0) (ha : pg_np z = 1) (hc : pg_own z = c) (hl : 2 ≤ pg_maxL z) : am_Rn L xs (d + 1) y pc ls (a1 :: .ref p :: st) σ Q = ((am_oc σ p = c ∧ st.length ≤ 4 ∧ am_ok a1 = true) ∧ am_Call L xs d z [.ref p, a1] σ (fun r σ1 => am_Rn L xs (d + 1) y (pc + 3) ls (r.toList ++ st) σ1 Q)) := by
  refine (am_R_virtual (as := [a1]) hd hm hz ha rfl hc hl).trans ?_
  simp only [List.all_cons, List.all_nil, Bool.and_true]
theorem am_R_static1 {idx z : Nat} {a1 : Value} (hd : decode (pg_code y) pc = .ok (.invokestatic idx, 3)) (hm : pg_mth (pg_own y) idx = some z) (hz : z < pg_num ∧ pg_mk z = 2) (ha : pg_np z = 1) (hl : 1 ≤ pg_maxL z) : am_Rn L xs (d + 1) y pc ls (a1 :: st) σ Q = ((st.length ≤ 4 ∧ am_ok a1 = true) ∧ am_Call L xs d z [a1] σ (fun r σ1 => am_Rn L xs (d + 1) y (pc + 3) ls (r.toList ++ st) σ1 Q)) := by
  refine (am_R_static (as := [a1]) hd hm hz ha rfl hl).trans ?_
  simp only [List.all_cons, List.all_nil, Bool.and_true]
theorem am_R_virtual2 {idx z p c : Nat} {a1 a2 : Value} (hd : decode (pg_code y) pc = .ok (.invokevirtual idx, 3)) (hm : pg_mth (pg_own y) idx = some z) (hz : z < pg_num ∧ pg_mk z = 0) (ha : pg_np z = 2) (hc : pg_own z = c) (hl : 3 ≤ pg_maxL z) : am_Rn L xs (d + 1) y pc ls (a2 :: a1 :: .ref p :: st) σ Q = ((am_oc σ p = c ∧ st.length ≤ 4 ∧ am_ok a1 = true ∧ am_ok a2 = true) ∧ am_Call L xs d z [.ref p, a1, a2] σ (fun r σ1 => am_Rn L xs (d + 1) y (pc + 3) ls (r.toList ++ st) σ1 Q)) := by
  refine (am_R_virtual (as := [a1, a2]) hd hm hz ha rfl hc hl).trans ?_
  simp only [List.all_cons, List.all_nil, Bool.and_eq_true, and_true]
theorem am_R_static2 {idx z : Nat} {a1 a2 : Value} (hd : decode (pg_code y) pc = .ok (.invokestatic idx, 3)) (hm : pg_mth (pg_own y) idx = some z) (hz : z < pg_num ∧ pg_mk z = 2) (ha : pg_np z = 2) (hl : 2 ≤ pg_maxL z) : am_Rn L xs (d + 1) y pc ls (a2 :: a1 :: st) σ Q = ((st.length ≤ 4 ∧ am_ok a1 = true ∧ am_ok a2 = true) ∧ am_Call L xs d z [a1, a2] σ (fun r σ1 => am_Rn L xs (d + 1) y (pc + 3) ls (r.toList ++ st) σ1 Q)) := by
  refine (am_R_static (as := [a1, a2]) hd hm hz ha rfl hl).trans ?_
  simp only [List.all_cons, List.all_nil, Bool.and_eq_true, and_true]
theorem am_R_virtual3 {idx z p c : Nat} {a1 a2 a3 : Value} (hd : decode (pg_code y) pc = .ok (.invokevirtual idx, 3)) (hm : pg_mth (pg_own y) idx = some z) (hz : z < pg_num ∧ pg_mk z = 0) (ha : pg_np z = 3) (hc : pg_own z = c) (hl : 4 ≤ pg_maxL z) : am_Rn L xs (d + 1) y pc ls (a3 :: a2 :: a1 :: .ref p :: st) σ Q = ((am_oc σ p = c ∧ st.length ≤ 4 ∧ am_ok a1 = true ∧ am_ok a2 = true ∧ am_ok a3 = true) ∧ am_Call L xs d z [.ref p, a1, a2, a3] σ (fun r σ1 => am_Rn L xs (d + 1) y (pc + 3) ls (r.toList ++ st) σ1 Q)) := by
  refine (am_R_virtual (as := [a1, a2, a3]) hd hm hz ha rfl hc hl).trans ?_
  simp only [List.all_cons, List.all_nil, Bool.and_eq_true, and_true]
theorem am_R_static3 {idx z : Nat} {a1 a2 a3 : Value} (hd : decode (pg_code y) pc = .ok (.invokestatic idx, 3)) (hm : pg_mth (pg_own y) idx = some z) (hz : z < pg_num ∧ pg_mk z = 2) (ha : pg_np z = 3) (hl : 3 ≤ pg_maxL z) : am_Rn L xs (d + 1) y pc ls (a3 :: a2 :: a1 :: st) σ Q = ((st.length ≤ 4 ∧ am_ok a1 = true ∧ am_ok a2 = true ∧ am_ok a3 = true) ∧ am_Call L xs d z [a1, a2, a3] σ (fun r σ1 => am_Rn L xs (d + 1) y (pc + 3) ls (r.toList ++ st) σ1 Q)) := by
  refine (am_R_static (as := [a1, a2, a3]) hd hm hz ha rfl hl).trans ?_
  simp only [List.all_cons, List.all_nil, Bool.and_eq_true, and_true]
theorem am_R_virtual4 {idx z p c : Nat} {a1 a2 a3 a4 : Value} (hd : decode (pg_code y) pc = .ok (.invokevirtual idx, 3)) (hm : pg_mth (pg_own y) idx = some z) (hz : z < pg_num ∧ pg_mk z = 0) (ha : pg_np z = 4) (hc : pg_own z = c) (hl : 5 ≤ pg_maxL z) : am_Rn L xs (d + 1) y pc ls (a4 :: a3 :: a2 :: a1 :: .ref p :: st) σ Q = ((am_oc σ p = c ∧ st.length ≤ 4 ∧ am_ok a1 = true ∧ am_ok a2 = true ∧ am_ok a3 = true ∧ am_ok a4 = true) ∧ am_Call L xs d z [.ref p, a1, a2, a3, a4] σ (fun r σ1 => am_Rn L xs (d + 1) y (pc + 3) ls (r.toList ++ st) σ1 Q)) := by
  refine (am_R_virtual (as := [a1, a2, a3, a4]) hd hm hz ha rfl hc hl).trans ?_
  simp only [List.all_cons, List.all_nil, Bool.and_eq_true, and_true]
theorem am_R_static4 {idx z : Nat} {a1 a2 a3 a4 : Value} (hd : decode (pg_code y) pc = .ok (.invokestatic idx, 3)) (hm : pg_mth (pg_own y) idx = some z) (hz : z < pg_num ∧ pg_mk z = 2) (ha : pg_np z = 4) (hl : 4 ≤ pg_maxL z) : am_Rn L xs (d + 1) y pc ls (a4 :: a3 :: a2 :: a1 :: st) σ Q = ((st.length ≤ 4 ∧ am_ok a1 = true ∧ am_ok a2 = true ∧ am_ok a3 = true ∧ am_ok a4 = true) ∧ am_Call L xs d z [a1, a2, a3, a4] σ (fun r σ1 => am_Rn L xs (d + 1) y (pc + 3) ls (r.toList ++ st) σ1 Q)) := by
  refine (am_R_static (as := [a1, a2, a3, a4]) hd hm hz ha rfl hl).trans ?_
  simp only [List.all_cons, List.all_nil, Bool.and_eq_true, and_true]
theorem am_R_virtual5 {idx z p c : Nat} {a1 a2 a3 a4 a5 : Value} (hd : decode (pg_code y) pc = .ok (.invokevirtual idx, 3)) (hm : pg_mth (pg_own y) idx = some z) (hz : z < pg_num ∧ pg_mk z = 0) (ha : pg_np z = 5) (hc : pg_own z = c) (hl : 6 ≤ pg_maxL z) : am_Rn L xs (d + 1) y pc ls (a5 :: a4 :: a3 :: a2 :: a1 :: .ref p :: st) σ Q = ((am_oc σ p = c ∧ st.length ≤ 4 ∧ am_ok a1 = true ∧ am_ok a2 = true ∧ am_ok a3 = true ∧ am_ok a4 = true ∧ am_ok a5 = true) ∧ am_Call L xs d z [.ref p, a1, a2, a3, a4, a5] σ (fun r σ1 => am_Rn L xs (d + 1) y (pc + 3) ls (r.toList ++ st) σ1 Q)) := by
  refine (am_R_virtual (as := [a1, a2, a3, a4, a5]) hd hm hz ha rfl hc hl).trans ?_
  simp only [List.all_cons, List.all_nil, Bool.and_eq_true, and_true]
theorem am_R_static5 {idx z : Nat} {a1 a2 a3 a4 a5 : Value} (hd : decode (pg_code y) pc = .ok (.invokestatic idx, 3)) (hm : pg_mth (pg_own y) idx = some z) (hz : z < pg_num ∧ pg_mk z = 2) (ha : pg_np z = 5) (hl : 5 ≤ pg_maxL z) : am_Rn L xs (d + 1) y pc ls (a5 :: a4 :: a3 :: a2 :: a1 :: st) σ Q = ((st.length ≤ 4 ∧ am_ok a1 = true ∧ am_ok a2 = true ∧ am_ok a3 = true ∧ am_ok a4 = true ∧ am_ok a5 = true) ∧ am_Call L xs d z [a1, a2, a3, a4, a5] σ (fun r σ1 => am_Rn L xs (d + 1) y (pc + 3) ls (r.toList ++ st) σ1 Q)) := by
  refine (am_R_static (as := [a1, a2, a3, a4, a5]) hd hm hz ha rfl hl).trans ?_
  simp only [List.all_cons, List.all_nil, Bool.and_eq_true, and_true]
theorem am_R_virtual6 {idx z p c : Nat} {a1 a2 a3 a4 a5 a6 : Value} (hd : decode (pg_code y) pc = .ok (.invokevirtual idx, 3)) (hm : pg_mth (pg_own y) idx = some z) (hz : z < pg_num ∧ pg_mk z = 0) (ha : pg_np z = 6) (hc : pg_own z = c) (hl : 7 ≤ pg_maxL z) : am_Rn L xs (d + 1) y pc ls (a6 :: a5 :: a4 :: a3 :: a2 :: a1 :: .ref p :: st) σ Q = ((am_oc σ p = c ∧ st.length ≤ 4 ∧ am_ok a1 = true ∧ am_ok a2 = true ∧ am_ok a3 = true ∧ am_ok a4 = true ∧ am_ok a5 = true ∧ am_ok a6 = true) ∧ am_Call L xs d z [.ref p, a1, a2, a3, a4, a5, a6] σ (fun r σ1 => am_Rn L xs (d + 1) y (pc + 3) ls (r.toList ++ st) σ1 Q)) := by
  refine (am_R_virtual (as := [a1, a2, a3, a4, a5, a6]) hd hm hz ha rfl hc hl).trans ?_
  simp only [List.all_cons, List.all_nil, Bool.and_eq_true, and_true]
theorem am_R_static6 {idx z : Nat} {a1 a2 a3 a4 a5 a6 : Value} (hd : decode (pg_code y) pc = .ok (.invokestatic idx, 3)) (hm : pg_mth (pg_own y) idx = some z) (hz : z < pg_num ∧ pg_mk z = 2) (ha : pg_np z = 6) (hl : 6 ≤ pg_maxL z) : am_Rn L xs (d + 1) y pc ls (a6 :: a5 :: a4 :: a3 :: a2 :: a1 :: st) σ Q = ((st.length ≤ 4 ∧ am_ok a1 = true ∧ am_ok a2 = true ∧ am_ok a3 = true ∧ am_ok a4 = true ∧ am_ok a5 = true ∧ am_ok a6 = true) ∧ am_Call L xs d z [a1, a2, a3, a4, a5, a6] σ (fun r σ1 => am_Rn L xs (d + 1) y (pc + 3) ls (r.toList ++ st) σ1 Q)) := by
  refine (am_R_static (as := [a1, a2, a3, a4, a5, a6]) hd hm hz ha rfl hl).trans ?_
  simp only [List.all_cons, List.all_nil, Bool.and_eq_true, and_true]
end amV
end
section
/-! The store of a program that makes no more cells: a fixed shape, filled with numbers.
A shape's cell: an array of ints or booleans (kind, length); an array of references (kind, length); an object (class, its fields: a fixed place, 0 a number, 1 a place that may change). -/
abbrev am_H : Type := (Nat × Nat) ⊕ ((Nat × Nat) ⊕ (Nat × List (Nat ⊕ Nat)))
def am_fv (F : Nat → Nat → Int32) (G : Nat → Nat → Nat) (p k : Nat) (x : Nat ⊕ Nat) : Value := match x with
  | .inl q => .ref q
  | .inr 0 => .int (F p k)
  | .inr _ => .ref (G p k)
def am_mc (A : Nat → Nat → Int32) (B : Nat → Nat → Option Nat) (F : Nat → Nat → Int32) (G : Nat → Nat → Nat) (p : Nat) (h : am_H) : am_E := match h with
  | .inl (t, n) => .inl (t, (n, .inl (A p)))
  | .inr (.inl (t, n)) => .inl (t, (n, .inr (.inr (.inr (.inr (B p))))))
  | .inr (.inr (ci, fs)) => .inr (ci, fs.mapIdx (fun k x => am_fv F G p k x))
def am_mk (sk : List am_H) (A : Nat → Nat → Int32) (B : Nat → Nat → Option Nat) (F : Nat → Nat → Int32) (G : Nat → Nat → Nat) : am_S := sk.mapIdx (fun p h => am_mc A B F G p h)
def am_u2 {α : Type} (F : Nat → Nat → α) (p k : Nat) (x : α) : Nat → Nat → α := fun q j => if q = p ∧ j = k then x else F q j
section amK
variable {sk : List am_H} {A : Nat → Nat → Int32} {B : Nat → Nat → Option Nat} {F : Nat → Nat → Int32} {G : Nat → Nat → Nat} {p t n ci k : Nat} {fs : List (Nat ⊕ Nat)}
theorem am_mk_at {h : am_H} (hs : sk[p]? = some h) : (am_mk sk A B F G)[p]? = some (am_mc A B F G p h) := by
  unfold am_mk
  rw [List.getElem?_mapIdx, hs]; rfl
theorem am_mk_A {f : Nat → Int32} (hs : sk[p]? = some (.inl (t, n))) : (am_mk sk A B F G).set p (.inl (t, (n, .inl f))) = am_mk sk (va_up A p f) B F G := by
  apply List.ext_getElem?
  intro j
  rw [List.getElem?_set]
  by_cases h : p = j
  · subst h
    rw [if_pos rfl, am_mk_at hs]
    have hl : p < (am_mk sk A B F G).length := by
      unfold am_mk; rw [List.length_mapIdx]; exact (List.getElem?_eq_some_iff.mp hs).1
    rw [if_pos hl]
    simp [am_mc, va_up]
  · rw [if_neg h]
    unfold am_mk
    rw [List.getElem?_mapIdx, List.getElem?_mapIdx]
    cases hj : sk[j]? with
    | none => rfl
    | some x =>
      simp only [Option.map_some]
      congr 1
      obtain ⟨t', n'⟩ | ⟨t', n'⟩ | ⟨c', f'⟩ := x
      · simp [am_mc, va_up, Ne.symm h]
      · rfl
      · rfl
theorem am_mk_F {x : Int32} (hs : sk[p]? = some (.inr (.inr (ci, fs)))) (hk : fs[k]? = some (.inr 0)) : (am_mk sk A B F G).set p (.inr (ci, (fs.mapIdx (fun k x => am_fv F G p k x)).set k (.int x))) = am_mk sk A B (am_u2 F p k x) G := by
  apply List.ext_getElem?
  intro j
  rw [List.getElem?_set]
  by_cases h : p = j
  · subst h
    rw [if_pos rfl, am_mk_at hs]
    have hl : p < (am_mk sk A B F G).length := by
      unfold am_mk; rw [List.length_mapIdx]; exact (List.getElem?_eq_some_iff.mp hs).1
    rw [if_pos hl]
    simp only [am_mc]
    congr 3
    apply List.ext_getElem?
    intro i
    rw [List.getElem?_set, List.length_mapIdx, List.getElem?_mapIdx, List.getElem?_mapIdx]
    by_cases hi : k = i
    · subst hi
      rw [if_pos rfl, if_pos (List.getElem?_eq_some_iff.mp hk).1, hk]
      simp [am_fv, am_u2]
    · rw [if_neg hi]
      cases hx : fs[i]? with
      | none => rfl
      | some w =>
        simp only [Option.map_some]
        congr 1
        unfold am_fv
        split <;> simp [am_u2, Ne.symm hi]
  · rw [if_neg h]
    unfold am_mk
    rw [List.getElem?_mapIdx, List.getElem?_mapIdx]
    cases hj : sk[j]? with
    | none => rfl
    | some w =>
      simp only [Option.map_some]
      congr 1
      obtain ⟨t', n'⟩ | ⟨t', n'⟩ | ⟨c', f'⟩ := w
      · rfl
      · rfl
      · simp only [am_mc]
        congr 2
        congr 1
        funext i w
        unfold am_fv
        split <;> simp [am_u2, Ne.symm h]
theorem am_mk_G {x : Nat} (hs : sk[p]? = some (.inr (.inr (ci, fs)))) (hk : fs[k]? = some (.inr 1)) : (am_mk sk A B F G).set p (.inr (ci, (fs.mapIdx (fun k x => am_fv F G p k x)).set k (.ref x))) = am_mk sk A B F (am_u2 G p k x) := by
  apply List.ext_getElem?
  intro j
  rw [List.getElem?_set]
  by_cases h : p = j
  · subst h
    rw [if_pos rfl, am_mk_at hs]
    have hl : p < (am_mk sk A B F G).length := by
      unfold am_mk; rw [List.length_mapIdx]; exact (List.getElem?_eq_some_iff.mp hs).1
    rw [if_pos hl]
    simp only [am_mc]
    congr 3
    apply List.ext_getElem?
    intro i
    rw [List.getElem?_set, List.length_mapIdx, List.getElem?_mapIdx, List.getElem?_mapIdx]
    by_cases hi : k = i
    · subst hi
      rw [if_pos rfl, if_pos (List.getElem?_eq_some_iff.mp hk).1, hk]
      simp [am_fv, am_u2]
    · rw [if_neg hi]
      cases hx : fs[i]? with
      | none => rfl
      | some w =>
        simp only [Option.map_some]
        congr 1
        unfold am_fv
        split <;> simp [am_u2, Ne.symm hi]
  · rw [if_neg h]
    unfold am_mk
    rw [List.getElem?_mapIdx, List.getElem?_mapIdx]
    cases hj : sk[j]? with
    | none => rfl
    | some w =>
      simp only [Option.map_some]
      congr 1
      obtain ⟨t', n'⟩ | ⟨t', n'⟩ | ⟨c', f'⟩ := w
      · rfl
      · rfl
      · simp only [am_mc]
        congr 2
        congr 1
        funext i w
        unfold am_fv
        split <;> simp [am_u2, Ne.symm h]
/-- reads and writes of a filled shape -/
theorem am_k_ai {i : Int32} {f : Int32 → Prop} (hs : sk[p]? = some (.inl (t, n))) : am_ai t (am_mk sk A B F G) p i f = (am_in i n = true ∧ f (A p i.toNatClampNeg)) := by
  unfold am_ai
  rw [am_mk_at hs]
  simp [am_mc]
theorem am_k_wi {i x : Int32} {f : am_S → Prop} (hs : sk[p]? = some (.inl (t, n))) : am_wi t (am_mk sk A B F G) p i x f = (am_in i n = true ∧ f (am_mk sk (va_up A p (upd (A p) i.toNatClampNeg x)) B F G)) := by
  unfold am_wi
  rw [am_mk_at hs]
  simp only [am_mc, true_and]
  rw [am_mk_A hs]
theorem am_k_ar {i : Int32} {f : Nat → Prop} (hs : sk[p]? = some (.inr (.inl (t, n)))) (ht : t = 2 ∨ t = 3) : am_ar2 (am_mk sk A B F G) p i f = (am_in i n = true ∧ (match B p i.toNatClampNeg with
    | some q => f q
    | none => False)) := by
  unfold am_ar2
  rw [am_mk_at hs]
  simp only [am_mc, ht, true_and]
  all_goals (cases B p i.toNatClampNeg <;> rfl)
theorem am_k_fd {x : Nat ⊕ Nat} {f : Value → Prop} (hs : sk[p]? = some (.inr (.inr (ci, fs)))) (hk : fs[k]? = some x) : am_fd (am_mk sk A B F G) p ci k f = f (am_fv F G p k x) := by
  unfold am_fd
  rw [am_mk_at hs]
  simp [am_mc, hk]
theorem am_k_wF {y o : Nat} {x : Int32} {f : am_S → Prop} (hs : sk[p]? = some (.inr (.inr (ci, fs)))) (hk : fs[k]? = some (.inr 0)) (hft : am_fit (pg_fk ci k) (.int x) = true) (hff : pg_ff ci k = true → pg_ini y = true ∧ ci = o) : am_wf y o (am_mk sk A B F G) p ci k (.int x) f = f (am_mk sk A B (am_u2 F p k x) G) := by
  unfold am_wf
  rw [am_mk_at hs]
  simp only [am_mc]
  rw [am_mk_F hs hk]
  have hl : k < (fs.mapIdx (fun k x => am_fv F G p k x)).length := by rw [List.length_mapIdx]; exact (List.getElem?_eq_some_iff.mp hk).1
  apply propext
  exact ⟨fun h => h.2, fun h => ⟨⟨trivial, hl, hft, hff⟩, h⟩⟩
theorem am_k_wG {y o x : Nat} {f : am_S → Prop} (hs : sk[p]? = some (.inr (.inr (ci, fs)))) (hk : fs[k]? = some (.inr 1)) (hft : am_fit (pg_fk ci k) (.ref x) = true) (hff : pg_ff ci k = true → pg_ini y = true ∧ ci = o) : am_wf y o (am_mk sk A B F G) p ci k (.ref x) f = f (am_mk sk A B F (am_u2 G p k x)) := by
  unfold am_wf
  rw [am_mk_at hs]
  simp only [am_mc]
  rw [am_mk_G hs hk]
  have hl : k < (fs.mapIdx (fun k x => am_fv F G p k x)).length := by rw [List.length_mapIdx]; exact (List.getElem?_eq_some_iff.mp hk).1
  apply propext
  exact ⟨fun h => h.2, fun h => ⟨⟨trivial, hl, hft, hff⟩, h⟩⟩
theorem am_k_lnA {f : Int32 → Prop} (hs : sk[p]? = some (.inl (t, n))) (ht : t < 4) : am_ln (am_mk sk A B F G) p f = f (Int32.ofNat n) := by
  unfold am_ln
  simp only [am_mk_at hs, am_mc, ht, true_and]
end amK
end
section
/-! The store behind the two constructors, evaluated; its shape written by program (wip/gen/gen_init.py) -/
def in_sk : List am_H := [.inr (.inr (0, [.inl 1, .inl 17, .inl 18, .inl 23, .inl 53, .inl 54, .inr 0, .inr 0])), .inr (.inl (2, 3)), .inr (.inr (1, [.inl 3, .inl 4, .inl 5, .inl 6, .inr 0])), .inl (0, 12), .inl (0, 12), .inl (0, 12), .inl (0, 12), .inr (.inr (1, [.inl 8, .inl 9, .inl 10, .inl 11, .inr 0])), .inl (0, 12), .inl (0, 12), .inl (0, 12), .inl (0, 12), .inr (.inr (1, [.inl 13, .inl 14, .inl 15, .inl 16, .inr 0])), .inl (0, 12), .inl (0, 12), .inl (0, 12), .inl (0, 12), .inl (0, 12), .inr (.inr (1, [.inl 19, .inl 20, .inl 21, .inl 22, .inr 0])), .inl (0, 12), .inl (0, 12), .inl (0, 12), .inl (0, 12), .inr (.inr (4, [.inl 24, .inl 36, .inl 44, .inl 45, .inl 46, .inl 47, .inr 1, .inr 1, .inr 0])), .inr (.inr (3, [.inl 25, .inl 26, .inl 27, .inl 28, .inl 29, .inl 30, .inr 1, .inr 1])), .inl (0, 12), .inl (0, 12), .inl (0, 12), .inl (0, 12), .inl (0, 12), .inl (0, 12), .inr (.inr (1, [.inl 32, .inl 33, .inl 34, .inl 35, .inr 0])), .inl (0, 0), .inl (0, 0), .inl (0, 0), .inl (0, 0), .inr (.inr (2, [.inl 37, .inr 0])), .inr (.inl (3, 6)), .inl (0, 24), .inl (0, 24), .inl (0, 24), .inl (0, 24), .inl (0, 24), .inl (0, 24), .inl (1, 12), .inl (0, 12), .inl (0, 12), .inl (0, 12), .inr (.inr (1, [.inl 49, .inl 50, .inl 51, .inl 52, .inr 0])), .inl (0, 0), .inl (0, 0), .inl (0, 0), .inl (0, 0), .inr (.inr (5, [.inl 54, .inl 59, .inl 89, .inl 72, .inl 102, .inl 119, .inl 120, .inr 0, .inr 0])), .inr (.inr (1, [.inl 55, .inl 56, .inl 57, .inl 58, .inr 0])), .inl (0, 36), .inl (0, 36), .inl (0, 36), .inl (0, 36), .inr (.inr (4, [.inl 60, .inl 72, .inl 80, .inl 81, .inl 82, .inl 83, .inr 1, .inr 1, .inr 0])), .inr (.inr (3, [.inl 61, .inl 62, .inl 63, .inl 64, .inl 65, .inl 66, .inr 1, .inr 1])), .inl (0, 12), .inl (0, 12), .inl (0, 12), .inl (0, 12), .inl (0, 12), .inl (0, 12), .inr (.inr (1, [.inl 68, .inl 69, .inl 70, .inl 71, .inr 0])), .inl (0, 0), .inl (0, 0), .inl (0, 0), .inl (0, 0), .inr (.inr (2, [.inl 73, .inr 0])), .inr (.inl (3, 6)), .inl (0, 24), .inl (0, 24), .inl (0, 24), .inl (0, 24), .inl (0, 24), .inl (0, 24), .inl (1, 12), .inl (0, 12), .inl (0, 12), .inl (0, 12), .inr (.inr (1, [.inl 85, .inl 86, .inl 87, .inl 88, .inr 0])), .inl (0, 0), .inl (0, 0), .inl (0, 0), .inl (0, 0), .inr (.inr (4, [.inl 90, .inl 102, .inl 110, .inl 111, .inl 112, .inl 113, .inr 1, .inr 1, .inr 0])), .inr (.inr (3, [.inl 91, .inl 92, .inl 93, .inl 94, .inl 95, .inl 96, .inr 1, .inr 1])), .inl (0, 12), .inl (0, 12), .inl (0, 12), .inl (0, 12), .inl (0, 12), .inl (0, 12), .inr (.inr (1, [.inl 98, .inl 99, .inl 100, .inl 101, .inr 0])), .inl (0, 0), .inl (0, 0), .inl (0, 0), .inl (0, 0), .inr (.inr (2, [.inl 103, .inr 0])), .inr (.inl (3, 6)), .inl (0, 24), .inl (0, 24), .inl (0, 24), .inl (0, 24), .inl (0, 24), .inl (0, 24), .inl (1, 12), .inl (0, 12), .inl (0, 12), .inl (0, 12), .inr (.inr (1, [.inl 115, .inl 116, .inl 117, .inl 118, .inr 0])), .inl (0, 0), .inl (0, 0), .inl (0, 0), .inl (0, 0), .inl (1, 24), .inl (0, 12), .inr (.inr (6, [.inl 122, .inl 123, .inl 124, .inl 125, .inl 126, .inl 127, .inl 128, .inl 129, .inl 130, .inl 131, .inl 132, .inl 133, .inl 134, .inl 135, .inl 136, .inl 137, .inr 0, .inr 0, .inl 138, .inl 139, .inl 140, .inl 141, .inl 142, .inl 143, .inl 144, .inl 145, .inr 0, .inl 146, .inr 0, .inr 0, .inl 147, .inl 148, .inl 149, .inl 150, .inl 151, .inr 0, .inl 152, .inl 153, .inl 154, .inl 155])), .inl (0, 4), .inl (0, 48), .inl (0, 48), .inl (0, 48), .inl (0, 12), .inl (0, 12), .inl (1, 144), .inl (1, 144), .inl (1, 144), .inl (0, 12), .inl (0, 12), .inl (0, 12), .inl (1, 12), .inl (0, 12), .inl (0, 12), .inl (0, 12), .inl (0, 4), .inl (0, 160), .inl (0, 160), .inl (0, 160), .inl (0, 160), .inl (0, 160), .inl (0, 160), .inl (0, 4), .inl (0, 12), .inl (1, 36), .inl (0, 36), .inl (0, 36), .inl (0, 36), .inl (0, 36), .inl (0, 36), .inl (0, 36), .inl (1, 12), .inl (0, 12)]
def in_nT : Nat := 121
/-- a cell's shape; the fields 6 and 7 of the classes 3 and 4 are places that may change -/
def in_sh (x : am_E) : am_H := match x with
  | .inl (t, (n, .inl _)) => .inl (t, n)
  | .inl (t, (n, .inr _)) => .inr (.inl (t, n))
  | .inr (ci, fs) => .inr (.inr (ci, fs.mapIdx (fun k v => match v with
    | .ref q => if (ci = 3 ∨ ci = 4) ∧ (k = 6 ∨ k = 7) then .inr 1 else .inl q
    | _ => .inr 0)))
def in_run1 : Option (Option Value × am_S) := am_run 0 (fun _ => 0) 5000 99 0 0 (am_en 0 [.ref 0]) [] [.inr (0, pg_def 0)]
def in_s1 : am_S := match in_run1 with
  | some (_, σ) => σ
  | none => []
def in_run2 : Option (Option Value × am_S) := am_run 0 (fun _ => 0) 5000 99 83 0 (am_en 83 [.ref 121]) [] (in_s1 ++ [.inr (6, pg_def 6)])
def in_s2 : am_S := match in_run2 with
  | some (_, σ) => σ
  | none => []
def in_ok (r : Option (Option Value × am_S)) : Bool := match r with
  | some (none, _) => true
  | _ => false
theorem in_1 : (in_ok in_run1 && decide (in_s1.length = 121)) = true := by decide +kernel
def in_gd (x : am_E) : Bool := match x with
  | .inl (_, (_, .inl _)) => true
  | .inl (_, (_, .inr (.inr (.inr (.inr _))))) => true
  | .inl _ => false
  | .inr (_, fs) => fs.all (fun v => match v with
    | .int _ => true
    | .ref _ => true
    | _ => false)
def in_gA (σ : am_S) (p : Nat) : Nat → Int32 := match σ[p]? with
  | some (.inl (_, (_, .inl f))) => f
  | _ => fun _ => 0
def in_gB (σ : am_S) (p : Nat) : Nat → Option Nat := match σ[p]? with
  | some (.inl (_, (_, .inr (.inr (.inr (.inr f)))))) => f
  | _ => fun _ => none
def in_gF (σ : am_S) (p k : Nat) : Int32 := match σ[p]? with
  | some (.inr (_, fs)) => (match fs[k]? with
    | some (.int x) => x
    | _ => 0)
  | _ => 0
def in_gG (σ : am_S) (p k : Nat) : Nat := match σ[p]? with
  | some (.inr (_, fs)) => (match fs[k]? with
    | some (.ref q) => q
    | _ => 0)
  | _ => 0
/-- what is known of the numbers behind the constructors -/
def in_fc (σ : am_S) : Bool := decide (σ.map in_sh = in_sk) && σ.all in_gd && (List.range 3).all (fun j => in_gB σ 1 j == some (2 + 5 * j)) && (List.range 6).all (fun j => in_gB σ 37 j == some (38 + j) && in_gB σ 73 j == some (74 + j) && in_gB σ 103 j == some (104 + j))
  && in_gF σ 0 6 == 0 && in_gF σ 0 7 == 0 && [2, 7, 12, 18].all (fun p => in_gF σ p 4 == 0 && (List.range 12).all (fun j => in_gA σ (p + 1) j == -2)) && in_gF σ 54 4 == 0 && (List.range 36).all (fun j => in_gA σ 55 j == -2)
  && (List.range 4).all (fun j => in_gA σ 122 j == 0 && in_gA σ 138 j == 0) && in_gF σ 121 26 == 0 && in_gF σ 121 28 == 0
theorem in_2 : (match in_run2 with
  | some (none, σ) => in_fc σ
  | _ => false) = true := by decide +kernel
theorem in_mk1 : ∀ (σ : am_S) (sk : List am_H), σ.map in_sh = sk → σ.all in_gd = true → σ = am_mk sk (in_gA σ) (in_gB σ) (in_gF σ) (in_gG σ) := by
  intro σ sk h1 h2
  apply List.ext_getElem?
  intro p
  unfold am_mk
  rw [List.getElem?_mapIdx, ← h1, List.getElem?_map]
  cases hp : σ[p]? with
  | none => rfl
  | some x =>
    simp only [Option.map_some]
    congr 1
    have hg := List.all_eq_true.mp h2 x (List.mem_of_getElem? hp)
    obtain ⟨t, n, f⟩ | ⟨ci, fs⟩ := x
    · obtain f | f | f | f | f := f
      · simp [in_sh, am_mc, in_gA, hp]
      · simp [in_gd] at hg
      · simp [in_gd] at hg
      · simp [in_gd] at hg
      · simp [in_sh, am_mc, in_gB, hp]
    · simp only [in_sh, am_mc]
      congr 2
      rw [List.mapIdx_mapIdx]
      apply List.ext_getElem?
      intro k
      rw [List.getElem?_mapIdx]
      cases hk : fs[k]? with
      | none => rfl
      | some v =>
        simp only [Option.map_some]
        congr 1
        simp only [in_gd] at hg
        have hv := List.all_eq_true.mp hg v (List.mem_of_getElem? hk)
        cases v with
        | int x => simp [am_fv, in_gF, hp, hk]
        | ref q =>
          dsimp only [Function.comp]
          split <;> simp [am_fv, in_gG, hp, hk]
        | _ => simp at hv
theorem in_end : ∃ σ : am_S, in_run2 = some (none, σ) ∧ in_fc σ = true := by
  have h := in_2
  split at h
  next σ he => exact ⟨σ, he, h⟩
  next => cases h
theorem in_end1 : ∃ σ : am_S, in_run1 = some (none, σ) ∧ in_s1 = σ ∧ σ.length = 121 := by
  have h := in_1
  rw [Bool.and_eq_true, decide_eq_true_eq] at h
  obtain ⟨h1, h2⟩ := h
  unfold in_ok at h1
  split at h1
  next σ he =>
    have e : in_s1 = σ := by unfold in_s1; rw [he]
    exact ⟨σ, he, e, by rw [← e]; exact h2⟩
  next => cases h1
end
section
/-! Evaluation: locals, switches -/
theorem am_li0 {x : Int32} {r : List Value} {f : Int32 → Prop} : am_li (.int x :: r) 0 f = f x := rfl
theorem am_liS {v : Value} {r : List Value} {n : Nat} {f : Int32 → Prop} : am_li (v :: r) (n + 1) f = am_li r n f := rfl
theorem am_laR0 {x : Nat} {r : List Value} {f : Value → Prop} : am_la (.ref x :: r) 0 f = f (.ref x) := rfl
theorem am_laF0 {x : UInt32} {r : List Value} {f : Value → Prop} : am_la (.float x :: r) 0 f = f (.float x) := rfl
theorem am_laS {v : Value} {r : List Value} {n : Nat} {f : Value → Prop} : am_la (v :: r) (n + 1) f = am_la r n f := rfl
theorem am_okI (x : Int32) : am_ok (.int x) = true := rfl
theorem am_okR (x : Nat) : am_ok (.ref x) = true := rfl
theorem am_tL (v : Value) (st : List Value) : (some v).toList ++ st = v :: st := rfl
theorem am_tN (st : List Value) : (none : Option Value).toList ++ st = st := rfl
section amT
variable {L : Nat} {xs : Nat → Int32} {d y pc : Nat} {ls st : List Value} {σ : am_S} {Q : Option Value → am_S → Prop}
theorem am_r_tsOut {dflt lo hi : Int} {offs : Array Int} {len t : Nat} {x : Int32} (hd : decode (pg_code y) pc = .ok (.tableswitch dflt lo hi offs, len)) (h : x.toInt < lo ∨ hi < x.toInt) (ht : (pc : Int) + dflt = (t : Int)) : am_Rn L xs d y pc ls (.int x :: st) σ Q = am_Rn L xs d y t ls st σ Q := by
  have h1 : am_to pc dflt = t := by unfold am_to; rw [ht]; rfl
  have h2 : (pc : Int) + dflt = ((am_to pc dflt : Nat) : Int) := by rw [h1]; exact ht
  rw [← h1]
  exact am_step hd rfl rfl rfl (by simp only [am_simple, am_ts]; rw [if_pos h]; unfold am_j; rw [if_pos h2])
theorem am_r_tsIn {dflt lo hi off : Int} {offs : Array Int} {len t : Nat} {x : Int32} (hd : decode (pg_code y) pc = .ok (.tableswitch dflt lo hi offs, len)) (h : ¬ (x.toInt < lo ∨ hi < x.toInt)) (ho : offs[(x.toInt - lo).toNat]? = some off) (ht : (pc : Int) + off = (t : Int)) : am_Rn L xs d y pc ls (.int x :: st) σ Q = am_Rn L xs d y t ls st σ Q := by
  have h1 : am_to pc off = t := by unfold am_to; rw [ht]; rfl
  have h2 : (pc : Int) + off = ((am_to pc off : Nat) : Int) := by rw [h1]; exact ht
  rw [← h1]
  exact am_step hd rfl rfl rfl (by simp only [am_simple, am_ts]; rw [if_neg h, ho]; dsimp only; unfold am_j; rw [if_pos h2])
end amT
/-- the store at a moment: the numbers in the arrays, the numbers in the fields, the places in the fields -/
abbrev St : Type := (Nat → Nat → Int32) × (Nat → Nat → Int32) × (Nat → Nat → Nat)
def in_B : Nat → Nat → Option Nat := match in_run2 with
  | some (_, σ) => in_gB σ
  | none => fun _ _ => none
def mk (s : St) : am_S := am_mk in_sk s.1 in_B s.2.1 s.2.2
theorem mk_len (s : St) : (mk s).length = 156 := by
  unfold mk am_mk
  rw [List.length_mapIdx]
  rfl
def in_z (h : am_H) : Nat := match h with
  | .inl (_, n) => n
  | .inr (.inl (_, n)) => n
  | .inr (.inr (_, fs)) => fs.length
theorem am_mk_ns (sk : List am_H) (A : Nat → Nat → Int32) (B : Nat → Nat → Option Nat) (F : Nat → Nat → Int32) (G : Nat → Nat → Nat) : am_ns (am_mk sk A B F G) = (sk.map in_z).sum := by
  unfold am_ns am_mk
  congr 1
  apply List.ext_getElem?
  intro p
  rw [List.getElem?_map, List.getElem?_mapIdx, List.getElem?_map]
  cases sk[p]? with
  | none => rfl
  | some h =>
    obtain ⟨t, n⟩ | ⟨t, n⟩ | ⟨ci, fs⟩ := h
    · rfl
    · rfl
    · simp [am_mc, am_z, in_z]
theorem mk_ns (s : St) : am_ns (mk s) = (in_sk.map in_z).sum := am_mk_ns _ _ _ _ _
theorem mk_ns_le : (in_sk.map in_z).sum ≤ 7302250 := by decide +kernel
theorem mk_oc {s : St} {p ci : Nat} {fs : List (Nat ⊕ Nat)} (h : in_sk[p]? = some (.inr (.inr (ci, fs)))) : am_oc (mk s) p = ci := by
  unfold am_oc mk
  rw [am_mk_at h]
  rfl
/-- one call on both sides: both answer r; what comes holds J -/
def op_ok (L : Nat) (xs : Nat → Int32) (z1 z2 : Nat) (as : List Value) (s : St) (J : St → Prop) : Prop :=
  ∃ (r : Int32) (s1 s2 : St), (∀ Q : Option Value → am_S → Prop, Q (some (.int r)) (mk s1) → am_Call L xs 99 z1 (.ref 0 :: as) (mk s) Q) ∧ (∀ Q : Option Value → am_S → Prop, Q (some (.int r)) (mk s2) → am_Call L xs 99 z2 (.ref 121 :: as) (mk s1) Q) ∧ J s2
end
section
/-! Rows of the program's instructions, written by program (wip/gen/gen_rows.py) -/
section
variable {L : Nat} {xs : Nat → Int32} {d : Nat} {ls st : List Value} {σ : am_S} {Q : Option Value → am_S → Prop}
theorem d132_0 : decode (pg_code 132) 0 = .ok (.new 7, 3) := by decide +kernel
theorem d132_3 : decode (pg_code 132) 3 = .ok (.dup, 1) := by decide +kernel
theorem d132_4 : decode (pg_code 132) 4 = .ok (.invokespecial 9, 3) := by decide +kernel
theorem d132_7 : decode (pg_code 132) 7 = .ok (.astore_n 1, 1) := by decide +kernel
theorem d132_8 : decode (pg_code 132) 8 = .ok (.new 10, 3) := by decide +kernel
theorem d132_11 : decode (pg_code 132) 11 = .ok (.dup, 1) := by decide +kernel
theorem d132_12 : decode (pg_code 132) 12 = .ok (.invokespecial 12, 3) := by decide +kernel
theorem d132_15 : decode (pg_code 132) 15 = .ok (.astore_n 2, 1) := by decide +kernel
theorem d132_16 : decode (pg_code 132) 16 = .ok (.iconst 0, 1) := by decide +kernel
theorem d132_17 : decode (pg_code 132) 17 = .ok (.istore_n 3, 1) := by decide +kernel
theorem d132_18 : decode (pg_code 132) 18 = .ok (.iload_n 3, 1) := by decide +kernel
theorem d132_19 : decode (pg_code 132) 19 = .ok (.aload_n 0, 1) := by decide +kernel
theorem d132_20 : decode (pg_code 132) 20 = .ok (.arraylength, 1) := by decide +kernel
theorem d132_21 : decode (pg_code 132) 21 = .ok (.iconst 5, 1) := by decide +kernel
theorem d132_22 : decode (pg_code 132) 22 = .ok (.isub, 1) := by decide +kernel
theorem d132_23 : decode (pg_code 132) 23 = .ok (.if_icmp .gt 472, 3) := by decide +kernel
theorem d132_26 : decode (pg_code 132) 26 = .ok (.aload_n 0, 1) := by decide +kernel
theorem d132_27 : decode (pg_code 132) 27 = .ok (.iload_n 3, 1) := by decide +kernel
theorem d132_28 : decode (pg_code 132) 28 = .ok (.iaload, 1) := by decide +kernel
theorem d132_29 : decode (pg_code 132) 29 = .ok (.bipush 15, 2) := by decide +kernel
theorem d132_31 : decode (pg_code 132) 31 = .ok (.iand, 1) := by decide +kernel
theorem d132_32 : decode (pg_code 132) 32 = .ok (.tableswitch 457 0 12 #[68, 121, 144, 167, 200, 253, 286, 309, 342, 365, 388, 401, 434], 68) := by decide +kernel
theorem d132_100 : decode (pg_code 132) 100 = .ok (.aload_n 1, 1) := by decide +kernel
theorem d132_101 : decode (pg_code 132) 101 = .ok (.aload_n 0, 1) := by decide +kernel
theorem d132_102 : decode (pg_code 132) 102 = .ok (.iload_n 3, 1) := by decide +kernel
theorem d132_103 : decode (pg_code 132) 103 = .ok (.iconst 1, 1) := by decide +kernel
theorem d132_104 : decode (pg_code 132) 104 = .ok (.iadd, 1) := by decide +kernel
theorem d132_105 : decode (pg_code 132) 105 = .ok (.iaload, 1) := by decide +kernel
theorem d132_106 : decode (pg_code 132) 106 = .ok (.aload_n 0, 1) := by decide +kernel
theorem d132_107 : decode (pg_code 132) 107 = .ok (.iload_n 3, 1) := by decide +kernel
theorem d132_108 : decode (pg_code 132) 108 = .ok (.iconst 2, 1) := by decide +kernel
theorem d132_109 : decode (pg_code 132) 109 = .ok (.iadd, 1) := by decide +kernel
theorem d132_110 : decode (pg_code 132) 110 = .ok (.iaload, 1) := by decide +kernel
theorem d132_111 : decode (pg_code 132) 111 = .ok (.aload_n 0, 1) := by decide +kernel
theorem d132_112 : decode (pg_code 132) 112 = .ok (.iload_n 3, 1) := by decide +kernel
theorem d132_113 : decode (pg_code 132) 113 = .ok (.iconst 3, 1) := by decide +kernel
theorem d132_114 : decode (pg_code 132) 114 = .ok (.iadd, 1) := by decide +kernel
theorem d132_115 : decode (pg_code 132) 115 = .ok (.iaload, 1) := by decide +kernel
theorem d132_116 : decode (pg_code 132) 116 = .ok (.aload_n 0, 1) := by decide +kernel
theorem d132_117 : decode (pg_code 132) 117 = .ok (.iload_n 3, 1) := by decide +kernel
theorem d132_118 : decode (pg_code 132) 118 = .ok (.iconst 4, 1) := by decide +kernel
theorem d132_119 : decode (pg_code 132) 119 = .ok (.iadd, 1) := by decide +kernel
theorem d132_120 : decode (pg_code 132) 120 = .ok (.iaload, 1) := by decide +kernel
theorem d132_121 : decode (pg_code 132) 121 = .ok (.invokevirtual 13, 3) := by decide +kernel
theorem d132_124 : decode (pg_code 132) 124 = .ok (.aload_n 2, 1) := by decide +kernel
theorem d132_125 : decode (pg_code 132) 125 = .ok (.aload_n 0, 1) := by decide +kernel
theorem d132_126 : decode (pg_code 132) 126 = .ok (.iload_n 3, 1) := by decide +kernel
theorem d132_127 : decode (pg_code 132) 127 = .ok (.iconst 1, 1) := by decide +kernel
theorem d132_128 : decode (pg_code 132) 128 = .ok (.iadd, 1) := by decide +kernel
theorem d132_129 : decode (pg_code 132) 129 = .ok (.iaload, 1) := by decide +kernel
theorem d132_130 : decode (pg_code 132) 130 = .ok (.aload_n 0, 1) := by decide +kernel
theorem d132_131 : decode (pg_code 132) 131 = .ok (.iload_n 3, 1) := by decide +kernel
theorem d132_132 : decode (pg_code 132) 132 = .ok (.iconst 2, 1) := by decide +kernel
theorem d132_133 : decode (pg_code 132) 133 = .ok (.iadd, 1) := by decide +kernel
theorem d132_134 : decode (pg_code 132) 134 = .ok (.iaload, 1) := by decide +kernel
theorem d132_135 : decode (pg_code 132) 135 = .ok (.aload_n 0, 1) := by decide +kernel
theorem d132_136 : decode (pg_code 132) 136 = .ok (.iload_n 3, 1) := by decide +kernel
theorem d132_137 : decode (pg_code 132) 137 = .ok (.iconst 3, 1) := by decide +kernel
theorem d132_138 : decode (pg_code 132) 138 = .ok (.iadd, 1) := by decide +kernel
theorem d132_139 : decode (pg_code 132) 139 = .ok (.iaload, 1) := by decide +kernel
theorem d132_140 : decode (pg_code 132) 140 = .ok (.aload_n 0, 1) := by decide +kernel
theorem d132_141 : decode (pg_code 132) 141 = .ok (.iload_n 3, 1) := by decide +kernel
theorem d132_142 : decode (pg_code 132) 142 = .ok (.iconst 4, 1) := by decide +kernel
theorem d132_143 : decode (pg_code 132) 143 = .ok (.iadd, 1) := by decide +kernel
theorem d132_144 : decode (pg_code 132) 144 = .ok (.iaload, 1) := by decide +kernel
theorem d132_145 : decode (pg_code 132) 145 = .ok (.invokevirtual 17, 3) := by decide +kernel
theorem d132_148 : decode (pg_code 132) 148 = .ok (.if_icmp .eq 341, 3) := by decide +kernel
theorem d132_153 : decode (pg_code 132) 153 = .ok (.aload_n 1, 1) := by decide +kernel
theorem d132_154 : decode (pg_code 132) 154 = .ok (.aload_n 0, 1) := by decide +kernel
theorem d132_155 : decode (pg_code 132) 155 = .ok (.iload_n 3, 1) := by decide +kernel
theorem d132_156 : decode (pg_code 132) 156 = .ok (.iconst 1, 1) := by decide +kernel
theorem d132_157 : decode (pg_code 132) 157 = .ok (.iadd, 1) := by decide +kernel
theorem d132_158 : decode (pg_code 132) 158 = .ok (.iaload, 1) := by decide +kernel
theorem d132_159 : decode (pg_code 132) 159 = .ok (.invokevirtual 18, 3) := by decide +kernel
theorem d132_162 : decode (pg_code 132) 162 = .ok (.aload_n 2, 1) := by decide +kernel
theorem d132_163 : decode (pg_code 132) 163 = .ok (.aload_n 0, 1) := by decide +kernel
theorem d132_164 : decode (pg_code 132) 164 = .ok (.iload_n 3, 1) := by decide +kernel
theorem d132_165 : decode (pg_code 132) 165 = .ok (.iconst 1, 1) := by decide +kernel
theorem d132_166 : decode (pg_code 132) 166 = .ok (.iadd, 1) := by decide +kernel
theorem d132_167 : decode (pg_code 132) 167 = .ok (.iaload, 1) := by decide +kernel
theorem d132_168 : decode (pg_code 132) 168 = .ok (.invokevirtual 22, 3) := by decide +kernel
theorem d132_171 : decode (pg_code 132) 171 = .ok (.if_icmp .eq 318, 3) := by decide +kernel
theorem d132_176 : decode (pg_code 132) 176 = .ok (.aload_n 1, 1) := by decide +kernel
theorem d132_177 : decode (pg_code 132) 177 = .ok (.aload_n 0, 1) := by decide +kernel
theorem d132_178 : decode (pg_code 132) 178 = .ok (.iload_n 3, 1) := by decide +kernel
theorem d132_179 : decode (pg_code 132) 179 = .ok (.iconst 1, 1) := by decide +kernel
theorem d132_180 : decode (pg_code 132) 180 = .ok (.iadd, 1) := by decide +kernel
theorem d132_181 : decode (pg_code 132) 181 = .ok (.iaload, 1) := by decide +kernel
theorem d132_182 : decode (pg_code 132) 182 = .ok (.invokevirtual 23, 3) := by decide +kernel
theorem d132_185 : decode (pg_code 132) 185 = .ok (.aload_n 2, 1) := by decide +kernel
theorem d132_186 : decode (pg_code 132) 186 = .ok (.aload_n 0, 1) := by decide +kernel
theorem d132_187 : decode (pg_code 132) 187 = .ok (.iload_n 3, 1) := by decide +kernel
theorem d132_188 : decode (pg_code 132) 188 = .ok (.iconst 1, 1) := by decide +kernel
theorem d132_189 : decode (pg_code 132) 189 = .ok (.iadd, 1) := by decide +kernel
theorem d132_190 : decode (pg_code 132) 190 = .ok (.iaload, 1) := by decide +kernel
theorem d132_191 : decode (pg_code 132) 191 = .ok (.invokevirtual 27, 3) := by decide +kernel
theorem d132_194 : decode (pg_code 132) 194 = .ok (.if_icmp .eq 295, 3) := by decide +kernel
theorem d132_199 : decode (pg_code 132) 199 = .ok (.aload_n 1, 1) := by decide +kernel
theorem d132_200 : decode (pg_code 132) 200 = .ok (.aload_n 0, 1) := by decide +kernel
theorem d132_201 : decode (pg_code 132) 201 = .ok (.iload_n 3, 1) := by decide +kernel
theorem d132_202 : decode (pg_code 132) 202 = .ok (.iconst 1, 1) := by decide +kernel
theorem d132_203 : decode (pg_code 132) 203 = .ok (.iadd, 1) := by decide +kernel
theorem d132_204 : decode (pg_code 132) 204 = .ok (.iaload, 1) := by decide +kernel
theorem d132_205 : decode (pg_code 132) 205 = .ok (.aload_n 0, 1) := by decide +kernel
theorem d132_206 : decode (pg_code 132) 206 = .ok (.iload_n 3, 1) := by decide +kernel
theorem d132_207 : decode (pg_code 132) 207 = .ok (.iconst 2, 1) := by decide +kernel
theorem d132_208 : decode (pg_code 132) 208 = .ok (.iadd, 1) := by decide +kernel
theorem d132_209 : decode (pg_code 132) 209 = .ok (.iaload, 1) := by decide +kernel
theorem d132_210 : decode (pg_code 132) 210 = .ok (.invokevirtual 28, 3) := by decide +kernel
theorem d132_213 : decode (pg_code 132) 213 = .ok (.aload_n 2, 1) := by decide +kernel
theorem d132_214 : decode (pg_code 132) 214 = .ok (.aload_n 0, 1) := by decide +kernel
theorem d132_215 : decode (pg_code 132) 215 = .ok (.iload_n 3, 1) := by decide +kernel
theorem d132_216 : decode (pg_code 132) 216 = .ok (.iconst 1, 1) := by decide +kernel
theorem d132_217 : decode (pg_code 132) 217 = .ok (.iadd, 1) := by decide +kernel
theorem d132_218 : decode (pg_code 132) 218 = .ok (.iaload, 1) := by decide +kernel
theorem d132_219 : decode (pg_code 132) 219 = .ok (.aload_n 0, 1) := by decide +kernel
theorem d132_220 : decode (pg_code 132) 220 = .ok (.iload_n 3, 1) := by decide +kernel
theorem d132_221 : decode (pg_code 132) 221 = .ok (.iconst 2, 1) := by decide +kernel
theorem d132_222 : decode (pg_code 132) 222 = .ok (.iadd, 1) := by decide +kernel
theorem d132_223 : decode (pg_code 132) 223 = .ok (.iaload, 1) := by decide +kernel
theorem d132_224 : decode (pg_code 132) 224 = .ok (.invokevirtual 32, 3) := by decide +kernel
theorem d132_227 : decode (pg_code 132) 227 = .ok (.if_icmp .eq 262, 3) := by decide +kernel
theorem d132_232 : decode (pg_code 132) 232 = .ok (.aload_n 1, 1) := by decide +kernel
theorem d132_233 : decode (pg_code 132) 233 = .ok (.aload_n 0, 1) := by decide +kernel
theorem d132_234 : decode (pg_code 132) 234 = .ok (.iload_n 3, 1) := by decide +kernel
theorem d132_235 : decode (pg_code 132) 235 = .ok (.iconst 1, 1) := by decide +kernel
theorem d132_236 : decode (pg_code 132) 236 = .ok (.iadd, 1) := by decide +kernel
theorem d132_237 : decode (pg_code 132) 237 = .ok (.iaload, 1) := by decide +kernel
theorem d132_238 : decode (pg_code 132) 238 = .ok (.aload_n 0, 1) := by decide +kernel
theorem d132_239 : decode (pg_code 132) 239 = .ok (.iload_n 3, 1) := by decide +kernel
theorem d132_240 : decode (pg_code 132) 240 = .ok (.iconst 2, 1) := by decide +kernel
theorem d132_241 : decode (pg_code 132) 241 = .ok (.iadd, 1) := by decide +kernel
theorem d132_242 : decode (pg_code 132) 242 = .ok (.iaload, 1) := by decide +kernel
theorem d132_243 : decode (pg_code 132) 243 = .ok (.aload_n 0, 1) := by decide +kernel
theorem d132_244 : decode (pg_code 132) 244 = .ok (.iload_n 3, 1) := by decide +kernel
theorem d132_245 : decode (pg_code 132) 245 = .ok (.iconst 3, 1) := by decide +kernel
theorem d132_246 : decode (pg_code 132) 246 = .ok (.iadd, 1) := by decide +kernel
theorem d132_247 : decode (pg_code 132) 247 = .ok (.iaload, 1) := by decide +kernel
theorem d132_248 : decode (pg_code 132) 248 = .ok (.aload_n 0, 1) := by decide +kernel
theorem d132_249 : decode (pg_code 132) 249 = .ok (.iload_n 3, 1) := by decide +kernel
theorem d132_250 : decode (pg_code 132) 250 = .ok (.iconst 4, 1) := by decide +kernel
theorem d132_251 : decode (pg_code 132) 251 = .ok (.iadd, 1) := by decide +kernel
theorem d132_252 : decode (pg_code 132) 252 = .ok (.iaload, 1) := by decide +kernel
theorem d132_253 : decode (pg_code 132) 253 = .ok (.invokevirtual 33, 3) := by decide +kernel
theorem d132_256 : decode (pg_code 132) 256 = .ok (.aload_n 2, 1) := by decide +kernel
theorem d132_257 : decode (pg_code 132) 257 = .ok (.aload_n 0, 1) := by decide +kernel
theorem d132_258 : decode (pg_code 132) 258 = .ok (.iload_n 3, 1) := by decide +kernel
theorem d132_259 : decode (pg_code 132) 259 = .ok (.iconst 1, 1) := by decide +kernel
theorem d132_260 : decode (pg_code 132) 260 = .ok (.iadd, 1) := by decide +kernel
theorem d132_261 : decode (pg_code 132) 261 = .ok (.iaload, 1) := by decide +kernel
theorem d132_262 : decode (pg_code 132) 262 = .ok (.aload_n 0, 1) := by decide +kernel
theorem d132_263 : decode (pg_code 132) 263 = .ok (.iload_n 3, 1) := by decide +kernel
theorem d132_264 : decode (pg_code 132) 264 = .ok (.iconst 2, 1) := by decide +kernel
theorem d132_265 : decode (pg_code 132) 265 = .ok (.iadd, 1) := by decide +kernel
theorem d132_266 : decode (pg_code 132) 266 = .ok (.iaload, 1) := by decide +kernel
theorem d132_267 : decode (pg_code 132) 267 = .ok (.aload_n 0, 1) := by decide +kernel
theorem d132_268 : decode (pg_code 132) 268 = .ok (.iload_n 3, 1) := by decide +kernel
theorem d132_269 : decode (pg_code 132) 269 = .ok (.iconst 3, 1) := by decide +kernel
theorem d132_270 : decode (pg_code 132) 270 = .ok (.iadd, 1) := by decide +kernel
theorem d132_271 : decode (pg_code 132) 271 = .ok (.iaload, 1) := by decide +kernel
theorem d132_272 : decode (pg_code 132) 272 = .ok (.aload_n 0, 1) := by decide +kernel
theorem d132_273 : decode (pg_code 132) 273 = .ok (.iload_n 3, 1) := by decide +kernel
theorem d132_274 : decode (pg_code 132) 274 = .ok (.iconst 4, 1) := by decide +kernel
theorem d132_275 : decode (pg_code 132) 275 = .ok (.iadd, 1) := by decide +kernel
theorem d132_276 : decode (pg_code 132) 276 = .ok (.iaload, 1) := by decide +kernel
theorem d132_277 : decode (pg_code 132) 277 = .ok (.invokevirtual 37, 3) := by decide +kernel
theorem d132_280 : decode (pg_code 132) 280 = .ok (.if_icmp .eq 209, 3) := by decide +kernel
theorem d132_285 : decode (pg_code 132) 285 = .ok (.aload_n 1, 1) := by decide +kernel
theorem d132_286 : decode (pg_code 132) 286 = .ok (.aload_n 0, 1) := by decide +kernel
theorem d132_287 : decode (pg_code 132) 287 = .ok (.iload_n 3, 1) := by decide +kernel
theorem d132_288 : decode (pg_code 132) 288 = .ok (.iconst 1, 1) := by decide +kernel
theorem d132_289 : decode (pg_code 132) 289 = .ok (.iadd, 1) := by decide +kernel
theorem d132_290 : decode (pg_code 132) 290 = .ok (.iaload, 1) := by decide +kernel
theorem d132_291 : decode (pg_code 132) 291 = .ok (.aload_n 0, 1) := by decide +kernel
theorem d132_292 : decode (pg_code 132) 292 = .ok (.iload_n 3, 1) := by decide +kernel
theorem d132_293 : decode (pg_code 132) 293 = .ok (.iconst 2, 1) := by decide +kernel
theorem d132_294 : decode (pg_code 132) 294 = .ok (.iadd, 1) := by decide +kernel
theorem d132_295 : decode (pg_code 132) 295 = .ok (.iaload, 1) := by decide +kernel
theorem d132_296 : decode (pg_code 132) 296 = .ok (.invokevirtual 38, 3) := by decide +kernel
theorem d132_299 : decode (pg_code 132) 299 = .ok (.aload_n 2, 1) := by decide +kernel
theorem d132_300 : decode (pg_code 132) 300 = .ok (.aload_n 0, 1) := by decide +kernel
theorem d132_301 : decode (pg_code 132) 301 = .ok (.iload_n 3, 1) := by decide +kernel
theorem d132_302 : decode (pg_code 132) 302 = .ok (.iconst 1, 1) := by decide +kernel
theorem d132_303 : decode (pg_code 132) 303 = .ok (.iadd, 1) := by decide +kernel
theorem d132_304 : decode (pg_code 132) 304 = .ok (.iaload, 1) := by decide +kernel
theorem d132_305 : decode (pg_code 132) 305 = .ok (.aload_n 0, 1) := by decide +kernel
theorem d132_306 : decode (pg_code 132) 306 = .ok (.iload_n 3, 1) := by decide +kernel
theorem d132_307 : decode (pg_code 132) 307 = .ok (.iconst 2, 1) := by decide +kernel
theorem d132_308 : decode (pg_code 132) 308 = .ok (.iadd, 1) := by decide +kernel
theorem d132_309 : decode (pg_code 132) 309 = .ok (.iaload, 1) := by decide +kernel
theorem d132_310 : decode (pg_code 132) 310 = .ok (.invokevirtual 41, 3) := by decide +kernel
theorem d132_313 : decode (pg_code 132) 313 = .ok (.if_icmp .eq 176, 3) := by decide +kernel
theorem d132_318 : decode (pg_code 132) 318 = .ok (.aload_n 1, 1) := by decide +kernel
theorem d132_319 : decode (pg_code 132) 319 = .ok (.aload_n 0, 1) := by decide +kernel
theorem d132_320 : decode (pg_code 132) 320 = .ok (.iload_n 3, 1) := by decide +kernel
theorem d132_321 : decode (pg_code 132) 321 = .ok (.iconst 1, 1) := by decide +kernel
theorem d132_322 : decode (pg_code 132) 322 = .ok (.iadd, 1) := by decide +kernel
theorem d132_323 : decode (pg_code 132) 323 = .ok (.iaload, 1) := by decide +kernel
theorem d132_324 : decode (pg_code 132) 324 = .ok (.invokevirtual 42, 3) := by decide +kernel
theorem d132_327 : decode (pg_code 132) 327 = .ok (.aload_n 2, 1) := by decide +kernel
theorem d132_328 : decode (pg_code 132) 328 = .ok (.aload_n 0, 1) := by decide +kernel
theorem d132_329 : decode (pg_code 132) 329 = .ok (.iload_n 3, 1) := by decide +kernel
theorem d132_330 : decode (pg_code 132) 330 = .ok (.iconst 1, 1) := by decide +kernel
theorem d132_331 : decode (pg_code 132) 331 = .ok (.iadd, 1) := by decide +kernel
theorem d132_332 : decode (pg_code 132) 332 = .ok (.iaload, 1) := by decide +kernel
theorem d132_333 : decode (pg_code 132) 333 = .ok (.invokevirtual 45, 3) := by decide +kernel
theorem d132_336 : decode (pg_code 132) 336 = .ok (.if_icmp .eq 153, 3) := by decide +kernel
theorem d132_341 : decode (pg_code 132) 341 = .ok (.aload_n 1, 1) := by decide +kernel
theorem d132_342 : decode (pg_code 132) 342 = .ok (.aload_n 0, 1) := by decide +kernel
theorem d132_343 : decode (pg_code 132) 343 = .ok (.iload_n 3, 1) := by decide +kernel
theorem d132_344 : decode (pg_code 132) 344 = .ok (.iconst 1, 1) := by decide +kernel
theorem d132_345 : decode (pg_code 132) 345 = .ok (.iadd, 1) := by decide +kernel
theorem d132_346 : decode (pg_code 132) 346 = .ok (.iaload, 1) := by decide +kernel
theorem d132_347 : decode (pg_code 132) 347 = .ok (.aload_n 0, 1) := by decide +kernel
theorem d132_348 : decode (pg_code 132) 348 = .ok (.iload_n 3, 1) := by decide +kernel
theorem d132_349 : decode (pg_code 132) 349 = .ok (.iconst 2, 1) := by decide +kernel
theorem d132_350 : decode (pg_code 132) 350 = .ok (.iadd, 1) := by decide +kernel
theorem d132_351 : decode (pg_code 132) 351 = .ok (.iaload, 1) := by decide +kernel
theorem d132_352 : decode (pg_code 132) 352 = .ok (.invokevirtual 46, 3) := by decide +kernel
theorem d132_355 : decode (pg_code 132) 355 = .ok (.aload_n 2, 1) := by decide +kernel
theorem d132_356 : decode (pg_code 132) 356 = .ok (.aload_n 0, 1) := by decide +kernel
theorem d132_357 : decode (pg_code 132) 357 = .ok (.iload_n 3, 1) := by decide +kernel
theorem d132_358 : decode (pg_code 132) 358 = .ok (.iconst 1, 1) := by decide +kernel
theorem d132_359 : decode (pg_code 132) 359 = .ok (.iadd, 1) := by decide +kernel
theorem d132_360 : decode (pg_code 132) 360 = .ok (.iaload, 1) := by decide +kernel
theorem d132_361 : decode (pg_code 132) 361 = .ok (.aload_n 0, 1) := by decide +kernel
theorem d132_362 : decode (pg_code 132) 362 = .ok (.iload_n 3, 1) := by decide +kernel
theorem d132_363 : decode (pg_code 132) 363 = .ok (.iconst 2, 1) := by decide +kernel
theorem d132_364 : decode (pg_code 132) 364 = .ok (.iadd, 1) := by decide +kernel
theorem d132_365 : decode (pg_code 132) 365 = .ok (.iaload, 1) := by decide +kernel
theorem d132_366 : decode (pg_code 132) 366 = .ok (.invokevirtual 49, 3) := by decide +kernel
theorem d132_369 : decode (pg_code 132) 369 = .ok (.if_icmp .eq 120, 3) := by decide +kernel
theorem d132_374 : decode (pg_code 132) 374 = .ok (.aload_n 1, 1) := by decide +kernel
theorem d132_375 : decode (pg_code 132) 375 = .ok (.aload_n 0, 1) := by decide +kernel
theorem d132_376 : decode (pg_code 132) 376 = .ok (.iload_n 3, 1) := by decide +kernel
theorem d132_377 : decode (pg_code 132) 377 = .ok (.iconst 1, 1) := by decide +kernel
theorem d132_378 : decode (pg_code 132) 378 = .ok (.iadd, 1) := by decide +kernel
theorem d132_379 : decode (pg_code 132) 379 = .ok (.iaload, 1) := by decide +kernel
theorem d132_380 : decode (pg_code 132) 380 = .ok (.invokevirtual 50, 3) := by decide +kernel
theorem d132_383 : decode (pg_code 132) 383 = .ok (.aload_n 2, 1) := by decide +kernel
theorem d132_384 : decode (pg_code 132) 384 = .ok (.aload_n 0, 1) := by decide +kernel
theorem d132_385 : decode (pg_code 132) 385 = .ok (.iload_n 3, 1) := by decide +kernel
theorem d132_386 : decode (pg_code 132) 386 = .ok (.iconst 1, 1) := by decide +kernel
theorem d132_387 : decode (pg_code 132) 387 = .ok (.iadd, 1) := by decide +kernel
theorem d132_388 : decode (pg_code 132) 388 = .ok (.iaload, 1) := by decide +kernel
theorem d132_389 : decode (pg_code 132) 389 = .ok (.invokevirtual 53, 3) := by decide +kernel
theorem d132_392 : decode (pg_code 132) 392 = .ok (.if_icmp .eq 97, 3) := by decide +kernel
theorem d132_397 : decode (pg_code 132) 397 = .ok (.aload_n 1, 1) := by decide +kernel
theorem d132_398 : decode (pg_code 132) 398 = .ok (.aload_n 0, 1) := by decide +kernel
theorem d132_399 : decode (pg_code 132) 399 = .ok (.iload_n 3, 1) := by decide +kernel
theorem d132_400 : decode (pg_code 132) 400 = .ok (.iconst 1, 1) := by decide +kernel
theorem d132_401 : decode (pg_code 132) 401 = .ok (.iadd, 1) := by decide +kernel
theorem d132_402 : decode (pg_code 132) 402 = .ok (.iaload, 1) := by decide +kernel
theorem d132_403 : decode (pg_code 132) 403 = .ok (.invokevirtual 54, 3) := by decide +kernel
theorem d132_406 : decode (pg_code 132) 406 = .ok (.aload_n 2, 1) := by decide +kernel
theorem d132_407 : decode (pg_code 132) 407 = .ok (.aload_n 0, 1) := by decide +kernel
theorem d132_408 : decode (pg_code 132) 408 = .ok (.iload_n 3, 1) := by decide +kernel
theorem d132_409 : decode (pg_code 132) 409 = .ok (.iconst 1, 1) := by decide +kernel
theorem d132_410 : decode (pg_code 132) 410 = .ok (.iadd, 1) := by decide +kernel
theorem d132_411 : decode (pg_code 132) 411 = .ok (.iaload, 1) := by decide +kernel
theorem d132_412 : decode (pg_code 132) 412 = .ok (.invokevirtual 57, 3) := by decide +kernel
theorem d132_415 : decode (pg_code 132) 415 = .ok (.if_icmp .eq 74, 3) := by decide +kernel
theorem d132_420 : decode (pg_code 132) 420 = .ok (.aload_n 1, 1) := by decide +kernel
theorem d132_421 : decode (pg_code 132) 421 = .ok (.invokevirtual 58, 3) := by decide +kernel
theorem d132_424 : decode (pg_code 132) 424 = .ok (.aload_n 2, 1) := by decide +kernel
theorem d132_425 : decode (pg_code 132) 425 = .ok (.invokevirtual 62, 3) := by decide +kernel
theorem d132_428 : decode (pg_code 132) 428 = .ok (.if_icmp .eq 61, 3) := by decide +kernel
theorem d132_433 : decode (pg_code 132) 433 = .ok (.aload_n 1, 1) := by decide +kernel
theorem d132_434 : decode (pg_code 132) 434 = .ok (.aload_n 0, 1) := by decide +kernel
theorem d132_435 : decode (pg_code 132) 435 = .ok (.iload_n 3, 1) := by decide +kernel
theorem d132_436 : decode (pg_code 132) 436 = .ok (.iconst 1, 1) := by decide +kernel
theorem d132_437 : decode (pg_code 132) 437 = .ok (.iadd, 1) := by decide +kernel
theorem d132_438 : decode (pg_code 132) 438 = .ok (.iaload, 1) := by decide +kernel
theorem d132_439 : decode (pg_code 132) 439 = .ok (.aload_n 0, 1) := by decide +kernel
theorem d132_440 : decode (pg_code 132) 440 = .ok (.iload_n 3, 1) := by decide +kernel
theorem d132_441 : decode (pg_code 132) 441 = .ok (.iconst 2, 1) := by decide +kernel
theorem d132_442 : decode (pg_code 132) 442 = .ok (.iadd, 1) := by decide +kernel
theorem d132_443 : decode (pg_code 132) 443 = .ok (.iaload, 1) := by decide +kernel
theorem d132_444 : decode (pg_code 132) 444 = .ok (.invokevirtual 63, 3) := by decide +kernel
theorem d132_447 : decode (pg_code 132) 447 = .ok (.aload_n 2, 1) := by decide +kernel
theorem d132_448 : decode (pg_code 132) 448 = .ok (.aload_n 0, 1) := by decide +kernel
theorem d132_449 : decode (pg_code 132) 449 = .ok (.iload_n 3, 1) := by decide +kernel
theorem d132_450 : decode (pg_code 132) 450 = .ok (.iconst 1, 1) := by decide +kernel
theorem d132_451 : decode (pg_code 132) 451 = .ok (.iadd, 1) := by decide +kernel
theorem d132_452 : decode (pg_code 132) 452 = .ok (.iaload, 1) := by decide +kernel
theorem d132_453 : decode (pg_code 132) 453 = .ok (.aload_n 0, 1) := by decide +kernel
theorem d132_454 : decode (pg_code 132) 454 = .ok (.iload_n 3, 1) := by decide +kernel
theorem d132_455 : decode (pg_code 132) 455 = .ok (.iconst 2, 1) := by decide +kernel
theorem d132_456 : decode (pg_code 132) 456 = .ok (.iadd, 1) := by decide +kernel
theorem d132_457 : decode (pg_code 132) 457 = .ok (.iaload, 1) := by decide +kernel
theorem d132_458 : decode (pg_code 132) 458 = .ok (.invokevirtual 66, 3) := by decide +kernel
theorem d132_461 : decode (pg_code 132) 461 = .ok (.if_icmp .eq 28, 3) := by decide +kernel
theorem d132_466 : decode (pg_code 132) 466 = .ok (.aload_n 1, 1) := by decide +kernel
theorem d132_467 : decode (pg_code 132) 467 = .ok (.aload_n 0, 1) := by decide +kernel
theorem d132_468 : decode (pg_code 132) 468 = .ok (.iload_n 3, 1) := by decide +kernel
theorem d132_469 : decode (pg_code 132) 469 = .ok (.iconst 1, 1) := by decide +kernel
theorem d132_470 : decode (pg_code 132) 470 = .ok (.iadd, 1) := by decide +kernel
theorem d132_471 : decode (pg_code 132) 471 = .ok (.iaload, 1) := by decide +kernel
theorem d132_472 : decode (pg_code 132) 472 = .ok (.invokevirtual 67, 3) := by decide +kernel
theorem d132_475 : decode (pg_code 132) 475 = .ok (.aload_n 2, 1) := by decide +kernel
theorem d132_476 : decode (pg_code 132) 476 = .ok (.aload_n 0, 1) := by decide +kernel
theorem d132_477 : decode (pg_code 132) 477 = .ok (.iload_n 3, 1) := by decide +kernel
theorem d132_478 : decode (pg_code 132) 478 = .ok (.iconst 1, 1) := by decide +kernel
theorem d132_479 : decode (pg_code 132) 479 = .ok (.iadd, 1) := by decide +kernel
theorem d132_480 : decode (pg_code 132) 480 = .ok (.iaload, 1) := by decide +kernel
theorem d132_481 : decode (pg_code 132) 481 = .ok (.invokevirtual 70, 3) := by decide +kernel
theorem d132_484 : decode (pg_code 132) 484 = .ok (.if_icmp .eq 5, 3) := by decide +kernel
theorem d132_489 : decode (pg_code 132) 489 = .ok (.iinc 3 5, 3) := by decide +kernel
theorem d132_492 : decode (pg_code 132) 492 = .ok (.goto (-474), 3) := by decide +kernel
theorem d132_495 : decode (pg_code 132) 495 = .ok (.iconst 1, 1) := by decide +kernel
theorem d132_496 : decode (pg_code 132) 496 = .ok (.ireturn, 1) := by decide +kernel
theorem r132_0  : am_Rn L xs d 132 0 ls st σ Q = am_Rn L xs d 132 3 ls (.ref σ.length :: st) (σ ++ [.inr (0, pg_def 0)]) Q := am_r_new d132_0 rfl
theorem r132_3 {a : Value} : am_Rn L xs d 132 3 ls (a :: st) σ Q = (am_ok a = true ∧ am_Rn L xs d 132 4 ls (a :: a :: st) σ Q) := am_r_dup d132_3
theorem r132_4 {p : Nat} (hr : st.length ≤ 4) : am_Rn L xs (d + 1) 132 4 ls (.ref p :: st) σ Q = am_Call L xs d 0 [.ref p] σ (fun r σ1 => am_Rn L xs (d + 1) 132 7 ls (r.toList ++ st) σ1 Q) := am_R_special (as := []) d132_4 rfl ⟨by decide, rfl⟩ rfl rfl (by decide) ⟨hr, rfl⟩
theorem r132_7 {x : Nat} : am_Rn L xs d 132 7 ls (.ref x :: st) σ Q = (1 < ls.length ∧ am_Rn L xs d 132 8 (ls.set 1 (.ref x)) st σ Q) := am_r_astore_n d132_7
theorem r132_8  : am_Rn L xs d 132 8 ls st σ Q = am_Rn L xs d 132 11 ls (.ref σ.length :: st) (σ ++ [.inr (6, pg_def 6)]) Q := am_r_new d132_8 rfl
theorem r132_11 {a : Value} : am_Rn L xs d 132 11 ls (a :: st) σ Q = (am_ok a = true ∧ am_Rn L xs d 132 12 ls (a :: a :: st) σ Q) := am_r_dup d132_11
theorem r132_12 {p : Nat} (hr : st.length ≤ 4) : am_Rn L xs (d + 1) 132 12 ls (.ref p :: st) σ Q = am_Call L xs d 83 [.ref p] σ (fun r σ1 => am_Rn L xs (d + 1) 132 15 ls (r.toList ++ st) σ1 Q) := am_R_special (as := []) d132_12 rfl ⟨by decide, rfl⟩ rfl rfl (by decide) ⟨hr, rfl⟩
theorem r132_15 {x : Nat} : am_Rn L xs d 132 15 ls (.ref x :: st) σ Q = (2 < ls.length ∧ am_Rn L xs d 132 16 (ls.set 2 (.ref x)) st σ Q) := am_r_astore_n d132_15
theorem r132_16  : am_Rn L xs d 132 16 ls st σ Q = am_Rn L xs d 132 17 ls (.int 0 :: st) σ Q := am_r_iconst d132_16 (by decide)
theorem r132_17 {x : Int32} : am_Rn L xs d 132 17 ls (.int x :: st) σ Q = (3 < ls.length ∧ am_Rn L xs d 132 18 (ls.set 3 (.int x)) st σ Q) := am_r_istore_n d132_17
theorem r132_18  : am_Rn L xs d 132 18 ls st σ Q = am_li ls 3 (fun x => am_Rn L xs d 132 19 ls (.int x :: st) σ Q) := am_r_iload_n d132_18
theorem r132_19  : am_Rn L xs d 132 19 ls st σ Q = am_la ls 0 (fun x => am_Rn L xs d 132 20 ls (x :: st) σ Q) := am_r_aload_n d132_19
theorem r132_20 {b : UInt32} : am_Rn L xs d 132 20 ls (.float b :: st) σ Q = am_Rn L xs d 132 21 ls (.int (Int32.ofNat L) :: st) σ Q := am_r_slen d132_20 rfl
theorem r132_21  : am_Rn L xs d 132 21 ls st σ Q = am_Rn L xs d 132 22 ls (.int 5 :: st) σ Q := am_r_iconst d132_21 (by decide)
theorem r132_22 {a b : Int32} : am_Rn L xs d 132 22 ls (.int b :: .int a :: st) σ Q = am_Rn L xs d 132 23 ls (.int (a - b) :: st) σ Q := am_r_isub d132_22
theorem r132_23 {a b : Int32} : am_Rn L xs d 132 23 ls (.int b :: .int a :: st) σ Q = if b < a then am_Rn L xs d 132 495 ls st σ Q else am_Rn L xs d 132 26 ls st σ Q := (am_r_icmp (t := 495) d132_23 (by decide)).trans (am_ite _ _ trivial (by simp only [am_cond, decide_eq_true_eq]))
theorem r132_26  : am_Rn L xs d 132 26 ls st σ Q = am_la ls 0 (fun x => am_Rn L xs d 132 27 ls (x :: st) σ Q) := am_r_aload_n d132_26
theorem r132_27  : am_Rn L xs d 132 27 ls st σ Q = am_li ls 3 (fun x => am_Rn L xs d 132 28 ls (.int x :: st) σ Q) := am_r_iload_n d132_27
theorem s132_28 {b : UInt32} {i : Int32} : am_Rn L xs d 132 28 ls (.int i :: .float b :: st) σ Q = (am_in i L = true ∧ am_Rn L xs d 132 29 ls (.int (xs i.toNatClampNeg) :: st) σ Q) := am_r_sload d132_28 rfl
theorem r132_29  : am_Rn L xs d 132 29 ls st σ Q = am_Rn L xs d 132 31 ls (.int 15 :: st) σ Q := am_r_bipush d132_29 (by decide)
theorem r132_31 {a b : Int32} : am_Rn L xs d 132 31 ls (.int b :: .int a :: st) σ Q = am_Rn L xs d 132 32 ls (.int (a &&& b) :: st) σ Q := am_r_iand d132_31
theorem r132_100  : am_Rn L xs d 132 100 ls st σ Q = am_la ls 1 (fun x => am_Rn L xs d 132 101 ls (x :: st) σ Q) := am_r_aload_n d132_100
theorem r132_101  : am_Rn L xs d 132 101 ls st σ Q = am_la ls 0 (fun x => am_Rn L xs d 132 102 ls (x :: st) σ Q) := am_r_aload_n d132_101
theorem r132_102  : am_Rn L xs d 132 102 ls st σ Q = am_li ls 3 (fun x => am_Rn L xs d 132 103 ls (.int x :: st) σ Q) := am_r_iload_n d132_102
theorem r132_103  : am_Rn L xs d 132 103 ls st σ Q = am_Rn L xs d 132 104 ls (.int 1 :: st) σ Q := am_r_iconst d132_103 (by decide)
theorem r132_104 {a b : Int32} : am_Rn L xs d 132 104 ls (.int b :: .int a :: st) σ Q = am_Rn L xs d 132 105 ls (.int (a + b) :: st) σ Q := am_r_iadd d132_104
theorem s132_105 {b : UInt32} {i : Int32} : am_Rn L xs d 132 105 ls (.int i :: .float b :: st) σ Q = (am_in i L = true ∧ am_Rn L xs d 132 106 ls (.int (xs i.toNatClampNeg) :: st) σ Q) := am_r_sload d132_105 rfl
theorem r132_106  : am_Rn L xs d 132 106 ls st σ Q = am_la ls 0 (fun x => am_Rn L xs d 132 107 ls (x :: st) σ Q) := am_r_aload_n d132_106
theorem r132_107  : am_Rn L xs d 132 107 ls st σ Q = am_li ls 3 (fun x => am_Rn L xs d 132 108 ls (.int x :: st) σ Q) := am_r_iload_n d132_107
theorem r132_108  : am_Rn L xs d 132 108 ls st σ Q = am_Rn L xs d 132 109 ls (.int 2 :: st) σ Q := am_r_iconst d132_108 (by decide)
theorem r132_109 {a b : Int32} : am_Rn L xs d 132 109 ls (.int b :: .int a :: st) σ Q = am_Rn L xs d 132 110 ls (.int (a + b) :: st) σ Q := am_r_iadd d132_109
theorem s132_110 {b : UInt32} {i : Int32} : am_Rn L xs d 132 110 ls (.int i :: .float b :: st) σ Q = (am_in i L = true ∧ am_Rn L xs d 132 111 ls (.int (xs i.toNatClampNeg) :: st) σ Q) := am_r_sload d132_110 rfl
theorem r132_111  : am_Rn L xs d 132 111 ls st σ Q = am_la ls 0 (fun x => am_Rn L xs d 132 112 ls (x :: st) σ Q) := am_r_aload_n d132_111
theorem r132_112  : am_Rn L xs d 132 112 ls st σ Q = am_li ls 3 (fun x => am_Rn L xs d 132 113 ls (.int x :: st) σ Q) := am_r_iload_n d132_112
theorem r132_113  : am_Rn L xs d 132 113 ls st σ Q = am_Rn L xs d 132 114 ls (.int 3 :: st) σ Q := am_r_iconst d132_113 (by decide)
theorem r132_114 {a b : Int32} : am_Rn L xs d 132 114 ls (.int b :: .int a :: st) σ Q = am_Rn L xs d 132 115 ls (.int (a + b) :: st) σ Q := am_r_iadd d132_114
theorem s132_115 {b : UInt32} {i : Int32} : am_Rn L xs d 132 115 ls (.int i :: .float b :: st) σ Q = (am_in i L = true ∧ am_Rn L xs d 132 116 ls (.int (xs i.toNatClampNeg) :: st) σ Q) := am_r_sload d132_115 rfl
theorem r132_116  : am_Rn L xs d 132 116 ls st σ Q = am_la ls 0 (fun x => am_Rn L xs d 132 117 ls (x :: st) σ Q) := am_r_aload_n d132_116
theorem r132_117  : am_Rn L xs d 132 117 ls st σ Q = am_li ls 3 (fun x => am_Rn L xs d 132 118 ls (.int x :: st) σ Q) := am_r_iload_n d132_117
theorem r132_118  : am_Rn L xs d 132 118 ls st σ Q = am_Rn L xs d 132 119 ls (.int 4 :: st) σ Q := am_r_iconst d132_118 (by decide)
theorem r132_119 {a b : Int32} : am_Rn L xs d 132 119 ls (.int b :: .int a :: st) σ Q = am_Rn L xs d 132 120 ls (.int (a + b) :: st) σ Q := am_r_iadd d132_119
theorem s132_120 {b : UInt32} {i : Int32} : am_Rn L xs d 132 120 ls (.int i :: .float b :: st) σ Q = (am_in i L = true ∧ am_Rn L xs d 132 121 ls (.int (xs i.toNatClampNeg) :: st) σ Q) := am_r_sload d132_120 rfl
theorem r132_121 {a1 a2 a3 a4 : Value} {p : Nat} : am_Rn L xs (d + 1) 132 121 ls (a4 :: a3 :: a2 :: a1 :: .ref p :: st) σ Q = ((am_oc σ p = 0 ∧ st.length ≤ 4 ∧ am_ok a1 = true ∧ am_ok a2 = true ∧ am_ok a3 = true ∧ am_ok a4 = true) ∧ am_Call L xs d 7 [.ref p, a1, a2, a3, a4] σ (fun r σ1 => am_Rn L xs (d + 1) 132 124 ls (r.toList ++ st) σ1 Q)) := am_R_virtual4 d132_121 rfl ⟨by decide, rfl⟩ rfl rfl (by decide)
theorem r132_124  : am_Rn L xs d 132 124 ls st σ Q = am_la ls 2 (fun x => am_Rn L xs d 132 125 ls (x :: st) σ Q) := am_r_aload_n d132_124
theorem r132_125  : am_Rn L xs d 132 125 ls st σ Q = am_la ls 0 (fun x => am_Rn L xs d 132 126 ls (x :: st) σ Q) := am_r_aload_n d132_125
theorem r132_126  : am_Rn L xs d 132 126 ls st σ Q = am_li ls 3 (fun x => am_Rn L xs d 132 127 ls (.int x :: st) σ Q) := am_r_iload_n d132_126
theorem r132_127  : am_Rn L xs d 132 127 ls st σ Q = am_Rn L xs d 132 128 ls (.int 1 :: st) σ Q := am_r_iconst d132_127 (by decide)
theorem r132_128 {a b : Int32} : am_Rn L xs d 132 128 ls (.int b :: .int a :: st) σ Q = am_Rn L xs d 132 129 ls (.int (a + b) :: st) σ Q := am_r_iadd d132_128
theorem s132_129 {b : UInt32} {i : Int32} : am_Rn L xs d 132 129 ls (.int i :: .float b :: st) σ Q = (am_in i L = true ∧ am_Rn L xs d 132 130 ls (.int (xs i.toNatClampNeg) :: st) σ Q) := am_r_sload d132_129 rfl
theorem r132_130  : am_Rn L xs d 132 130 ls st σ Q = am_la ls 0 (fun x => am_Rn L xs d 132 131 ls (x :: st) σ Q) := am_r_aload_n d132_130
theorem r132_131  : am_Rn L xs d 132 131 ls st σ Q = am_li ls 3 (fun x => am_Rn L xs d 132 132 ls (.int x :: st) σ Q) := am_r_iload_n d132_131
theorem r132_132  : am_Rn L xs d 132 132 ls st σ Q = am_Rn L xs d 132 133 ls (.int 2 :: st) σ Q := am_r_iconst d132_132 (by decide)
theorem r132_133 {a b : Int32} : am_Rn L xs d 132 133 ls (.int b :: .int a :: st) σ Q = am_Rn L xs d 132 134 ls (.int (a + b) :: st) σ Q := am_r_iadd d132_133
theorem s132_134 {b : UInt32} {i : Int32} : am_Rn L xs d 132 134 ls (.int i :: .float b :: st) σ Q = (am_in i L = true ∧ am_Rn L xs d 132 135 ls (.int (xs i.toNatClampNeg) :: st) σ Q) := am_r_sload d132_134 rfl
theorem r132_135  : am_Rn L xs d 132 135 ls st σ Q = am_la ls 0 (fun x => am_Rn L xs d 132 136 ls (x :: st) σ Q) := am_r_aload_n d132_135
theorem r132_136  : am_Rn L xs d 132 136 ls st σ Q = am_li ls 3 (fun x => am_Rn L xs d 132 137 ls (.int x :: st) σ Q) := am_r_iload_n d132_136
theorem r132_137  : am_Rn L xs d 132 137 ls st σ Q = am_Rn L xs d 132 138 ls (.int 3 :: st) σ Q := am_r_iconst d132_137 (by decide)
theorem r132_138 {a b : Int32} : am_Rn L xs d 132 138 ls (.int b :: .int a :: st) σ Q = am_Rn L xs d 132 139 ls (.int (a + b) :: st) σ Q := am_r_iadd d132_138
theorem s132_139 {b : UInt32} {i : Int32} : am_Rn L xs d 132 139 ls (.int i :: .float b :: st) σ Q = (am_in i L = true ∧ am_Rn L xs d 132 140 ls (.int (xs i.toNatClampNeg) :: st) σ Q) := am_r_sload d132_139 rfl
theorem r132_140  : am_Rn L xs d 132 140 ls st σ Q = am_la ls 0 (fun x => am_Rn L xs d 132 141 ls (x :: st) σ Q) := am_r_aload_n d132_140
theorem r132_141  : am_Rn L xs d 132 141 ls st σ Q = am_li ls 3 (fun x => am_Rn L xs d 132 142 ls (.int x :: st) σ Q) := am_r_iload_n d132_141
theorem r132_142  : am_Rn L xs d 132 142 ls st σ Q = am_Rn L xs d 132 143 ls (.int 4 :: st) σ Q := am_r_iconst d132_142 (by decide)
theorem r132_143 {a b : Int32} : am_Rn L xs d 132 143 ls (.int b :: .int a :: st) σ Q = am_Rn L xs d 132 144 ls (.int (a + b) :: st) σ Q := am_r_iadd d132_143
theorem s132_144 {b : UInt32} {i : Int32} : am_Rn L xs d 132 144 ls (.int i :: .float b :: st) σ Q = (am_in i L = true ∧ am_Rn L xs d 132 145 ls (.int (xs i.toNatClampNeg) :: st) σ Q) := am_r_sload d132_144 rfl
theorem r132_145 {a1 a2 a3 a4 : Value} {p : Nat} : am_Rn L xs (d + 1) 132 145 ls (a4 :: a3 :: a2 :: a1 :: .ref p :: st) σ Q = ((am_oc σ p = 6 ∧ st.length ≤ 4 ∧ am_ok a1 = true ∧ am_ok a2 = true ∧ am_ok a3 = true ∧ am_ok a4 = true) ∧ am_Call L xs d 84 [.ref p, a1, a2, a3, a4] σ (fun r σ1 => am_Rn L xs (d + 1) 132 148 ls (r.toList ++ st) σ1 Q)) := am_R_virtual4 d132_145 rfl ⟨by decide, rfl⟩ rfl rfl (by decide)
theorem r132_148 {a b : Int32} : am_Rn L xs d 132 148 ls (.int b :: .int a :: st) σ Q = if a = b then am_Rn L xs d 132 489 ls st σ Q else am_Rn L xs d 132 151 ls st σ Q := (am_r_icmp (t := 489) d132_148 (by decide)).trans (am_ite _ _ trivial (by simp only [am_cond, decide_eq_true_eq]))
theorem r132_153  : am_Rn L xs d 132 153 ls st σ Q = am_la ls 1 (fun x => am_Rn L xs d 132 154 ls (x :: st) σ Q) := am_r_aload_n d132_153
theorem r132_154  : am_Rn L xs d 132 154 ls st σ Q = am_la ls 0 (fun x => am_Rn L xs d 132 155 ls (x :: st) σ Q) := am_r_aload_n d132_154
theorem r132_155  : am_Rn L xs d 132 155 ls st σ Q = am_li ls 3 (fun x => am_Rn L xs d 132 156 ls (.int x :: st) σ Q) := am_r_iload_n d132_155
theorem r132_156  : am_Rn L xs d 132 156 ls st σ Q = am_Rn L xs d 132 157 ls (.int 1 :: st) σ Q := am_r_iconst d132_156 (by decide)
theorem r132_157 {a b : Int32} : am_Rn L xs d 132 157 ls (.int b :: .int a :: st) σ Q = am_Rn L xs d 132 158 ls (.int (a + b) :: st) σ Q := am_r_iadd d132_157
theorem s132_158 {b : UInt32} {i : Int32} : am_Rn L xs d 132 158 ls (.int i :: .float b :: st) σ Q = (am_in i L = true ∧ am_Rn L xs d 132 159 ls (.int (xs i.toNatClampNeg) :: st) σ Q) := am_r_sload d132_158 rfl
theorem r132_159 {a1 : Value} {p : Nat} : am_Rn L xs (d + 1) 132 159 ls (a1 :: .ref p :: st) σ Q = ((am_oc σ p = 0 ∧ st.length ≤ 4 ∧ am_ok a1 = true) ∧ am_Call L xs d 14 [.ref p, a1] σ (fun r σ1 => am_Rn L xs (d + 1) 132 162 ls (r.toList ++ st) σ1 Q)) := am_R_virtual1 d132_159 rfl ⟨by decide, rfl⟩ rfl rfl (by decide)
theorem r132_162  : am_Rn L xs d 132 162 ls st σ Q = am_la ls 2 (fun x => am_Rn L xs d 132 163 ls (x :: st) σ Q) := am_r_aload_n d132_162
theorem r132_163  : am_Rn L xs d 132 163 ls st σ Q = am_la ls 0 (fun x => am_Rn L xs d 132 164 ls (x :: st) σ Q) := am_r_aload_n d132_163
theorem r132_164  : am_Rn L xs d 132 164 ls st σ Q = am_li ls 3 (fun x => am_Rn L xs d 132 165 ls (.int x :: st) σ Q) := am_r_iload_n d132_164
theorem r132_165  : am_Rn L xs d 132 165 ls st σ Q = am_Rn L xs d 132 166 ls (.int 1 :: st) σ Q := am_r_iconst d132_165 (by decide)
theorem r132_166 {a b : Int32} : am_Rn L xs d 132 166 ls (.int b :: .int a :: st) σ Q = am_Rn L xs d 132 167 ls (.int (a + b) :: st) σ Q := am_r_iadd d132_166
theorem s132_167 {b : UInt32} {i : Int32} : am_Rn L xs d 132 167 ls (.int i :: .float b :: st) σ Q = (am_in i L = true ∧ am_Rn L xs d 132 168 ls (.int (xs i.toNatClampNeg) :: st) σ Q) := am_r_sload d132_167 rfl
theorem r132_168 {a1 : Value} {p : Nat} : am_Rn L xs (d + 1) 132 168 ls (a1 :: .ref p :: st) σ Q = ((am_oc σ p = 6 ∧ st.length ≤ 4 ∧ am_ok a1 = true) ∧ am_Call L xs d 87 [.ref p, a1] σ (fun r σ1 => am_Rn L xs (d + 1) 132 171 ls (r.toList ++ st) σ1 Q)) := am_R_virtual1 d132_168 rfl ⟨by decide, rfl⟩ rfl rfl (by decide)
theorem r132_171 {a b : Int32} : am_Rn L xs d 132 171 ls (.int b :: .int a :: st) σ Q = if a = b then am_Rn L xs d 132 489 ls st σ Q else am_Rn L xs d 132 174 ls st σ Q := (am_r_icmp (t := 489) d132_171 (by decide)).trans (am_ite _ _ trivial (by simp only [am_cond, decide_eq_true_eq]))
theorem r132_176  : am_Rn L xs d 132 176 ls st σ Q = am_la ls 1 (fun x => am_Rn L xs d 132 177 ls (x :: st) σ Q) := am_r_aload_n d132_176
theorem r132_177  : am_Rn L xs d 132 177 ls st σ Q = am_la ls 0 (fun x => am_Rn L xs d 132 178 ls (x :: st) σ Q) := am_r_aload_n d132_177
theorem r132_178  : am_Rn L xs d 132 178 ls st σ Q = am_li ls 3 (fun x => am_Rn L xs d 132 179 ls (.int x :: st) σ Q) := am_r_iload_n d132_178
theorem r132_179  : am_Rn L xs d 132 179 ls st σ Q = am_Rn L xs d 132 180 ls (.int 1 :: st) σ Q := am_r_iconst d132_179 (by decide)
theorem r132_180 {a b : Int32} : am_Rn L xs d 132 180 ls (.int b :: .int a :: st) σ Q = am_Rn L xs d 132 181 ls (.int (a + b) :: st) σ Q := am_r_iadd d132_180
theorem s132_181 {b : UInt32} {i : Int32} : am_Rn L xs d 132 181 ls (.int i :: .float b :: st) σ Q = (am_in i L = true ∧ am_Rn L xs d 132 182 ls (.int (xs i.toNatClampNeg) :: st) σ Q) := am_r_sload d132_181 rfl
theorem r132_182 {a1 : Value} {p : Nat} : am_Rn L xs (d + 1) 132 182 ls (a1 :: .ref p :: st) σ Q = ((am_oc σ p = 0 ∧ st.length ≤ 4 ∧ am_ok a1 = true) ∧ am_Call L xs d 16 [.ref p, a1] σ (fun r σ1 => am_Rn L xs (d + 1) 132 185 ls (r.toList ++ st) σ1 Q)) := am_R_virtual1 d132_182 rfl ⟨by decide, rfl⟩ rfl rfl (by decide)
theorem r132_185  : am_Rn L xs d 132 185 ls st σ Q = am_la ls 2 (fun x => am_Rn L xs d 132 186 ls (x :: st) σ Q) := am_r_aload_n d132_185
theorem r132_186  : am_Rn L xs d 132 186 ls st σ Q = am_la ls 0 (fun x => am_Rn L xs d 132 187 ls (x :: st) σ Q) := am_r_aload_n d132_186
theorem r132_187  : am_Rn L xs d 132 187 ls st σ Q = am_li ls 3 (fun x => am_Rn L xs d 132 188 ls (.int x :: st) σ Q) := am_r_iload_n d132_187
theorem r132_188  : am_Rn L xs d 132 188 ls st σ Q = am_Rn L xs d 132 189 ls (.int 1 :: st) σ Q := am_r_iconst d132_188 (by decide)
theorem r132_189 {a b : Int32} : am_Rn L xs d 132 189 ls (.int b :: .int a :: st) σ Q = am_Rn L xs d 132 190 ls (.int (a + b) :: st) σ Q := am_r_iadd d132_189
theorem s132_190 {b : UInt32} {i : Int32} : am_Rn L xs d 132 190 ls (.int i :: .float b :: st) σ Q = (am_in i L = true ∧ am_Rn L xs d 132 191 ls (.int (xs i.toNatClampNeg) :: st) σ Q) := am_r_sload d132_190 rfl
theorem r132_191 {a1 : Value} {p : Nat} : am_Rn L xs (d + 1) 132 191 ls (a1 :: .ref p :: st) σ Q = ((am_oc σ p = 6 ∧ st.length ≤ 4 ∧ am_ok a1 = true) ∧ am_Call L xs d 88 [.ref p, a1] σ (fun r σ1 => am_Rn L xs (d + 1) 132 194 ls (r.toList ++ st) σ1 Q)) := am_R_virtual1 d132_191 rfl ⟨by decide, rfl⟩ rfl rfl (by decide)
theorem r132_194 {a b : Int32} : am_Rn L xs d 132 194 ls (.int b :: .int a :: st) σ Q = if a = b then am_Rn L xs d 132 489 ls st σ Q else am_Rn L xs d 132 197 ls st σ Q := (am_r_icmp (t := 489) d132_194 (by decide)).trans (am_ite _ _ trivial (by simp only [am_cond, decide_eq_true_eq]))
theorem r132_199  : am_Rn L xs d 132 199 ls st σ Q = am_la ls 1 (fun x => am_Rn L xs d 132 200 ls (x :: st) σ Q) := am_r_aload_n d132_199
theorem r132_200  : am_Rn L xs d 132 200 ls st σ Q = am_la ls 0 (fun x => am_Rn L xs d 132 201 ls (x :: st) σ Q) := am_r_aload_n d132_200
theorem r132_201  : am_Rn L xs d 132 201 ls st σ Q = am_li ls 3 (fun x => am_Rn L xs d 132 202 ls (.int x :: st) σ Q) := am_r_iload_n d132_201
theorem r132_202  : am_Rn L xs d 132 202 ls st σ Q = am_Rn L xs d 132 203 ls (.int 1 :: st) σ Q := am_r_iconst d132_202 (by decide)
theorem r132_203 {a b : Int32} : am_Rn L xs d 132 203 ls (.int b :: .int a :: st) σ Q = am_Rn L xs d 132 204 ls (.int (a + b) :: st) σ Q := am_r_iadd d132_203
theorem s132_204 {b : UInt32} {i : Int32} : am_Rn L xs d 132 204 ls (.int i :: .float b :: st) σ Q = (am_in i L = true ∧ am_Rn L xs d 132 205 ls (.int (xs i.toNatClampNeg) :: st) σ Q) := am_r_sload d132_204 rfl
theorem r132_205  : am_Rn L xs d 132 205 ls st σ Q = am_la ls 0 (fun x => am_Rn L xs d 132 206 ls (x :: st) σ Q) := am_r_aload_n d132_205
theorem r132_206  : am_Rn L xs d 132 206 ls st σ Q = am_li ls 3 (fun x => am_Rn L xs d 132 207 ls (.int x :: st) σ Q) := am_r_iload_n d132_206
theorem r132_207  : am_Rn L xs d 132 207 ls st σ Q = am_Rn L xs d 132 208 ls (.int 2 :: st) σ Q := am_r_iconst d132_207 (by decide)
theorem r132_208 {a b : Int32} : am_Rn L xs d 132 208 ls (.int b :: .int a :: st) σ Q = am_Rn L xs d 132 209 ls (.int (a + b) :: st) σ Q := am_r_iadd d132_208
theorem s132_209 {b : UInt32} {i : Int32} : am_Rn L xs d 132 209 ls (.int i :: .float b :: st) σ Q = (am_in i L = true ∧ am_Rn L xs d 132 210 ls (.int (xs i.toNatClampNeg) :: st) σ Q) := am_r_sload d132_209 rfl
theorem r132_210 {a1 a2 : Value} {p : Nat} : am_Rn L xs (d + 1) 132 210 ls (a2 :: a1 :: .ref p :: st) σ Q = ((am_oc σ p = 0 ∧ st.length ≤ 4 ∧ am_ok a1 = true ∧ am_ok a2 = true) ∧ am_Call L xs d 17 [.ref p, a1, a2] σ (fun r σ1 => am_Rn L xs (d + 1) 132 213 ls (r.toList ++ st) σ1 Q)) := am_R_virtual2 d132_210 rfl ⟨by decide, rfl⟩ rfl rfl (by decide)
theorem r132_213  : am_Rn L xs d 132 213 ls st σ Q = am_la ls 2 (fun x => am_Rn L xs d 132 214 ls (x :: st) σ Q) := am_r_aload_n d132_213
theorem r132_214  : am_Rn L xs d 132 214 ls st σ Q = am_la ls 0 (fun x => am_Rn L xs d 132 215 ls (x :: st) σ Q) := am_r_aload_n d132_214
theorem r132_215  : am_Rn L xs d 132 215 ls st σ Q = am_li ls 3 (fun x => am_Rn L xs d 132 216 ls (.int x :: st) σ Q) := am_r_iload_n d132_215
theorem r132_216  : am_Rn L xs d 132 216 ls st σ Q = am_Rn L xs d 132 217 ls (.int 1 :: st) σ Q := am_r_iconst d132_216 (by decide)
theorem r132_217 {a b : Int32} : am_Rn L xs d 132 217 ls (.int b :: .int a :: st) σ Q = am_Rn L xs d 132 218 ls (.int (a + b) :: st) σ Q := am_r_iadd d132_217
theorem s132_218 {b : UInt32} {i : Int32} : am_Rn L xs d 132 218 ls (.int i :: .float b :: st) σ Q = (am_in i L = true ∧ am_Rn L xs d 132 219 ls (.int (xs i.toNatClampNeg) :: st) σ Q) := am_r_sload d132_218 rfl
theorem r132_219  : am_Rn L xs d 132 219 ls st σ Q = am_la ls 0 (fun x => am_Rn L xs d 132 220 ls (x :: st) σ Q) := am_r_aload_n d132_219
theorem r132_220  : am_Rn L xs d 132 220 ls st σ Q = am_li ls 3 (fun x => am_Rn L xs d 132 221 ls (.int x :: st) σ Q) := am_r_iload_n d132_220
theorem r132_221  : am_Rn L xs d 132 221 ls st σ Q = am_Rn L xs d 132 222 ls (.int 2 :: st) σ Q := am_r_iconst d132_221 (by decide)
theorem r132_222 {a b : Int32} : am_Rn L xs d 132 222 ls (.int b :: .int a :: st) σ Q = am_Rn L xs d 132 223 ls (.int (a + b) :: st) σ Q := am_r_iadd d132_222
theorem s132_223 {b : UInt32} {i : Int32} : am_Rn L xs d 132 223 ls (.int i :: .float b :: st) σ Q = (am_in i L = true ∧ am_Rn L xs d 132 224 ls (.int (xs i.toNatClampNeg) :: st) σ Q) := am_r_sload d132_223 rfl
theorem r132_224 {a1 a2 : Value} {p : Nat} : am_Rn L xs (d + 1) 132 224 ls (a2 :: a1 :: .ref p :: st) σ Q = ((am_oc σ p = 6 ∧ st.length ≤ 4 ∧ am_ok a1 = true ∧ am_ok a2 = true) ∧ am_Call L xs d 89 [.ref p, a1, a2] σ (fun r σ1 => am_Rn L xs (d + 1) 132 227 ls (r.toList ++ st) σ1 Q)) := am_R_virtual2 d132_224 rfl ⟨by decide, rfl⟩ rfl rfl (by decide)
theorem r132_227 {a b : Int32} : am_Rn L xs d 132 227 ls (.int b :: .int a :: st) σ Q = if a = b then am_Rn L xs d 132 489 ls st σ Q else am_Rn L xs d 132 230 ls st σ Q := (am_r_icmp (t := 489) d132_227 (by decide)).trans (am_ite _ _ trivial (by simp only [am_cond, decide_eq_true_eq]))
theorem r132_232  : am_Rn L xs d 132 232 ls st σ Q = am_la ls 1 (fun x => am_Rn L xs d 132 233 ls (x :: st) σ Q) := am_r_aload_n d132_232
theorem r132_233  : am_Rn L xs d 132 233 ls st σ Q = am_la ls 0 (fun x => am_Rn L xs d 132 234 ls (x :: st) σ Q) := am_r_aload_n d132_233
theorem r132_234  : am_Rn L xs d 132 234 ls st σ Q = am_li ls 3 (fun x => am_Rn L xs d 132 235 ls (.int x :: st) σ Q) := am_r_iload_n d132_234
theorem r132_235  : am_Rn L xs d 132 235 ls st σ Q = am_Rn L xs d 132 236 ls (.int 1 :: st) σ Q := am_r_iconst d132_235 (by decide)
theorem r132_236 {a b : Int32} : am_Rn L xs d 132 236 ls (.int b :: .int a :: st) σ Q = am_Rn L xs d 132 237 ls (.int (a + b) :: st) σ Q := am_r_iadd d132_236
theorem s132_237 {b : UInt32} {i : Int32} : am_Rn L xs d 132 237 ls (.int i :: .float b :: st) σ Q = (am_in i L = true ∧ am_Rn L xs d 132 238 ls (.int (xs i.toNatClampNeg) :: st) σ Q) := am_r_sload d132_237 rfl
theorem r132_238  : am_Rn L xs d 132 238 ls st σ Q = am_la ls 0 (fun x => am_Rn L xs d 132 239 ls (x :: st) σ Q) := am_r_aload_n d132_238
theorem r132_239  : am_Rn L xs d 132 239 ls st σ Q = am_li ls 3 (fun x => am_Rn L xs d 132 240 ls (.int x :: st) σ Q) := am_r_iload_n d132_239
theorem r132_240  : am_Rn L xs d 132 240 ls st σ Q = am_Rn L xs d 132 241 ls (.int 2 :: st) σ Q := am_r_iconst d132_240 (by decide)
theorem r132_241 {a b : Int32} : am_Rn L xs d 132 241 ls (.int b :: .int a :: st) σ Q = am_Rn L xs d 132 242 ls (.int (a + b) :: st) σ Q := am_r_iadd d132_241
theorem s132_242 {b : UInt32} {i : Int32} : am_Rn L xs d 132 242 ls (.int i :: .float b :: st) σ Q = (am_in i L = true ∧ am_Rn L xs d 132 243 ls (.int (xs i.toNatClampNeg) :: st) σ Q) := am_r_sload d132_242 rfl
theorem r132_243  : am_Rn L xs d 132 243 ls st σ Q = am_la ls 0 (fun x => am_Rn L xs d 132 244 ls (x :: st) σ Q) := am_r_aload_n d132_243
theorem r132_244  : am_Rn L xs d 132 244 ls st σ Q = am_li ls 3 (fun x => am_Rn L xs d 132 245 ls (.int x :: st) σ Q) := am_r_iload_n d132_244
theorem r132_245  : am_Rn L xs d 132 245 ls st σ Q = am_Rn L xs d 132 246 ls (.int 3 :: st) σ Q := am_r_iconst d132_245 (by decide)
theorem r132_246 {a b : Int32} : am_Rn L xs d 132 246 ls (.int b :: .int a :: st) σ Q = am_Rn L xs d 132 247 ls (.int (a + b) :: st) σ Q := am_r_iadd d132_246
theorem s132_247 {b : UInt32} {i : Int32} : am_Rn L xs d 132 247 ls (.int i :: .float b :: st) σ Q = (am_in i L = true ∧ am_Rn L xs d 132 248 ls (.int (xs i.toNatClampNeg) :: st) σ Q) := am_r_sload d132_247 rfl
theorem r132_248  : am_Rn L xs d 132 248 ls st σ Q = am_la ls 0 (fun x => am_Rn L xs d 132 249 ls (x :: st) σ Q) := am_r_aload_n d132_248
theorem r132_249  : am_Rn L xs d 132 249 ls st σ Q = am_li ls 3 (fun x => am_Rn L xs d 132 250 ls (.int x :: st) σ Q) := am_r_iload_n d132_249
theorem r132_250  : am_Rn L xs d 132 250 ls st σ Q = am_Rn L xs d 132 251 ls (.int 4 :: st) σ Q := am_r_iconst d132_250 (by decide)
theorem r132_251 {a b : Int32} : am_Rn L xs d 132 251 ls (.int b :: .int a :: st) σ Q = am_Rn L xs d 132 252 ls (.int (a + b) :: st) σ Q := am_r_iadd d132_251
theorem s132_252 {b : UInt32} {i : Int32} : am_Rn L xs d 132 252 ls (.int i :: .float b :: st) σ Q = (am_in i L = true ∧ am_Rn L xs d 132 253 ls (.int (xs i.toNatClampNeg) :: st) σ Q) := am_r_sload d132_252 rfl
theorem r132_253 {a1 a2 a3 a4 : Value} {p : Nat} : am_Rn L xs (d + 1) 132 253 ls (a4 :: a3 :: a2 :: a1 :: .ref p :: st) σ Q = ((am_oc σ p = 0 ∧ st.length ≤ 4 ∧ am_ok a1 = true ∧ am_ok a2 = true ∧ am_ok a3 = true ∧ am_ok a4 = true) ∧ am_Call L xs d 19 [.ref p, a1, a2, a3, a4] σ (fun r σ1 => am_Rn L xs (d + 1) 132 256 ls (r.toList ++ st) σ1 Q)) := am_R_virtual4 d132_253 rfl ⟨by decide, rfl⟩ rfl rfl (by decide)
theorem r132_256  : am_Rn L xs d 132 256 ls st σ Q = am_la ls 2 (fun x => am_Rn L xs d 132 257 ls (x :: st) σ Q) := am_r_aload_n d132_256
theorem r132_257  : am_Rn L xs d 132 257 ls st σ Q = am_la ls 0 (fun x => am_Rn L xs d 132 258 ls (x :: st) σ Q) := am_r_aload_n d132_257
theorem r132_258  : am_Rn L xs d 132 258 ls st σ Q = am_li ls 3 (fun x => am_Rn L xs d 132 259 ls (.int x :: st) σ Q) := am_r_iload_n d132_258
theorem r132_259  : am_Rn L xs d 132 259 ls st σ Q = am_Rn L xs d 132 260 ls (.int 1 :: st) σ Q := am_r_iconst d132_259 (by decide)
theorem r132_260 {a b : Int32} : am_Rn L xs d 132 260 ls (.int b :: .int a :: st) σ Q = am_Rn L xs d 132 261 ls (.int (a + b) :: st) σ Q := am_r_iadd d132_260
theorem s132_261 {b : UInt32} {i : Int32} : am_Rn L xs d 132 261 ls (.int i :: .float b :: st) σ Q = (am_in i L = true ∧ am_Rn L xs d 132 262 ls (.int (xs i.toNatClampNeg) :: st) σ Q) := am_r_sload d132_261 rfl
theorem r132_262  : am_Rn L xs d 132 262 ls st σ Q = am_la ls 0 (fun x => am_Rn L xs d 132 263 ls (x :: st) σ Q) := am_r_aload_n d132_262
theorem r132_263  : am_Rn L xs d 132 263 ls st σ Q = am_li ls 3 (fun x => am_Rn L xs d 132 264 ls (.int x :: st) σ Q) := am_r_iload_n d132_263
theorem r132_264  : am_Rn L xs d 132 264 ls st σ Q = am_Rn L xs d 132 265 ls (.int 2 :: st) σ Q := am_r_iconst d132_264 (by decide)
theorem r132_265 {a b : Int32} : am_Rn L xs d 132 265 ls (.int b :: .int a :: st) σ Q = am_Rn L xs d 132 266 ls (.int (a + b) :: st) σ Q := am_r_iadd d132_265
theorem s132_266 {b : UInt32} {i : Int32} : am_Rn L xs d 132 266 ls (.int i :: .float b :: st) σ Q = (am_in i L = true ∧ am_Rn L xs d 132 267 ls (.int (xs i.toNatClampNeg) :: st) σ Q) := am_r_sload d132_266 rfl
theorem r132_267  : am_Rn L xs d 132 267 ls st σ Q = am_la ls 0 (fun x => am_Rn L xs d 132 268 ls (x :: st) σ Q) := am_r_aload_n d132_267
theorem r132_268  : am_Rn L xs d 132 268 ls st σ Q = am_li ls 3 (fun x => am_Rn L xs d 132 269 ls (.int x :: st) σ Q) := am_r_iload_n d132_268
theorem r132_269  : am_Rn L xs d 132 269 ls st σ Q = am_Rn L xs d 132 270 ls (.int 3 :: st) σ Q := am_r_iconst d132_269 (by decide)
theorem r132_270 {a b : Int32} : am_Rn L xs d 132 270 ls (.int b :: .int a :: st) σ Q = am_Rn L xs d 132 271 ls (.int (a + b) :: st) σ Q := am_r_iadd d132_270
theorem s132_271 {b : UInt32} {i : Int32} : am_Rn L xs d 132 271 ls (.int i :: .float b :: st) σ Q = (am_in i L = true ∧ am_Rn L xs d 132 272 ls (.int (xs i.toNatClampNeg) :: st) σ Q) := am_r_sload d132_271 rfl
theorem r132_272  : am_Rn L xs d 132 272 ls st σ Q = am_la ls 0 (fun x => am_Rn L xs d 132 273 ls (x :: st) σ Q) := am_r_aload_n d132_272
theorem r132_273  : am_Rn L xs d 132 273 ls st σ Q = am_li ls 3 (fun x => am_Rn L xs d 132 274 ls (.int x :: st) σ Q) := am_r_iload_n d132_273
theorem r132_274  : am_Rn L xs d 132 274 ls st σ Q = am_Rn L xs d 132 275 ls (.int 4 :: st) σ Q := am_r_iconst d132_274 (by decide)
theorem r132_275 {a b : Int32} : am_Rn L xs d 132 275 ls (.int b :: .int a :: st) σ Q = am_Rn L xs d 132 276 ls (.int (a + b) :: st) σ Q := am_r_iadd d132_275
theorem s132_276 {b : UInt32} {i : Int32} : am_Rn L xs d 132 276 ls (.int i :: .float b :: st) σ Q = (am_in i L = true ∧ am_Rn L xs d 132 277 ls (.int (xs i.toNatClampNeg) :: st) σ Q) := am_r_sload d132_276 rfl
theorem r132_277 {a1 a2 a3 a4 : Value} {p : Nat} : am_Rn L xs (d + 1) 132 277 ls (a4 :: a3 :: a2 :: a1 :: .ref p :: st) σ Q = ((am_oc σ p = 6 ∧ st.length ≤ 4 ∧ am_ok a1 = true ∧ am_ok a2 = true ∧ am_ok a3 = true ∧ am_ok a4 = true) ∧ am_Call L xs d 90 [.ref p, a1, a2, a3, a4] σ (fun r σ1 => am_Rn L xs (d + 1) 132 280 ls (r.toList ++ st) σ1 Q)) := am_R_virtual4 d132_277 rfl ⟨by decide, rfl⟩ rfl rfl (by decide)
theorem r132_280 {a b : Int32} : am_Rn L xs d 132 280 ls (.int b :: .int a :: st) σ Q = if a = b then am_Rn L xs d 132 489 ls st σ Q else am_Rn L xs d 132 283 ls st σ Q := (am_r_icmp (t := 489) d132_280 (by decide)).trans (am_ite _ _ trivial (by simp only [am_cond, decide_eq_true_eq]))
theorem r132_285  : am_Rn L xs d 132 285 ls st σ Q = am_la ls 1 (fun x => am_Rn L xs d 132 286 ls (x :: st) σ Q) := am_r_aload_n d132_285
theorem r132_286  : am_Rn L xs d 132 286 ls st σ Q = am_la ls 0 (fun x => am_Rn L xs d 132 287 ls (x :: st) σ Q) := am_r_aload_n d132_286
theorem r132_287  : am_Rn L xs d 132 287 ls st σ Q = am_li ls 3 (fun x => am_Rn L xs d 132 288 ls (.int x :: st) σ Q) := am_r_iload_n d132_287
theorem r132_288  : am_Rn L xs d 132 288 ls st σ Q = am_Rn L xs d 132 289 ls (.int 1 :: st) σ Q := am_r_iconst d132_288 (by decide)
theorem r132_289 {a b : Int32} : am_Rn L xs d 132 289 ls (.int b :: .int a :: st) σ Q = am_Rn L xs d 132 290 ls (.int (a + b) :: st) σ Q := am_r_iadd d132_289
theorem s132_290 {b : UInt32} {i : Int32} : am_Rn L xs d 132 290 ls (.int i :: .float b :: st) σ Q = (am_in i L = true ∧ am_Rn L xs d 132 291 ls (.int (xs i.toNatClampNeg) :: st) σ Q) := am_r_sload d132_290 rfl
theorem r132_291  : am_Rn L xs d 132 291 ls st σ Q = am_la ls 0 (fun x => am_Rn L xs d 132 292 ls (x :: st) σ Q) := am_r_aload_n d132_291
theorem r132_292  : am_Rn L xs d 132 292 ls st σ Q = am_li ls 3 (fun x => am_Rn L xs d 132 293 ls (.int x :: st) σ Q) := am_r_iload_n d132_292
theorem r132_293  : am_Rn L xs d 132 293 ls st σ Q = am_Rn L xs d 132 294 ls (.int 2 :: st) σ Q := am_r_iconst d132_293 (by decide)
theorem r132_294 {a b : Int32} : am_Rn L xs d 132 294 ls (.int b :: .int a :: st) σ Q = am_Rn L xs d 132 295 ls (.int (a + b) :: st) σ Q := am_r_iadd d132_294
theorem s132_295 {b : UInt32} {i : Int32} : am_Rn L xs d 132 295 ls (.int i :: .float b :: st) σ Q = (am_in i L = true ∧ am_Rn L xs d 132 296 ls (.int (xs i.toNatClampNeg) :: st) σ Q) := am_r_sload d132_295 rfl
theorem r132_296 {a1 a2 : Value} {p : Nat} : am_Rn L xs (d + 1) 132 296 ls (a2 :: a1 :: .ref p :: st) σ Q = ((am_oc σ p = 0 ∧ st.length ≤ 4 ∧ am_ok a1 = true ∧ am_ok a2 = true) ∧ am_Call L xs d 21 [.ref p, a1, a2] σ (fun r σ1 => am_Rn L xs (d + 1) 132 299 ls (r.toList ++ st) σ1 Q)) := am_R_virtual2 d132_296 rfl ⟨by decide, rfl⟩ rfl rfl (by decide)
theorem r132_299  : am_Rn L xs d 132 299 ls st σ Q = am_la ls 2 (fun x => am_Rn L xs d 132 300 ls (x :: st) σ Q) := am_r_aload_n d132_299
theorem r132_300  : am_Rn L xs d 132 300 ls st σ Q = am_la ls 0 (fun x => am_Rn L xs d 132 301 ls (x :: st) σ Q) := am_r_aload_n d132_300
theorem r132_301  : am_Rn L xs d 132 301 ls st σ Q = am_li ls 3 (fun x => am_Rn L xs d 132 302 ls (.int x :: st) σ Q) := am_r_iload_n d132_301
theorem r132_302  : am_Rn L xs d 132 302 ls st σ Q = am_Rn L xs d 132 303 ls (.int 1 :: st) σ Q := am_r_iconst d132_302 (by decide)
theorem r132_303 {a b : Int32} : am_Rn L xs d 132 303 ls (.int b :: .int a :: st) σ Q = am_Rn L xs d 132 304 ls (.int (a + b) :: st) σ Q := am_r_iadd d132_303
theorem s132_304 {b : UInt32} {i : Int32} : am_Rn L xs d 132 304 ls (.int i :: .float b :: st) σ Q = (am_in i L = true ∧ am_Rn L xs d 132 305 ls (.int (xs i.toNatClampNeg) :: st) σ Q) := am_r_sload d132_304 rfl
theorem r132_305  : am_Rn L xs d 132 305 ls st σ Q = am_la ls 0 (fun x => am_Rn L xs d 132 306 ls (x :: st) σ Q) := am_r_aload_n d132_305
theorem r132_306  : am_Rn L xs d 132 306 ls st σ Q = am_li ls 3 (fun x => am_Rn L xs d 132 307 ls (.int x :: st) σ Q) := am_r_iload_n d132_306
theorem r132_307  : am_Rn L xs d 132 307 ls st σ Q = am_Rn L xs d 132 308 ls (.int 2 :: st) σ Q := am_r_iconst d132_307 (by decide)
theorem r132_308 {a b : Int32} : am_Rn L xs d 132 308 ls (.int b :: .int a :: st) σ Q = am_Rn L xs d 132 309 ls (.int (a + b) :: st) σ Q := am_r_iadd d132_308
theorem s132_309 {b : UInt32} {i : Int32} : am_Rn L xs d 132 309 ls (.int i :: .float b :: st) σ Q = (am_in i L = true ∧ am_Rn L xs d 132 310 ls (.int (xs i.toNatClampNeg) :: st) σ Q) := am_r_sload d132_309 rfl
theorem r132_310 {a1 a2 : Value} {p : Nat} : am_Rn L xs (d + 1) 132 310 ls (a2 :: a1 :: .ref p :: st) σ Q = ((am_oc σ p = 6 ∧ st.length ≤ 4 ∧ am_ok a1 = true ∧ am_ok a2 = true) ∧ am_Call L xs d 93 [.ref p, a1, a2] σ (fun r σ1 => am_Rn L xs (d + 1) 132 313 ls (r.toList ++ st) σ1 Q)) := am_R_virtual2 d132_310 rfl ⟨by decide, rfl⟩ rfl rfl (by decide)
theorem r132_313 {a b : Int32} : am_Rn L xs d 132 313 ls (.int b :: .int a :: st) σ Q = if a = b then am_Rn L xs d 132 489 ls st σ Q else am_Rn L xs d 132 316 ls st σ Q := (am_r_icmp (t := 489) d132_313 (by decide)).trans (am_ite _ _ trivial (by simp only [am_cond, decide_eq_true_eq]))
theorem r132_318  : am_Rn L xs d 132 318 ls st σ Q = am_la ls 1 (fun x => am_Rn L xs d 132 319 ls (x :: st) σ Q) := am_r_aload_n d132_318
theorem r132_319  : am_Rn L xs d 132 319 ls st σ Q = am_la ls 0 (fun x => am_Rn L xs d 132 320 ls (x :: st) σ Q) := am_r_aload_n d132_319
theorem r132_320  : am_Rn L xs d 132 320 ls st σ Q = am_li ls 3 (fun x => am_Rn L xs d 132 321 ls (.int x :: st) σ Q) := am_r_iload_n d132_320
theorem r132_321  : am_Rn L xs d 132 321 ls st σ Q = am_Rn L xs d 132 322 ls (.int 1 :: st) σ Q := am_r_iconst d132_321 (by decide)
theorem r132_322 {a b : Int32} : am_Rn L xs d 132 322 ls (.int b :: .int a :: st) σ Q = am_Rn L xs d 132 323 ls (.int (a + b) :: st) σ Q := am_r_iadd d132_322
theorem s132_323 {b : UInt32} {i : Int32} : am_Rn L xs d 132 323 ls (.int i :: .float b :: st) σ Q = (am_in i L = true ∧ am_Rn L xs d 132 324 ls (.int (xs i.toNatClampNeg) :: st) σ Q) := am_r_sload d132_323 rfl
theorem r132_324 {a1 : Value} {p : Nat} : am_Rn L xs (d + 1) 132 324 ls (a1 :: .ref p :: st) σ Q = ((am_oc σ p = 0 ∧ st.length ≤ 4 ∧ am_ok a1 = true) ∧ am_Call L xs d 56 [.ref p, a1] σ (fun r σ1 => am_Rn L xs (d + 1) 132 327 ls (r.toList ++ st) σ1 Q)) := am_R_virtual1 d132_324 rfl ⟨by decide, rfl⟩ rfl rfl (by decide)
theorem r132_327  : am_Rn L xs d 132 327 ls st σ Q = am_la ls 2 (fun x => am_Rn L xs d 132 328 ls (x :: st) σ Q) := am_r_aload_n d132_327
theorem r132_328  : am_Rn L xs d 132 328 ls st σ Q = am_la ls 0 (fun x => am_Rn L xs d 132 329 ls (x :: st) σ Q) := am_r_aload_n d132_328
theorem r132_329  : am_Rn L xs d 132 329 ls st σ Q = am_li ls 3 (fun x => am_Rn L xs d 132 330 ls (.int x :: st) σ Q) := am_r_iload_n d132_329
theorem r132_330  : am_Rn L xs d 132 330 ls st σ Q = am_Rn L xs d 132 331 ls (.int 1 :: st) σ Q := am_r_iconst d132_330 (by decide)
theorem r132_331 {a b : Int32} : am_Rn L xs d 132 331 ls (.int b :: .int a :: st) σ Q = am_Rn L xs d 132 332 ls (.int (a + b) :: st) σ Q := am_r_iadd d132_331
theorem s132_332 {b : UInt32} {i : Int32} : am_Rn L xs d 132 332 ls (.int i :: .float b :: st) σ Q = (am_in i L = true ∧ am_Rn L xs d 132 333 ls (.int (xs i.toNatClampNeg) :: st) σ Q) := am_r_sload d132_332 rfl
theorem r132_333 {a1 : Value} {p : Nat} : am_Rn L xs (d + 1) 132 333 ls (a1 :: .ref p :: st) σ Q = ((am_oc σ p = 6 ∧ st.length ≤ 4 ∧ am_ok a1 = true) ∧ am_Call L xs d 109 [.ref p, a1] σ (fun r σ1 => am_Rn L xs (d + 1) 132 336 ls (r.toList ++ st) σ1 Q)) := am_R_virtual1 d132_333 rfl ⟨by decide, rfl⟩ rfl rfl (by decide)
theorem r132_336 {a b : Int32} : am_Rn L xs d 132 336 ls (.int b :: .int a :: st) σ Q = if a = b then am_Rn L xs d 132 489 ls st σ Q else am_Rn L xs d 132 339 ls st σ Q := (am_r_icmp (t := 489) d132_336 (by decide)).trans (am_ite _ _ trivial (by simp only [am_cond, decide_eq_true_eq]))
theorem r132_341  : am_Rn L xs d 132 341 ls st σ Q = am_la ls 1 (fun x => am_Rn L xs d 132 342 ls (x :: st) σ Q) := am_r_aload_n d132_341
theorem r132_342  : am_Rn L xs d 132 342 ls st σ Q = am_la ls 0 (fun x => am_Rn L xs d 132 343 ls (x :: st) σ Q) := am_r_aload_n d132_342
theorem r132_343  : am_Rn L xs d 132 343 ls st σ Q = am_li ls 3 (fun x => am_Rn L xs d 132 344 ls (.int x :: st) σ Q) := am_r_iload_n d132_343
theorem r132_344  : am_Rn L xs d 132 344 ls st σ Q = am_Rn L xs d 132 345 ls (.int 1 :: st) σ Q := am_r_iconst d132_344 (by decide)
theorem r132_345 {a b : Int32} : am_Rn L xs d 132 345 ls (.int b :: .int a :: st) σ Q = am_Rn L xs d 132 346 ls (.int (a + b) :: st) σ Q := am_r_iadd d132_345
theorem s132_346 {b : UInt32} {i : Int32} : am_Rn L xs d 132 346 ls (.int i :: .float b :: st) σ Q = (am_in i L = true ∧ am_Rn L xs d 132 347 ls (.int (xs i.toNatClampNeg) :: st) σ Q) := am_r_sload d132_346 rfl
theorem r132_347  : am_Rn L xs d 132 347 ls st σ Q = am_la ls 0 (fun x => am_Rn L xs d 132 348 ls (x :: st) σ Q) := am_r_aload_n d132_347
theorem r132_348  : am_Rn L xs d 132 348 ls st σ Q = am_li ls 3 (fun x => am_Rn L xs d 132 349 ls (.int x :: st) σ Q) := am_r_iload_n d132_348
theorem r132_349  : am_Rn L xs d 132 349 ls st σ Q = am_Rn L xs d 132 350 ls (.int 2 :: st) σ Q := am_r_iconst d132_349 (by decide)
theorem r132_350 {a b : Int32} : am_Rn L xs d 132 350 ls (.int b :: .int a :: st) σ Q = am_Rn L xs d 132 351 ls (.int (a + b) :: st) σ Q := am_r_iadd d132_350
theorem s132_351 {b : UInt32} {i : Int32} : am_Rn L xs d 132 351 ls (.int i :: .float b :: st) σ Q = (am_in i L = true ∧ am_Rn L xs d 132 352 ls (.int (xs i.toNatClampNeg) :: st) σ Q) := am_r_sload d132_351 rfl
theorem r132_352 {a1 a2 : Value} {p : Nat} : am_Rn L xs (d + 1) 132 352 ls (a2 :: a1 :: .ref p :: st) σ Q = ((am_oc σ p = 0 ∧ st.length ≤ 4 ∧ am_ok a1 = true ∧ am_ok a2 = true) ∧ am_Call L xs d 57 [.ref p, a1, a2] σ (fun r σ1 => am_Rn L xs (d + 1) 132 355 ls (r.toList ++ st) σ1 Q)) := am_R_virtual2 d132_352 rfl ⟨by decide, rfl⟩ rfl rfl (by decide)
theorem r132_355  : am_Rn L xs d 132 355 ls st σ Q = am_la ls 2 (fun x => am_Rn L xs d 132 356 ls (x :: st) σ Q) := am_r_aload_n d132_355
theorem r132_356  : am_Rn L xs d 132 356 ls st σ Q = am_la ls 0 (fun x => am_Rn L xs d 132 357 ls (x :: st) σ Q) := am_r_aload_n d132_356
theorem r132_357  : am_Rn L xs d 132 357 ls st σ Q = am_li ls 3 (fun x => am_Rn L xs d 132 358 ls (.int x :: st) σ Q) := am_r_iload_n d132_357
theorem r132_358  : am_Rn L xs d 132 358 ls st σ Q = am_Rn L xs d 132 359 ls (.int 1 :: st) σ Q := am_r_iconst d132_358 (by decide)
theorem r132_359 {a b : Int32} : am_Rn L xs d 132 359 ls (.int b :: .int a :: st) σ Q = am_Rn L xs d 132 360 ls (.int (a + b) :: st) σ Q := am_r_iadd d132_359
theorem s132_360 {b : UInt32} {i : Int32} : am_Rn L xs d 132 360 ls (.int i :: .float b :: st) σ Q = (am_in i L = true ∧ am_Rn L xs d 132 361 ls (.int (xs i.toNatClampNeg) :: st) σ Q) := am_r_sload d132_360 rfl
theorem r132_361  : am_Rn L xs d 132 361 ls st σ Q = am_la ls 0 (fun x => am_Rn L xs d 132 362 ls (x :: st) σ Q) := am_r_aload_n d132_361
theorem r132_362  : am_Rn L xs d 132 362 ls st σ Q = am_li ls 3 (fun x => am_Rn L xs d 132 363 ls (.int x :: st) σ Q) := am_r_iload_n d132_362
theorem r132_363  : am_Rn L xs d 132 363 ls st σ Q = am_Rn L xs d 132 364 ls (.int 2 :: st) σ Q := am_r_iconst d132_363 (by decide)
theorem r132_364 {a b : Int32} : am_Rn L xs d 132 364 ls (.int b :: .int a :: st) σ Q = am_Rn L xs d 132 365 ls (.int (a + b) :: st) σ Q := am_r_iadd d132_364
theorem s132_365 {b : UInt32} {i : Int32} : am_Rn L xs d 132 365 ls (.int i :: .float b :: st) σ Q = (am_in i L = true ∧ am_Rn L xs d 132 366 ls (.int (xs i.toNatClampNeg) :: st) σ Q) := am_r_sload d132_365 rfl
theorem r132_366 {a1 a2 : Value} {p : Nat} : am_Rn L xs (d + 1) 132 366 ls (a2 :: a1 :: .ref p :: st) σ Q = ((am_oc σ p = 6 ∧ st.length ≤ 4 ∧ am_ok a1 = true ∧ am_ok a2 = true) ∧ am_Call L xs d 110 [.ref p, a1, a2] σ (fun r σ1 => am_Rn L xs (d + 1) 132 369 ls (r.toList ++ st) σ1 Q)) := am_R_virtual2 d132_366 rfl ⟨by decide, rfl⟩ rfl rfl (by decide)
theorem r132_369 {a b : Int32} : am_Rn L xs d 132 369 ls (.int b :: .int a :: st) σ Q = if a = b then am_Rn L xs d 132 489 ls st σ Q else am_Rn L xs d 132 372 ls st σ Q := (am_r_icmp (t := 489) d132_369 (by decide)).trans (am_ite _ _ trivial (by simp only [am_cond, decide_eq_true_eq]))
theorem r132_374  : am_Rn L xs d 132 374 ls st σ Q = am_la ls 1 (fun x => am_Rn L xs d 132 375 ls (x :: st) σ Q) := am_r_aload_n d132_374
theorem r132_375  : am_Rn L xs d 132 375 ls st σ Q = am_la ls 0 (fun x => am_Rn L xs d 132 376 ls (x :: st) σ Q) := am_r_aload_n d132_375
theorem r132_376  : am_Rn L xs d 132 376 ls st σ Q = am_li ls 3 (fun x => am_Rn L xs d 132 377 ls (.int x :: st) σ Q) := am_r_iload_n d132_376
theorem r132_377  : am_Rn L xs d 132 377 ls st σ Q = am_Rn L xs d 132 378 ls (.int 1 :: st) σ Q := am_r_iconst d132_377 (by decide)
theorem r132_378 {a b : Int32} : am_Rn L xs d 132 378 ls (.int b :: .int a :: st) σ Q = am_Rn L xs d 132 379 ls (.int (a + b) :: st) σ Q := am_r_iadd d132_378
theorem s132_379 {b : UInt32} {i : Int32} : am_Rn L xs d 132 379 ls (.int i :: .float b :: st) σ Q = (am_in i L = true ∧ am_Rn L xs d 132 380 ls (.int (xs i.toNatClampNeg) :: st) σ Q) := am_r_sload d132_379 rfl
theorem r132_380 {a1 : Value} {p : Nat} : am_Rn L xs (d + 1) 132 380 ls (a1 :: .ref p :: st) σ Q = ((am_oc σ p = 0 ∧ st.length ≤ 4 ∧ am_ok a1 = true) ∧ am_Call L xs d 59 [.ref p, a1] σ (fun r σ1 => am_Rn L xs (d + 1) 132 383 ls (r.toList ++ st) σ1 Q)) := am_R_virtual1 d132_380 rfl ⟨by decide, rfl⟩ rfl rfl (by decide)
theorem r132_383  : am_Rn L xs d 132 383 ls st σ Q = am_la ls 2 (fun x => am_Rn L xs d 132 384 ls (x :: st) σ Q) := am_r_aload_n d132_383
theorem r132_384  : am_Rn L xs d 132 384 ls st σ Q = am_la ls 0 (fun x => am_Rn L xs d 132 385 ls (x :: st) σ Q) := am_r_aload_n d132_384
theorem r132_385  : am_Rn L xs d 132 385 ls st σ Q = am_li ls 3 (fun x => am_Rn L xs d 132 386 ls (.int x :: st) σ Q) := am_r_iload_n d132_385
theorem r132_386  : am_Rn L xs d 132 386 ls st σ Q = am_Rn L xs d 132 387 ls (.int 1 :: st) σ Q := am_r_iconst d132_386 (by decide)
theorem r132_387 {a b : Int32} : am_Rn L xs d 132 387 ls (.int b :: .int a :: st) σ Q = am_Rn L xs d 132 388 ls (.int (a + b) :: st) σ Q := am_r_iadd d132_387
theorem s132_388 {b : UInt32} {i : Int32} : am_Rn L xs d 132 388 ls (.int i :: .float b :: st) σ Q = (am_in i L = true ∧ am_Rn L xs d 132 389 ls (.int (xs i.toNatClampNeg) :: st) σ Q) := am_r_sload d132_388 rfl
theorem r132_389 {a1 : Value} {p : Nat} : am_Rn L xs (d + 1) 132 389 ls (a1 :: .ref p :: st) σ Q = ((am_oc σ p = 6 ∧ st.length ≤ 4 ∧ am_ok a1 = true) ∧ am_Call L xs d 111 [.ref p, a1] σ (fun r σ1 => am_Rn L xs (d + 1) 132 392 ls (r.toList ++ st) σ1 Q)) := am_R_virtual1 d132_389 rfl ⟨by decide, rfl⟩ rfl rfl (by decide)
theorem r132_392 {a b : Int32} : am_Rn L xs d 132 392 ls (.int b :: .int a :: st) σ Q = if a = b then am_Rn L xs d 132 489 ls st σ Q else am_Rn L xs d 132 395 ls st σ Q := (am_r_icmp (t := 489) d132_392 (by decide)).trans (am_ite _ _ trivial (by simp only [am_cond, decide_eq_true_eq]))
theorem r132_397  : am_Rn L xs d 132 397 ls st σ Q = am_la ls 1 (fun x => am_Rn L xs d 132 398 ls (x :: st) σ Q) := am_r_aload_n d132_397
theorem r132_398  : am_Rn L xs d 132 398 ls st σ Q = am_la ls 0 (fun x => am_Rn L xs d 132 399 ls (x :: st) σ Q) := am_r_aload_n d132_398
theorem r132_399  : am_Rn L xs d 132 399 ls st σ Q = am_li ls 3 (fun x => am_Rn L xs d 132 400 ls (.int x :: st) σ Q) := am_r_iload_n d132_399
theorem r132_400  : am_Rn L xs d 132 400 ls st σ Q = am_Rn L xs d 132 401 ls (.int 1 :: st) σ Q := am_r_iconst d132_400 (by decide)
theorem r132_401 {a b : Int32} : am_Rn L xs d 132 401 ls (.int b :: .int a :: st) σ Q = am_Rn L xs d 132 402 ls (.int (a + b) :: st) σ Q := am_r_iadd d132_401
theorem s132_402 {b : UInt32} {i : Int32} : am_Rn L xs d 132 402 ls (.int i :: .float b :: st) σ Q = (am_in i L = true ∧ am_Rn L xs d 132 403 ls (.int (xs i.toNatClampNeg) :: st) σ Q) := am_r_sload d132_402 rfl
theorem r132_403 {a1 : Value} {p : Nat} : am_Rn L xs (d + 1) 132 403 ls (a1 :: .ref p :: st) σ Q = ((am_oc σ p = 0 ∧ st.length ≤ 4 ∧ am_ok a1 = true) ∧ am_Call L xs d 61 [.ref p, a1] σ (fun r σ1 => am_Rn L xs (d + 1) 132 406 ls (r.toList ++ st) σ1 Q)) := am_R_virtual1 d132_403 rfl ⟨by decide, rfl⟩ rfl rfl (by decide)
theorem r132_406  : am_Rn L xs d 132 406 ls st σ Q = am_la ls 2 (fun x => am_Rn L xs d 132 407 ls (x :: st) σ Q) := am_r_aload_n d132_406
theorem r132_407  : am_Rn L xs d 132 407 ls st σ Q = am_la ls 0 (fun x => am_Rn L xs d 132 408 ls (x :: st) σ Q) := am_r_aload_n d132_407
theorem r132_408  : am_Rn L xs d 132 408 ls st σ Q = am_li ls 3 (fun x => am_Rn L xs d 132 409 ls (.int x :: st) σ Q) := am_r_iload_n d132_408
theorem r132_409  : am_Rn L xs d 132 409 ls st σ Q = am_Rn L xs d 132 410 ls (.int 1 :: st) σ Q := am_r_iconst d132_409 (by decide)
theorem r132_410 {a b : Int32} : am_Rn L xs d 132 410 ls (.int b :: .int a :: st) σ Q = am_Rn L xs d 132 411 ls (.int (a + b) :: st) σ Q := am_r_iadd d132_410
theorem s132_411 {b : UInt32} {i : Int32} : am_Rn L xs d 132 411 ls (.int i :: .float b :: st) σ Q = (am_in i L = true ∧ am_Rn L xs d 132 412 ls (.int (xs i.toNatClampNeg) :: st) σ Q) := am_r_sload d132_411 rfl
theorem r132_412 {a1 : Value} {p : Nat} : am_Rn L xs (d + 1) 132 412 ls (a1 :: .ref p :: st) σ Q = ((am_oc σ p = 6 ∧ st.length ≤ 4 ∧ am_ok a1 = true) ∧ am_Call L xs d 112 [.ref p, a1] σ (fun r σ1 => am_Rn L xs (d + 1) 132 415 ls (r.toList ++ st) σ1 Q)) := am_R_virtual1 d132_412 rfl ⟨by decide, rfl⟩ rfl rfl (by decide)
theorem r132_415 {a b : Int32} : am_Rn L xs d 132 415 ls (.int b :: .int a :: st) σ Q = if a = b then am_Rn L xs d 132 489 ls st σ Q else am_Rn L xs d 132 418 ls st σ Q := (am_r_icmp (t := 489) d132_415 (by decide)).trans (am_ite _ _ trivial (by simp only [am_cond, decide_eq_true_eq]))
theorem r132_420  : am_Rn L xs d 132 420 ls st σ Q = am_la ls 1 (fun x => am_Rn L xs d 132 421 ls (x :: st) σ Q) := am_r_aload_n d132_420
theorem r132_421 {p : Nat} : am_Rn L xs (d + 1) 132 421 ls (.ref p :: st) σ Q = ((am_oc σ p = 0 ∧ st.length ≤ 4) ∧ am_Call L xs d 67 [.ref p] σ (fun r σ1 => am_Rn L xs (d + 1) 132 424 ls (r.toList ++ st) σ1 Q)) := am_R_virtual0 d132_421 rfl ⟨by decide, rfl⟩ rfl rfl (by decide)
theorem r132_424  : am_Rn L xs d 132 424 ls st σ Q = am_la ls 2 (fun x => am_Rn L xs d 132 425 ls (x :: st) σ Q) := am_r_aload_n d132_424
theorem r132_425 {p : Nat} : am_Rn L xs (d + 1) 132 425 ls (.ref p :: st) σ Q = ((am_oc σ p = 6 ∧ st.length ≤ 4) ∧ am_Call L xs d 119 [.ref p] σ (fun r σ1 => am_Rn L xs (d + 1) 132 428 ls (r.toList ++ st) σ1 Q)) := am_R_virtual0 d132_425 rfl ⟨by decide, rfl⟩ rfl rfl (by decide)
theorem r132_428 {a b : Int32} : am_Rn L xs d 132 428 ls (.int b :: .int a :: st) σ Q = if a = b then am_Rn L xs d 132 489 ls st σ Q else am_Rn L xs d 132 431 ls st σ Q := (am_r_icmp (t := 489) d132_428 (by decide)).trans (am_ite _ _ trivial (by simp only [am_cond, decide_eq_true_eq]))
theorem r132_433  : am_Rn L xs d 132 433 ls st σ Q = am_la ls 1 (fun x => am_Rn L xs d 132 434 ls (x :: st) σ Q) := am_r_aload_n d132_433
theorem r132_434  : am_Rn L xs d 132 434 ls st σ Q = am_la ls 0 (fun x => am_Rn L xs d 132 435 ls (x :: st) σ Q) := am_r_aload_n d132_434
theorem r132_435  : am_Rn L xs d 132 435 ls st σ Q = am_li ls 3 (fun x => am_Rn L xs d 132 436 ls (.int x :: st) σ Q) := am_r_iload_n d132_435
theorem r132_436  : am_Rn L xs d 132 436 ls st σ Q = am_Rn L xs d 132 437 ls (.int 1 :: st) σ Q := am_r_iconst d132_436 (by decide)
theorem r132_437 {a b : Int32} : am_Rn L xs d 132 437 ls (.int b :: .int a :: st) σ Q = am_Rn L xs d 132 438 ls (.int (a + b) :: st) σ Q := am_r_iadd d132_437
theorem s132_438 {b : UInt32} {i : Int32} : am_Rn L xs d 132 438 ls (.int i :: .float b :: st) σ Q = (am_in i L = true ∧ am_Rn L xs d 132 439 ls (.int (xs i.toNatClampNeg) :: st) σ Q) := am_r_sload d132_438 rfl
theorem r132_439  : am_Rn L xs d 132 439 ls st σ Q = am_la ls 0 (fun x => am_Rn L xs d 132 440 ls (x :: st) σ Q) := am_r_aload_n d132_439
theorem r132_440  : am_Rn L xs d 132 440 ls st σ Q = am_li ls 3 (fun x => am_Rn L xs d 132 441 ls (.int x :: st) σ Q) := am_r_iload_n d132_440
theorem r132_441  : am_Rn L xs d 132 441 ls st σ Q = am_Rn L xs d 132 442 ls (.int 2 :: st) σ Q := am_r_iconst d132_441 (by decide)
theorem r132_442 {a b : Int32} : am_Rn L xs d 132 442 ls (.int b :: .int a :: st) σ Q = am_Rn L xs d 132 443 ls (.int (a + b) :: st) σ Q := am_r_iadd d132_442
theorem s132_443 {b : UInt32} {i : Int32} : am_Rn L xs d 132 443 ls (.int i :: .float b :: st) σ Q = (am_in i L = true ∧ am_Rn L xs d 132 444 ls (.int (xs i.toNatClampNeg) :: st) σ Q) := am_r_sload d132_443 rfl
theorem r132_444 {a1 a2 : Value} {p : Nat} : am_Rn L xs (d + 1) 132 444 ls (a2 :: a1 :: .ref p :: st) σ Q = ((am_oc σ p = 0 ∧ st.length ≤ 4 ∧ am_ok a1 = true ∧ am_ok a2 = true) ∧ am_Call L xs d 81 [.ref p, a1, a2] σ (fun r σ1 => am_Rn L xs (d + 1) 132 447 ls (r.toList ++ st) σ1 Q)) := am_R_virtual2 d132_444 rfl ⟨by decide, rfl⟩ rfl rfl (by decide)
theorem r132_447  : am_Rn L xs d 132 447 ls st σ Q = am_la ls 2 (fun x => am_Rn L xs d 132 448 ls (x :: st) σ Q) := am_r_aload_n d132_447
theorem r132_448  : am_Rn L xs d 132 448 ls st σ Q = am_la ls 0 (fun x => am_Rn L xs d 132 449 ls (x :: st) σ Q) := am_r_aload_n d132_448
theorem r132_449  : am_Rn L xs d 132 449 ls st σ Q = am_li ls 3 (fun x => am_Rn L xs d 132 450 ls (.int x :: st) σ Q) := am_r_iload_n d132_449
theorem r132_450  : am_Rn L xs d 132 450 ls st σ Q = am_Rn L xs d 132 451 ls (.int 1 :: st) σ Q := am_r_iconst d132_450 (by decide)
theorem r132_451 {a b : Int32} : am_Rn L xs d 132 451 ls (.int b :: .int a :: st) σ Q = am_Rn L xs d 132 452 ls (.int (a + b) :: st) σ Q := am_r_iadd d132_451
theorem s132_452 {b : UInt32} {i : Int32} : am_Rn L xs d 132 452 ls (.int i :: .float b :: st) σ Q = (am_in i L = true ∧ am_Rn L xs d 132 453 ls (.int (xs i.toNatClampNeg) :: st) σ Q) := am_r_sload d132_452 rfl
theorem r132_453  : am_Rn L xs d 132 453 ls st σ Q = am_la ls 0 (fun x => am_Rn L xs d 132 454 ls (x :: st) σ Q) := am_r_aload_n d132_453
theorem r132_454  : am_Rn L xs d 132 454 ls st σ Q = am_li ls 3 (fun x => am_Rn L xs d 132 455 ls (.int x :: st) σ Q) := am_r_iload_n d132_454
theorem r132_455  : am_Rn L xs d 132 455 ls st σ Q = am_Rn L xs d 132 456 ls (.int 2 :: st) σ Q := am_r_iconst d132_455 (by decide)
theorem r132_456 {a b : Int32} : am_Rn L xs d 132 456 ls (.int b :: .int a :: st) σ Q = am_Rn L xs d 132 457 ls (.int (a + b) :: st) σ Q := am_r_iadd d132_456
theorem s132_457 {b : UInt32} {i : Int32} : am_Rn L xs d 132 457 ls (.int i :: .float b :: st) σ Q = (am_in i L = true ∧ am_Rn L xs d 132 458 ls (.int (xs i.toNatClampNeg) :: st) σ Q) := am_r_sload d132_457 rfl
theorem r132_458 {a1 a2 : Value} {p : Nat} : am_Rn L xs (d + 1) 132 458 ls (a2 :: a1 :: .ref p :: st) σ Q = ((am_oc σ p = 6 ∧ st.length ≤ 4 ∧ am_ok a1 = true ∧ am_ok a2 = true) ∧ am_Call L xs d 129 [.ref p, a1, a2] σ (fun r σ1 => am_Rn L xs (d + 1) 132 461 ls (r.toList ++ st) σ1 Q)) := am_R_virtual2 d132_458 rfl ⟨by decide, rfl⟩ rfl rfl (by decide)
theorem r132_461 {a b : Int32} : am_Rn L xs d 132 461 ls (.int b :: .int a :: st) σ Q = if a = b then am_Rn L xs d 132 489 ls st σ Q else am_Rn L xs d 132 464 ls st σ Q := (am_r_icmp (t := 489) d132_461 (by decide)).trans (am_ite _ _ trivial (by simp only [am_cond, decide_eq_true_eq]))
theorem r132_466  : am_Rn L xs d 132 466 ls st σ Q = am_la ls 1 (fun x => am_Rn L xs d 132 467 ls (x :: st) σ Q) := am_r_aload_n d132_466
theorem r132_467  : am_Rn L xs d 132 467 ls st σ Q = am_la ls 0 (fun x => am_Rn L xs d 132 468 ls (x :: st) σ Q) := am_r_aload_n d132_467
theorem r132_468  : am_Rn L xs d 132 468 ls st σ Q = am_li ls 3 (fun x => am_Rn L xs d 132 469 ls (.int x :: st) σ Q) := am_r_iload_n d132_468
theorem r132_469  : am_Rn L xs d 132 469 ls st σ Q = am_Rn L xs d 132 470 ls (.int 1 :: st) σ Q := am_r_iconst d132_469 (by decide)
theorem r132_470 {a b : Int32} : am_Rn L xs d 132 470 ls (.int b :: .int a :: st) σ Q = am_Rn L xs d 132 471 ls (.int (a + b) :: st) σ Q := am_r_iadd d132_470
theorem s132_471 {b : UInt32} {i : Int32} : am_Rn L xs d 132 471 ls (.int i :: .float b :: st) σ Q = (am_in i L = true ∧ am_Rn L xs d 132 472 ls (.int (xs i.toNatClampNeg) :: st) σ Q) := am_r_sload d132_471 rfl
theorem r132_472 {a1 : Value} {p : Nat} : am_Rn L xs (d + 1) 132 472 ls (a1 :: .ref p :: st) σ Q = ((am_oc σ p = 0 ∧ st.length ≤ 4 ∧ am_ok a1 = true) ∧ am_Call L xs d 82 [.ref p, a1] σ (fun r σ1 => am_Rn L xs (d + 1) 132 475 ls (r.toList ++ st) σ1 Q)) := am_R_virtual1 d132_472 rfl ⟨by decide, rfl⟩ rfl rfl (by decide)
theorem r132_475  : am_Rn L xs d 132 475 ls st σ Q = am_la ls 2 (fun x => am_Rn L xs d 132 476 ls (x :: st) σ Q) := am_r_aload_n d132_475
theorem r132_476  : am_Rn L xs d 132 476 ls st σ Q = am_la ls 0 (fun x => am_Rn L xs d 132 477 ls (x :: st) σ Q) := am_r_aload_n d132_476
theorem r132_477  : am_Rn L xs d 132 477 ls st σ Q = am_li ls 3 (fun x => am_Rn L xs d 132 478 ls (.int x :: st) σ Q) := am_r_iload_n d132_477
theorem r132_478  : am_Rn L xs d 132 478 ls st σ Q = am_Rn L xs d 132 479 ls (.int 1 :: st) σ Q := am_r_iconst d132_478 (by decide)
theorem r132_479 {a b : Int32} : am_Rn L xs d 132 479 ls (.int b :: .int a :: st) σ Q = am_Rn L xs d 132 480 ls (.int (a + b) :: st) σ Q := am_r_iadd d132_479
theorem s132_480 {b : UInt32} {i : Int32} : am_Rn L xs d 132 480 ls (.int i :: .float b :: st) σ Q = (am_in i L = true ∧ am_Rn L xs d 132 481 ls (.int (xs i.toNatClampNeg) :: st) σ Q) := am_r_sload d132_480 rfl
theorem r132_481 {a1 : Value} {p : Nat} : am_Rn L xs (d + 1) 132 481 ls (a1 :: .ref p :: st) σ Q = ((am_oc σ p = 6 ∧ st.length ≤ 4 ∧ am_ok a1 = true) ∧ am_Call L xs d 130 [.ref p, a1] σ (fun r σ1 => am_Rn L xs (d + 1) 132 484 ls (r.toList ++ st) σ1 Q)) := am_R_virtual1 d132_481 rfl ⟨by decide, rfl⟩ rfl rfl (by decide)
theorem r132_484 {a b : Int32} : am_Rn L xs d 132 484 ls (.int b :: .int a :: st) σ Q = if a = b then am_Rn L xs d 132 489 ls st σ Q else am_Rn L xs d 132 487 ls st σ Q := (am_r_icmp (t := 489) d132_484 (by decide)).trans (am_ite _ _ trivial (by simp only [am_cond, decide_eq_true_eq]))
theorem r132_489  : am_Rn L xs d 132 489 ls st σ Q = am_li ls 3 (fun x => am_Rn L xs d 132 492 (ls.set 3 (.int (x + 5))) st σ Q) := am_r_iinc d132_489 (by decide)
theorem r132_492  : am_Rn L xs d 132 492 ls st σ Q = am_Rn L xs d 132 18 ls st σ Q := am_r_goto d132_492 (by decide)
theorem r132_495  : am_Rn L xs d 132 495 ls st σ Q = am_Rn L xs d 132 496 ls (.int 1 :: st) σ Q := am_r_iconst d132_495 (by decide)
theorem r132_496 {v : Int32} (hv : v = 0 ∨ v = 1) : am_Rn L xs d 132 496 ls [.int v] σ Q = Q (some (.int v)) σ := am_r_zreturn d132_496 rfl hv
end
end
section
/-! Rows of the program's instructions, written by program (wip/gen/gen_rows.py) -/
section
variable {L : Nat} {xs : Nat → Int32} {d : Nat} {ls st : List Value} {σ : am_S} {Q : Option Value → am_S → Prop}
theorem d2_0 : decode (pg_code 2) 0 = .ok (.iconst 0, 1) := by decide +kernel
theorem d2_1 : decode (pg_code 2) 1 = .ok (.istore_n 2, 1) := by decide +kernel
theorem d2_2 : decode (pg_code 2) 2 = .ok (.aload_n 0, 1) := by decide +kernel
theorem d2_3 : decode (pg_code 2) 3 = .ok (.arraylength, 1) := by decide +kernel
theorem d2_4 : decode (pg_code 2) 4 = .ok (.istore_n 3, 1) := by decide +kernel
theorem d2_5 : decode (pg_code 2) 5 = .ok (.iload_n 2, 1) := by decide +kernel
theorem d2_6 : decode (pg_code 2) 6 = .ok (.iload_n 3, 1) := by decide +kernel
theorem d2_7 : decode (pg_code 2) 7 = .ok (.if_icmp .ge 13, 3) := by decide +kernel
theorem d2_10 : decode (pg_code 2) 10 = .ok (.aload_n 0, 1) := by decide +kernel
theorem d2_11 : decode (pg_code 2) 11 = .ok (.iload_n 2, 1) := by decide +kernel
theorem d2_12 : decode (pg_code 2) 12 = .ok (.iload_n 1, 1) := by decide +kernel
theorem d2_13 : decode (pg_code 2) 13 = .ok (.iastore, 1) := by decide +kernel
theorem d2_14 : decode (pg_code 2) 14 = .ok (.iinc 2 1, 3) := by decide +kernel
theorem d2_17 : decode (pg_code 2) 17 = .ok (.goto (-12), 3) := by decide +kernel
theorem d2_20 : decode (pg_code 2) 20 = .ok (.return_, 1) := by decide +kernel
theorem e2 {b1 b2 : Value} : am_Call L xs d 2 [b1, b2] σ Q = am_Rn L xs d 2 0 [b1, b2, .retAddr 0, .retAddr 0] [] σ Q := rfl
theorem r2_0  : am_Rn L xs d 2 0 ls st σ Q = am_Rn L xs d 2 1 ls (.int 0 :: st) σ Q := am_r_iconst d2_0 (by decide)
theorem r2_1 {x : Int32} : am_Rn L xs d 2 1 ls (.int x :: st) σ Q = (2 < ls.length ∧ am_Rn L xs d 2 2 (ls.set 2 (.int x)) st σ Q) := am_r_istore_n d2_1
theorem r2_2  : am_Rn L xs d 2 2 ls st σ Q = am_la ls 0 (fun x => am_Rn L xs d 2 3 ls (x :: st) σ Q) := am_r_aload_n d2_2
theorem r2_3 {p : Nat} : am_Rn L xs d 2 3 ls (.ref p :: st) σ Q = am_ln σ p (fun x => am_Rn L xs d 2 4 ls (.int x :: st) σ Q) := am_r_arraylength d2_3
theorem r2_4 {x : Int32} : am_Rn L xs d 2 4 ls (.int x :: st) σ Q = (3 < ls.length ∧ am_Rn L xs d 2 5 (ls.set 3 (.int x)) st σ Q) := am_r_istore_n d2_4
theorem r2_5  : am_Rn L xs d 2 5 ls st σ Q = am_li ls 2 (fun x => am_Rn L xs d 2 6 ls (.int x :: st) σ Q) := am_r_iload_n d2_5
theorem r2_6  : am_Rn L xs d 2 6 ls st σ Q = am_li ls 3 (fun x => am_Rn L xs d 2 7 ls (.int x :: st) σ Q) := am_r_iload_n d2_6
theorem r2_7 {a b : Int32} : am_Rn L xs d 2 7 ls (.int b :: .int a :: st) σ Q = if b ≤ a then am_Rn L xs d 2 20 ls st σ Q else am_Rn L xs d 2 10 ls st σ Q := (am_r_icmp (t := 20) d2_7 (by decide)).trans (am_ite _ _ trivial (by simp only [am_cond, decide_eq_true_eq]))
theorem r2_10  : am_Rn L xs d 2 10 ls st σ Q = am_la ls 0 (fun x => am_Rn L xs d 2 11 ls (x :: st) σ Q) := am_r_aload_n d2_10
theorem r2_11  : am_Rn L xs d 2 11 ls st σ Q = am_li ls 2 (fun x => am_Rn L xs d 2 12 ls (.int x :: st) σ Q) := am_r_iload_n d2_11
theorem r2_12  : am_Rn L xs d 2 12 ls st σ Q = am_li ls 1 (fun x => am_Rn L xs d 2 13 ls (.int x :: st) σ Q) := am_r_iload_n d2_12
theorem r2_13 {p : Nat} {i x : Int32} : am_Rn L xs d 2 13 ls (.int x :: .int i :: .ref p :: st) σ Q = am_wi 0 σ p i x (fun σ1 => am_Rn L xs d 2 14 ls st σ1 Q) := am_r_iastore d2_13
theorem r2_14  : am_Rn L xs d 2 14 ls st σ Q = am_li ls 2 (fun x => am_Rn L xs d 2 17 (ls.set 2 (.int (x + 1))) st σ Q) := am_r_iinc d2_14 (by decide)
theorem r2_17  : am_Rn L xs d 2 17 ls st σ Q = am_Rn L xs d 2 5 ls st σ Q := am_r_goto d2_17 (by decide)
theorem r2_20  : am_Rn L xs d 2 20 ls [] σ Q = Q none σ := am_r_return d2_20 rfl
end
end
section
/-! Rows of the program's instructions, written by program (wip/gen/gen_rows.py) -/
section
variable {L : Nat} {xs : Nat → Int32} {d : Nat} {ls st : List Value} {σ : am_S} {Q : Option Value → am_S → Prop}
theorem d7_0 : decode (pg_code 7) 0 = .ok (.iload_n 1, 1) := by decide +kernel
theorem d7_1 : decode (pg_code 7) 1 = .ok (.invokestatic 51, 3) := by decide +kernel
theorem d7_4 : decode (pg_code 7) 4 = .ok (.ifCond .eq 13, 3) := by decide +kernel
theorem d7_7 : decode (pg_code 7) 7 = .ok (.iload_n 3, 1) := by decide +kernel
theorem d7_8 : decode (pg_code 7) 8 = .ok (.ifCond .lt 9, 3) := by decide +kernel
theorem d7_11 : decode (pg_code 7) 11 = .ok (.iload_n 3, 1) := by decide +kernel
theorem d7_12 : decode (pg_code 7) 12 = .ok (.bipush 8, 2) := by decide +kernel
theorem d7_14 : decode (pg_code 7) 14 = .ok (.if_icmp .lt 5, 3) := by decide +kernel
theorem d7_17 : decode (pg_code 7) 17 = .ok (.iconst (-1), 1) := by decide +kernel
theorem d7_18 : decode (pg_code 7) 18 = .ok (.ireturn, 1) := by decide +kernel
theorem d7_19 : decode (pg_code 7) 19 = .ok (.aload_n 0, 1) := by decide +kernel
theorem d7_20 : decode (pg_code 7) 20 = .ok (.getfield 11, 3) := by decide +kernel
theorem d7_23 : decode (pg_code 7) 23 = .ok (.iload_n 1, 1) := by decide +kernel
theorem d7_24 : decode (pg_code 7) 24 = .ok (.aaload, 1) := by decide +kernel
theorem d7_25 : decode (pg_code 7) 25 = .ok (.astore 5, 2) := by decide +kernel
theorem d7_27 : decode (pg_code 7) 27 = .ok (.aload 5, 2) := by decide +kernel
theorem d7_29 : decode (pg_code 7) 29 = .ok (.getfield 55, 3) := by decide +kernel
theorem d7_32 : decode (pg_code 7) 32 = .ok (.ifCond .ne 16, 3) := by decide +kernel
theorem d7_35 : decode (pg_code 7) 35 = .ok (.iload_n 2, 1) := by decide +kernel
theorem d7_36 : decode (pg_code 7) 36 = .ok (.iconst (-1), 1) := by decide +kernel
theorem d7_37 : decode (pg_code 7) 37 = .ok (.if_icmp .ne 7, 3) := by decide +kernel
theorem d7_40 : decode (pg_code 7) 40 = .ok (.iconst 1, 1) := by decide +kernel
theorem d7_41 : decode (pg_code 7) 41 = .ok (.goto 13, 3) := by decide +kernel
theorem d7_44 : decode (pg_code 7) 44 = .ok (.iconst 0, 1) := by decide +kernel
theorem d7_45 : decode (pg_code 7) 45 = .ok (.goto 9, 3) := by decide +kernel
theorem d7_48 : decode (pg_code 7) 48 = .ok (.aload 5, 2) := by decide +kernel
theorem d7_50 : decode (pg_code 7) 50 = .ok (.iload_n 2, 1) := by decide +kernel
theorem d7_51 : decode (pg_code 7) 51 = .ok (.invokevirtual 59, 3) := by decide +kernel
theorem d7_54 : decode (pg_code 7) 54 = .ok (.istore 6, 2) := by decide +kernel
theorem d7_56 : decode (pg_code 7) 56 = .ok (.iload 6, 2) := by decide +kernel
theorem d7_58 : decode (pg_code 7) 58 = .ok (.ifCond .eq 13, 3) := by decide +kernel
theorem d7_61 : decode (pg_code 7) 61 = .ok (.aload 5, 2) := by decide +kernel
theorem d7_63 : decode (pg_code 7) 63 = .ok (.getfield 55, 3) := by decide +kernel
theorem d7_66 : decode (pg_code 7) 66 = .ok (.bipush 12, 2) := by decide +kernel
theorem d7_68 : decode (pg_code 7) 68 = .ok (.if_icmp .lt 5, 3) := by decide +kernel
theorem d7_71 : decode (pg_code 7) 71 = .ok (.iconst (-1), 1) := by decide +kernel
theorem d7_72 : decode (pg_code 7) 72 = .ok (.ireturn, 1) := by decide +kernel
theorem d7_73 : decode (pg_code 7) 73 = .ok (.aload 5, 2) := by decide +kernel
theorem d7_75 : decode (pg_code 7) 75 = .ok (.getfield 55, 3) := by decide +kernel
theorem d7_78 : decode (pg_code 7) 78 = .ok (.istore 7, 2) := by decide +kernel
theorem d7_80 : decode (pg_code 7) 80 = .ok (.aload 5, 2) := by decide +kernel
theorem d7_82 : decode (pg_code 7) 82 = .ok (.iload_n 2, 1) := by decide +kernel
theorem d7_83 : decode (pg_code 7) 83 = .ok (.aload 5, 2) := by decide +kernel
theorem d7_85 : decode (pg_code 7) 85 = .ok (.iload_n 2, 1) := by decide +kernel
theorem d7_86 : decode (pg_code 7) 86 = .ok (.invokevirtual 62, 3) := by decide +kernel
theorem d7_89 : decode (pg_code 7) 89 = .ok (.iconst 1, 1) := by decide +kernel
theorem d7_90 : decode (pg_code 7) 90 = .ok (.isub, 1) := by decide +kernel
theorem d7_91 : decode (pg_code 7) 91 = .ok (.invokevirtual 66, 3) := by decide +kernel
theorem d7_94 : decode (pg_code 7) 94 = .ok (.istore 8, 2) := by decide +kernel
theorem d7_96 : decode (pg_code 7) 96 = .ok (.aload 5, 2) := by decide +kernel
theorem d7_98 : decode (pg_code 7) 98 = .ok (.iload 7, 2) := by decide +kernel
theorem d7_100 : decode (pg_code 7) 100 = .ok (.iload_n 3, 1) := by decide +kernel
theorem d7_101 : decode (pg_code 7) 101 = .ok (.iload 4, 2) := by decide +kernel
theorem d7_103 : decode (pg_code 7) 103 = .ok (.invokevirtual 70, 3) := by decide +kernel
theorem d7_106 : decode (pg_code 7) 106 = .ok (.aload 5, 2) := by decide +kernel
theorem d7_108 : decode (pg_code 7) 108 = .ok (.iload 7, 2) := by decide +kernel
theorem d7_110 : decode (pg_code 7) 110 = .ok (.iload_n 2, 1) := by decide +kernel
theorem d7_111 : decode (pg_code 7) 111 = .ok (.iload 8, 2) := by decide +kernel
theorem d7_113 : decode (pg_code 7) 113 = .ok (.invokevirtual 74, 3) := by decide +kernel
theorem d7_116 : decode (pg_code 7) 116 = .ok (.iload 7, 2) := by decide +kernel
theorem d7_118 : decode (pg_code 7) 118 = .ok (.ireturn, 1) := by decide +kernel
theorem e7 {b1 b2 b3 b4 b5 : Value} : am_Call L xs d 7 [b1, b2, b3, b4, b5] σ Q = am_Rn L xs d 7 0 [b1, b2, b3, b4, b5, .retAddr 0, .retAddr 0, .retAddr 0, .retAddr 0] [] σ Q := rfl
theorem r7_0  : am_Rn L xs d 7 0 ls st σ Q = am_li ls 1 (fun x => am_Rn L xs d 7 1 ls (.int x :: st) σ Q) := am_r_iload_n d7_0
theorem r7_1 {a1 : Value} : am_Rn L xs (d + 1) 7 1 ls (a1 :: st) σ Q = ((st.length ≤ 4 ∧ am_ok a1 = true) ∧ am_Call L xs d 8 [a1] σ (fun r σ1 => am_Rn L xs (d + 1) 7 4 ls (r.toList ++ st) σ1 Q)) := am_R_static1 d7_1 rfl ⟨by decide, rfl⟩ rfl (by decide)
theorem r7_4 {a : Int32} : am_Rn L xs d 7 4 ls (.int a :: st) σ Q = if a = 0 then am_Rn L xs d 7 17 ls st σ Q else am_Rn L xs d 7 7 ls st σ Q := (am_r_if (t := 17) d7_4 (by decide)).trans (am_ite _ _ trivial (by simp only [am_cond, decide_eq_true_eq]))
theorem r7_7  : am_Rn L xs d 7 7 ls st σ Q = am_li ls 3 (fun x => am_Rn L xs d 7 8 ls (.int x :: st) σ Q) := am_r_iload_n d7_7
theorem r7_8 {a : Int32} : am_Rn L xs d 7 8 ls (.int a :: st) σ Q = if a < 0 then am_Rn L xs d 7 17 ls st σ Q else am_Rn L xs d 7 11 ls st σ Q := (am_r_if (t := 17) d7_8 (by decide)).trans (am_ite _ _ trivial (by simp only [am_cond, decide_eq_true_eq]))
theorem r7_11  : am_Rn L xs d 7 11 ls st σ Q = am_li ls 3 (fun x => am_Rn L xs d 7 12 ls (.int x :: st) σ Q) := am_r_iload_n d7_11
theorem r7_12  : am_Rn L xs d 7 12 ls st σ Q = am_Rn L xs d 7 14 ls (.int 8 :: st) σ Q := am_r_bipush d7_12 (by decide)
theorem r7_14 {a b : Int32} : am_Rn L xs d 7 14 ls (.int b :: .int a :: st) σ Q = if a < b then am_Rn L xs d 7 19 ls st σ Q else am_Rn L xs d 7 17 ls st σ Q := (am_r_icmp (t := 19) d7_14 (by decide)).trans (am_ite _ _ trivial (by simp only [am_cond, decide_eq_true_eq]))
theorem r7_17  : am_Rn L xs d 7 17 ls st σ Q = am_Rn L xs d 7 18 ls (.int (-1) :: st) σ Q := am_r_iconst d7_17 (by decide)
theorem r7_18 {v : Int32} : am_Rn L xs d 7 18 ls [.int v] σ Q = Q (some (.int v)) σ := am_r_ireturn d7_18 rfl
theorem r7_19  : am_Rn L xs d 7 19 ls st σ Q = am_la ls 0 (fun x => am_Rn L xs d 7 20 ls (x :: st) σ Q) := am_r_aload_n d7_19
theorem r7_20 {p : Nat} : am_Rn L xs d 7 20 ls (.ref p :: st) σ Q = am_fd σ p 0 0 (fun v => am_Rn L xs d 7 23 ls (v :: st) σ Q) := am_r_getfield d7_20 rfl
theorem r7_23  : am_Rn L xs d 7 23 ls st σ Q = am_li ls 1 (fun x => am_Rn L xs d 7 24 ls (.int x :: st) σ Q) := am_r_iload_n d7_23
theorem r7_24 {p : Nat} {i : Int32} : am_Rn L xs d 7 24 ls (.int i :: .ref p :: st) σ Q = am_ar2 σ p i (fun q => am_Rn L xs d 7 25 ls (.ref q :: st) σ Q) := am_r_aaload d7_24
theorem r7_25 {x : Nat} : am_Rn L xs d 7 25 ls (.ref x :: st) σ Q = (5 < ls.length ∧ am_Rn L xs d 7 27 (ls.set 5 (.ref x)) st σ Q) := am_r_astore d7_25
theorem r7_27  : am_Rn L xs d 7 27 ls st σ Q = am_la ls 5 (fun x => am_Rn L xs d 7 29 ls (x :: st) σ Q) := am_r_aload d7_27
theorem r7_29 {p : Nat} : am_Rn L xs d 7 29 ls (.ref p :: st) σ Q = am_fd σ p 1 4 (fun v => am_Rn L xs d 7 32 ls (v :: st) σ Q) := am_r_getfield d7_29 rfl
theorem r7_32 {a : Int32} : am_Rn L xs d 7 32 ls (.int a :: st) σ Q = if ¬ a = 0 then am_Rn L xs d 7 48 ls st σ Q else am_Rn L xs d 7 35 ls st σ Q := (am_r_if (t := 48) d7_32 (by decide)).trans (am_ite _ _ trivial (by simp only [am_cond, decide_eq_true_eq]))
theorem r7_35  : am_Rn L xs d 7 35 ls st σ Q = am_li ls 2 (fun x => am_Rn L xs d 7 36 ls (.int x :: st) σ Q) := am_r_iload_n d7_35
theorem r7_36  : am_Rn L xs d 7 36 ls st σ Q = am_Rn L xs d 7 37 ls (.int (-1) :: st) σ Q := am_r_iconst d7_36 (by decide)
theorem r7_37 {a b : Int32} : am_Rn L xs d 7 37 ls (.int b :: .int a :: st) σ Q = if ¬ a = b then am_Rn L xs d 7 44 ls st σ Q else am_Rn L xs d 7 40 ls st σ Q := (am_r_icmp (t := 44) d7_37 (by decide)).trans (am_ite _ _ trivial (by simp only [am_cond, decide_eq_true_eq]))
theorem r7_40  : am_Rn L xs d 7 40 ls st σ Q = am_Rn L xs d 7 41 ls (.int 1 :: st) σ Q := am_r_iconst d7_40 (by decide)
theorem r7_41  : am_Rn L xs d 7 41 ls st σ Q = am_Rn L xs d 7 54 ls st σ Q := am_r_goto d7_41 (by decide)
theorem r7_44  : am_Rn L xs d 7 44 ls st σ Q = am_Rn L xs d 7 45 ls (.int 0 :: st) σ Q := am_r_iconst d7_44 (by decide)
theorem r7_45  : am_Rn L xs d 7 45 ls st σ Q = am_Rn L xs d 7 54 ls st σ Q := am_r_goto d7_45 (by decide)
theorem r7_48  : am_Rn L xs d 7 48 ls st σ Q = am_la ls 5 (fun x => am_Rn L xs d 7 50 ls (x :: st) σ Q) := am_r_aload d7_48
theorem r7_50  : am_Rn L xs d 7 50 ls st σ Q = am_li ls 2 (fun x => am_Rn L xs d 7 51 ls (.int x :: st) σ Q) := am_r_iload_n d7_50
theorem r7_51 {a1 : Value} {p : Nat} : am_Rn L xs (d + 1) 7 51 ls (a1 :: .ref p :: st) σ Q = ((am_oc σ p = 1 ∧ st.length ≤ 4 ∧ am_ok a1 = true) ∧ am_Call L xs d 9 [.ref p, a1] σ (fun r σ1 => am_Rn L xs (d + 1) 7 54 ls (r.toList ++ st) σ1 Q)) := am_R_virtual1 d7_51 rfl ⟨by decide, rfl⟩ rfl rfl (by decide)
theorem r7_54 {x : Int32} : am_Rn L xs d 7 54 ls (.int x :: st) σ Q = (6 < ls.length ∧ am_Rn L xs d 7 56 (ls.set 6 (.int x)) st σ Q) := am_r_istore d7_54
theorem r7_56  : am_Rn L xs d 7 56 ls st σ Q = am_li ls 6 (fun x => am_Rn L xs d 7 58 ls (.int x :: st) σ Q) := am_r_iload d7_56
theorem r7_58 {a : Int32} : am_Rn L xs d 7 58 ls (.int a :: st) σ Q = if a = 0 then am_Rn L xs d 7 71 ls st σ Q else am_Rn L xs d 7 61 ls st σ Q := (am_r_if (t := 71) d7_58 (by decide)).trans (am_ite _ _ trivial (by simp only [am_cond, decide_eq_true_eq]))
theorem r7_61  : am_Rn L xs d 7 61 ls st σ Q = am_la ls 5 (fun x => am_Rn L xs d 7 63 ls (x :: st) σ Q) := am_r_aload d7_61
theorem r7_63 {p : Nat} : am_Rn L xs d 7 63 ls (.ref p :: st) σ Q = am_fd σ p 1 4 (fun v => am_Rn L xs d 7 66 ls (v :: st) σ Q) := am_r_getfield d7_63 rfl
theorem r7_66  : am_Rn L xs d 7 66 ls st σ Q = am_Rn L xs d 7 68 ls (.int 12 :: st) σ Q := am_r_bipush d7_66 (by decide)
theorem r7_68 {a b : Int32} : am_Rn L xs d 7 68 ls (.int b :: .int a :: st) σ Q = if a < b then am_Rn L xs d 7 73 ls st σ Q else am_Rn L xs d 7 71 ls st σ Q := (am_r_icmp (t := 73) d7_68 (by decide)).trans (am_ite _ _ trivial (by simp only [am_cond, decide_eq_true_eq]))
theorem r7_71  : am_Rn L xs d 7 71 ls st σ Q = am_Rn L xs d 7 72 ls (.int (-1) :: st) σ Q := am_r_iconst d7_71 (by decide)
theorem r7_72 {v : Int32} : am_Rn L xs d 7 72 ls [.int v] σ Q = Q (some (.int v)) σ := am_r_ireturn d7_72 rfl
theorem r7_73  : am_Rn L xs d 7 73 ls st σ Q = am_la ls 5 (fun x => am_Rn L xs d 7 75 ls (x :: st) σ Q) := am_r_aload d7_73
theorem r7_75 {p : Nat} : am_Rn L xs d 7 75 ls (.ref p :: st) σ Q = am_fd σ p 1 4 (fun v => am_Rn L xs d 7 78 ls (v :: st) σ Q) := am_r_getfield d7_75 rfl
theorem r7_78 {x : Int32} : am_Rn L xs d 7 78 ls (.int x :: st) σ Q = (7 < ls.length ∧ am_Rn L xs d 7 80 (ls.set 7 (.int x)) st σ Q) := am_r_istore d7_78
theorem r7_80  : am_Rn L xs d 7 80 ls st σ Q = am_la ls 5 (fun x => am_Rn L xs d 7 82 ls (x :: st) σ Q) := am_r_aload d7_80
theorem r7_82  : am_Rn L xs d 7 82 ls st σ Q = am_li ls 2 (fun x => am_Rn L xs d 7 83 ls (.int x :: st) σ Q) := am_r_iload_n d7_82
theorem r7_83  : am_Rn L xs d 7 83 ls st σ Q = am_la ls 5 (fun x => am_Rn L xs d 7 85 ls (x :: st) σ Q) := am_r_aload d7_83
theorem r7_85  : am_Rn L xs d 7 85 ls st σ Q = am_li ls 2 (fun x => am_Rn L xs d 7 86 ls (.int x :: st) σ Q) := am_r_iload_n d7_85
theorem r7_86 {a1 : Value} {p : Nat} : am_Rn L xs (d + 1) 7 86 ls (a1 :: .ref p :: st) σ Q = ((am_oc σ p = 1 ∧ st.length ≤ 4 ∧ am_ok a1 = true) ∧ am_Call L xs d 10 [.ref p, a1] σ (fun r σ1 => am_Rn L xs (d + 1) 7 89 ls (r.toList ++ st) σ1 Q)) := am_R_virtual1 d7_86 rfl ⟨by decide, rfl⟩ rfl rfl (by decide)
theorem r7_89  : am_Rn L xs d 7 89 ls st σ Q = am_Rn L xs d 7 90 ls (.int 1 :: st) σ Q := am_r_iconst d7_89 (by decide)
theorem r7_90 {a b : Int32} : am_Rn L xs d 7 90 ls (.int b :: .int a :: st) σ Q = am_Rn L xs d 7 91 ls (.int (a - b) :: st) σ Q := am_r_isub d7_90
theorem r7_91 {a1 a2 : Value} {p : Nat} : am_Rn L xs (d + 1) 7 91 ls (a2 :: a1 :: .ref p :: st) σ Q = ((am_oc σ p = 1 ∧ st.length ≤ 4 ∧ am_ok a1 = true ∧ am_ok a2 = true) ∧ am_Call L xs d 11 [.ref p, a1, a2] σ (fun r σ1 => am_Rn L xs (d + 1) 7 94 ls (r.toList ++ st) σ1 Q)) := am_R_virtual2 d7_91 rfl ⟨by decide, rfl⟩ rfl rfl (by decide)
theorem r7_94 {x : Int32} : am_Rn L xs d 7 94 ls (.int x :: st) σ Q = (8 < ls.length ∧ am_Rn L xs d 7 96 (ls.set 8 (.int x)) st σ Q) := am_r_istore d7_94
theorem r7_96  : am_Rn L xs d 7 96 ls st σ Q = am_la ls 5 (fun x => am_Rn L xs d 7 98 ls (x :: st) σ Q) := am_r_aload d7_96
theorem r7_98  : am_Rn L xs d 7 98 ls st σ Q = am_li ls 7 (fun x => am_Rn L xs d 7 100 ls (.int x :: st) σ Q) := am_r_iload d7_98
theorem r7_100  : am_Rn L xs d 7 100 ls st σ Q = am_li ls 3 (fun x => am_Rn L xs d 7 101 ls (.int x :: st) σ Q) := am_r_iload_n d7_100
theorem r7_101  : am_Rn L xs d 7 101 ls st σ Q = am_li ls 4 (fun x => am_Rn L xs d 7 103 ls (.int x :: st) σ Q) := am_r_iload d7_101
theorem r7_103 {a1 a2 a3 : Value} {p : Nat} : am_Rn L xs (d + 1) 7 103 ls (a3 :: a2 :: a1 :: .ref p :: st) σ Q = ((am_oc σ p = 1 ∧ st.length ≤ 4 ∧ am_ok a1 = true ∧ am_ok a2 = true ∧ am_ok a3 = true) ∧ am_Call L xs d 12 [.ref p, a1, a2, a3] σ (fun r σ1 => am_Rn L xs (d + 1) 7 106 ls (r.toList ++ st) σ1 Q)) := am_R_virtual3 d7_103 rfl ⟨by decide, rfl⟩ rfl rfl (by decide)
theorem r7_106  : am_Rn L xs d 7 106 ls st σ Q = am_la ls 5 (fun x => am_Rn L xs d 7 108 ls (x :: st) σ Q) := am_r_aload d7_106
theorem r7_108  : am_Rn L xs d 7 108 ls st σ Q = am_li ls 7 (fun x => am_Rn L xs d 7 110 ls (.int x :: st) σ Q) := am_r_iload d7_108
theorem r7_110  : am_Rn L xs d 7 110 ls st σ Q = am_li ls 2 (fun x => am_Rn L xs d 7 111 ls (.int x :: st) σ Q) := am_r_iload_n d7_110
theorem r7_111  : am_Rn L xs d 7 111 ls st σ Q = am_li ls 8 (fun x => am_Rn L xs d 7 113 ls (.int x :: st) σ Q) := am_r_iload d7_111
theorem r7_113 {a1 a2 a3 : Value} {p : Nat} : am_Rn L xs (d + 1) 7 113 ls (a3 :: a2 :: a1 :: .ref p :: st) σ Q = ((am_oc σ p = 1 ∧ st.length ≤ 4 ∧ am_ok a1 = true ∧ am_ok a2 = true ∧ am_ok a3 = true) ∧ am_Call L xs d 13 [.ref p, a1, a2, a3] σ (fun r σ1 => am_Rn L xs (d + 1) 7 116 ls (r.toList ++ st) σ1 Q)) := am_R_virtual3 d7_113 rfl ⟨by decide, rfl⟩ rfl rfl (by decide)
theorem r7_116  : am_Rn L xs d 7 116 ls st σ Q = am_li ls 7 (fun x => am_Rn L xs d 7 118 ls (.int x :: st) σ Q) := am_r_iload d7_116
theorem r7_118 {v : Int32} : am_Rn L xs d 7 118 ls [.int v] σ Q = Q (some (.int v)) σ := am_r_ireturn d7_118 rfl
theorem d8_0 : decode (pg_code 8) 0 = .ok (.iload_n 0, 1) := by decide +kernel
theorem d8_1 : decode (pg_code 8) 1 = .ok (.ifCond .lt 12, 3) := by decide +kernel
theorem d8_4 : decode (pg_code 8) 4 = .ok (.iload_n 0, 1) := by decide +kernel
theorem d8_5 : decode (pg_code 8) 5 = .ok (.iconst 3, 1) := by decide +kernel
theorem d8_6 : decode (pg_code 8) 6 = .ok (.if_icmp .ge 7, 3) := by decide +kernel
theorem d8_9 : decode (pg_code 8) 9 = .ok (.iconst 1, 1) := by decide +kernel
theorem d8_10 : decode (pg_code 8) 10 = .ok (.goto 4, 3) := by decide +kernel
theorem d8_13 : decode (pg_code 8) 13 = .ok (.iconst 0, 1) := by decide +kernel
theorem d8_14 : decode (pg_code 8) 14 = .ok (.ireturn, 1) := by decide +kernel
theorem e8 {b1 : Value} : am_Call L xs d 8 [b1] σ Q = am_Rn L xs d 8 0 [b1] [] σ Q := rfl
theorem r8_0  : am_Rn L xs d 8 0 ls st σ Q = am_li ls 0 (fun x => am_Rn L xs d 8 1 ls (.int x :: st) σ Q) := am_r_iload_n d8_0
theorem r8_1 {a : Int32} : am_Rn L xs d 8 1 ls (.int a :: st) σ Q = if a < 0 then am_Rn L xs d 8 13 ls st σ Q else am_Rn L xs d 8 4 ls st σ Q := (am_r_if (t := 13) d8_1 (by decide)).trans (am_ite _ _ trivial (by simp only [am_cond, decide_eq_true_eq]))
theorem r8_4  : am_Rn L xs d 8 4 ls st σ Q = am_li ls 0 (fun x => am_Rn L xs d 8 5 ls (.int x :: st) σ Q) := am_r_iload_n d8_4
theorem r8_5  : am_Rn L xs d 8 5 ls st σ Q = am_Rn L xs d 8 6 ls (.int 3 :: st) σ Q := am_r_iconst d8_5 (by decide)
theorem r8_6 {a b : Int32} : am_Rn L xs d 8 6 ls (.int b :: .int a :: st) σ Q = if b ≤ a then am_Rn L xs d 8 13 ls st σ Q else am_Rn L xs d 8 9 ls st σ Q := (am_r_icmp (t := 13) d8_6 (by decide)).trans (am_ite _ _ trivial (by simp only [am_cond, decide_eq_true_eq]))
theorem r8_9  : am_Rn L xs d 8 9 ls st σ Q = am_Rn L xs d 8 10 ls (.int 1 :: st) σ Q := am_r_iconst d8_9 (by decide)
theorem r8_10  : am_Rn L xs d 8 10 ls st σ Q = am_Rn L xs d 8 14 ls st σ Q := am_r_goto d8_10 (by decide)
theorem r8_13  : am_Rn L xs d 8 13 ls st σ Q = am_Rn L xs d 8 14 ls (.int 0 :: st) σ Q := am_r_iconst d8_13 (by decide)
theorem r8_14 {v : Int32} (hv : v = 0 ∨ v = 1) : am_Rn L xs d 8 14 ls [.int v] σ Q = Q (some (.int v)) σ := am_r_zreturn d8_14 rfl hv
theorem d14_0 : decode (pg_code 14) 0 = .ok (.iload_n 1, 1) := by decide +kernel
theorem d14_1 : decode (pg_code 14) 1 = .ok (.invokestatic 51, 3) := by decide +kernel
theorem d14_4 : decode (pg_code 14) 4 = .ok (.ifCond .ne 5, 3) := by decide +kernel
theorem d14_7 : decode (pg_code 14) 7 = .ok (.iconst 0, 1) := by decide +kernel
theorem d14_8 : decode (pg_code 14) 8 = .ok (.ireturn, 1) := by decide +kernel
theorem d14_9 : decode (pg_code 14) 9 = .ok (.aload_n 0, 1) := by decide +kernel
theorem d14_10 : decode (pg_code 14) 10 = .ok (.getfield 11, 3) := by decide +kernel
theorem d14_13 : decode (pg_code 14) 13 = .ok (.iload_n 1, 1) := by decide +kernel
theorem d14_14 : decode (pg_code 14) 14 = .ok (.aaload, 1) := by decide +kernel
theorem d14_15 : decode (pg_code 14) 15 = .ok (.invokevirtual 77, 3) := by decide +kernel
theorem d14_18 : decode (pg_code 14) 18 = .ok (.iconst 1, 1) := by decide +kernel
theorem d14_19 : decode (pg_code 14) 19 = .ok (.ireturn, 1) := by decide +kernel
theorem e14 {b1 b2 : Value} : am_Call L xs d 14 [b1, b2] σ Q = am_Rn L xs d 14 0 [b1, b2] [] σ Q := rfl
theorem r14_0  : am_Rn L xs d 14 0 ls st σ Q = am_li ls 1 (fun x => am_Rn L xs d 14 1 ls (.int x :: st) σ Q) := am_r_iload_n d14_0
theorem r14_1 {a1 : Value} : am_Rn L xs (d + 1) 14 1 ls (a1 :: st) σ Q = ((st.length ≤ 4 ∧ am_ok a1 = true) ∧ am_Call L xs d 8 [a1] σ (fun r σ1 => am_Rn L xs (d + 1) 14 4 ls (r.toList ++ st) σ1 Q)) := am_R_static1 d14_1 rfl ⟨by decide, rfl⟩ rfl (by decide)
theorem r14_4 {a : Int32} : am_Rn L xs d 14 4 ls (.int a :: st) σ Q = if ¬ a = 0 then am_Rn L xs d 14 9 ls st σ Q else am_Rn L xs d 14 7 ls st σ Q := (am_r_if (t := 9) d14_4 (by decide)).trans (am_ite _ _ trivial (by simp only [am_cond, decide_eq_true_eq]))
theorem r14_7  : am_Rn L xs d 14 7 ls st σ Q = am_Rn L xs d 14 8 ls (.int 0 :: st) σ Q := am_r_iconst d14_7 (by decide)
theorem r14_8 {v : Int32} (hv : v = 0 ∨ v = 1) : am_Rn L xs d 14 8 ls [.int v] σ Q = Q (some (.int v)) σ := am_r_zreturn d14_8 rfl hv
theorem r14_9  : am_Rn L xs d 14 9 ls st σ Q = am_la ls 0 (fun x => am_Rn L xs d 14 10 ls (x :: st) σ Q) := am_r_aload_n d14_9
theorem r14_10 {p : Nat} : am_Rn L xs d 14 10 ls (.ref p :: st) σ Q = am_fd σ p 0 0 (fun v => am_Rn L xs d 14 13 ls (v :: st) σ Q) := am_r_getfield d14_10 rfl
theorem r14_13  : am_Rn L xs d 14 13 ls st σ Q = am_li ls 1 (fun x => am_Rn L xs d 14 14 ls (.int x :: st) σ Q) := am_r_iload_n d14_13
theorem r14_14 {p : Nat} {i : Int32} : am_Rn L xs d 14 14 ls (.int i :: .ref p :: st) σ Q = am_ar2 σ p i (fun q => am_Rn L xs d 14 15 ls (.ref q :: st) σ Q) := am_r_aaload d14_14
theorem r14_15 {p : Nat} : am_Rn L xs (d + 1) 14 15 ls (.ref p :: st) σ Q = ((am_oc σ p = 1 ∧ st.length ≤ 4) ∧ am_Call L xs d 15 [.ref p] σ (fun r σ1 => am_Rn L xs (d + 1) 14 18 ls (r.toList ++ st) σ1 Q)) := am_R_virtual0 d14_15 rfl ⟨by decide, rfl⟩ rfl rfl (by decide)
theorem r14_18  : am_Rn L xs d 14 18 ls st σ Q = am_Rn L xs d 14 19 ls (.int 1 :: st) σ Q := am_r_iconst d14_18 (by decide)
theorem r14_19 {v : Int32} (hv : v = 0 ∨ v = 1) : am_Rn L xs d 14 19 ls [.int v] σ Q = Q (some (.int v)) σ := am_r_zreturn d14_19 rfl hv
theorem d16_0 : decode (pg_code 16) 0 = .ok (.iload_n 1, 1) := by decide +kernel
theorem d16_1 : decode (pg_code 16) 1 = .ok (.invokestatic 51, 3) := by decide +kernel
theorem d16_4 : decode (pg_code 16) 4 = .ok (.ifCond .eq 15, 3) := by decide +kernel
theorem d16_7 : decode (pg_code 16) 7 = .ok (.aload_n 0, 1) := by decide +kernel
theorem d16_8 : decode (pg_code 16) 8 = .ok (.getfield 11, 3) := by decide +kernel
theorem d16_11 : decode (pg_code 16) 11 = .ok (.iload_n 1, 1) := by decide +kernel
theorem d16_12 : decode (pg_code 16) 12 = .ok (.aaload, 1) := by decide +kernel
theorem d16_13 : decode (pg_code 16) 13 = .ok (.getfield 55, 3) := by decide +kernel
theorem d16_16 : decode (pg_code 16) 16 = .ok (.goto 4, 3) := by decide +kernel
theorem d16_19 : decode (pg_code 16) 19 = .ok (.iconst (-1), 1) := by decide +kernel
theorem d16_20 : decode (pg_code 16) 20 = .ok (.ireturn, 1) := by decide +kernel
theorem e16 {b1 b2 : Value} : am_Call L xs d 16 [b1, b2] σ Q = am_Rn L xs d 16 0 [b1, b2] [] σ Q := rfl
theorem r16_0  : am_Rn L xs d 16 0 ls st σ Q = am_li ls 1 (fun x => am_Rn L xs d 16 1 ls (.int x :: st) σ Q) := am_r_iload_n d16_0
theorem r16_1 {a1 : Value} : am_Rn L xs (d + 1) 16 1 ls (a1 :: st) σ Q = ((st.length ≤ 4 ∧ am_ok a1 = true) ∧ am_Call L xs d 8 [a1] σ (fun r σ1 => am_Rn L xs (d + 1) 16 4 ls (r.toList ++ st) σ1 Q)) := am_R_static1 d16_1 rfl ⟨by decide, rfl⟩ rfl (by decide)
theorem r16_4 {a : Int32} : am_Rn L xs d 16 4 ls (.int a :: st) σ Q = if a = 0 then am_Rn L xs d 16 19 ls st σ Q else am_Rn L xs d 16 7 ls st σ Q := (am_r_if (t := 19) d16_4 (by decide)).trans (am_ite _ _ trivial (by simp only [am_cond, decide_eq_true_eq]))
theorem r16_7  : am_Rn L xs d 16 7 ls st σ Q = am_la ls 0 (fun x => am_Rn L xs d 16 8 ls (x :: st) σ Q) := am_r_aload_n d16_7
theorem r16_8 {p : Nat} : am_Rn L xs d 16 8 ls (.ref p :: st) σ Q = am_fd σ p 0 0 (fun v => am_Rn L xs d 16 11 ls (v :: st) σ Q) := am_r_getfield d16_8 rfl
theorem r16_11  : am_Rn L xs d 16 11 ls st σ Q = am_li ls 1 (fun x => am_Rn L xs d 16 12 ls (.int x :: st) σ Q) := am_r_iload_n d16_11
theorem r16_12 {p : Nat} {i : Int32} : am_Rn L xs d 16 12 ls (.int i :: .ref p :: st) σ Q = am_ar2 σ p i (fun q => am_Rn L xs d 16 13 ls (.ref q :: st) σ Q) := am_r_aaload d16_12
theorem r16_13 {p : Nat} : am_Rn L xs d 16 13 ls (.ref p :: st) σ Q = am_fd σ p 1 4 (fun v => am_Rn L xs d 16 16 ls (v :: st) σ Q) := am_r_getfield d16_13 rfl
theorem r16_16  : am_Rn L xs d 16 16 ls st σ Q = am_Rn L xs d 16 20 ls st σ Q := am_r_goto d16_16 (by decide)
theorem r16_19  : am_Rn L xs d 16 19 ls st σ Q = am_Rn L xs d 16 20 ls (.int (-1) :: st) σ Q := am_r_iconst d16_19 (by decide)
theorem r16_20 {v : Int32} : am_Rn L xs d 16 20 ls [.int v] σ Q = Q (some (.int v)) σ := am_r_ireturn d16_20 rfl
theorem d17_0 : decode (pg_code 17) 0 = .ok (.iload_n 1, 1) := by decide +kernel
theorem d17_1 : decode (pg_code 17) 1 = .ok (.invokestatic 51, 3) := by decide +kernel
theorem d17_4 : decode (pg_code 17) 4 = .ok (.ifCond .eq 16, 3) := by decide +kernel
theorem d17_7 : decode (pg_code 17) 7 = .ok (.aload_n 0, 1) := by decide +kernel
theorem d17_8 : decode (pg_code 17) 8 = .ok (.getfield 11, 3) := by decide +kernel
theorem d17_11 : decode (pg_code 17) 11 = .ok (.iload_n 1, 1) := by decide +kernel
theorem d17_12 : decode (pg_code 17) 12 = .ok (.aaload, 1) := by decide +kernel
theorem d17_13 : decode (pg_code 17) 13 = .ok (.iload_n 2, 1) := by decide +kernel
theorem d17_14 : decode (pg_code 17) 14 = .ok (.invokevirtual 59, 3) := by decide +kernel
theorem d17_17 : decode (pg_code 17) 17 = .ok (.ifCond .ne 5, 3) := by decide +kernel
theorem d17_20 : decode (pg_code 17) 20 = .ok (.iconst (-1), 1) := by decide +kernel
theorem d17_21 : decode (pg_code 17) 21 = .ok (.ireturn, 1) := by decide +kernel
theorem e17 {b1 b2 b3 : Value} : am_Call L xs d 17 [b1, b2, b3] σ Q = am_Rn L xs d 17 0 [b1, b2, b3] [] σ Q := rfl
theorem r17_0  : am_Rn L xs d 17 0 ls st σ Q = am_li ls 1 (fun x => am_Rn L xs d 17 1 ls (.int x :: st) σ Q) := am_r_iload_n d17_0
theorem r17_1 {a1 : Value} : am_Rn L xs (d + 1) 17 1 ls (a1 :: st) σ Q = ((st.length ≤ 4 ∧ am_ok a1 = true) ∧ am_Call L xs d 8 [a1] σ (fun r σ1 => am_Rn L xs (d + 1) 17 4 ls (r.toList ++ st) σ1 Q)) := am_R_static1 d17_1 rfl ⟨by decide, rfl⟩ rfl (by decide)
theorem r17_4 {a : Int32} : am_Rn L xs d 17 4 ls (.int a :: st) σ Q = if a = 0 then am_Rn L xs d 17 20 ls st σ Q else am_Rn L xs d 17 7 ls st σ Q := (am_r_if (t := 20) d17_4 (by decide)).trans (am_ite _ _ trivial (by simp only [am_cond, decide_eq_true_eq]))
theorem r17_7  : am_Rn L xs d 17 7 ls st σ Q = am_la ls 0 (fun x => am_Rn L xs d 17 8 ls (x :: st) σ Q) := am_r_aload_n d17_7
theorem r17_8 {p : Nat} : am_Rn L xs d 17 8 ls (.ref p :: st) σ Q = am_fd σ p 0 0 (fun v => am_Rn L xs d 17 11 ls (v :: st) σ Q) := am_r_getfield d17_8 rfl
theorem r17_11  : am_Rn L xs d 17 11 ls st σ Q = am_li ls 1 (fun x => am_Rn L xs d 17 12 ls (.int x :: st) σ Q) := am_r_iload_n d17_11
theorem r17_12 {p : Nat} {i : Int32} : am_Rn L xs d 17 12 ls (.int i :: .ref p :: st) σ Q = am_ar2 σ p i (fun q => am_Rn L xs d 17 13 ls (.ref q :: st) σ Q) := am_r_aaload d17_12
theorem r17_13  : am_Rn L xs d 17 13 ls st σ Q = am_li ls 2 (fun x => am_Rn L xs d 17 14 ls (.int x :: st) σ Q) := am_r_iload_n d17_13
theorem r17_14 {a1 : Value} {p : Nat} : am_Rn L xs (d + 1) 17 14 ls (a1 :: .ref p :: st) σ Q = ((am_oc σ p = 1 ∧ st.length ≤ 4 ∧ am_ok a1 = true) ∧ am_Call L xs d 9 [.ref p, a1] σ (fun r σ1 => am_Rn L xs (d + 1) 17 17 ls (r.toList ++ st) σ1 Q)) := am_R_virtual1 d17_14 rfl ⟨by decide, rfl⟩ rfl rfl (by decide)
theorem r17_17 {a : Int32} : am_Rn L xs d 17 17 ls (.int a :: st) σ Q = if ¬ a = 0 then am_Rn L xs d 17 22 ls st σ Q else am_Rn L xs d 17 20 ls st σ Q := (am_r_if (t := 22) d17_17 (by decide)).trans (am_ite _ _ trivial (by simp only [am_cond, decide_eq_true_eq]))
theorem r17_20  : am_Rn L xs d 17 20 ls st σ Q = am_Rn L xs d 17 21 ls (.int (-1) :: st) σ Q := am_r_iconst d17_20 (by decide)
theorem r17_21 {v : Int32} : am_Rn L xs d 17 21 ls [.int v] σ Q = Q (some (.int v)) σ := am_r_ireturn d17_21 rfl
theorem d19_0 : decode (pg_code 19) 0 = .ok (.iload_n 1, 1) := by decide +kernel
theorem d19_1 : decode (pg_code 19) 1 = .ok (.invokestatic 51, 3) := by decide +kernel
theorem d19_4 : decode (pg_code 19) 4 = .ok (.ifCond .eq 36, 3) := by decide +kernel
theorem d19_7 : decode (pg_code 19) 7 = .ok (.iload_n 3, 1) := by decide +kernel
theorem d19_8 : decode (pg_code 19) 8 = .ok (.invokestatic 51, 3) := by decide +kernel
theorem d19_11 : decode (pg_code 19) 11 = .ok (.ifCond .eq 29, 3) := by decide +kernel
theorem d19_14 : decode (pg_code 19) 14 = .ok (.aload_n 0, 1) := by decide +kernel
theorem d19_15 : decode (pg_code 19) 15 = .ok (.getfield 11, 3) := by decide +kernel
theorem d19_18 : decode (pg_code 19) 18 = .ok (.iload_n 1, 1) := by decide +kernel
theorem d19_19 : decode (pg_code 19) 19 = .ok (.aaload, 1) := by decide +kernel
theorem d19_20 : decode (pg_code 19) 20 = .ok (.iload_n 2, 1) := by decide +kernel
theorem d19_21 : decode (pg_code 19) 21 = .ok (.aload_n 0, 1) := by decide +kernel
theorem d19_22 : decode (pg_code 19) 22 = .ok (.getfield 11, 3) := by decide +kernel
theorem d19_25 : decode (pg_code 19) 25 = .ok (.iload_n 3, 1) := by decide +kernel
theorem d19_26 : decode (pg_code 19) 26 = .ok (.aaload, 1) := by decide +kernel
theorem d19_27 : decode (pg_code 19) 27 = .ok (.iload 4, 2) := by decide +kernel
theorem d19_29 : decode (pg_code 19) 29 = .ok (.iconst 0, 1) := by decide +kernel
theorem d19_30 : decode (pg_code 19) 30 = .ok (.invokestatic 84, 3) := by decide +kernel
theorem d19_33 : decode (pg_code 19) 33 = .ok (.ifCond .eq 7, 3) := by decide +kernel
theorem d19_36 : decode (pg_code 19) 36 = .ok (.iconst 1, 1) := by decide +kernel
theorem d19_37 : decode (pg_code 19) 37 = .ok (.goto 4, 3) := by decide +kernel
theorem d19_40 : decode (pg_code 19) 40 = .ok (.iconst 0, 1) := by decide +kernel
theorem d19_41 : decode (pg_code 19) 41 = .ok (.ireturn, 1) := by decide +kernel
theorem e19 {b1 b2 b3 b4 b5 : Value} : am_Call L xs d 19 [b1, b2, b3, b4, b5] σ Q = am_Rn L xs d 19 0 [b1, b2, b3, b4, b5] [] σ Q := rfl
theorem r19_0  : am_Rn L xs d 19 0 ls st σ Q = am_li ls 1 (fun x => am_Rn L xs d 19 1 ls (.int x :: st) σ Q) := am_r_iload_n d19_0
theorem r19_1 {a1 : Value} : am_Rn L xs (d + 1) 19 1 ls (a1 :: st) σ Q = ((st.length ≤ 4 ∧ am_ok a1 = true) ∧ am_Call L xs d 8 [a1] σ (fun r σ1 => am_Rn L xs (d + 1) 19 4 ls (r.toList ++ st) σ1 Q)) := am_R_static1 d19_1 rfl ⟨by decide, rfl⟩ rfl (by decide)
theorem r19_4 {a : Int32} : am_Rn L xs d 19 4 ls (.int a :: st) σ Q = if a = 0 then am_Rn L xs d 19 40 ls st σ Q else am_Rn L xs d 19 7 ls st σ Q := (am_r_if (t := 40) d19_4 (by decide)).trans (am_ite _ _ trivial (by simp only [am_cond, decide_eq_true_eq]))
theorem r19_7  : am_Rn L xs d 19 7 ls st σ Q = am_li ls 3 (fun x => am_Rn L xs d 19 8 ls (.int x :: st) σ Q) := am_r_iload_n d19_7
theorem r19_8 {a1 : Value} : am_Rn L xs (d + 1) 19 8 ls (a1 :: st) σ Q = ((st.length ≤ 4 ∧ am_ok a1 = true) ∧ am_Call L xs d 8 [a1] σ (fun r σ1 => am_Rn L xs (d + 1) 19 11 ls (r.toList ++ st) σ1 Q)) := am_R_static1 d19_8 rfl ⟨by decide, rfl⟩ rfl (by decide)
theorem r19_11 {a : Int32} : am_Rn L xs d 19 11 ls (.int a :: st) σ Q = if a = 0 then am_Rn L xs d 19 40 ls st σ Q else am_Rn L xs d 19 14 ls st σ Q := (am_r_if (t := 40) d19_11 (by decide)).trans (am_ite _ _ trivial (by simp only [am_cond, decide_eq_true_eq]))
theorem r19_14  : am_Rn L xs d 19 14 ls st σ Q = am_la ls 0 (fun x => am_Rn L xs d 19 15 ls (x :: st) σ Q) := am_r_aload_n d19_14
theorem r19_15 {p : Nat} : am_Rn L xs d 19 15 ls (.ref p :: st) σ Q = am_fd σ p 0 0 (fun v => am_Rn L xs d 19 18 ls (v :: st) σ Q) := am_r_getfield d19_15 rfl
theorem r19_18  : am_Rn L xs d 19 18 ls st σ Q = am_li ls 1 (fun x => am_Rn L xs d 19 19 ls (.int x :: st) σ Q) := am_r_iload_n d19_18
theorem r19_19 {p : Nat} {i : Int32} : am_Rn L xs d 19 19 ls (.int i :: .ref p :: st) σ Q = am_ar2 σ p i (fun q => am_Rn L xs d 19 20 ls (.ref q :: st) σ Q) := am_r_aaload d19_19
theorem r19_20  : am_Rn L xs d 19 20 ls st σ Q = am_li ls 2 (fun x => am_Rn L xs d 19 21 ls (.int x :: st) σ Q) := am_r_iload_n d19_20
theorem r19_21  : am_Rn L xs d 19 21 ls st σ Q = am_la ls 0 (fun x => am_Rn L xs d 19 22 ls (x :: st) σ Q) := am_r_aload_n d19_21
theorem r19_22 {p : Nat} : am_Rn L xs d 19 22 ls (.ref p :: st) σ Q = am_fd σ p 0 0 (fun v => am_Rn L xs d 19 25 ls (v :: st) σ Q) := am_r_getfield d19_22 rfl
theorem r19_25  : am_Rn L xs d 19 25 ls st σ Q = am_li ls 3 (fun x => am_Rn L xs d 19 26 ls (.int x :: st) σ Q) := am_r_iload_n d19_25
theorem r19_26 {p : Nat} {i : Int32} : am_Rn L xs d 19 26 ls (.int i :: .ref p :: st) σ Q = am_ar2 σ p i (fun q => am_Rn L xs d 19 27 ls (.ref q :: st) σ Q) := am_r_aaload d19_26
theorem r19_27  : am_Rn L xs d 19 27 ls st σ Q = am_li ls 4 (fun x => am_Rn L xs d 19 29 ls (.int x :: st) σ Q) := am_r_iload d19_27
theorem r19_29  : am_Rn L xs d 19 29 ls st σ Q = am_Rn L xs d 19 30 ls (.int 0 :: st) σ Q := am_r_iconst d19_29 (by decide)
theorem r19_30 {a1 a2 a3 a4 a5 : Value} : am_Rn L xs (d + 1) 19 30 ls (a5 :: a4 :: a3 :: a2 :: a1 :: st) σ Q = ((st.length ≤ 4 ∧ am_ok a1 = true ∧ am_ok a2 = true ∧ am_ok a3 = true ∧ am_ok a4 = true ∧ am_ok a5 = true) ∧ am_Call L xs d 20 [a1, a2, a3, a4, a5] σ (fun r σ1 => am_Rn L xs (d + 1) 19 33 ls (r.toList ++ st) σ1 Q)) := am_R_static5 d19_30 rfl ⟨by decide, rfl⟩ rfl (by decide)
theorem r19_33 {a : Int32} : am_Rn L xs d 19 33 ls (.int a :: st) σ Q = if a = 0 then am_Rn L xs d 19 40 ls st σ Q else am_Rn L xs d 19 36 ls st σ Q := (am_r_if (t := 40) d19_33 (by decide)).trans (am_ite _ _ trivial (by simp only [am_cond, decide_eq_true_eq]))
theorem r19_36  : am_Rn L xs d 19 36 ls st σ Q = am_Rn L xs d 19 37 ls (.int 1 :: st) σ Q := am_r_iconst d19_36 (by decide)
theorem r19_37  : am_Rn L xs d 19 37 ls st σ Q = am_Rn L xs d 19 41 ls st σ Q := am_r_goto d19_37 (by decide)
theorem r19_40  : am_Rn L xs d 19 40 ls st σ Q = am_Rn L xs d 19 41 ls (.int 0 :: st) σ Q := am_r_iconst d19_40 (by decide)
theorem r19_41 {v : Int32} (hv : v = 0 ∨ v = 1) : am_Rn L xs d 19 41 ls [.int v] σ Q = Q (some (.int v)) σ := am_r_zreturn d19_41 rfl hv
theorem d21_0 : decode (pg_code 21) 0 = .ok (.aload_n 0, 1) := by decide +kernel
theorem d21_1 : decode (pg_code 21) 1 = .ok (.iload_n 1, 1) := by decide +kernel
theorem d21_2 : decode (pg_code 21) 2 = .ok (.invokevirtual 88, 3) := by decide +kernel
theorem d21_5 : decode (pg_code 21) 5 = .ok (.ifCond .eq 11, 3) := by decide +kernel
theorem d21_16 : decode (pg_code 21) 16 = .ok (.iconst (-1), 1) := by decide +kernel
theorem d21_17 : decode (pg_code 21) 17 = .ok (.ireturn, 1) := by decide +kernel
theorem e21 {b1 b2 b3 : Value} : am_Call L xs d 21 [b1, b2, b3] σ Q = am_Rn L xs d 21 0 [b1, b2, b3] [] σ Q := rfl
theorem r21_0  : am_Rn L xs d 21 0 ls st σ Q = am_la ls 0 (fun x => am_Rn L xs d 21 1 ls (x :: st) σ Q) := am_r_aload_n d21_0
theorem r21_1  : am_Rn L xs d 21 1 ls st σ Q = am_li ls 1 (fun x => am_Rn L xs d 21 2 ls (.int x :: st) σ Q) := am_r_iload_n d21_1
theorem r21_2 {a1 : Value} {p : Nat} : am_Rn L xs (d + 1) 21 2 ls (a1 :: .ref p :: st) σ Q = ((am_oc σ p = 0 ∧ st.length ≤ 4 ∧ am_ok a1 = true) ∧ am_Call L xs d 22 [.ref p, a1] σ (fun r σ1 => am_Rn L xs (d + 1) 21 5 ls (r.toList ++ st) σ1 Q)) := am_R_virtual1 d21_2 rfl ⟨by decide, rfl⟩ rfl rfl (by decide)
theorem r21_5 {a : Int32} : am_Rn L xs d 21 5 ls (.int a :: st) σ Q = if a = 0 then am_Rn L xs d 21 16 ls st σ Q else am_Rn L xs d 21 8 ls st σ Q := (am_r_if (t := 16) d21_5 (by decide)).trans (am_ite _ _ trivial (by simp only [am_cond, decide_eq_true_eq]))
theorem r21_16  : am_Rn L xs d 21 16 ls st σ Q = am_Rn L xs d 21 17 ls (.int (-1) :: st) σ Q := am_r_iconst d21_16 (by decide)
theorem r21_17 {v : Int32} : am_Rn L xs d 21 17 ls [.int v] σ Q = Q (some (.int v)) σ := am_r_ireturn d21_17 rfl
theorem d22_0 : decode (pg_code 22) 0 = .ok (.iload_n 1, 1) := by decide +kernel
theorem d22_1 : decode (pg_code 22) 1 = .ok (.invokestatic 51, 3) := by decide +kernel
theorem d22_4 : decode (pg_code 22) 4 = .ok (.ifCond .eq 19, 3) := by decide +kernel
theorem d22_7 : decode (pg_code 22) 7 = .ok (.aload_n 0, 1) := by decide +kernel
theorem d22_8 : decode (pg_code 22) 8 = .ok (.getfield 11, 3) := by decide +kernel
theorem d22_11 : decode (pg_code 22) 11 = .ok (.iload_n 1, 1) := by decide +kernel
theorem d22_12 : decode (pg_code 22) 12 = .ok (.aaload, 1) := by decide +kernel
theorem d22_13 : decode (pg_code 22) 13 = .ok (.getfield 55, 3) := by decide +kernel
theorem d22_16 : decode (pg_code 22) 16 = .ok (.ifCond .le 7, 3) := by decide +kernel
theorem d22_19 : decode (pg_code 22) 19 = .ok (.iconst 1, 1) := by decide +kernel
theorem d22_20 : decode (pg_code 22) 20 = .ok (.goto 4, 3) := by decide +kernel
theorem d22_23 : decode (pg_code 22) 23 = .ok (.iconst 0, 1) := by decide +kernel
theorem d22_24 : decode (pg_code 22) 24 = .ok (.ireturn, 1) := by decide +kernel
theorem e22 {b1 b2 : Value} : am_Call L xs d 22 [b1, b2] σ Q = am_Rn L xs d 22 0 [b1, b2] [] σ Q := rfl
theorem r22_0  : am_Rn L xs d 22 0 ls st σ Q = am_li ls 1 (fun x => am_Rn L xs d 22 1 ls (.int x :: st) σ Q) := am_r_iload_n d22_0
theorem r22_1 {a1 : Value} : am_Rn L xs (d + 1) 22 1 ls (a1 :: st) σ Q = ((st.length ≤ 4 ∧ am_ok a1 = true) ∧ am_Call L xs d 8 [a1] σ (fun r σ1 => am_Rn L xs (d + 1) 22 4 ls (r.toList ++ st) σ1 Q)) := am_R_static1 d22_1 rfl ⟨by decide, rfl⟩ rfl (by decide)
theorem r22_4 {a : Int32} : am_Rn L xs d 22 4 ls (.int a :: st) σ Q = if a = 0 then am_Rn L xs d 22 23 ls st σ Q else am_Rn L xs d 22 7 ls st σ Q := (am_r_if (t := 23) d22_4 (by decide)).trans (am_ite _ _ trivial (by simp only [am_cond, decide_eq_true_eq]))
theorem r22_7  : am_Rn L xs d 22 7 ls st σ Q = am_la ls 0 (fun x => am_Rn L xs d 22 8 ls (x :: st) σ Q) := am_r_aload_n d22_7
theorem r22_8 {p : Nat} : am_Rn L xs d 22 8 ls (.ref p :: st) σ Q = am_fd σ p 0 0 (fun v => am_Rn L xs d 22 11 ls (v :: st) σ Q) := am_r_getfield d22_8 rfl
theorem r22_11  : am_Rn L xs d 22 11 ls st σ Q = am_li ls 1 (fun x => am_Rn L xs d 22 12 ls (.int x :: st) σ Q) := am_r_iload_n d22_11
theorem r22_12 {p : Nat} {i : Int32} : am_Rn L xs d 22 12 ls (.int i :: .ref p :: st) σ Q = am_ar2 σ p i (fun q => am_Rn L xs d 22 13 ls (.ref q :: st) σ Q) := am_r_aaload d22_12
theorem r22_13 {p : Nat} : am_Rn L xs d 22 13 ls (.ref p :: st) σ Q = am_fd σ p 1 4 (fun v => am_Rn L xs d 22 16 ls (v :: st) σ Q) := am_r_getfield d22_13 rfl
theorem r22_16 {a : Int32} : am_Rn L xs d 22 16 ls (.int a :: st) σ Q = if a ≤ 0 then am_Rn L xs d 22 23 ls st σ Q else am_Rn L xs d 22 19 ls st σ Q := (am_r_if (t := 23) d22_16 (by decide)).trans (am_ite _ _ trivial (by simp only [am_cond, decide_eq_true_eq]))
theorem r22_19  : am_Rn L xs d 22 19 ls st σ Q = am_Rn L xs d 22 20 ls (.int 1 :: st) σ Q := am_r_iconst d22_19 (by decide)
theorem r22_20  : am_Rn L xs d 22 20 ls st σ Q = am_Rn L xs d 22 24 ls st σ Q := am_r_goto d22_20 (by decide)
theorem r22_23  : am_Rn L xs d 22 23 ls st σ Q = am_Rn L xs d 22 24 ls (.int 0 :: st) σ Q := am_r_iconst d22_23 (by decide)
theorem r22_24 {v : Int32} (hv : v = 0 ∨ v = 1) : am_Rn L xs d 22 24 ls [.int v] σ Q = Q (some (.int v)) σ := am_r_zreturn d22_24 rfl hv
theorem d56_0 : decode (pg_code 56) 0 = .ok (.aload_n 0, 1) := by decide +kernel
theorem d56_1 : decode (pg_code 56) 1 = .ok (.getfield 44, 3) := by decide +kernel
theorem d56_4 : decode (pg_code 56) 4 = .ok (.ifCond .eq 28, 3) := by decide +kernel
theorem d56_32 : decode (pg_code 56) 32 = .ok (.iconst (-1), 1) := by decide +kernel
theorem d56_33 : decode (pg_code 56) 33 = .ok (.ireturn, 1) := by decide +kernel
theorem e56 {b1 b2 : Value} : am_Call L xs d 56 [b1, b2] σ Q = am_Rn L xs d 56 0 [b1, b2] [] σ Q := rfl
theorem r56_0  : am_Rn L xs d 56 0 ls st σ Q = am_la ls 0 (fun x => am_Rn L xs d 56 1 ls (x :: st) σ Q) := am_r_aload_n d56_0
theorem r56_1 {p : Nat} : am_Rn L xs d 56 1 ls (.ref p :: st) σ Q = am_fd σ p 0 6 (fun v => am_Rn L xs d 56 4 ls (v :: st) σ Q) := am_r_getfield d56_1 rfl
theorem r56_4 {a : Int32} : am_Rn L xs d 56 4 ls (.int a :: st) σ Q = if a = 0 then am_Rn L xs d 56 32 ls st σ Q else am_Rn L xs d 56 7 ls st σ Q := (am_r_if (t := 32) d56_4 (by decide)).trans (am_ite _ _ trivial (by simp only [am_cond, decide_eq_true_eq]))
theorem r56_32  : am_Rn L xs d 56 32 ls st σ Q = am_Rn L xs d 56 33 ls (.int (-1) :: st) σ Q := am_r_iconst d56_32 (by decide)
theorem r56_33 {v : Int32} : am_Rn L xs d 56 33 ls [.int v] σ Q = Q (some (.int v)) σ := am_r_ireturn d56_33 rfl
theorem d57_0 : decode (pg_code 57) 0 = .ok (.aload_n 0, 1) := by decide +kernel
theorem d57_1 : decode (pg_code 57) 1 = .ok (.getfield 44, 3) := by decide +kernel
theorem d57_4 : decode (pg_code 57) 4 = .ok (.ifCond .eq 31, 3) := by decide +kernel
theorem d57_35 : decode (pg_code 57) 35 = .ok (.bipush (-2), 2) := by decide +kernel
theorem d57_37 : decode (pg_code 57) 37 = .ok (.ireturn, 1) := by decide +kernel
theorem e57 {b1 b2 b3 : Value} : am_Call L xs d 57 [b1, b2, b3] σ Q = am_Rn L xs d 57 0 [b1, b2, b3] [] σ Q := rfl
theorem r57_0  : am_Rn L xs d 57 0 ls st σ Q = am_la ls 0 (fun x => am_Rn L xs d 57 1 ls (x :: st) σ Q) := am_r_aload_n d57_0
theorem r57_1 {p : Nat} : am_Rn L xs d 57 1 ls (.ref p :: st) σ Q = am_fd σ p 0 6 (fun v => am_Rn L xs d 57 4 ls (v :: st) σ Q) := am_r_getfield d57_1 rfl
theorem r57_4 {a : Int32} : am_Rn L xs d 57 4 ls (.int a :: st) σ Q = if a = 0 then am_Rn L xs d 57 35 ls st σ Q else am_Rn L xs d 57 7 ls st σ Q := (am_r_if (t := 35) d57_4 (by decide)).trans (am_ite _ _ trivial (by simp only [am_cond, decide_eq_true_eq]))
theorem r57_35  : am_Rn L xs d 57 35 ls st σ Q = am_Rn L xs d 57 37 ls (.int (-2) :: st) σ Q := am_r_bipush d57_35 (by decide)
theorem r57_37 {v : Int32} : am_Rn L xs d 57 37 ls [.int v] σ Q = Q (some (.int v)) σ := am_r_ireturn d57_37 rfl
theorem d59_0 : decode (pg_code 59) 0 = .ok (.aload_n 0, 1) := by decide +kernel
theorem d59_1 : decode (pg_code 59) 1 = .ok (.getfield 44, 3) := by decide +kernel
theorem d59_4 : decode (pg_code 59) 4 = .ok (.ifCond .eq 17, 3) := by decide +kernel
theorem d59_21 : decode (pg_code 59) 21 = .ok (.iconst 0, 1) := by decide +kernel
theorem d59_22 : decode (pg_code 59) 22 = .ok (.ireturn, 1) := by decide +kernel
theorem e59 {b1 b2 : Value} : am_Call L xs d 59 [b1, b2] σ Q = am_Rn L xs d 59 0 [b1, b2] [] σ Q := rfl
theorem r59_0  : am_Rn L xs d 59 0 ls st σ Q = am_la ls 0 (fun x => am_Rn L xs d 59 1 ls (x :: st) σ Q) := am_r_aload_n d59_0
theorem r59_1 {p : Nat} : am_Rn L xs d 59 1 ls (.ref p :: st) σ Q = am_fd σ p 0 6 (fun v => am_Rn L xs d 59 4 ls (v :: st) σ Q) := am_r_getfield d59_1 rfl
theorem r59_4 {a : Int32} : am_Rn L xs d 59 4 ls (.int a :: st) σ Q = if a = 0 then am_Rn L xs d 59 21 ls st σ Q else am_Rn L xs d 59 7 ls st σ Q := (am_r_if (t := 21) d59_4 (by decide)).trans (am_ite _ _ trivial (by simp only [am_cond, decide_eq_true_eq]))
theorem r59_21  : am_Rn L xs d 59 21 ls st σ Q = am_Rn L xs d 59 22 ls (.int 0 :: st) σ Q := am_r_iconst d59_21 (by decide)
theorem r59_22 {v : Int32} : am_Rn L xs d 59 22 ls [.int v] σ Q = Q (some (.int v)) σ := am_r_ireturn d59_22 rfl
theorem d61_0 : decode (pg_code 61) 0 = .ok (.aload_n 0, 1) := by decide +kernel
theorem d61_1 : decode (pg_code 61) 1 = .ok (.getfield 44, 3) := by decide +kernel
theorem d61_4 : decode (pg_code 61) 4 = .ok (.ifCond .eq 21, 3) := by decide +kernel
theorem d61_25 : decode (pg_code 61) 25 = .ok (.iconst (-1), 1) := by decide +kernel
theorem d61_26 : decode (pg_code 61) 26 = .ok (.ireturn, 1) := by decide +kernel
theorem e61 {b1 b2 : Value} : am_Call L xs d 61 [b1, b2] σ Q = am_Rn L xs d 61 0 [b1, b2] [] σ Q := rfl
theorem r61_0  : am_Rn L xs d 61 0 ls st σ Q = am_la ls 0 (fun x => am_Rn L xs d 61 1 ls (x :: st) σ Q) := am_r_aload_n d61_0
theorem r61_1 {p : Nat} : am_Rn L xs d 61 1 ls (.ref p :: st) σ Q = am_fd σ p 0 6 (fun v => am_Rn L xs d 61 4 ls (v :: st) σ Q) := am_r_getfield d61_1 rfl
theorem r61_4 {a : Int32} : am_Rn L xs d 61 4 ls (.int a :: st) σ Q = if a = 0 then am_Rn L xs d 61 25 ls st σ Q else am_Rn L xs d 61 7 ls st σ Q := (am_r_if (t := 25) d61_4 (by decide)).trans (am_ite _ _ trivial (by simp only [am_cond, decide_eq_true_eq]))
theorem r61_25  : am_Rn L xs d 61 25 ls st σ Q = am_Rn L xs d 61 26 ls (.int (-1) :: st) σ Q := am_r_iconst d61_25 (by decide)
theorem r61_26 {v : Int32} : am_Rn L xs d 61 26 ls [.int v] σ Q = Q (some (.int v)) σ := am_r_ireturn d61_26 rfl
theorem d67_0 : decode (pg_code 67) 0 = .ok (.aload_n 0, 1) := by decide +kernel
theorem d67_1 : decode (pg_code 67) 1 = .ok (.iconst 0, 1) := by decide +kernel
theorem d67_2 : decode (pg_code 67) 2 = .ok (.invokevirtual 88, 3) := by decide +kernel
theorem d67_5 : decode (pg_code 67) 5 = .ok (.ifCond .eq 19, 3) := by decide +kernel
theorem d67_24 : decode (pg_code 67) 24 = .ok (.iconst (-1), 1) := by decide +kernel
theorem d67_25 : decode (pg_code 67) 25 = .ok (.ireturn, 1) := by decide +kernel
theorem e67 {b1 : Value} : am_Call L xs d 67 [b1] σ Q = am_Rn L xs d 67 0 [b1, .retAddr 0] [] σ Q := rfl
theorem r67_0  : am_Rn L xs d 67 0 ls st σ Q = am_la ls 0 (fun x => am_Rn L xs d 67 1 ls (x :: st) σ Q) := am_r_aload_n d67_0
theorem r67_1  : am_Rn L xs d 67 1 ls st σ Q = am_Rn L xs d 67 2 ls (.int 0 :: st) σ Q := am_r_iconst d67_1 (by decide)
theorem r67_2 {a1 : Value} {p : Nat} : am_Rn L xs (d + 1) 67 2 ls (a1 :: .ref p :: st) σ Q = ((am_oc σ p = 0 ∧ st.length ≤ 4 ∧ am_ok a1 = true) ∧ am_Call L xs d 22 [.ref p, a1] σ (fun r σ1 => am_Rn L xs (d + 1) 67 5 ls (r.toList ++ st) σ1 Q)) := am_R_virtual1 d67_2 rfl ⟨by decide, rfl⟩ rfl rfl (by decide)
theorem r67_5 {a : Int32} : am_Rn L xs d 67 5 ls (.int a :: st) σ Q = if a = 0 then am_Rn L xs d 67 24 ls st σ Q else am_Rn L xs d 67 8 ls st σ Q := (am_r_if (t := 24) d67_5 (by decide)).trans (am_ite _ _ trivial (by simp only [am_cond, decide_eq_true_eq]))
theorem r67_24  : am_Rn L xs d 67 24 ls st σ Q = am_Rn L xs d 67 25 ls (.int (-1) :: st) σ Q := am_r_iconst d67_24 (by decide)
theorem r67_25 {v : Int32} : am_Rn L xs d 67 25 ls [.int v] σ Q = Q (some (.int v)) σ := am_r_ireturn d67_25 rfl
theorem d81_0 : decode (pg_code 81) 0 = .ok (.aload_n 0, 1) := by decide +kernel
theorem d81_1 : decode (pg_code 81) 1 = .ok (.getfield 48, 3) := by decide +kernel
theorem d81_4 : decode (pg_code 81) 4 = .ok (.ifCond .eq 14, 3) := by decide +kernel
theorem d81_18 : decode (pg_code 81) 18 = .ok (.bipush (-2), 2) := by decide +kernel
theorem d81_20 : decode (pg_code 81) 20 = .ok (.ireturn, 1) := by decide +kernel
theorem e81 {b1 b2 b3 : Value} : am_Call L xs d 81 [b1, b2, b3] σ Q = am_Rn L xs d 81 0 [b1, b2, b3] [] σ Q := rfl
theorem r81_0  : am_Rn L xs d 81 0 ls st σ Q = am_la ls 0 (fun x => am_Rn L xs d 81 1 ls (x :: st) σ Q) := am_r_aload_n d81_0
theorem r81_1 {p : Nat} : am_Rn L xs d 81 1 ls (.ref p :: st) σ Q = am_fd σ p 0 7 (fun v => am_Rn L xs d 81 4 ls (v :: st) σ Q) := am_r_getfield d81_1 rfl
theorem r81_4 {a : Int32} : am_Rn L xs d 81 4 ls (.int a :: st) σ Q = if a = 0 then am_Rn L xs d 81 18 ls st σ Q else am_Rn L xs d 81 7 ls st σ Q := (am_r_if (t := 18) d81_4 (by decide)).trans (am_ite _ _ trivial (by simp only [am_cond, decide_eq_true_eq]))
theorem r81_18  : am_Rn L xs d 81 18 ls st σ Q = am_Rn L xs d 81 20 ls (.int (-2) :: st) σ Q := am_r_bipush d81_18 (by decide)
theorem r81_20 {v : Int32} : am_Rn L xs d 81 20 ls [.int v] σ Q = Q (some (.int v)) σ := am_r_ireturn d81_20 rfl
theorem d82_0 : decode (pg_code 82) 0 = .ok (.aload_n 0, 1) := by decide +kernel
theorem d82_1 : decode (pg_code 82) 1 = .ok (.getfield 48, 3) := by decide +kernel
theorem d82_4 : decode (pg_code 82) 4 = .ok (.ifCond .eq 53, 3) := by decide +kernel
theorem d82_57 : decode (pg_code 82) 57 = .ok (.iconst 0, 1) := by decide +kernel
theorem d82_58 : decode (pg_code 82) 58 = .ok (.ireturn, 1) := by decide +kernel
theorem e82 {b1 b2 : Value} : am_Call L xs d 82 [b1, b2] σ Q = am_Rn L xs d 82 0 [b1, b2] [] σ Q := rfl
theorem r82_0  : am_Rn L xs d 82 0 ls st σ Q = am_la ls 0 (fun x => am_Rn L xs d 82 1 ls (x :: st) σ Q) := am_r_aload_n d82_0
theorem r82_1 {p : Nat} : am_Rn L xs d 82 1 ls (.ref p :: st) σ Q = am_fd σ p 0 7 (fun v => am_Rn L xs d 82 4 ls (v :: st) σ Q) := am_r_getfield d82_1 rfl
theorem r82_4 {a : Int32} : am_Rn L xs d 82 4 ls (.int a :: st) σ Q = if a = 0 then am_Rn L xs d 82 57 ls st σ Q else am_Rn L xs d 82 7 ls st σ Q := (am_r_if (t := 57) d82_4 (by decide)).trans (am_ite _ _ trivial (by simp only [am_cond, decide_eq_true_eq]))
theorem r82_57  : am_Rn L xs d 82 57 ls st σ Q = am_Rn L xs d 82 58 ls (.int 0 :: st) σ Q := am_r_iconst d82_57 (by decide)
theorem r82_58 {v : Int32} (hv : v = 0 ∨ v = 1) : am_Rn L xs d 82 58 ls [.int v] σ Q = Q (some (.int v)) σ := am_r_zreturn d82_58 rfl hv
end
end
section
/-! Rows of the program's instructions, written by program (wip/gen/gen_rows.py) -/
section
variable {L : Nat} {xs : Nat → Int32} {d : Nat} {ls st : List Value} {σ : am_S} {Q : Option Value → am_S → Prop}
theorem d9_0 : decode (pg_code 9) 0 = .ok (.iload_n 1, 1) := by decide +kernel
theorem d9_1 : decode (pg_code 9) 1 = .ok (.ifCond .lt 26, 3) := by decide +kernel
theorem d9_4 : decode (pg_code 9) 4 = .ok (.iload_n 1, 1) := by decide +kernel
theorem d9_5 : decode (pg_code 9) 5 = .ok (.aload_n 0, 1) := by decide +kernel
theorem d9_6 : decode (pg_code 9) 6 = .ok (.getfield 30, 3) := by decide +kernel
theorem d9_9 : decode (pg_code 9) 9 = .ok (.if_icmp .ge 18, 3) := by decide +kernel
theorem d9_12 : decode (pg_code 9) 12 = .ok (.aload_n 0, 1) := by decide +kernel
theorem d9_13 : decode (pg_code 9) 13 = .ok (.getfield 9, 3) := by decide +kernel
theorem d9_16 : decode (pg_code 9) 16 = .ok (.iload_n 1, 1) := by decide +kernel
theorem d9_17 : decode (pg_code 9) 17 = .ok (.iaload, 1) := by decide +kernel
theorem d9_18 : decode (pg_code 9) 18 = .ok (.bipush (-2), 2) := by decide +kernel
theorem d9_20 : decode (pg_code 9) 20 = .ok (.if_icmp .eq 7, 3) := by decide +kernel
theorem d9_23 : decode (pg_code 9) 23 = .ok (.iconst 1, 1) := by decide +kernel
theorem d9_24 : decode (pg_code 9) 24 = .ok (.goto 4, 3) := by decide +kernel
theorem d9_27 : decode (pg_code 9) 27 = .ok (.iconst 0, 1) := by decide +kernel
theorem d9_28 : decode (pg_code 9) 28 = .ok (.ireturn, 1) := by decide +kernel
theorem e9 {b1 b2 : Value} : am_Call L xs d 9 [b1, b2] σ Q = am_Rn L xs d 9 0 [b1, b2] [] σ Q := rfl
theorem r9_0  : am_Rn L xs d 9 0 ls st σ Q = am_li ls 1 (fun x => am_Rn L xs d 9 1 ls (.int x :: st) σ Q) := am_r_iload_n d9_0
theorem r9_1 {a : Int32} : am_Rn L xs d 9 1 ls (.int a :: st) σ Q = if a < 0 then am_Rn L xs d 9 27 ls st σ Q else am_Rn L xs d 9 4 ls st σ Q := (am_r_if (t := 27) d9_1 (by decide)).trans (am_ite _ _ trivial (by simp only [am_cond, decide_eq_true_eq]))
theorem r9_4  : am_Rn L xs d 9 4 ls st σ Q = am_li ls 1 (fun x => am_Rn L xs d 9 5 ls (.int x :: st) σ Q) := am_r_iload_n d9_4
theorem r9_5  : am_Rn L xs d 9 5 ls st σ Q = am_la ls 0 (fun x => am_Rn L xs d 9 6 ls (x :: st) σ Q) := am_r_aload_n d9_5
theorem r9_6 {p : Nat} : am_Rn L xs d 9 6 ls (.ref p :: st) σ Q = am_fd σ p 1 4 (fun v => am_Rn L xs d 9 9 ls (v :: st) σ Q) := am_r_getfield d9_6 rfl
theorem r9_9 {a b : Int32} : am_Rn L xs d 9 9 ls (.int b :: .int a :: st) σ Q = if b ≤ a then am_Rn L xs d 9 27 ls st σ Q else am_Rn L xs d 9 12 ls st σ Q := (am_r_icmp (t := 27) d9_9 (by decide)).trans (am_ite _ _ trivial (by simp only [am_cond, decide_eq_true_eq]))
theorem r9_12  : am_Rn L xs d 9 12 ls st σ Q = am_la ls 0 (fun x => am_Rn L xs d 9 13 ls (x :: st) σ Q) := am_r_aload_n d9_12
theorem r9_13 {p : Nat} : am_Rn L xs d 9 13 ls (.ref p :: st) σ Q = am_fd σ p 1 0 (fun v => am_Rn L xs d 9 16 ls (v :: st) σ Q) := am_r_getfield d9_13 rfl
theorem r9_16  : am_Rn L xs d 9 16 ls st σ Q = am_li ls 1 (fun x => am_Rn L xs d 9 17 ls (.int x :: st) σ Q) := am_r_iload_n d9_16
theorem r9_17 {p : Nat} {i : Int32} : am_Rn L xs d 9 17 ls (.int i :: .ref p :: st) σ Q = am_ai 0 σ p i (fun x => am_Rn L xs d 9 18 ls (.int x :: st) σ Q) := am_r_iaload d9_17
theorem r9_18  : am_Rn L xs d 9 18 ls st σ Q = am_Rn L xs d 9 20 ls (.int (-2) :: st) σ Q := am_r_bipush d9_18 (by decide)
theorem r9_20 {a b : Int32} : am_Rn L xs d 9 20 ls (.int b :: .int a :: st) σ Q = if a = b then am_Rn L xs d 9 27 ls st σ Q else am_Rn L xs d 9 23 ls st σ Q := (am_r_icmp (t := 27) d9_20 (by decide)).trans (am_ite _ _ trivial (by simp only [am_cond, decide_eq_true_eq]))
theorem r9_23  : am_Rn L xs d 9 23 ls st σ Q = am_Rn L xs d 9 24 ls (.int 1 :: st) σ Q := am_r_iconst d9_23 (by decide)
theorem r9_24  : am_Rn L xs d 9 24 ls st σ Q = am_Rn L xs d 9 28 ls st σ Q := am_r_goto d9_24 (by decide)
theorem r9_27  : am_Rn L xs d 9 27 ls st σ Q = am_Rn L xs d 9 28 ls (.int 0 :: st) σ Q := am_r_iconst d9_27 (by decide)
theorem r9_28 {v : Int32} (hv : v = 0 ∨ v = 1) : am_Rn L xs d 9 28 ls [.int v] σ Q = Q (some (.int v)) σ := am_r_zreturn d9_28 rfl hv
theorem d10_0 : decode (pg_code 10) 0 = .ok (.iconst 0, 1) := by decide +kernel
theorem d10_1 : decode (pg_code 10) 1 = .ok (.istore_n 2, 1) := by decide +kernel
theorem d10_2 : decode (pg_code 10) 2 = .ok (.iconst 0, 1) := by decide +kernel
theorem d10_3 : decode (pg_code 10) 3 = .ok (.istore_n 3, 1) := by decide +kernel
theorem d10_4 : decode (pg_code 10) 4 = .ok (.iload_n 3, 1) := by decide +kernel
theorem d10_5 : decode (pg_code 10) 5 = .ok (.aload_n 0, 1) := by decide +kernel
theorem d10_6 : decode (pg_code 10) 6 = .ok (.getfield 30, 3) := by decide +kernel
theorem d10_9 : decode (pg_code 10) 9 = .ok (.if_icmp .ge 22, 3) := by decide +kernel
theorem d10_31 : decode (pg_code 10) 31 = .ok (.iload_n 2, 1) := by decide +kernel
theorem d10_32 : decode (pg_code 10) 32 = .ok (.ireturn, 1) := by decide +kernel
theorem e10 {b1 b2 : Value} : am_Call L xs d 10 [b1, b2] σ Q = am_Rn L xs d 10 0 [b1, b2, .retAddr 0, .retAddr 0] [] σ Q := rfl
theorem r10_0  : am_Rn L xs d 10 0 ls st σ Q = am_Rn L xs d 10 1 ls (.int 0 :: st) σ Q := am_r_iconst d10_0 (by decide)
theorem r10_1 {x : Int32} : am_Rn L xs d 10 1 ls (.int x :: st) σ Q = (2 < ls.length ∧ am_Rn L xs d 10 2 (ls.set 2 (.int x)) st σ Q) := am_r_istore_n d10_1
theorem r10_2  : am_Rn L xs d 10 2 ls st σ Q = am_Rn L xs d 10 3 ls (.int 0 :: st) σ Q := am_r_iconst d10_2 (by decide)
theorem r10_3 {x : Int32} : am_Rn L xs d 10 3 ls (.int x :: st) σ Q = (3 < ls.length ∧ am_Rn L xs d 10 4 (ls.set 3 (.int x)) st σ Q) := am_r_istore_n d10_3
theorem r10_4  : am_Rn L xs d 10 4 ls st σ Q = am_li ls 3 (fun x => am_Rn L xs d 10 5 ls (.int x :: st) σ Q) := am_r_iload_n d10_4
theorem r10_5  : am_Rn L xs d 10 5 ls st σ Q = am_la ls 0 (fun x => am_Rn L xs d 10 6 ls (x :: st) σ Q) := am_r_aload_n d10_5
theorem r10_6 {p : Nat} : am_Rn L xs d 10 6 ls (.ref p :: st) σ Q = am_fd σ p 1 4 (fun v => am_Rn L xs d 10 9 ls (v :: st) σ Q) := am_r_getfield d10_6 rfl
theorem r10_9 {a b : Int32} : am_Rn L xs d 10 9 ls (.int b :: .int a :: st) σ Q = if b ≤ a then am_Rn L xs d 10 31 ls st σ Q else am_Rn L xs d 10 12 ls st σ Q := (am_r_icmp (t := 31) d10_9 (by decide)).trans (am_ite _ _ trivial (by simp only [am_cond, decide_eq_true_eq]))
theorem r10_31  : am_Rn L xs d 10 31 ls st σ Q = am_li ls 2 (fun x => am_Rn L xs d 10 32 ls (.int x :: st) σ Q) := am_r_iload_n d10_31
theorem r10_32 {v : Int32} : am_Rn L xs d 10 32 ls [.int v] σ Q = Q (some (.int v)) σ := am_r_ireturn d10_32 rfl
theorem d11_0 : decode (pg_code 11) 0 = .ok (.iconst 0, 1) := by decide +kernel
theorem d11_1 : decode (pg_code 11) 1 = .ok (.istore_n 3, 1) := by decide +kernel
theorem d11_2 : decode (pg_code 11) 2 = .ok (.iload_n 3, 1) := by decide +kernel
theorem d11_3 : decode (pg_code 11) 3 = .ok (.aload_n 0, 1) := by decide +kernel
theorem d11_4 : decode (pg_code 11) 4 = .ok (.getfield 30, 3) := by decide +kernel
theorem d11_7 : decode (pg_code 11) 7 = .ok (.if_icmp .ge 31, 3) := by decide +kernel
theorem d11_38 : decode (pg_code 11) 38 = .ok (.iconst (-1), 1) := by decide +kernel
theorem d11_39 : decode (pg_code 11) 39 = .ok (.ireturn, 1) := by decide +kernel
theorem e11 {b1 b2 b3 : Value} : am_Call L xs d 11 [b1, b2, b3] σ Q = am_Rn L xs d 11 0 [b1, b2, b3, .retAddr 0] [] σ Q := rfl
theorem r11_0  : am_Rn L xs d 11 0 ls st σ Q = am_Rn L xs d 11 1 ls (.int 0 :: st) σ Q := am_r_iconst d11_0 (by decide)
theorem r11_1 {x : Int32} : am_Rn L xs d 11 1 ls (.int x :: st) σ Q = (3 < ls.length ∧ am_Rn L xs d 11 2 (ls.set 3 (.int x)) st σ Q) := am_r_istore_n d11_1
theorem r11_2  : am_Rn L xs d 11 2 ls st σ Q = am_li ls 3 (fun x => am_Rn L xs d 11 3 ls (.int x :: st) σ Q) := am_r_iload_n d11_2
theorem r11_3  : am_Rn L xs d 11 3 ls st σ Q = am_la ls 0 (fun x => am_Rn L xs d 11 4 ls (x :: st) σ Q) := am_r_aload_n d11_3
theorem r11_4 {p : Nat} : am_Rn L xs d 11 4 ls (.ref p :: st) σ Q = am_fd σ p 1 4 (fun v => am_Rn L xs d 11 7 ls (v :: st) σ Q) := am_r_getfield d11_4 rfl
theorem r11_7 {a b : Int32} : am_Rn L xs d 11 7 ls (.int b :: .int a :: st) σ Q = if b ≤ a then am_Rn L xs d 11 38 ls st σ Q else am_Rn L xs d 11 10 ls st σ Q := (am_r_icmp (t := 38) d11_7 (by decide)).trans (am_ite _ _ trivial (by simp only [am_cond, decide_eq_true_eq]))
theorem r11_38  : am_Rn L xs d 11 38 ls st σ Q = am_Rn L xs d 11 39 ls (.int (-1) :: st) σ Q := am_r_iconst d11_38 (by decide)
theorem r11_39 {v : Int32} : am_Rn L xs d 11 39 ls [.int v] σ Q = Q (some (.int v)) σ := am_r_ireturn d11_39 rfl
theorem d12_0 : decode (pg_code 12) 0 = .ok (.iload_n 1, 1) := by decide +kernel
theorem d12_1 : decode (pg_code 12) 1 = .ok (.ifCond .lt 12, 3) := by decide +kernel
theorem d12_4 : decode (pg_code 12) 4 = .ok (.iload_n 1, 1) := by decide +kernel
theorem d12_5 : decode (pg_code 12) 5 = .ok (.aload_n 0, 1) := by decide +kernel
theorem d12_6 : decode (pg_code 12) 6 = .ok (.getfield 9, 3) := by decide +kernel
theorem d12_9 : decode (pg_code 12) 9 = .ok (.arraylength, 1) := by decide +kernel
theorem d12_10 : decode (pg_code 12) 10 = .ok (.if_icmp .lt 4, 3) := by decide +kernel
theorem d12_13 : decode (pg_code 12) 13 = .ok (.return_, 1) := by decide +kernel
theorem d12_14 : decode (pg_code 12) 14 = .ok (.aload_n 0, 1) := by decide +kernel
theorem d12_15 : decode (pg_code 12) 15 = .ok (.getfield 18, 3) := by decide +kernel
theorem d12_18 : decode (pg_code 12) 18 = .ok (.iload_n 1, 1) := by decide +kernel
theorem d12_19 : decode (pg_code 12) 19 = .ok (.iload_n 2, 1) := by decide +kernel
theorem d12_20 : decode (pg_code 12) 20 = .ok (.iastore, 1) := by decide +kernel
theorem d12_21 : decode (pg_code 12) 21 = .ok (.aload_n 0, 1) := by decide +kernel
theorem d12_22 : decode (pg_code 12) 22 = .ok (.getfield 21, 3) := by decide +kernel
theorem d12_25 : decode (pg_code 12) 25 = .ok (.iload_n 1, 1) := by decide +kernel
theorem d12_26 : decode (pg_code 12) 26 = .ok (.iload_n 3, 1) := by decide +kernel
theorem d12_27 : decode (pg_code 12) 27 = .ok (.iastore, 1) := by decide +kernel
theorem d12_28 : decode (pg_code 12) 28 = .ok (.aload_n 0, 1) := by decide +kernel
theorem d12_29 : decode (pg_code 12) 29 = .ok (.aload_n 0, 1) := by decide +kernel
theorem d12_30 : decode (pg_code 12) 30 = .ok (.getfield 30, 3) := by decide +kernel
theorem d12_33 : decode (pg_code 12) 33 = .ok (.iload_n 1, 1) := by decide +kernel
theorem d12_34 : decode (pg_code 12) 34 = .ok (.iconst 1, 1) := by decide +kernel
theorem d12_35 : decode (pg_code 12) 35 = .ok (.iadd, 1) := by decide +kernel
theorem d12_36 : decode (pg_code 12) 36 = .ok (.invokestatic 49, 3) := by decide +kernel
theorem d12_39 : decode (pg_code 12) 39 = .ok (.putfield 30, 3) := by decide +kernel
theorem d12_42 : decode (pg_code 12) 42 = .ok (.return_, 1) := by decide +kernel
theorem e12 {b1 b2 b3 b4 : Value} : am_Call L xs d 12 [b1, b2, b3, b4] σ Q = am_Rn L xs d 12 0 [b1, b2, b3, b4] [] σ Q := rfl
theorem r12_0  : am_Rn L xs d 12 0 ls st σ Q = am_li ls 1 (fun x => am_Rn L xs d 12 1 ls (.int x :: st) σ Q) := am_r_iload_n d12_0
theorem r12_1 {a : Int32} : am_Rn L xs d 12 1 ls (.int a :: st) σ Q = if a < 0 then am_Rn L xs d 12 13 ls st σ Q else am_Rn L xs d 12 4 ls st σ Q := (am_r_if (t := 13) d12_1 (by decide)).trans (am_ite _ _ trivial (by simp only [am_cond, decide_eq_true_eq]))
theorem r12_4  : am_Rn L xs d 12 4 ls st σ Q = am_li ls 1 (fun x => am_Rn L xs d 12 5 ls (.int x :: st) σ Q) := am_r_iload_n d12_4
theorem r12_5  : am_Rn L xs d 12 5 ls st σ Q = am_la ls 0 (fun x => am_Rn L xs d 12 6 ls (x :: st) σ Q) := am_r_aload_n d12_5
theorem r12_6 {p : Nat} : am_Rn L xs d 12 6 ls (.ref p :: st) σ Q = am_fd σ p 1 0 (fun v => am_Rn L xs d 12 9 ls (v :: st) σ Q) := am_r_getfield d12_6 rfl
theorem r12_9 {p : Nat} : am_Rn L xs d 12 9 ls (.ref p :: st) σ Q = am_ln σ p (fun x => am_Rn L xs d 12 10 ls (.int x :: st) σ Q) := am_r_arraylength d12_9
theorem r12_10 {a b : Int32} : am_Rn L xs d 12 10 ls (.int b :: .int a :: st) σ Q = if a < b then am_Rn L xs d 12 14 ls st σ Q else am_Rn L xs d 12 13 ls st σ Q := (am_r_icmp (t := 14) d12_10 (by decide)).trans (am_ite _ _ trivial (by simp only [am_cond, decide_eq_true_eq]))
theorem r12_13  : am_Rn L xs d 12 13 ls [] σ Q = Q none σ := am_r_return d12_13 rfl
theorem r12_14  : am_Rn L xs d 12 14 ls st σ Q = am_la ls 0 (fun x => am_Rn L xs d 12 15 ls (x :: st) σ Q) := am_r_aload_n d12_14
theorem r12_15 {p : Nat} : am_Rn L xs d 12 15 ls (.ref p :: st) σ Q = am_fd σ p 1 2 (fun v => am_Rn L xs d 12 18 ls (v :: st) σ Q) := am_r_getfield d12_15 rfl
theorem r12_18  : am_Rn L xs d 12 18 ls st σ Q = am_li ls 1 (fun x => am_Rn L xs d 12 19 ls (.int x :: st) σ Q) := am_r_iload_n d12_18
theorem r12_19  : am_Rn L xs d 12 19 ls st σ Q = am_li ls 2 (fun x => am_Rn L xs d 12 20 ls (.int x :: st) σ Q) := am_r_iload_n d12_19
theorem r12_20 {p : Nat} {i x : Int32} : am_Rn L xs d 12 20 ls (.int x :: .int i :: .ref p :: st) σ Q = am_wi 0 σ p i x (fun σ1 => am_Rn L xs d 12 21 ls st σ1 Q) := am_r_iastore d12_20
theorem r12_21  : am_Rn L xs d 12 21 ls st σ Q = am_la ls 0 (fun x => am_Rn L xs d 12 22 ls (x :: st) σ Q) := am_r_aload_n d12_21
theorem r12_22 {p : Nat} : am_Rn L xs d 12 22 ls (.ref p :: st) σ Q = am_fd σ p 1 3 (fun v => am_Rn L xs d 12 25 ls (v :: st) σ Q) := am_r_getfield d12_22 rfl
theorem r12_25  : am_Rn L xs d 12 25 ls st σ Q = am_li ls 1 (fun x => am_Rn L xs d 12 26 ls (.int x :: st) σ Q) := am_r_iload_n d12_25
theorem r12_26  : am_Rn L xs d 12 26 ls st σ Q = am_li ls 3 (fun x => am_Rn L xs d 12 27 ls (.int x :: st) σ Q) := am_r_iload_n d12_26
theorem r12_27 {p : Nat} {i x : Int32} : am_Rn L xs d 12 27 ls (.int x :: .int i :: .ref p :: st) σ Q = am_wi 0 σ p i x (fun σ1 => am_Rn L xs d 12 28 ls st σ1 Q) := am_r_iastore d12_27
theorem r12_28  : am_Rn L xs d 12 28 ls st σ Q = am_la ls 0 (fun x => am_Rn L xs d 12 29 ls (x :: st) σ Q) := am_r_aload_n d12_28
theorem r12_29  : am_Rn L xs d 12 29 ls st σ Q = am_la ls 0 (fun x => am_Rn L xs d 12 30 ls (x :: st) σ Q) := am_r_aload_n d12_29
theorem r12_30 {p : Nat} : am_Rn L xs d 12 30 ls (.ref p :: st) σ Q = am_fd σ p 1 4 (fun v => am_Rn L xs d 12 33 ls (v :: st) σ Q) := am_r_getfield d12_30 rfl
theorem r12_33  : am_Rn L xs d 12 33 ls st σ Q = am_li ls 1 (fun x => am_Rn L xs d 12 34 ls (.int x :: st) σ Q) := am_r_iload_n d12_33
theorem r12_34  : am_Rn L xs d 12 34 ls st σ Q = am_Rn L xs d 12 35 ls (.int 1 :: st) σ Q := am_r_iconst d12_34 (by decide)
theorem r12_35 {a b : Int32} : am_Rn L xs d 12 35 ls (.int b :: .int a :: st) σ Q = am_Rn L xs d 12 36 ls (.int (a + b) :: st) σ Q := am_r_iadd d12_35
theorem r12_36 {a b : Int32} (hr : st.length ≤ 8) : am_Rn L xs (d + 1) 12 36 ls (.int b :: .int a :: st) σ Q = am_Rn L xs (d + 1) 12 39 ls (.int (if a < b then b else a) :: st) σ Q := am_r_sp d12_36 (Or.inr ⟨rfl, by decide⟩) rfl (by decide) (if_pos hr)
theorem r12_39 {p : Nat} {v : Value} : am_Rn L xs d 12 39 ls (v :: .ref p :: st) σ Q = am_wf 12 1 σ p 1 4 v (fun σ1 => am_Rn L xs d 12 42 ls st σ1 Q) := am_r_putfield d12_39 rfl
theorem r12_42  : am_Rn L xs d 12 42 ls [] σ Q = Q none σ := am_r_return d12_42 rfl
theorem d13_0 : decode (pg_code 13) 0 = .ok (.iload_n 1, 1) := by decide +kernel
theorem d13_1 : decode (pg_code 13) 1 = .ok (.ifCond .lt 11, 3) := by decide +kernel
theorem d13_4 : decode (pg_code 13) 4 = .ok (.iload_n 1, 1) := by decide +kernel
theorem d13_5 : decode (pg_code 13) 5 = .ok (.aload_n 0, 1) := by decide +kernel
theorem d13_6 : decode (pg_code 13) 6 = .ok (.getfield 30, 3) := by decide +kernel
theorem d13_9 : decode (pg_code 13) 9 = .ok (.if_icmp .lt 4, 3) := by decide +kernel
theorem d13_12 : decode (pg_code 13) 12 = .ok (.return_, 1) := by decide +kernel
theorem d13_13 : decode (pg_code 13) 13 = .ok (.aload_n 0, 1) := by decide +kernel
theorem d13_14 : decode (pg_code 13) 14 = .ok (.iload_n 3, 1) := by decide +kernel
theorem d13_15 : decode (pg_code 13) 15 = .ok (.invokevirtual 52, 3) := by decide +kernel
theorem d13_18 : decode (pg_code 13) 18 = .ok (.ifCond .eq 14, 3) := by decide +kernel
theorem d13_21 : decode (pg_code 13) 21 = .ok (.aload_n 0, 1) := by decide +kernel
theorem d13_22 : decode (pg_code 13) 22 = .ok (.getfield 15, 3) := by decide +kernel
theorem d13_25 : decode (pg_code 13) 25 = .ok (.iload_n 3, 1) := by decide +kernel
theorem d13_26 : decode (pg_code 13) 26 = .ok (.iaload, 1) := by decide +kernel
theorem d13_27 : decode (pg_code 13) 27 = .ok (.iconst 1, 1) := by decide +kernel
theorem d13_28 : decode (pg_code 13) 28 = .ok (.iadd, 1) := by decide +kernel
theorem d13_29 : decode (pg_code 13) 29 = .ok (.goto 4, 3) := by decide +kernel
theorem d13_32 : decode (pg_code 13) 32 = .ok (.iconst 0, 1) := by decide +kernel
theorem d13_33 : decode (pg_code 13) 33 = .ok (.istore 4, 2) := by decide +kernel
theorem d13_35 : decode (pg_code 13) 35 = .ok (.iconst 0, 1) := by decide +kernel
theorem d13_36 : decode (pg_code 13) 36 = .ok (.istore 5, 2) := by decide +kernel
theorem d13_38 : decode (pg_code 13) 38 = .ok (.iload 5, 2) := by decide +kernel
theorem d13_40 : decode (pg_code 13) 40 = .ok (.aload_n 0, 1) := by decide +kernel
theorem d13_41 : decode (pg_code 13) 41 = .ok (.getfield 30, 3) := by decide +kernel
theorem d13_44 : decode (pg_code 13) 44 = .ok (.if_icmp .ge 43, 3) := by decide +kernel
theorem d13_47 : decode (pg_code 13) 47 = .ok (.aload_n 0, 1) := by decide +kernel
theorem d13_48 : decode (pg_code 13) 48 = .ok (.getfield 9, 3) := by decide +kernel
theorem d13_51 : decode (pg_code 13) 51 = .ok (.iload 5, 2) := by decide +kernel
theorem d13_53 : decode (pg_code 13) 53 = .ok (.iaload, 1) := by decide +kernel
theorem d13_54 : decode (pg_code 13) 54 = .ok (.iload_n 2, 1) := by decide +kernel
theorem d13_55 : decode (pg_code 13) 55 = .ok (.if_icmp .ne 26, 3) := by decide +kernel
theorem d13_81 : decode (pg_code 13) 81 = .ok (.iinc 5 1, 3) := by decide +kernel
theorem d13_84 : decode (pg_code 13) 84 = .ok (.goto (-46), 3) := by decide +kernel
theorem d13_87 : decode (pg_code 13) 87 = .ok (.aload_n 0, 1) := by decide +kernel
theorem d13_88 : decode (pg_code 13) 88 = .ok (.getfield 9, 3) := by decide +kernel
theorem d13_91 : decode (pg_code 13) 91 = .ok (.iload_n 1, 1) := by decide +kernel
theorem d13_92 : decode (pg_code 13) 92 = .ok (.iload_n 2, 1) := by decide +kernel
theorem d13_93 : decode (pg_code 13) 93 = .ok (.iastore, 1) := by decide +kernel
theorem d13_94 : decode (pg_code 13) 94 = .ok (.aload_n 0, 1) := by decide +kernel
theorem d13_95 : decode (pg_code 13) 95 = .ok (.getfield 15, 3) := by decide +kernel
theorem d13_98 : decode (pg_code 13) 98 = .ok (.iload_n 1, 1) := by decide +kernel
theorem d13_99 : decode (pg_code 13) 99 = .ok (.iload 4, 2) := by decide +kernel
theorem d13_101 : decode (pg_code 13) 101 = .ok (.iastore, 1) := by decide +kernel
theorem d13_102 : decode (pg_code 13) 102 = .ok (.return_, 1) := by decide +kernel
theorem e13 {b1 b2 b3 b4 : Value} : am_Call L xs d 13 [b1, b2, b3, b4] σ Q = am_Rn L xs d 13 0 [b1, b2, b3, b4, .retAddr 0, .retAddr 0] [] σ Q := rfl
theorem r13_0  : am_Rn L xs d 13 0 ls st σ Q = am_li ls 1 (fun x => am_Rn L xs d 13 1 ls (.int x :: st) σ Q) := am_r_iload_n d13_0
theorem r13_1 {a : Int32} : am_Rn L xs d 13 1 ls (.int a :: st) σ Q = if a < 0 then am_Rn L xs d 13 12 ls st σ Q else am_Rn L xs d 13 4 ls st σ Q := (am_r_if (t := 12) d13_1 (by decide)).trans (am_ite _ _ trivial (by simp only [am_cond, decide_eq_true_eq]))
theorem r13_4  : am_Rn L xs d 13 4 ls st σ Q = am_li ls 1 (fun x => am_Rn L xs d 13 5 ls (.int x :: st) σ Q) := am_r_iload_n d13_4
theorem r13_5  : am_Rn L xs d 13 5 ls st σ Q = am_la ls 0 (fun x => am_Rn L xs d 13 6 ls (x :: st) σ Q) := am_r_aload_n d13_5
theorem r13_6 {p : Nat} : am_Rn L xs d 13 6 ls (.ref p :: st) σ Q = am_fd σ p 1 4 (fun v => am_Rn L xs d 13 9 ls (v :: st) σ Q) := am_r_getfield d13_6 rfl
theorem r13_9 {a b : Int32} : am_Rn L xs d 13 9 ls (.int b :: .int a :: st) σ Q = if a < b then am_Rn L xs d 13 13 ls st σ Q else am_Rn L xs d 13 12 ls st σ Q := (am_r_icmp (t := 13) d13_9 (by decide)).trans (am_ite _ _ trivial (by simp only [am_cond, decide_eq_true_eq]))
theorem r13_12  : am_Rn L xs d 13 12 ls [] σ Q = Q none σ := am_r_return d13_12 rfl
theorem r13_13  : am_Rn L xs d 13 13 ls st σ Q = am_la ls 0 (fun x => am_Rn L xs d 13 14 ls (x :: st) σ Q) := am_r_aload_n d13_13
theorem r13_14  : am_Rn L xs d 13 14 ls st σ Q = am_li ls 3 (fun x => am_Rn L xs d 13 15 ls (.int x :: st) σ Q) := am_r_iload_n d13_14
theorem r13_15 {a1 : Value} {p : Nat} : am_Rn L xs (d + 1) 13 15 ls (a1 :: .ref p :: st) σ Q = ((am_oc σ p = 1 ∧ st.length ≤ 4 ∧ am_ok a1 = true) ∧ am_Call L xs d 9 [.ref p, a1] σ (fun r σ1 => am_Rn L xs (d + 1) 13 18 ls (r.toList ++ st) σ1 Q)) := am_R_virtual1 d13_15 rfl ⟨by decide, rfl⟩ rfl rfl (by decide)
theorem r13_18 {a : Int32} : am_Rn L xs d 13 18 ls (.int a :: st) σ Q = if a = 0 then am_Rn L xs d 13 32 ls st σ Q else am_Rn L xs d 13 21 ls st σ Q := (am_r_if (t := 32) d13_18 (by decide)).trans (am_ite _ _ trivial (by simp only [am_cond, decide_eq_true_eq]))
theorem r13_21  : am_Rn L xs d 13 21 ls st σ Q = am_la ls 0 (fun x => am_Rn L xs d 13 22 ls (x :: st) σ Q) := am_r_aload_n d13_21
theorem r13_22 {p : Nat} : am_Rn L xs d 13 22 ls (.ref p :: st) σ Q = am_fd σ p 1 1 (fun v => am_Rn L xs d 13 25 ls (v :: st) σ Q) := am_r_getfield d13_22 rfl
theorem r13_25  : am_Rn L xs d 13 25 ls st σ Q = am_li ls 3 (fun x => am_Rn L xs d 13 26 ls (.int x :: st) σ Q) := am_r_iload_n d13_25
theorem r13_26 {p : Nat} {i : Int32} : am_Rn L xs d 13 26 ls (.int i :: .ref p :: st) σ Q = am_ai 0 σ p i (fun x => am_Rn L xs d 13 27 ls (.int x :: st) σ Q) := am_r_iaload d13_26
theorem r13_27  : am_Rn L xs d 13 27 ls st σ Q = am_Rn L xs d 13 28 ls (.int 1 :: st) σ Q := am_r_iconst d13_27 (by decide)
theorem r13_28 {a b : Int32} : am_Rn L xs d 13 28 ls (.int b :: .int a :: st) σ Q = am_Rn L xs d 13 29 ls (.int (a + b) :: st) σ Q := am_r_iadd d13_28
theorem r13_29  : am_Rn L xs d 13 29 ls st σ Q = am_Rn L xs d 13 33 ls st σ Q := am_r_goto d13_29 (by decide)
theorem r13_32  : am_Rn L xs d 13 32 ls st σ Q = am_Rn L xs d 13 33 ls (.int 0 :: st) σ Q := am_r_iconst d13_32 (by decide)
theorem r13_33 {x : Int32} : am_Rn L xs d 13 33 ls (.int x :: st) σ Q = (4 < ls.length ∧ am_Rn L xs d 13 35 (ls.set 4 (.int x)) st σ Q) := am_r_istore d13_33
theorem r13_35  : am_Rn L xs d 13 35 ls st σ Q = am_Rn L xs d 13 36 ls (.int 0 :: st) σ Q := am_r_iconst d13_35 (by decide)
theorem r13_36 {x : Int32} : am_Rn L xs d 13 36 ls (.int x :: st) σ Q = (5 < ls.length ∧ am_Rn L xs d 13 38 (ls.set 5 (.int x)) st σ Q) := am_r_istore d13_36
theorem r13_38  : am_Rn L xs d 13 38 ls st σ Q = am_li ls 5 (fun x => am_Rn L xs d 13 40 ls (.int x :: st) σ Q) := am_r_iload d13_38
theorem r13_40  : am_Rn L xs d 13 40 ls st σ Q = am_la ls 0 (fun x => am_Rn L xs d 13 41 ls (x :: st) σ Q) := am_r_aload_n d13_40
theorem r13_41 {p : Nat} : am_Rn L xs d 13 41 ls (.ref p :: st) σ Q = am_fd σ p 1 4 (fun v => am_Rn L xs d 13 44 ls (v :: st) σ Q) := am_r_getfield d13_41 rfl
theorem r13_44 {a b : Int32} : am_Rn L xs d 13 44 ls (.int b :: .int a :: st) σ Q = if b ≤ a then am_Rn L xs d 13 87 ls st σ Q else am_Rn L xs d 13 47 ls st σ Q := (am_r_icmp (t := 87) d13_44 (by decide)).trans (am_ite _ _ trivial (by simp only [am_cond, decide_eq_true_eq]))
theorem r13_47  : am_Rn L xs d 13 47 ls st σ Q = am_la ls 0 (fun x => am_Rn L xs d 13 48 ls (x :: st) σ Q) := am_r_aload_n d13_47
theorem r13_48 {p : Nat} : am_Rn L xs d 13 48 ls (.ref p :: st) σ Q = am_fd σ p 1 0 (fun v => am_Rn L xs d 13 51 ls (v :: st) σ Q) := am_r_getfield d13_48 rfl
theorem r13_51  : am_Rn L xs d 13 51 ls st σ Q = am_li ls 5 (fun x => am_Rn L xs d 13 53 ls (.int x :: st) σ Q) := am_r_iload d13_51
theorem r13_53 {p : Nat} {i : Int32} : am_Rn L xs d 13 53 ls (.int i :: .ref p :: st) σ Q = am_ai 0 σ p i (fun x => am_Rn L xs d 13 54 ls (.int x :: st) σ Q) := am_r_iaload d13_53
theorem r13_54  : am_Rn L xs d 13 54 ls st σ Q = am_li ls 2 (fun x => am_Rn L xs d 13 55 ls (.int x :: st) σ Q) := am_r_iload_n d13_54
theorem r13_55 {a b : Int32} : am_Rn L xs d 13 55 ls (.int b :: .int a :: st) σ Q = if ¬ a = b then am_Rn L xs d 13 81 ls st σ Q else am_Rn L xs d 13 58 ls st σ Q := (am_r_icmp (t := 81) d13_55 (by decide)).trans (am_ite _ _ trivial (by simp only [am_cond, decide_eq_true_eq]))
theorem r13_81  : am_Rn L xs d 13 81 ls st σ Q = am_li ls 5 (fun x => am_Rn L xs d 13 84 (ls.set 5 (.int (x + 1))) st σ Q) := am_r_iinc d13_81 (by decide)
theorem r13_84  : am_Rn L xs d 13 84 ls st σ Q = am_Rn L xs d 13 38 ls st σ Q := am_r_goto d13_84 (by decide)
theorem r13_87  : am_Rn L xs d 13 87 ls st σ Q = am_la ls 0 (fun x => am_Rn L xs d 13 88 ls (x :: st) σ Q) := am_r_aload_n d13_87
theorem r13_88 {p : Nat} : am_Rn L xs d 13 88 ls (.ref p :: st) σ Q = am_fd σ p 1 0 (fun v => am_Rn L xs d 13 91 ls (v :: st) σ Q) := am_r_getfield d13_88 rfl
theorem r13_91  : am_Rn L xs d 13 91 ls st σ Q = am_li ls 1 (fun x => am_Rn L xs d 13 92 ls (.int x :: st) σ Q) := am_r_iload_n d13_91
theorem r13_92  : am_Rn L xs d 13 92 ls st σ Q = am_li ls 2 (fun x => am_Rn L xs d 13 93 ls (.int x :: st) σ Q) := am_r_iload_n d13_92
theorem r13_93 {p : Nat} {i x : Int32} : am_Rn L xs d 13 93 ls (.int x :: .int i :: .ref p :: st) σ Q = am_wi 0 σ p i x (fun σ1 => am_Rn L xs d 13 94 ls st σ1 Q) := am_r_iastore d13_93
theorem r13_94  : am_Rn L xs d 13 94 ls st σ Q = am_la ls 0 (fun x => am_Rn L xs d 13 95 ls (x :: st) σ Q) := am_r_aload_n d13_94
theorem r13_95 {p : Nat} : am_Rn L xs d 13 95 ls (.ref p :: st) σ Q = am_fd σ p 1 1 (fun v => am_Rn L xs d 13 98 ls (v :: st) σ Q) := am_r_getfield d13_95 rfl
theorem r13_98  : am_Rn L xs d 13 98 ls st σ Q = am_li ls 1 (fun x => am_Rn L xs d 13 99 ls (.int x :: st) σ Q) := am_r_iload_n d13_98
theorem r13_99  : am_Rn L xs d 13 99 ls st σ Q = am_li ls 4 (fun x => am_Rn L xs d 13 101 ls (.int x :: st) σ Q) := am_r_iload d13_99
theorem r13_101 {p : Nat} {i x : Int32} : am_Rn L xs d 13 101 ls (.int x :: .int i :: .ref p :: st) σ Q = am_wi 0 σ p i x (fun σ1 => am_Rn L xs d 13 102 ls st σ1 Q) := am_r_iastore d13_101
theorem r13_102  : am_Rn L xs d 13 102 ls [] σ Q = Q none σ := am_r_return d13_102 rfl
theorem d15_0 : decode (pg_code 15) 0 = .ok (.aload_n 0, 1) := by decide +kernel
theorem d15_1 : decode (pg_code 15) 1 = .ok (.getfield 9, 3) := by decide +kernel
theorem d15_4 : decode (pg_code 15) 4 = .ok (.bipush (-2), 2) := by decide +kernel
theorem d15_6 : decode (pg_code 15) 6 = .ok (.invokestatic 24, 3) := by decide +kernel
theorem d15_9 : decode (pg_code 15) 9 = .ok (.aload_n 0, 1) := by decide +kernel
theorem d15_10 : decode (pg_code 15) 10 = .ok (.iconst 0, 1) := by decide +kernel
theorem d15_11 : decode (pg_code 15) 11 = .ok (.putfield 30, 3) := by decide +kernel
theorem d15_14 : decode (pg_code 15) 14 = .ok (.return_, 1) := by decide +kernel
theorem e15 {b1 : Value} : am_Call L xs d 15 [b1] σ Q = am_Rn L xs d 15 0 [b1] [] σ Q := rfl
theorem r15_0  : am_Rn L xs d 15 0 ls st σ Q = am_la ls 0 (fun x => am_Rn L xs d 15 1 ls (x :: st) σ Q) := am_r_aload_n d15_0
theorem r15_1 {p : Nat} : am_Rn L xs d 15 1 ls (.ref p :: st) σ Q = am_fd σ p 1 0 (fun v => am_Rn L xs d 15 4 ls (v :: st) σ Q) := am_r_getfield d15_1 rfl
theorem r15_4  : am_Rn L xs d 15 4 ls st σ Q = am_Rn L xs d 15 6 ls (.int (-2) :: st) σ Q := am_r_bipush d15_4 (by decide)
theorem r15_6 {a1 a2 : Value} : am_Rn L xs (d + 1) 15 6 ls (a2 :: a1 :: st) σ Q = ((st.length ≤ 4 ∧ am_ok a1 = true ∧ am_ok a2 = true) ∧ am_Call L xs d 2 [a1, a2] σ (fun r σ1 => am_Rn L xs (d + 1) 15 9 ls (r.toList ++ st) σ1 Q)) := am_R_static2 d15_6 rfl ⟨by decide, rfl⟩ rfl (by decide)
theorem r15_9  : am_Rn L xs d 15 9 ls st σ Q = am_la ls 0 (fun x => am_Rn L xs d 15 10 ls (x :: st) σ Q) := am_r_aload_n d15_9
theorem r15_10  : am_Rn L xs d 15 10 ls st σ Q = am_Rn L xs d 15 11 ls (.int 0 :: st) σ Q := am_r_iconst d15_10 (by decide)
theorem r15_11 {p : Nat} {v : Value} : am_Rn L xs d 15 11 ls (v :: .ref p :: st) σ Q = am_wf 15 1 σ p 1 4 v (fun σ1 => am_Rn L xs d 15 14 ls st σ1 Q) := am_r_putfield d15_11 rfl
theorem r15_14  : am_Rn L xs d 15 14 ls [] σ Q = Q none σ := am_r_return d15_14 rfl
theorem d20_0 : decode (pg_code 20) 0 = .ok (.iload 4, 2) := by decide +kernel
theorem d20_2 : decode (pg_code 20) 2 = .ok (.bipush 40, 2) := by decide +kernel
theorem d20_4 : decode (pg_code 20) 4 = .ok (.if_icmp .gt 19, 3) := by decide +kernel
theorem d20_7 : decode (pg_code 20) 7 = .ok (.aload_n 0, 1) := by decide +kernel
theorem d20_8 : decode (pg_code 20) 8 = .ok (.iload_n 1, 1) := by decide +kernel
theorem d20_9 : decode (pg_code 20) 9 = .ok (.invokevirtual 52, 3) := by decide +kernel
theorem d20_12 : decode (pg_code 20) 12 = .ok (.ifCond .eq 11, 3) := by decide +kernel
theorem d20_23 : decode (pg_code 20) 23 = .ok (.iconst 0, 1) := by decide +kernel
theorem d20_24 : decode (pg_code 20) 24 = .ok (.ireturn, 1) := by decide +kernel
theorem e20 {b1 b2 b3 b4 b5 : Value} : am_Call L xs d 20 [b1, b2, b3, b4, b5] σ Q = am_Rn L xs d 20 0 [b1, b2, b3, b4, b5, .retAddr 0, .retAddr 0] [] σ Q := rfl
theorem r20_0  : am_Rn L xs d 20 0 ls st σ Q = am_li ls 4 (fun x => am_Rn L xs d 20 2 ls (.int x :: st) σ Q) := am_r_iload d20_0
theorem r20_2  : am_Rn L xs d 20 2 ls st σ Q = am_Rn L xs d 20 4 ls (.int 40 :: st) σ Q := am_r_bipush d20_2 (by decide)
theorem r20_4 {a b : Int32} : am_Rn L xs d 20 4 ls (.int b :: .int a :: st) σ Q = if b < a then am_Rn L xs d 20 23 ls st σ Q else am_Rn L xs d 20 7 ls st σ Q := (am_r_icmp (t := 23) d20_4 (by decide)).trans (am_ite _ _ trivial (by simp only [am_cond, decide_eq_true_eq]))
theorem r20_7  : am_Rn L xs d 20 7 ls st σ Q = am_la ls 0 (fun x => am_Rn L xs d 20 8 ls (x :: st) σ Q) := am_r_aload_n d20_7
theorem r20_8  : am_Rn L xs d 20 8 ls st σ Q = am_li ls 1 (fun x => am_Rn L xs d 20 9 ls (.int x :: st) σ Q) := am_r_iload_n d20_8
theorem r20_9 {a1 : Value} {p : Nat} : am_Rn L xs (d + 1) 20 9 ls (a1 :: .ref p :: st) σ Q = ((am_oc σ p = 1 ∧ st.length ≤ 4 ∧ am_ok a1 = true) ∧ am_Call L xs d 9 [.ref p, a1] σ (fun r σ1 => am_Rn L xs (d + 1) 20 12 ls (r.toList ++ st) σ1 Q)) := am_R_virtual1 d20_9 rfl ⟨by decide, rfl⟩ rfl rfl (by decide)
theorem r20_12 {a : Int32} : am_Rn L xs d 20 12 ls (.int a :: st) σ Q = if a = 0 then am_Rn L xs d 20 23 ls st σ Q else am_Rn L xs d 20 15 ls st σ Q := (am_r_if (t := 23) d20_12 (by decide)).trans (am_ite _ _ trivial (by simp only [am_cond, decide_eq_true_eq]))
theorem r20_23  : am_Rn L xs d 20 23 ls st σ Q = am_Rn L xs d 20 24 ls (.int 0 :: st) σ Q := am_r_iconst d20_23 (by decide)
theorem r20_24 {v : Int32} (hv : v = 0 ∨ v = 1) : am_Rn L xs d 20 24 ls [.int v] σ Q = Q (some (.int v)) σ := am_r_zreturn d20_24 rfl hv
end
end
section
/-! Rows of the program's instructions, written by program (wip/gen/gen_rows.py) -/
section
variable {L : Nat} {xs : Nat → Int32} {d : Nat} {ls st : List Value} {σ : am_S} {Q : Option Value → am_S → Prop}
theorem d84_0 : decode (pg_code 84) 0 = .ok (.iload_n 1, 1) := by decide +kernel
theorem d84_1 : decode (pg_code 84) 1 = .ok (.invokestatic 113, 3) := by decide +kernel
theorem d84_4 : decode (pg_code 84) 4 = .ok (.ifCond .eq 24, 3) := by decide +kernel
theorem d84_7 : decode (pg_code 84) 7 = .ok (.iload_n 3, 1) := by decide +kernel
theorem d84_8 : decode (pg_code 84) 8 = .ok (.ifCond .lt 20, 3) := by decide +kernel
theorem d84_11 : decode (pg_code 84) 11 = .ok (.iload_n 3, 1) := by decide +kernel
theorem d84_12 : decode (pg_code 84) 12 = .ok (.bipush 7, 2) := by decide +kernel
theorem d84_14 : decode (pg_code 84) 14 = .ok (.if_icmp .gt 14, 3) := by decide +kernel
theorem d84_17 : decode (pg_code 84) 17 = .ok (.aload_n 0, 1) := by decide +kernel
theorem d84_18 : decode (pg_code 84) 18 = .ok (.getfield 7, 3) := by decide +kernel
theorem d84_21 : decode (pg_code 84) 21 = .ok (.iload_n 1, 1) := by decide +kernel
theorem d84_22 : decode (pg_code 84) 22 = .ok (.iaload, 1) := by decide +kernel
theorem d84_23 : decode (pg_code 84) 23 = .ok (.bipush 12, 2) := by decide +kernel
theorem d84_25 : decode (pg_code 84) 25 = .ok (.if_icmp .ne 5, 3) := by decide +kernel
theorem d84_28 : decode (pg_code 84) 28 = .ok (.iconst (-1), 1) := by decide +kernel
theorem d84_29 : decode (pg_code 84) 29 = .ok (.ireturn, 1) := by decide +kernel
theorem d84_30 : decode (pg_code 84) 30 = .ok (.iload_n 2, 1) := by decide +kernel
theorem d84_31 : decode (pg_code 84) 31 = .ok (.iconst (-1), 1) := by decide +kernel
theorem d84_32 : decode (pg_code 84) 32 = .ok (.if_icmp .ne 15, 3) := by decide +kernel
theorem d84_35 : decode (pg_code 84) 35 = .ok (.aload_n 0, 1) := by decide +kernel
theorem d84_36 : decode (pg_code 84) 36 = .ok (.getfield 7, 3) := by decide +kernel
theorem d84_39 : decode (pg_code 84) 39 = .ok (.iload_n 1, 1) := by decide +kernel
theorem d84_40 : decode (pg_code 84) 40 = .ok (.iaload, 1) := by decide +kernel
theorem d84_41 : decode (pg_code 84) 41 = .ok (.ifCond .le 17, 3) := by decide +kernel
theorem d84_44 : decode (pg_code 84) 44 = .ok (.goto 12, 3) := by decide +kernel
theorem d84_47 : decode (pg_code 84) 47 = .ok (.aload_n 0, 1) := by decide +kernel
theorem d84_48 : decode (pg_code 84) 48 = .ok (.iload_n 1, 1) := by decide +kernel
theorem d84_49 : decode (pg_code 84) 49 = .ok (.iload_n 2, 1) := by decide +kernel
theorem d84_50 : decode (pg_code 84) 50 = .ok (.invokevirtual 117, 3) := by decide +kernel
theorem d84_53 : decode (pg_code 84) 53 = .ok (.ifCond .ne 5, 3) := by decide +kernel
theorem d84_56 : decode (pg_code 84) 56 = .ok (.iconst (-1), 1) := by decide +kernel
theorem d84_57 : decode (pg_code 84) 57 = .ok (.ireturn, 1) := by decide +kernel
theorem d84_58 : decode (pg_code 84) 58 = .ok (.bipush 12, 2) := by decide +kernel
theorem d84_60 : decode (pg_code 84) 60 = .ok (.iload_n 1, 1) := by decide +kernel
theorem d84_61 : decode (pg_code 84) 61 = .ok (.imul, 1) := by decide +kernel
theorem d84_62 : decode (pg_code 84) 62 = .ok (.aload_n 0, 1) := by decide +kernel
theorem d84_63 : decode (pg_code 84) 63 = .ok (.getfield 7, 3) := by decide +kernel
theorem d84_66 : decode (pg_code 84) 66 = .ok (.iload_n 1, 1) := by decide +kernel
theorem d84_67 : decode (pg_code 84) 67 = .ok (.iaload, 1) := by decide +kernel
theorem d84_68 : decode (pg_code 84) 68 = .ok (.iadd, 1) := by decide +kernel
theorem d84_69 : decode (pg_code 84) 69 = .ok (.istore 5, 2) := by decide +kernel
theorem d84_71 : decode (pg_code 84) 71 = .ok (.aload_n 0, 1) := by decide +kernel
theorem d84_72 : decode (pg_code 84) 72 = .ok (.getfield 13, 3) := by decide +kernel
theorem d84_75 : decode (pg_code 84) 75 = .ok (.iload 5, 2) := by decide +kernel
theorem d84_77 : decode (pg_code 84) 77 = .ok (.iload_n 2, 1) := by decide +kernel
theorem d84_78 : decode (pg_code 84) 78 = .ok (.iastore, 1) := by decide +kernel
theorem d84_79 : decode (pg_code 84) 79 = .ok (.aload_n 0, 1) := by decide +kernel
theorem d84_80 : decode (pg_code 84) 80 = .ok (.getfield 16, 3) := by decide +kernel
theorem d84_83 : decode (pg_code 84) 83 = .ok (.iload 5, 2) := by decide +kernel
theorem d84_85 : decode (pg_code 84) 85 = .ok (.iload_n 3, 1) := by decide +kernel
theorem d84_86 : decode (pg_code 84) 86 = .ok (.iastore, 1) := by decide +kernel
theorem d84_87 : decode (pg_code 84) 87 = .ok (.aload_n 0, 1) := by decide +kernel
theorem d84_88 : decode (pg_code 84) 88 = .ok (.getfield 19, 3) := by decide +kernel
theorem d84_91 : decode (pg_code 84) 91 = .ok (.iload 5, 2) := by decide +kernel
theorem d84_93 : decode (pg_code 84) 93 = .ok (.iload 4, 2) := by decide +kernel
theorem d84_95 : decode (pg_code 84) 95 = .ok (.iastore, 1) := by decide +kernel
theorem d84_96 : decode (pg_code 84) 96 = .ok (.aload_n 0, 1) := by decide +kernel
theorem d84_97 : decode (pg_code 84) 97 = .ok (.getfield 7, 3) := by decide +kernel
theorem d84_100 : decode (pg_code 84) 100 = .ok (.iload_n 1, 1) := by decide +kernel
theorem d84_101 : decode (pg_code 84) 101 = .ok (.dup2, 1) := by decide +kernel
theorem d84_102 : decode (pg_code 84) 102 = .ok (.iaload, 1) := by decide +kernel
theorem d84_103 : decode (pg_code 84) 103 = .ok (.iconst 1, 1) := by decide +kernel
theorem d84_104 : decode (pg_code 84) 104 = .ok (.iadd, 1) := by decide +kernel
theorem d84_105 : decode (pg_code 84) 105 = .ok (.iastore, 1) := by decide +kernel
theorem d84_106 : decode (pg_code 84) 106 = .ok (.aload_n 0, 1) := by decide +kernel
theorem d84_107 : decode (pg_code 84) 107 = .ok (.getfield 7, 3) := by decide +kernel
theorem d84_110 : decode (pg_code 84) 110 = .ok (.iload_n 1, 1) := by decide +kernel
theorem d84_111 : decode (pg_code 84) 111 = .ok (.iaload, 1) := by decide +kernel
theorem d84_112 : decode (pg_code 84) 112 = .ok (.iconst 1, 1) := by decide +kernel
theorem d84_113 : decode (pg_code 84) 113 = .ok (.isub, 1) := by decide +kernel
theorem d84_114 : decode (pg_code 84) 114 = .ok (.ireturn, 1) := by decide +kernel
theorem e84 {b1 b2 b3 b4 b5 : Value} : am_Call L xs d 84 [b1, b2, b3, b4, b5] σ Q = am_Rn L xs d 84 0 [b1, b2, b3, b4, b5, .retAddr 0] [] σ Q := rfl
theorem r84_0  : am_Rn L xs d 84 0 ls st σ Q = am_li ls 1 (fun x => am_Rn L xs d 84 1 ls (.int x :: st) σ Q) := am_r_iload_n d84_0
theorem r84_1 {a1 : Value} : am_Rn L xs (d + 1) 84 1 ls (a1 :: st) σ Q = ((st.length ≤ 4 ∧ am_ok a1 = true) ∧ am_Call L xs d 85 [a1] σ (fun r σ1 => am_Rn L xs (d + 1) 84 4 ls (r.toList ++ st) σ1 Q)) := am_R_static1 d84_1 rfl ⟨by decide, rfl⟩ rfl (by decide)
theorem r84_4 {a : Int32} : am_Rn L xs d 84 4 ls (.int a :: st) σ Q = if a = 0 then am_Rn L xs d 84 28 ls st σ Q else am_Rn L xs d 84 7 ls st σ Q := (am_r_if (t := 28) d84_4 (by decide)).trans (am_ite _ _ trivial (by simp only [am_cond, decide_eq_true_eq]))
theorem r84_7  : am_Rn L xs d 84 7 ls st σ Q = am_li ls 3 (fun x => am_Rn L xs d 84 8 ls (.int x :: st) σ Q) := am_r_iload_n d84_7
theorem r84_8 {a : Int32} : am_Rn L xs d 84 8 ls (.int a :: st) σ Q = if a < 0 then am_Rn L xs d 84 28 ls st σ Q else am_Rn L xs d 84 11 ls st σ Q := (am_r_if (t := 28) d84_8 (by decide)).trans (am_ite _ _ trivial (by simp only [am_cond, decide_eq_true_eq]))
theorem r84_11  : am_Rn L xs d 84 11 ls st σ Q = am_li ls 3 (fun x => am_Rn L xs d 84 12 ls (.int x :: st) σ Q) := am_r_iload_n d84_11
theorem r84_12  : am_Rn L xs d 84 12 ls st σ Q = am_Rn L xs d 84 14 ls (.int 7 :: st) σ Q := am_r_bipush d84_12 (by decide)
theorem r84_14 {a b : Int32} : am_Rn L xs d 84 14 ls (.int b :: .int a :: st) σ Q = if b < a then am_Rn L xs d 84 28 ls st σ Q else am_Rn L xs d 84 17 ls st σ Q := (am_r_icmp (t := 28) d84_14 (by decide)).trans (am_ite _ _ trivial (by simp only [am_cond, decide_eq_true_eq]))
theorem r84_17  : am_Rn L xs d 84 17 ls st σ Q = am_la ls 0 (fun x => am_Rn L xs d 84 18 ls (x :: st) σ Q) := am_r_aload_n d84_17
theorem r84_18 {p : Nat} : am_Rn L xs d 84 18 ls (.ref p :: st) σ Q = am_fd σ p 6 0 (fun v => am_Rn L xs d 84 21 ls (v :: st) σ Q) := am_r_getfield d84_18 rfl
theorem r84_21  : am_Rn L xs d 84 21 ls st σ Q = am_li ls 1 (fun x => am_Rn L xs d 84 22 ls (.int x :: st) σ Q) := am_r_iload_n d84_21
theorem r84_22 {p : Nat} {i : Int32} : am_Rn L xs d 84 22 ls (.int i :: .ref p :: st) σ Q = am_ai 0 σ p i (fun x => am_Rn L xs d 84 23 ls (.int x :: st) σ Q) := am_r_iaload d84_22
theorem r84_23  : am_Rn L xs d 84 23 ls st σ Q = am_Rn L xs d 84 25 ls (.int 12 :: st) σ Q := am_r_bipush d84_23 (by decide)
theorem r84_25 {a b : Int32} : am_Rn L xs d 84 25 ls (.int b :: .int a :: st) σ Q = if ¬ a = b then am_Rn L xs d 84 30 ls st σ Q else am_Rn L xs d 84 28 ls st σ Q := (am_r_icmp (t := 30) d84_25 (by decide)).trans (am_ite _ _ trivial (by simp only [am_cond, decide_eq_true_eq]))
theorem r84_28  : am_Rn L xs d 84 28 ls st σ Q = am_Rn L xs d 84 29 ls (.int (-1) :: st) σ Q := am_r_iconst d84_28 (by decide)
theorem r84_29 {v : Int32} : am_Rn L xs d 84 29 ls [.int v] σ Q = Q (some (.int v)) σ := am_r_ireturn d84_29 rfl
theorem r84_30  : am_Rn L xs d 84 30 ls st σ Q = am_li ls 2 (fun x => am_Rn L xs d 84 31 ls (.int x :: st) σ Q) := am_r_iload_n d84_30
theorem r84_31  : am_Rn L xs d 84 31 ls st σ Q = am_Rn L xs d 84 32 ls (.int (-1) :: st) σ Q := am_r_iconst d84_31 (by decide)
theorem r84_32 {a b : Int32} : am_Rn L xs d 84 32 ls (.int b :: .int a :: st) σ Q = if ¬ a = b then am_Rn L xs d 84 47 ls st σ Q else am_Rn L xs d 84 35 ls st σ Q := (am_r_icmp (t := 47) d84_32 (by decide)).trans (am_ite _ _ trivial (by simp only [am_cond, decide_eq_true_eq]))
theorem r84_35  : am_Rn L xs d 84 35 ls st σ Q = am_la ls 0 (fun x => am_Rn L xs d 84 36 ls (x :: st) σ Q) := am_r_aload_n d84_35
theorem r84_36 {p : Nat} : am_Rn L xs d 84 36 ls (.ref p :: st) σ Q = am_fd σ p 6 0 (fun v => am_Rn L xs d 84 39 ls (v :: st) σ Q) := am_r_getfield d84_36 rfl
theorem r84_39  : am_Rn L xs d 84 39 ls st σ Q = am_li ls 1 (fun x => am_Rn L xs d 84 40 ls (.int x :: st) σ Q) := am_r_iload_n d84_39
theorem r84_40 {p : Nat} {i : Int32} : am_Rn L xs d 84 40 ls (.int i :: .ref p :: st) σ Q = am_ai 0 σ p i (fun x => am_Rn L xs d 84 41 ls (.int x :: st) σ Q) := am_r_iaload d84_40
theorem r84_41 {a : Int32} : am_Rn L xs d 84 41 ls (.int a :: st) σ Q = if a ≤ 0 then am_Rn L xs d 84 58 ls st σ Q else am_Rn L xs d 84 44 ls st σ Q := (am_r_if (t := 58) d84_41 (by decide)).trans (am_ite _ _ trivial (by simp only [am_cond, decide_eq_true_eq]))
theorem r84_44  : am_Rn L xs d 84 44 ls st σ Q = am_Rn L xs d 84 56 ls st σ Q := am_r_goto d84_44 (by decide)
theorem r84_47  : am_Rn L xs d 84 47 ls st σ Q = am_la ls 0 (fun x => am_Rn L xs d 84 48 ls (x :: st) σ Q) := am_r_aload_n d84_47
theorem r84_48  : am_Rn L xs d 84 48 ls st σ Q = am_li ls 1 (fun x => am_Rn L xs d 84 49 ls (.int x :: st) σ Q) := am_r_iload_n d84_48
theorem r84_49  : am_Rn L xs d 84 49 ls st σ Q = am_li ls 2 (fun x => am_Rn L xs d 84 50 ls (.int x :: st) σ Q) := am_r_iload_n d84_49
theorem r84_50 {a1 a2 : Value} {p : Nat} : am_Rn L xs (d + 1) 84 50 ls (a2 :: a1 :: .ref p :: st) σ Q = ((am_oc σ p = 6 ∧ st.length ≤ 4 ∧ am_ok a1 = true ∧ am_ok a2 = true) ∧ am_Call L xs d 86 [.ref p, a1, a2] σ (fun r σ1 => am_Rn L xs (d + 1) 84 53 ls (r.toList ++ st) σ1 Q)) := am_R_virtual2 d84_50 rfl ⟨by decide, rfl⟩ rfl rfl (by decide)
theorem r84_53 {a : Int32} : am_Rn L xs d 84 53 ls (.int a :: st) σ Q = if ¬ a = 0 then am_Rn L xs d 84 58 ls st σ Q else am_Rn L xs d 84 56 ls st σ Q := (am_r_if (t := 58) d84_53 (by decide)).trans (am_ite _ _ trivial (by simp only [am_cond, decide_eq_true_eq]))
theorem r84_56  : am_Rn L xs d 84 56 ls st σ Q = am_Rn L xs d 84 57 ls (.int (-1) :: st) σ Q := am_r_iconst d84_56 (by decide)
theorem r84_57 {v : Int32} : am_Rn L xs d 84 57 ls [.int v] σ Q = Q (some (.int v)) σ := am_r_ireturn d84_57 rfl
theorem r84_58  : am_Rn L xs d 84 58 ls st σ Q = am_Rn L xs d 84 60 ls (.int 12 :: st) σ Q := am_r_bipush d84_58 (by decide)
theorem r84_60  : am_Rn L xs d 84 60 ls st σ Q = am_li ls 1 (fun x => am_Rn L xs d 84 61 ls (.int x :: st) σ Q) := am_r_iload_n d84_60
theorem r84_61 {a b : Int32} : am_Rn L xs d 84 61 ls (.int b :: .int a :: st) σ Q = am_Rn L xs d 84 62 ls (.int (a * b) :: st) σ Q := am_r_imul d84_61
theorem r84_62  : am_Rn L xs d 84 62 ls st σ Q = am_la ls 0 (fun x => am_Rn L xs d 84 63 ls (x :: st) σ Q) := am_r_aload_n d84_62
theorem r84_63 {p : Nat} : am_Rn L xs d 84 63 ls (.ref p :: st) σ Q = am_fd σ p 6 0 (fun v => am_Rn L xs d 84 66 ls (v :: st) σ Q) := am_r_getfield d84_63 rfl
theorem r84_66  : am_Rn L xs d 84 66 ls st σ Q = am_li ls 1 (fun x => am_Rn L xs d 84 67 ls (.int x :: st) σ Q) := am_r_iload_n d84_66
theorem r84_67 {p : Nat} {i : Int32} : am_Rn L xs d 84 67 ls (.int i :: .ref p :: st) σ Q = am_ai 0 σ p i (fun x => am_Rn L xs d 84 68 ls (.int x :: st) σ Q) := am_r_iaload d84_67
theorem r84_68 {a b : Int32} : am_Rn L xs d 84 68 ls (.int b :: .int a :: st) σ Q = am_Rn L xs d 84 69 ls (.int (a + b) :: st) σ Q := am_r_iadd d84_68
theorem r84_69 {x : Int32} : am_Rn L xs d 84 69 ls (.int x :: st) σ Q = (5 < ls.length ∧ am_Rn L xs d 84 71 (ls.set 5 (.int x)) st σ Q) := am_r_istore d84_69
theorem r84_71  : am_Rn L xs d 84 71 ls st σ Q = am_la ls 0 (fun x => am_Rn L xs d 84 72 ls (x :: st) σ Q) := am_r_aload_n d84_71
theorem r84_72 {p : Nat} : am_Rn L xs d 84 72 ls (.ref p :: st) σ Q = am_fd σ p 6 1 (fun v => am_Rn L xs d 84 75 ls (v :: st) σ Q) := am_r_getfield d84_72 rfl
theorem r84_75  : am_Rn L xs d 84 75 ls st σ Q = am_li ls 5 (fun x => am_Rn L xs d 84 77 ls (.int x :: st) σ Q) := am_r_iload d84_75
theorem r84_77  : am_Rn L xs d 84 77 ls st σ Q = am_li ls 2 (fun x => am_Rn L xs d 84 78 ls (.int x :: st) σ Q) := am_r_iload_n d84_77
theorem r84_78 {p : Nat} {i x : Int32} : am_Rn L xs d 84 78 ls (.int x :: .int i :: .ref p :: st) σ Q = am_wi 0 σ p i x (fun σ1 => am_Rn L xs d 84 79 ls st σ1 Q) := am_r_iastore d84_78
theorem r84_79  : am_Rn L xs d 84 79 ls st σ Q = am_la ls 0 (fun x => am_Rn L xs d 84 80 ls (x :: st) σ Q) := am_r_aload_n d84_79
theorem r84_80 {p : Nat} : am_Rn L xs d 84 80 ls (.ref p :: st) σ Q = am_fd σ p 6 2 (fun v => am_Rn L xs d 84 83 ls (v :: st) σ Q) := am_r_getfield d84_80 rfl
theorem r84_83  : am_Rn L xs d 84 83 ls st σ Q = am_li ls 5 (fun x => am_Rn L xs d 84 85 ls (.int x :: st) σ Q) := am_r_iload d84_83
theorem r84_85  : am_Rn L xs d 84 85 ls st σ Q = am_li ls 3 (fun x => am_Rn L xs d 84 86 ls (.int x :: st) σ Q) := am_r_iload_n d84_85
theorem r84_86 {p : Nat} {i x : Int32} : am_Rn L xs d 84 86 ls (.int x :: .int i :: .ref p :: st) σ Q = am_wi 0 σ p i x (fun σ1 => am_Rn L xs d 84 87 ls st σ1 Q) := am_r_iastore d84_86
theorem r84_87  : am_Rn L xs d 84 87 ls st σ Q = am_la ls 0 (fun x => am_Rn L xs d 84 88 ls (x :: st) σ Q) := am_r_aload_n d84_87
theorem r84_88 {p : Nat} : am_Rn L xs d 84 88 ls (.ref p :: st) σ Q = am_fd σ p 6 3 (fun v => am_Rn L xs d 84 91 ls (v :: st) σ Q) := am_r_getfield d84_88 rfl
theorem r84_91  : am_Rn L xs d 84 91 ls st σ Q = am_li ls 5 (fun x => am_Rn L xs d 84 93 ls (.int x :: st) σ Q) := am_r_iload d84_91
theorem r84_93  : am_Rn L xs d 84 93 ls st σ Q = am_li ls 4 (fun x => am_Rn L xs d 84 95 ls (.int x :: st) σ Q) := am_r_iload d84_93
theorem r84_95 {p : Nat} {i x : Int32} : am_Rn L xs d 84 95 ls (.int x :: .int i :: .ref p :: st) σ Q = am_wi 0 σ p i x (fun σ1 => am_Rn L xs d 84 96 ls st σ1 Q) := am_r_iastore d84_95
theorem r84_96  : am_Rn L xs d 84 96 ls st σ Q = am_la ls 0 (fun x => am_Rn L xs d 84 97 ls (x :: st) σ Q) := am_r_aload_n d84_96
theorem r84_97 {p : Nat} : am_Rn L xs d 84 97 ls (.ref p :: st) σ Q = am_fd σ p 6 0 (fun v => am_Rn L xs d 84 100 ls (v :: st) σ Q) := am_r_getfield d84_97 rfl
theorem r84_100  : am_Rn L xs d 84 100 ls st σ Q = am_li ls 1 (fun x => am_Rn L xs d 84 101 ls (.int x :: st) σ Q) := am_r_iload_n d84_100
theorem r84_101 {a b : Value} : am_Rn L xs d 84 101 ls (a :: b :: st) σ Q = ((am_ok a && am_ok b) = true ∧ am_Rn L xs d 84 102 ls (a :: b :: a :: b :: st) σ Q) := am_r_dup2 d84_101
theorem r84_102 {p : Nat} {i : Int32} : am_Rn L xs d 84 102 ls (.int i :: .ref p :: st) σ Q = am_ai 0 σ p i (fun x => am_Rn L xs d 84 103 ls (.int x :: st) σ Q) := am_r_iaload d84_102
theorem r84_103  : am_Rn L xs d 84 103 ls st σ Q = am_Rn L xs d 84 104 ls (.int 1 :: st) σ Q := am_r_iconst d84_103 (by decide)
theorem r84_104 {a b : Int32} : am_Rn L xs d 84 104 ls (.int b :: .int a :: st) σ Q = am_Rn L xs d 84 105 ls (.int (a + b) :: st) σ Q := am_r_iadd d84_104
theorem r84_105 {p : Nat} {i x : Int32} : am_Rn L xs d 84 105 ls (.int x :: .int i :: .ref p :: st) σ Q = am_wi 0 σ p i x (fun σ1 => am_Rn L xs d 84 106 ls st σ1 Q) := am_r_iastore d84_105
theorem r84_106  : am_Rn L xs d 84 106 ls st σ Q = am_la ls 0 (fun x => am_Rn L xs d 84 107 ls (x :: st) σ Q) := am_r_aload_n d84_106
theorem r84_107 {p : Nat} : am_Rn L xs d 84 107 ls (.ref p :: st) σ Q = am_fd σ p 6 0 (fun v => am_Rn L xs d 84 110 ls (v :: st) σ Q) := am_r_getfield d84_107 rfl
theorem r84_110  : am_Rn L xs d 84 110 ls st σ Q = am_li ls 1 (fun x => am_Rn L xs d 84 111 ls (.int x :: st) σ Q) := am_r_iload_n d84_110
theorem r84_111 {p : Nat} {i : Int32} : am_Rn L xs d 84 111 ls (.int i :: .ref p :: st) σ Q = am_ai 0 σ p i (fun x => am_Rn L xs d 84 112 ls (.int x :: st) σ Q) := am_r_iaload d84_111
theorem r84_112  : am_Rn L xs d 84 112 ls st σ Q = am_Rn L xs d 84 113 ls (.int 1 :: st) σ Q := am_r_iconst d84_112 (by decide)
theorem r84_113 {a b : Int32} : am_Rn L xs d 84 113 ls (.int b :: .int a :: st) σ Q = am_Rn L xs d 84 114 ls (.int (a - b) :: st) σ Q := am_r_isub d84_113
theorem r84_114 {v : Int32} : am_Rn L xs d 84 114 ls [.int v] σ Q = Q (some (.int v)) σ := am_r_ireturn d84_114 rfl
theorem d85_0 : decode (pg_code 85) 0 = .ok (.iload_n 0, 1) := by decide +kernel
theorem d85_1 : decode (pg_code 85) 1 = .ok (.ifCond .lt 12, 3) := by decide +kernel
theorem d85_4 : decode (pg_code 85) 4 = .ok (.iload_n 0, 1) := by decide +kernel
theorem d85_5 : decode (pg_code 85) 5 = .ok (.iconst 3, 1) := by decide +kernel
theorem d85_6 : decode (pg_code 85) 6 = .ok (.if_icmp .ge 7, 3) := by decide +kernel
theorem d85_9 : decode (pg_code 85) 9 = .ok (.iconst 1, 1) := by decide +kernel
theorem d85_10 : decode (pg_code 85) 10 = .ok (.goto 4, 3) := by decide +kernel
theorem d85_13 : decode (pg_code 85) 13 = .ok (.iconst 0, 1) := by decide +kernel
theorem d85_14 : decode (pg_code 85) 14 = .ok (.ireturn, 1) := by decide +kernel
theorem e85 {b1 : Value} : am_Call L xs d 85 [b1] σ Q = am_Rn L xs d 85 0 [b1] [] σ Q := rfl
theorem r85_0  : am_Rn L xs d 85 0 ls st σ Q = am_li ls 0 (fun x => am_Rn L xs d 85 1 ls (.int x :: st) σ Q) := am_r_iload_n d85_0
theorem r85_1 {a : Int32} : am_Rn L xs d 85 1 ls (.int a :: st) σ Q = if a < 0 then am_Rn L xs d 85 13 ls st σ Q else am_Rn L xs d 85 4 ls st σ Q := (am_r_if (t := 13) d85_1 (by decide)).trans (am_ite _ _ trivial (by simp only [am_cond, decide_eq_true_eq]))
theorem r85_4  : am_Rn L xs d 85 4 ls st σ Q = am_li ls 0 (fun x => am_Rn L xs d 85 5 ls (.int x :: st) σ Q) := am_r_iload_n d85_4
theorem r85_5  : am_Rn L xs d 85 5 ls st σ Q = am_Rn L xs d 85 6 ls (.int 3 :: st) σ Q := am_r_iconst d85_5 (by decide)
theorem r85_6 {a b : Int32} : am_Rn L xs d 85 6 ls (.int b :: .int a :: st) σ Q = if b ≤ a then am_Rn L xs d 85 13 ls st σ Q else am_Rn L xs d 85 9 ls st σ Q := (am_r_icmp (t := 13) d85_6 (by decide)).trans (am_ite _ _ trivial (by simp only [am_cond, decide_eq_true_eq]))
theorem r85_9  : am_Rn L xs d 85 9 ls st σ Q = am_Rn L xs d 85 10 ls (.int 1 :: st) σ Q := am_r_iconst d85_9 (by decide)
theorem r85_10  : am_Rn L xs d 85 10 ls st σ Q = am_Rn L xs d 85 14 ls st σ Q := am_r_goto d85_10 (by decide)
theorem r85_13  : am_Rn L xs d 85 13 ls st σ Q = am_Rn L xs d 85 14 ls (.int 0 :: st) σ Q := am_r_iconst d85_13 (by decide)
theorem r85_14 {v : Int32} (hv : v = 0 ∨ v = 1) : am_Rn L xs d 85 14 ls [.int v] σ Q = Q (some (.int v)) σ := am_r_zreturn d85_14 rfl hv
theorem d86_0 : decode (pg_code 86) 0 = .ok (.iload_n 1, 1) := by decide +kernel
theorem d86_1 : decode (pg_code 86) 1 = .ok (.invokestatic 113, 3) := by decide +kernel
theorem d86_4 : decode (pg_code 86) 4 = .ok (.ifCond .eq 21, 3) := by decide +kernel
theorem d86_7 : decode (pg_code 86) 7 = .ok (.iload_n 2, 1) := by decide +kernel
theorem d86_8 : decode (pg_code 86) 8 = .ok (.ifCond .lt 17, 3) := by decide +kernel
theorem d86_11 : decode (pg_code 86) 11 = .ok (.iload_n 2, 1) := by decide +kernel
theorem d86_12 : decode (pg_code 86) 12 = .ok (.aload_n 0, 1) := by decide +kernel
theorem d86_13 : decode (pg_code 86) 13 = .ok (.getfield 7, 3) := by decide +kernel
theorem d86_16 : decode (pg_code 86) 16 = .ok (.iload_n 1, 1) := by decide +kernel
theorem d86_17 : decode (pg_code 86) 17 = .ok (.iaload, 1) := by decide +kernel
theorem d86_18 : decode (pg_code 86) 18 = .ok (.if_icmp .ge 7, 3) := by decide +kernel
theorem d86_21 : decode (pg_code 86) 21 = .ok (.iconst 1, 1) := by decide +kernel
theorem d86_22 : decode (pg_code 86) 22 = .ok (.goto 4, 3) := by decide +kernel
theorem d86_25 : decode (pg_code 86) 25 = .ok (.iconst 0, 1) := by decide +kernel
theorem d86_26 : decode (pg_code 86) 26 = .ok (.ireturn, 1) := by decide +kernel
theorem e86 {b1 b2 b3 : Value} : am_Call L xs d 86 [b1, b2, b3] σ Q = am_Rn L xs d 86 0 [b1, b2, b3] [] σ Q := rfl
theorem r86_0  : am_Rn L xs d 86 0 ls st σ Q = am_li ls 1 (fun x => am_Rn L xs d 86 1 ls (.int x :: st) σ Q) := am_r_iload_n d86_0
theorem r86_1 {a1 : Value} : am_Rn L xs (d + 1) 86 1 ls (a1 :: st) σ Q = ((st.length ≤ 4 ∧ am_ok a1 = true) ∧ am_Call L xs d 85 [a1] σ (fun r σ1 => am_Rn L xs (d + 1) 86 4 ls (r.toList ++ st) σ1 Q)) := am_R_static1 d86_1 rfl ⟨by decide, rfl⟩ rfl (by decide)
theorem r86_4 {a : Int32} : am_Rn L xs d 86 4 ls (.int a :: st) σ Q = if a = 0 then am_Rn L xs d 86 25 ls st σ Q else am_Rn L xs d 86 7 ls st σ Q := (am_r_if (t := 25) d86_4 (by decide)).trans (am_ite _ _ trivial (by simp only [am_cond, decide_eq_true_eq]))
theorem r86_7  : am_Rn L xs d 86 7 ls st σ Q = am_li ls 2 (fun x => am_Rn L xs d 86 8 ls (.int x :: st) σ Q) := am_r_iload_n d86_7
theorem r86_8 {a : Int32} : am_Rn L xs d 86 8 ls (.int a :: st) σ Q = if a < 0 then am_Rn L xs d 86 25 ls st σ Q else am_Rn L xs d 86 11 ls st σ Q := (am_r_if (t := 25) d86_8 (by decide)).trans (am_ite _ _ trivial (by simp only [am_cond, decide_eq_true_eq]))
theorem r86_11  : am_Rn L xs d 86 11 ls st σ Q = am_li ls 2 (fun x => am_Rn L xs d 86 12 ls (.int x :: st) σ Q) := am_r_iload_n d86_11
theorem r86_12  : am_Rn L xs d 86 12 ls st σ Q = am_la ls 0 (fun x => am_Rn L xs d 86 13 ls (x :: st) σ Q) := am_r_aload_n d86_12
theorem r86_13 {p : Nat} : am_Rn L xs d 86 13 ls (.ref p :: st) σ Q = am_fd σ p 6 0 (fun v => am_Rn L xs d 86 16 ls (v :: st) σ Q) := am_r_getfield d86_13 rfl
theorem r86_16  : am_Rn L xs d 86 16 ls st σ Q = am_li ls 1 (fun x => am_Rn L xs d 86 17 ls (.int x :: st) σ Q) := am_r_iload_n d86_16
theorem r86_17 {p : Nat} {i : Int32} : am_Rn L xs d 86 17 ls (.int i :: .ref p :: st) σ Q = am_ai 0 σ p i (fun x => am_Rn L xs d 86 18 ls (.int x :: st) σ Q) := am_r_iaload d86_17
theorem r86_18 {a b : Int32} : am_Rn L xs d 86 18 ls (.int b :: .int a :: st) σ Q = if b ≤ a then am_Rn L xs d 86 25 ls st σ Q else am_Rn L xs d 86 21 ls st σ Q := (am_r_icmp (t := 25) d86_18 (by decide)).trans (am_ite _ _ trivial (by simp only [am_cond, decide_eq_true_eq]))
theorem r86_21  : am_Rn L xs d 86 21 ls st σ Q = am_Rn L xs d 86 22 ls (.int 1 :: st) σ Q := am_r_iconst d86_21 (by decide)
theorem r86_22  : am_Rn L xs d 86 22 ls st σ Q = am_Rn L xs d 86 26 ls st σ Q := am_r_goto d86_22 (by decide)
theorem r86_25  : am_Rn L xs d 86 25 ls st σ Q = am_Rn L xs d 86 26 ls (.int 0 :: st) σ Q := am_r_iconst d86_25 (by decide)
theorem r86_26 {v : Int32} (hv : v = 0 ∨ v = 1) : am_Rn L xs d 86 26 ls [.int v] σ Q = Q (some (.int v)) σ := am_r_zreturn d86_26 rfl hv
theorem d87_0 : decode (pg_code 87) 0 = .ok (.iload_n 1, 1) := by decide +kernel
theorem d87_1 : decode (pg_code 87) 1 = .ok (.invokestatic 113, 3) := by decide +kernel
theorem d87_4 : decode (pg_code 87) 4 = .ok (.ifCond .ne 5, 3) := by decide +kernel
theorem d87_7 : decode (pg_code 87) 7 = .ok (.iconst 0, 1) := by decide +kernel
theorem d87_8 : decode (pg_code 87) 8 = .ok (.ireturn, 1) := by decide +kernel
theorem d87_9 : decode (pg_code 87) 9 = .ok (.aload_n 0, 1) := by decide +kernel
theorem d87_10 : decode (pg_code 87) 10 = .ok (.getfield 7, 3) := by decide +kernel
theorem d87_13 : decode (pg_code 87) 13 = .ok (.iload_n 1, 1) := by decide +kernel
theorem d87_14 : decode (pg_code 87) 14 = .ok (.iconst 0, 1) := by decide +kernel
theorem d87_15 : decode (pg_code 87) 15 = .ok (.iastore, 1) := by decide +kernel
theorem d87_16 : decode (pg_code 87) 16 = .ok (.iconst 1, 1) := by decide +kernel
theorem d87_17 : decode (pg_code 87) 17 = .ok (.ireturn, 1) := by decide +kernel
theorem e87 {b1 b2 : Value} : am_Call L xs d 87 [b1, b2] σ Q = am_Rn L xs d 87 0 [b1, b2] [] σ Q := rfl
theorem r87_0  : am_Rn L xs d 87 0 ls st σ Q = am_li ls 1 (fun x => am_Rn L xs d 87 1 ls (.int x :: st) σ Q) := am_r_iload_n d87_0
theorem r87_1 {a1 : Value} : am_Rn L xs (d + 1) 87 1 ls (a1 :: st) σ Q = ((st.length ≤ 4 ∧ am_ok a1 = true) ∧ am_Call L xs d 85 [a1] σ (fun r σ1 => am_Rn L xs (d + 1) 87 4 ls (r.toList ++ st) σ1 Q)) := am_R_static1 d87_1 rfl ⟨by decide, rfl⟩ rfl (by decide)
theorem r87_4 {a : Int32} : am_Rn L xs d 87 4 ls (.int a :: st) σ Q = if ¬ a = 0 then am_Rn L xs d 87 9 ls st σ Q else am_Rn L xs d 87 7 ls st σ Q := (am_r_if (t := 9) d87_4 (by decide)).trans (am_ite _ _ trivial (by simp only [am_cond, decide_eq_true_eq]))
theorem r87_7  : am_Rn L xs d 87 7 ls st σ Q = am_Rn L xs d 87 8 ls (.int 0 :: st) σ Q := am_r_iconst d87_7 (by decide)
theorem r87_8 {v : Int32} (hv : v = 0 ∨ v = 1) : am_Rn L xs d 87 8 ls [.int v] σ Q = Q (some (.int v)) σ := am_r_zreturn d87_8 rfl hv
theorem r87_9  : am_Rn L xs d 87 9 ls st σ Q = am_la ls 0 (fun x => am_Rn L xs d 87 10 ls (x :: st) σ Q) := am_r_aload_n d87_9
theorem r87_10 {p : Nat} : am_Rn L xs d 87 10 ls (.ref p :: st) σ Q = am_fd σ p 6 0 (fun v => am_Rn L xs d 87 13 ls (v :: st) σ Q) := am_r_getfield d87_10 rfl
theorem r87_13  : am_Rn L xs d 87 13 ls st σ Q = am_li ls 1 (fun x => am_Rn L xs d 87 14 ls (.int x :: st) σ Q) := am_r_iload_n d87_13
theorem r87_14  : am_Rn L xs d 87 14 ls st σ Q = am_Rn L xs d 87 15 ls (.int 0 :: st) σ Q := am_r_iconst d87_14 (by decide)
theorem r87_15 {p : Nat} {i x : Int32} : am_Rn L xs d 87 15 ls (.int x :: .int i :: .ref p :: st) σ Q = am_wi 0 σ p i x (fun σ1 => am_Rn L xs d 87 16 ls st σ1 Q) := am_r_iastore d87_15
theorem r87_16  : am_Rn L xs d 87 16 ls st σ Q = am_Rn L xs d 87 17 ls (.int 1 :: st) σ Q := am_r_iconst d87_16 (by decide)
theorem r87_17 {v : Int32} (hv : v = 0 ∨ v = 1) : am_Rn L xs d 87 17 ls [.int v] σ Q = Q (some (.int v)) σ := am_r_zreturn d87_17 rfl hv
theorem d88_0 : decode (pg_code 88) 0 = .ok (.iload_n 1, 1) := by decide +kernel
theorem d88_1 : decode (pg_code 88) 1 = .ok (.invokestatic 113, 3) := by decide +kernel
theorem d88_4 : decode (pg_code 88) 4 = .ok (.ifCond .eq 12, 3) := by decide +kernel
theorem d88_7 : decode (pg_code 88) 7 = .ok (.aload_n 0, 1) := by decide +kernel
theorem d88_8 : decode (pg_code 88) 8 = .ok (.getfield 7, 3) := by decide +kernel
theorem d88_11 : decode (pg_code 88) 11 = .ok (.iload_n 1, 1) := by decide +kernel
theorem d88_12 : decode (pg_code 88) 12 = .ok (.iaload, 1) := by decide +kernel
theorem d88_13 : decode (pg_code 88) 13 = .ok (.goto 4, 3) := by decide +kernel
theorem d88_16 : decode (pg_code 88) 16 = .ok (.iconst (-1), 1) := by decide +kernel
theorem d88_17 : decode (pg_code 88) 17 = .ok (.ireturn, 1) := by decide +kernel
theorem e88 {b1 b2 : Value} : am_Call L xs d 88 [b1, b2] σ Q = am_Rn L xs d 88 0 [b1, b2] [] σ Q := rfl
theorem r88_0  : am_Rn L xs d 88 0 ls st σ Q = am_li ls 1 (fun x => am_Rn L xs d 88 1 ls (.int x :: st) σ Q) := am_r_iload_n d88_0
theorem r88_1 {a1 : Value} : am_Rn L xs (d + 1) 88 1 ls (a1 :: st) σ Q = ((st.length ≤ 4 ∧ am_ok a1 = true) ∧ am_Call L xs d 85 [a1] σ (fun r σ1 => am_Rn L xs (d + 1) 88 4 ls (r.toList ++ st) σ1 Q)) := am_R_static1 d88_1 rfl ⟨by decide, rfl⟩ rfl (by decide)
theorem r88_4 {a : Int32} : am_Rn L xs d 88 4 ls (.int a :: st) σ Q = if a = 0 then am_Rn L xs d 88 16 ls st σ Q else am_Rn L xs d 88 7 ls st σ Q := (am_r_if (t := 16) d88_4 (by decide)).trans (am_ite _ _ trivial (by simp only [am_cond, decide_eq_true_eq]))
theorem r88_7  : am_Rn L xs d 88 7 ls st σ Q = am_la ls 0 (fun x => am_Rn L xs d 88 8 ls (x :: st) σ Q) := am_r_aload_n d88_7
theorem r88_8 {p : Nat} : am_Rn L xs d 88 8 ls (.ref p :: st) σ Q = am_fd σ p 6 0 (fun v => am_Rn L xs d 88 11 ls (v :: st) σ Q) := am_r_getfield d88_8 rfl
theorem r88_11  : am_Rn L xs d 88 11 ls st σ Q = am_li ls 1 (fun x => am_Rn L xs d 88 12 ls (.int x :: st) σ Q) := am_r_iload_n d88_11
theorem r88_12 {p : Nat} {i : Int32} : am_Rn L xs d 88 12 ls (.int i :: .ref p :: st) σ Q = am_ai 0 σ p i (fun x => am_Rn L xs d 88 13 ls (.int x :: st) σ Q) := am_r_iaload d88_12
theorem r88_13  : am_Rn L xs d 88 13 ls st σ Q = am_Rn L xs d 88 17 ls st σ Q := am_r_goto d88_13 (by decide)
theorem r88_16  : am_Rn L xs d 88 16 ls st σ Q = am_Rn L xs d 88 17 ls (.int (-1) :: st) σ Q := am_r_iconst d88_16 (by decide)
theorem r88_17 {v : Int32} : am_Rn L xs d 88 17 ls [.int v] σ Q = Q (some (.int v)) σ := am_r_ireturn d88_17 rfl
theorem d89_0 : decode (pg_code 89) 0 = .ok (.aload_n 0, 1) := by decide +kernel
theorem d89_1 : decode (pg_code 89) 1 = .ok (.iload_n 1, 1) := by decide +kernel
theorem d89_2 : decode (pg_code 89) 2 = .ok (.iload_n 2, 1) := by decide +kernel
theorem d89_3 : decode (pg_code 89) 3 = .ok (.invokevirtual 117, 3) := by decide +kernel
theorem d89_6 : decode (pg_code 89) 6 = .ok (.ifCond .ne 5, 3) := by decide +kernel
theorem d89_9 : decode (pg_code 89) 9 = .ok (.iconst (-1), 1) := by decide +kernel
theorem d89_10 : decode (pg_code 89) 10 = .ok (.ireturn, 1) := by decide +kernel
theorem e89 {b1 b2 b3 : Value} : am_Call L xs d 89 [b1, b2, b3] σ Q = am_Rn L xs d 89 0 [b1, b2, b3, .retAddr 0, .retAddr 0, .retAddr 0, .retAddr 0] [] σ Q := rfl
theorem r89_0  : am_Rn L xs d 89 0 ls st σ Q = am_la ls 0 (fun x => am_Rn L xs d 89 1 ls (x :: st) σ Q) := am_r_aload_n d89_0
theorem r89_1  : am_Rn L xs d 89 1 ls st σ Q = am_li ls 1 (fun x => am_Rn L xs d 89 2 ls (.int x :: st) σ Q) := am_r_iload_n d89_1
theorem r89_2  : am_Rn L xs d 89 2 ls st σ Q = am_li ls 2 (fun x => am_Rn L xs d 89 3 ls (.int x :: st) σ Q) := am_r_iload_n d89_2
theorem r89_3 {a1 a2 : Value} {p : Nat} : am_Rn L xs (d + 1) 89 3 ls (a2 :: a1 :: .ref p :: st) σ Q = ((am_oc σ p = 6 ∧ st.length ≤ 4 ∧ am_ok a1 = true ∧ am_ok a2 = true) ∧ am_Call L xs d 86 [.ref p, a1, a2] σ (fun r σ1 => am_Rn L xs (d + 1) 89 6 ls (r.toList ++ st) σ1 Q)) := am_R_virtual2 d89_3 rfl ⟨by decide, rfl⟩ rfl rfl (by decide)
theorem r89_6 {a : Int32} : am_Rn L xs d 89 6 ls (.int a :: st) σ Q = if ¬ a = 0 then am_Rn L xs d 89 11 ls st σ Q else am_Rn L xs d 89 9 ls st σ Q := (am_r_if (t := 11) d89_6 (by decide)).trans (am_ite _ _ trivial (by simp only [am_cond, decide_eq_true_eq]))
theorem r89_9  : am_Rn L xs d 89 9 ls st σ Q = am_Rn L xs d 89 10 ls (.int (-1) :: st) σ Q := am_r_iconst d89_9 (by decide)
theorem r89_10 {v : Int32} : am_Rn L xs d 89 10 ls [.int v] σ Q = Q (some (.int v)) σ := am_r_ireturn d89_10 rfl
theorem d90_0 : decode (pg_code 90) 0 = .ok (.aload_n 0, 1) := by decide +kernel
theorem d90_1 : decode (pg_code 90) 1 = .ok (.iload_n 1, 1) := by decide +kernel
theorem d90_2 : decode (pg_code 90) 2 = .ok (.iload_n 2, 1) := by decide +kernel
theorem d90_3 : decode (pg_code 90) 3 = .ok (.invokevirtual 117, 3) := by decide +kernel
theorem d90_6 : decode (pg_code 90) 6 = .ok (.ifCond .eq 13, 3) := by decide +kernel
theorem d90_19 : decode (pg_code 90) 19 = .ok (.iconst 0, 1) := by decide +kernel
theorem d90_20 : decode (pg_code 90) 20 = .ok (.ireturn, 1) := by decide +kernel
theorem e90 {b1 b2 b3 b4 b5 : Value} : am_Call L xs d 90 [b1, b2, b3, b4, b5] σ Q = am_Rn L xs d 90 0 [b1, b2, b3, b4, b5] [] σ Q := rfl
theorem r90_0  : am_Rn L xs d 90 0 ls st σ Q = am_la ls 0 (fun x => am_Rn L xs d 90 1 ls (x :: st) σ Q) := am_r_aload_n d90_0
theorem r90_1  : am_Rn L xs d 90 1 ls st σ Q = am_li ls 1 (fun x => am_Rn L xs d 90 2 ls (.int x :: st) σ Q) := am_r_iload_n d90_1
theorem r90_2  : am_Rn L xs d 90 2 ls st σ Q = am_li ls 2 (fun x => am_Rn L xs d 90 3 ls (.int x :: st) σ Q) := am_r_iload_n d90_2
theorem r90_3 {a1 a2 : Value} {p : Nat} : am_Rn L xs (d + 1) 90 3 ls (a2 :: a1 :: .ref p :: st) σ Q = ((am_oc σ p = 6 ∧ st.length ≤ 4 ∧ am_ok a1 = true ∧ am_ok a2 = true) ∧ am_Call L xs d 86 [.ref p, a1, a2] σ (fun r σ1 => am_Rn L xs (d + 1) 90 6 ls (r.toList ++ st) σ1 Q)) := am_R_virtual2 d90_3 rfl ⟨by decide, rfl⟩ rfl rfl (by decide)
theorem r90_6 {a : Int32} : am_Rn L xs d 90 6 ls (.int a :: st) σ Q = if a = 0 then am_Rn L xs d 90 19 ls st σ Q else am_Rn L xs d 90 9 ls st σ Q := (am_r_if (t := 19) d90_6 (by decide)).trans (am_ite _ _ trivial (by simp only [am_cond, decide_eq_true_eq]))
theorem r90_19  : am_Rn L xs d 90 19 ls st σ Q = am_Rn L xs d 90 20 ls (.int 0 :: st) σ Q := am_r_iconst d90_19 (by decide)
theorem r90_20 {v : Int32} (hv : v = 0 ∨ v = 1) : am_Rn L xs d 90 20 ls [.int v] σ Q = Q (some (.int v)) σ := am_r_zreturn d90_20 rfl hv
theorem d93_0 : decode (pg_code 93) 0 = .ok (.iload_n 1, 1) := by decide +kernel
theorem d93_1 : decode (pg_code 93) 1 = .ok (.invokestatic 113, 3) := by decide +kernel
theorem d93_4 : decode (pg_code 93) 4 = .ok (.ifCond .eq 28, 3) := by decide +kernel
theorem d93_7 : decode (pg_code 93) 7 = .ok (.iload_n 2, 1) := by decide +kernel
theorem d93_8 : decode (pg_code 93) 8 = .ok (.invokestatic 113, 3) := by decide +kernel
theorem d93_11 : decode (pg_code 93) 11 = .ok (.ifCond .eq 21, 3) := by decide +kernel
theorem d93_14 : decode (pg_code 93) 14 = .ok (.aload_n 0, 1) := by decide +kernel
theorem d93_15 : decode (pg_code 93) 15 = .ok (.getfield 7, 3) := by decide +kernel
theorem d93_18 : decode (pg_code 93) 18 = .ok (.iload_n 1, 1) := by decide +kernel
theorem d93_19 : decode (pg_code 93) 19 = .ok (.iaload, 1) := by decide +kernel
theorem d93_20 : decode (pg_code 93) 20 = .ok (.ifCond .eq 12, 3) := by decide +kernel
theorem d93_32 : decode (pg_code 93) 32 = .ok (.iconst (-1), 1) := by decide +kernel
theorem d93_33 : decode (pg_code 93) 33 = .ok (.ireturn, 1) := by decide +kernel
theorem e93 {b1 b2 b3 : Value} : am_Call L xs d 93 [b1, b2, b3] σ Q = am_Rn L xs d 93 0 [b1, b2, b3, .retAddr 0] [] σ Q := rfl
theorem r93_0  : am_Rn L xs d 93 0 ls st σ Q = am_li ls 1 (fun x => am_Rn L xs d 93 1 ls (.int x :: st) σ Q) := am_r_iload_n d93_0
theorem r93_1 {a1 : Value} : am_Rn L xs (d + 1) 93 1 ls (a1 :: st) σ Q = ((st.length ≤ 4 ∧ am_ok a1 = true) ∧ am_Call L xs d 85 [a1] σ (fun r σ1 => am_Rn L xs (d + 1) 93 4 ls (r.toList ++ st) σ1 Q)) := am_R_static1 d93_1 rfl ⟨by decide, rfl⟩ rfl (by decide)
theorem r93_4 {a : Int32} : am_Rn L xs d 93 4 ls (.int a :: st) σ Q = if a = 0 then am_Rn L xs d 93 32 ls st σ Q else am_Rn L xs d 93 7 ls st σ Q := (am_r_if (t := 32) d93_4 (by decide)).trans (am_ite _ _ trivial (by simp only [am_cond, decide_eq_true_eq]))
theorem r93_7  : am_Rn L xs d 93 7 ls st σ Q = am_li ls 2 (fun x => am_Rn L xs d 93 8 ls (.int x :: st) σ Q) := am_r_iload_n d93_7
theorem r93_8 {a1 : Value} : am_Rn L xs (d + 1) 93 8 ls (a1 :: st) σ Q = ((st.length ≤ 4 ∧ am_ok a1 = true) ∧ am_Call L xs d 85 [a1] σ (fun r σ1 => am_Rn L xs (d + 1) 93 11 ls (r.toList ++ st) σ1 Q)) := am_R_static1 d93_8 rfl ⟨by decide, rfl⟩ rfl (by decide)
theorem r93_11 {a : Int32} : am_Rn L xs d 93 11 ls (.int a :: st) σ Q = if a = 0 then am_Rn L xs d 93 32 ls st σ Q else am_Rn L xs d 93 14 ls st σ Q := (am_r_if (t := 32) d93_11 (by decide)).trans (am_ite _ _ trivial (by simp only [am_cond, decide_eq_true_eq]))
theorem r93_14  : am_Rn L xs d 93 14 ls st σ Q = am_la ls 0 (fun x => am_Rn L xs d 93 15 ls (x :: st) σ Q) := am_r_aload_n d93_14
theorem r93_15 {p : Nat} : am_Rn L xs d 93 15 ls (.ref p :: st) σ Q = am_fd σ p 6 0 (fun v => am_Rn L xs d 93 18 ls (v :: st) σ Q) := am_r_getfield d93_15 rfl
theorem r93_18  : am_Rn L xs d 93 18 ls st σ Q = am_li ls 1 (fun x => am_Rn L xs d 93 19 ls (.int x :: st) σ Q) := am_r_iload_n d93_18
theorem r93_19 {p : Nat} {i : Int32} : am_Rn L xs d 93 19 ls (.int i :: .ref p :: st) σ Q = am_ai 0 σ p i (fun x => am_Rn L xs d 93 20 ls (.int x :: st) σ Q) := am_r_iaload d93_19
theorem r93_20 {a : Int32} : am_Rn L xs d 93 20 ls (.int a :: st) σ Q = if a = 0 then am_Rn L xs d 93 32 ls st σ Q else am_Rn L xs d 93 23 ls st σ Q := (am_r_if (t := 32) d93_20 (by decide)).trans (am_ite _ _ trivial (by simp only [am_cond, decide_eq_true_eq]))
theorem r93_32  : am_Rn L xs d 93 32 ls st σ Q = am_Rn L xs d 93 33 ls (.int (-1) :: st) σ Q := am_r_iconst d93_32 (by decide)
theorem r93_33 {v : Int32} : am_Rn L xs d 93 33 ls [.int v] σ Q = Q (some (.int v)) σ := am_r_ireturn d93_33 rfl
end
end
section
/-! Rows of the program's instructions, written by program (wip/gen/gen_rows.py) -/
section
variable {L : Nat} {xs : Nat → Int32} {d : Nat} {ls st : List Value} {σ : am_S} {Q : Option Value → am_S → Prop}
theorem d109_0 : decode (pg_code 109) 0 = .ok (.aload_n 0, 1) := by decide +kernel
theorem d109_1 : decode (pg_code 109) 1 = .ok (.getfield 190, 3) := by decide +kernel
theorem d109_4 : decode (pg_code 109) 4 = .ok (.ifCond .eq 26, 3) := by decide +kernel
theorem d109_30 : decode (pg_code 109) 30 = .ok (.iconst (-1), 1) := by decide +kernel
theorem d109_31 : decode (pg_code 109) 31 = .ok (.ireturn, 1) := by decide +kernel
theorem e109 {b1 b2 : Value} : am_Call L xs d 109 [b1, b2] σ Q = am_Rn L xs d 109 0 [b1, b2] [] σ Q := rfl
theorem r109_0  : am_Rn L xs d 109 0 ls st σ Q = am_la ls 0 (fun x => am_Rn L xs d 109 1 ls (x :: st) σ Q) := am_r_aload_n d109_0
theorem r109_1 {p : Nat} : am_Rn L xs d 109 1 ls (.ref p :: st) σ Q = am_fd σ p 6 26 (fun v => am_Rn L xs d 109 4 ls (v :: st) σ Q) := am_r_getfield d109_1 rfl
theorem r109_4 {a : Int32} : am_Rn L xs d 109 4 ls (.int a :: st) σ Q = if a = 0 then am_Rn L xs d 109 30 ls st σ Q else am_Rn L xs d 109 7 ls st σ Q := (am_r_if (t := 30) d109_4 (by decide)).trans (am_ite _ _ trivial (by simp only [am_cond, decide_eq_true_eq]))
theorem r109_30  : am_Rn L xs d 109 30 ls st σ Q = am_Rn L xs d 109 31 ls (.int (-1) :: st) σ Q := am_r_iconst d109_30 (by decide)
theorem r109_31 {v : Int32} : am_Rn L xs d 109 31 ls [.int v] σ Q = Q (some (.int v)) σ := am_r_ireturn d109_31 rfl
theorem d110_0 : decode (pg_code 110) 0 = .ok (.aload_n 0, 1) := by decide +kernel
theorem d110_1 : decode (pg_code 110) 1 = .ok (.getfield 190, 3) := by decide +kernel
theorem d110_4 : decode (pg_code 110) 4 = .ok (.ifCond .eq 26, 3) := by decide +kernel
theorem d110_30 : decode (pg_code 110) 30 = .ok (.bipush (-2), 2) := by decide +kernel
theorem d110_32 : decode (pg_code 110) 32 = .ok (.ireturn, 1) := by decide +kernel
theorem e110 {b1 b2 b3 : Value} : am_Call L xs d 110 [b1, b2, b3] σ Q = am_Rn L xs d 110 0 [b1, b2, b3, .retAddr 0] [] σ Q := rfl
theorem r110_0  : am_Rn L xs d 110 0 ls st σ Q = am_la ls 0 (fun x => am_Rn L xs d 110 1 ls (x :: st) σ Q) := am_r_aload_n d110_0
theorem r110_1 {p : Nat} : am_Rn L xs d 110 1 ls (.ref p :: st) σ Q = am_fd σ p 6 26 (fun v => am_Rn L xs d 110 4 ls (v :: st) σ Q) := am_r_getfield d110_1 rfl
theorem r110_4 {a : Int32} : am_Rn L xs d 110 4 ls (.int a :: st) σ Q = if a = 0 then am_Rn L xs d 110 30 ls st σ Q else am_Rn L xs d 110 7 ls st σ Q := (am_r_if (t := 30) d110_4 (by decide)).trans (am_ite _ _ trivial (by simp only [am_cond, decide_eq_true_eq]))
theorem r110_30  : am_Rn L xs d 110 30 ls st σ Q = am_Rn L xs d 110 32 ls (.int (-2) :: st) σ Q := am_r_bipush d110_30 (by decide)
theorem r110_32 {v : Int32} : am_Rn L xs d 110 32 ls [.int v] σ Q = Q (some (.int v)) σ := am_r_ireturn d110_32 rfl
theorem d111_0 : decode (pg_code 111) 0 = .ok (.iconst 0, 1) := by decide +kernel
theorem d111_1 : decode (pg_code 111) 1 = .ok (.istore_n 2, 1) := by decide +kernel
theorem d111_2 : decode (pg_code 111) 2 = .ok (.iconst 0, 1) := by decide +kernel
theorem d111_3 : decode (pg_code 111) 3 = .ok (.istore_n 3, 1) := by decide +kernel
theorem d111_4 : decode (pg_code 111) 4 = .ok (.iload_n 3, 1) := by decide +kernel
theorem d111_5 : decode (pg_code 111) 5 = .ok (.aload_n 0, 1) := by decide +kernel
theorem d111_6 : decode (pg_code 111) 6 = .ok (.getfield 59, 3) := by decide +kernel
theorem d111_9 : decode (pg_code 111) 9 = .ok (.iconst 1, 1) := by decide +kernel
theorem d111_10 : decode (pg_code 111) 10 = .ok (.iaload, 1) := by decide +kernel
theorem d111_11 : decode (pg_code 111) 11 = .ok (.if_icmp .ge 30, 3) := by decide +kernel
theorem d111_41 : decode (pg_code 111) 41 = .ok (.iload_n 2, 1) := by decide +kernel
theorem d111_42 : decode (pg_code 111) 42 = .ok (.ireturn, 1) := by decide +kernel
theorem e111 {b1 b2 : Value} : am_Call L xs d 111 [b1, b2] σ Q = am_Rn L xs d 111 0 [b1, b2, .retAddr 0, .retAddr 0] [] σ Q := rfl
theorem r111_0  : am_Rn L xs d 111 0 ls st σ Q = am_Rn L xs d 111 1 ls (.int 0 :: st) σ Q := am_r_iconst d111_0 (by decide)
theorem r111_1 {x : Int32} : am_Rn L xs d 111 1 ls (.int x :: st) σ Q = (2 < ls.length ∧ am_Rn L xs d 111 2 (ls.set 2 (.int x)) st σ Q) := am_r_istore_n d111_1
theorem r111_2  : am_Rn L xs d 111 2 ls st σ Q = am_Rn L xs d 111 3 ls (.int 0 :: st) σ Q := am_r_iconst d111_2 (by decide)
theorem r111_3 {x : Int32} : am_Rn L xs d 111 3 ls (.int x :: st) σ Q = (3 < ls.length ∧ am_Rn L xs d 111 4 (ls.set 3 (.int x)) st σ Q) := am_r_istore_n d111_3
theorem r111_4  : am_Rn L xs d 111 4 ls st σ Q = am_li ls 3 (fun x => am_Rn L xs d 111 5 ls (.int x :: st) σ Q) := am_r_iload_n d111_4
theorem r111_5  : am_Rn L xs d 111 5 ls st σ Q = am_la ls 0 (fun x => am_Rn L xs d 111 6 ls (x :: st) σ Q) := am_r_aload_n d111_5
theorem r111_6 {p : Nat} : am_Rn L xs d 111 6 ls (.ref p :: st) σ Q = am_fd σ p 6 18 (fun v => am_Rn L xs d 111 9 ls (v :: st) σ Q) := am_r_getfield d111_6 rfl
theorem r111_9  : am_Rn L xs d 111 9 ls st σ Q = am_Rn L xs d 111 10 ls (.int 1 :: st) σ Q := am_r_iconst d111_9 (by decide)
theorem r111_10 {p : Nat} {i : Int32} : am_Rn L xs d 111 10 ls (.int i :: .ref p :: st) σ Q = am_ai 0 σ p i (fun x => am_Rn L xs d 111 11 ls (.int x :: st) σ Q) := am_r_iaload d111_10
theorem r111_11 {a b : Int32} : am_Rn L xs d 111 11 ls (.int b :: .int a :: st) σ Q = if b ≤ a then am_Rn L xs d 111 41 ls st σ Q else am_Rn L xs d 111 14 ls st σ Q := (am_r_icmp (t := 41) d111_11 (by decide)).trans (am_ite _ _ trivial (by simp only [am_cond, decide_eq_true_eq]))
theorem r111_41  : am_Rn L xs d 111 41 ls st σ Q = am_li ls 2 (fun x => am_Rn L xs d 111 42 ls (.int x :: st) σ Q) := am_r_iload_n d111_41
theorem r111_42 {v : Int32} : am_Rn L xs d 111 42 ls [.int v] σ Q = Q (some (.int v)) σ := am_r_ireturn d111_42 rfl
theorem d112_0 : decode (pg_code 112) 0 = .ok (.aload_n 0, 1) := by decide +kernel
theorem d112_1 : decode (pg_code 112) 1 = .ok (.getfield 190, 3) := by decide +kernel
theorem d112_4 : decode (pg_code 112) 4 = .ok (.ifCond .eq 17, 3) := by decide +kernel
theorem d112_21 : decode (pg_code 112) 21 = .ok (.iconst (-1), 1) := by decide +kernel
theorem d112_22 : decode (pg_code 112) 22 = .ok (.ireturn, 1) := by decide +kernel
theorem e112 {b1 b2 : Value} : am_Call L xs d 112 [b1, b2] σ Q = am_Rn L xs d 112 0 [b1, b2, .retAddr 0] [] σ Q := rfl
theorem r112_0  : am_Rn L xs d 112 0 ls st σ Q = am_la ls 0 (fun x => am_Rn L xs d 112 1 ls (x :: st) σ Q) := am_r_aload_n d112_0
theorem r112_1 {p : Nat} : am_Rn L xs d 112 1 ls (.ref p :: st) σ Q = am_fd σ p 6 26 (fun v => am_Rn L xs d 112 4 ls (v :: st) σ Q) := am_r_getfield d112_1 rfl
theorem r112_4 {a : Int32} : am_Rn L xs d 112 4 ls (.int a :: st) σ Q = if a = 0 then am_Rn L xs d 112 21 ls st σ Q else am_Rn L xs d 112 7 ls st σ Q := (am_r_if (t := 21) d112_4 (by decide)).trans (am_ite _ _ trivial (by simp only [am_cond, decide_eq_true_eq]))
theorem r112_21  : am_Rn L xs d 112 21 ls st σ Q = am_Rn L xs d 112 22 ls (.int (-1) :: st) σ Q := am_r_iconst d112_21 (by decide)
theorem r112_22 {v : Int32} : am_Rn L xs d 112 22 ls [.int v] σ Q = Q (some (.int v)) σ := am_r_ireturn d112_22 rfl
end
end
section
/-! Rows of the program's instructions, written by program (wip/gen/gen_rows.py) -/
section
variable {L : Nat} {xs : Nat → Int32} {d : Nat} {ls st : List Value} {σ : am_S} {Q : Option Value → am_S → Prop}
theorem d119_0 : decode (pg_code 119) 0 = .ok (.aload_n 0, 1) := by decide +kernel
theorem d119_1 : decode (pg_code 119) 1 = .ok (.getfield 7, 3) := by decide +kernel
theorem d119_4 : decode (pg_code 119) 4 = .ok (.iconst 0, 1) := by decide +kernel
theorem d119_5 : decode (pg_code 119) 5 = .ok (.iaload, 1) := by decide +kernel
theorem d119_6 : decode (pg_code 119) 6 = .ok (.ifCond .eq 21, 3) := by decide +kernel
theorem d119_27 : decode (pg_code 119) 27 = .ok (.iconst (-1), 1) := by decide +kernel
theorem d119_28 : decode (pg_code 119) 28 = .ok (.ireturn, 1) := by decide +kernel
theorem e119 {b1 : Value} : am_Call L xs d 119 [b1] σ Q = am_Rn L xs d 119 0 [b1, .retAddr 0] [] σ Q := rfl
theorem r119_0  : am_Rn L xs d 119 0 ls st σ Q = am_la ls 0 (fun x => am_Rn L xs d 119 1 ls (x :: st) σ Q) := am_r_aload_n d119_0
theorem r119_1 {p : Nat} : am_Rn L xs d 119 1 ls (.ref p :: st) σ Q = am_fd σ p 6 0 (fun v => am_Rn L xs d 119 4 ls (v :: st) σ Q) := am_r_getfield d119_1 rfl
theorem r119_4  : am_Rn L xs d 119 4 ls st σ Q = am_Rn L xs d 119 5 ls (.int 0 :: st) σ Q := am_r_iconst d119_4 (by decide)
theorem r119_5 {p : Nat} {i : Int32} : am_Rn L xs d 119 5 ls (.int i :: .ref p :: st) σ Q = am_ai 0 σ p i (fun x => am_Rn L xs d 119 6 ls (.int x :: st) σ Q) := am_r_iaload d119_5
theorem r119_6 {a : Int32} : am_Rn L xs d 119 6 ls (.int a :: st) σ Q = if a = 0 then am_Rn L xs d 119 27 ls st σ Q else am_Rn L xs d 119 9 ls st σ Q := (am_r_if (t := 27) d119_6 (by decide)).trans (am_ite _ _ trivial (by simp only [am_cond, decide_eq_true_eq]))
theorem r119_27  : am_Rn L xs d 119 27 ls st σ Q = am_Rn L xs d 119 28 ls (.int (-1) :: st) σ Q := am_r_iconst d119_27 (by decide)
theorem r119_28 {v : Int32} : am_Rn L xs d 119 28 ls [.int v] σ Q = Q (some (.int v)) σ := am_r_ireturn d119_28 rfl
end
end
section
/-! Rows of the program's instructions, written by program (wip/gen/gen_rows.py) -/
section
variable {L : Nat} {xs : Nat → Int32} {d : Nat} {ls st : List Value} {σ : am_S} {Q : Option Value → am_S → Prop}
theorem d129_0 : decode (pg_code 129) 0 = .ok (.aload_n 0, 1) := by decide +kernel
theorem d129_1 : decode (pg_code 129) 1 = .ok (.getfield 218, 3) := by decide +kernel
theorem d129_4 : decode (pg_code 129) 4 = .ok (.ifCond .eq 33, 3) := by decide +kernel
theorem d129_37 : decode (pg_code 129) 37 = .ok (.bipush (-2), 2) := by decide +kernel
theorem d129_39 : decode (pg_code 129) 39 = .ok (.ireturn, 1) := by decide +kernel
theorem e129 {b1 b2 b3 : Value} : am_Call L xs d 129 [b1, b2, b3] σ Q = am_Rn L xs d 129 0 [b1, b2, b3, .retAddr 0, .retAddr 0] [] σ Q := rfl
theorem r129_0  : am_Rn L xs d 129 0 ls st σ Q = am_la ls 0 (fun x => am_Rn L xs d 129 1 ls (x :: st) σ Q) := am_r_aload_n d129_0
theorem r129_1 {p : Nat} : am_Rn L xs d 129 1 ls (.ref p :: st) σ Q = am_fd σ p 6 28 (fun v => am_Rn L xs d 129 4 ls (v :: st) σ Q) := am_r_getfield d129_1 rfl
theorem r129_4 {a : Int32} : am_Rn L xs d 129 4 ls (.int a :: st) σ Q = if a = 0 then am_Rn L xs d 129 37 ls st σ Q else am_Rn L xs d 129 7 ls st σ Q := (am_r_if (t := 37) d129_4 (by decide)).trans (am_ite _ _ trivial (by simp only [am_cond, decide_eq_true_eq]))
theorem r129_37  : am_Rn L xs d 129 37 ls st σ Q = am_Rn L xs d 129 39 ls (.int (-2) :: st) σ Q := am_r_bipush d129_37 (by decide)
theorem r129_39 {v : Int32} : am_Rn L xs d 129 39 ls [.int v] σ Q = Q (some (.int v)) σ := am_r_ireturn d129_39 rfl
theorem d130_0 : decode (pg_code 130) 0 = .ok (.aload_n 0, 1) := by decide +kernel
theorem d130_1 : decode (pg_code 130) 1 = .ok (.getfield 218, 3) := by decide +kernel
theorem d130_4 : decode (pg_code 130) 4 = .ok (.ifCond .eq 37, 3) := by decide +kernel
theorem d130_41 : decode (pg_code 130) 41 = .ok (.iconst 0, 1) := by decide +kernel
theorem d130_42 : decode (pg_code 130) 42 = .ok (.ireturn, 1) := by decide +kernel
theorem e130 {b1 b2 : Value} : am_Call L xs d 130 [b1, b2] σ Q = am_Rn L xs d 130 0 [b1, b2, .retAddr 0, .retAddr 0, .retAddr 0, .retAddr 0, .retAddr 0] [] σ Q := rfl
theorem r130_0  : am_Rn L xs d 130 0 ls st σ Q = am_la ls 0 (fun x => am_Rn L xs d 130 1 ls (x :: st) σ Q) := am_r_aload_n d130_0
theorem r130_1 {p : Nat} : am_Rn L xs d 130 1 ls (.ref p :: st) σ Q = am_fd σ p 6 28 (fun v => am_Rn L xs d 130 4 ls (v :: st) σ Q) := am_r_getfield d130_1 rfl
theorem r130_4 {a : Int32} : am_Rn L xs d 130 4 ls (.int a :: st) σ Q = if a = 0 then am_Rn L xs d 130 41 ls st σ Q else am_Rn L xs d 130 7 ls st σ Q := (am_r_if (t := 41) d130_4 (by decide)).trans (am_ite _ _ trivial (by simp only [am_cond, decide_eq_true_eq]))
theorem r130_41  : am_Rn L xs d 130 41 ls st σ Q = am_Rn L xs d 130 42 ls (.int 0 :: st) σ Q := am_r_iconst d130_41 (by decide)
theorem r130_42 {v : Int32} (hv : v = 0 ∨ v = 1) : am_Rn L xs d 130 42 ls [.int v] σ Q = Q (some (.int v)) σ := am_r_zreturn d130_42 rfl hv
end
end
section
/-! Reads and writes at the places of the shape, written by program (wip/gen/gen_init.py) -/
section
variable {s : St}
theorem mk_fd {p ci k : Nat} {fs : List (Nat ⊕ Nat)} {f : Value → Prop} (x : Nat ⊕ Nat) (hs : in_sk[p]? = some (.inr (.inr (ci, fs)))) (hk : fs[k]? = some x) : am_fd (mk s) p ci k f = f (am_fv s.2.1 s.2.2 p k x) := am_k_fd hs hk
theorem g0_0 {f : Value → Prop} : am_fd (mk s) 0 0 0 f = f (.ref 1) := mk_fd (.inl 1) rfl rfl
theorem g0_1 {f : Value → Prop} : am_fd (mk s) 0 0 1 f = f (.ref 17) := mk_fd (.inl 17) rfl rfl
theorem a17 {i : Int32} {f : Int32 → Prop} : am_ai 0 (mk s) 17 i f = (am_in i 12 = true ∧ f (s.1 17 i.toNatClampNeg)) := am_k_ai (sk := in_sk) rfl
theorem w17 {i x : Int32} {f : am_S → Prop} : am_wi 0 (mk s) 17 i x f = (am_in i 12 = true ∧ f (mk (va_up s.1 17 (upd (s.1 17) i.toNatClampNeg x), s.2))) := am_k_wi (sk := in_sk) rfl
theorem g0_2 {f : Value → Prop} : am_fd (mk s) 0 0 2 f = f (.ref 18) := mk_fd (.inl 18) rfl rfl
theorem g0_3 {f : Value → Prop} : am_fd (mk s) 0 0 3 f = f (.ref 23) := mk_fd (.inl 23) rfl rfl
theorem g0_4 {f : Value → Prop} : am_fd (mk s) 0 0 4 f = f (.ref 53) := mk_fd (.inl 53) rfl rfl
theorem g0_5 {f : Value → Prop} : am_fd (mk s) 0 0 5 f = f (.ref 54) := mk_fd (.inl 54) rfl rfl
theorem g0_6 {f : Value → Prop} : am_fd (mk s) 0 0 6 f = f (.int (s.2.1 0 6)) := mk_fd (.inr 0) rfl rfl
theorem v0_6 {y o : Nat} {x : Int32} {f : am_S → Prop} (hx : x = 0 ∨ x = 1) : am_wf y o (mk s) 0 0 6 (.int x) f = f (mk (s.1, am_u2 s.2.1 0 6 x, s.2.2)) := am_k_wF (sk := in_sk) rfl rfl (by rcases hx with rfl | rfl <;> rfl) (fun h => by cases h)
theorem g0_7 {f : Value → Prop} : am_fd (mk s) 0 0 7 f = f (.int (s.2.1 0 7)) := mk_fd (.inr 0) rfl rfl
theorem v0_7 {y o : Nat} {x : Int32} {f : am_S → Prop} (hx : x = 0 ∨ x = 1) : am_wf y o (mk s) 0 0 7 (.int x) f = f (mk (s.1, am_u2 s.2.1 0 7 x, s.2.2)) := am_k_wF (sk := in_sk) rfl rfl (by rcases hx with rfl | rfl <;> rfl) (fun h => by cases h)
theorem g121_0 {f : Value → Prop} : am_fd (mk s) 121 6 0 f = f (.ref 122) := mk_fd (.inl 122) rfl rfl
theorem a122 {i : Int32} {f : Int32 → Prop} : am_ai 0 (mk s) 122 i f = (am_in i 4 = true ∧ f (s.1 122 i.toNatClampNeg)) := am_k_ai (sk := in_sk) rfl
theorem w122 {i x : Int32} {f : am_S → Prop} : am_wi 0 (mk s) 122 i x f = (am_in i 4 = true ∧ f (mk (va_up s.1 122 (upd (s.1 122) i.toNatClampNeg x), s.2))) := am_k_wi (sk := in_sk) rfl
theorem g121_1 {f : Value → Prop} : am_fd (mk s) 121 6 1 f = f (.ref 123) := mk_fd (.inl 123) rfl rfl
theorem a123 {i : Int32} {f : Int32 → Prop} : am_ai 0 (mk s) 123 i f = (am_in i 48 = true ∧ f (s.1 123 i.toNatClampNeg)) := am_k_ai (sk := in_sk) rfl
theorem w123 {i x : Int32} {f : am_S → Prop} : am_wi 0 (mk s) 123 i x f = (am_in i 48 = true ∧ f (mk (va_up s.1 123 (upd (s.1 123) i.toNatClampNeg x), s.2))) := am_k_wi (sk := in_sk) rfl
theorem g121_2 {f : Value → Prop} : am_fd (mk s) 121 6 2 f = f (.ref 124) := mk_fd (.inl 124) rfl rfl
theorem a124 {i : Int32} {f : Int32 → Prop} : am_ai 0 (mk s) 124 i f = (am_in i 48 = true ∧ f (s.1 124 i.toNatClampNeg)) := am_k_ai (sk := in_sk) rfl
theorem w124 {i x : Int32} {f : am_S → Prop} : am_wi 0 (mk s) 124 i x f = (am_in i 48 = true ∧ f (mk (va_up s.1 124 (upd (s.1 124) i.toNatClampNeg x), s.2))) := am_k_wi (sk := in_sk) rfl
theorem g121_3 {f : Value → Prop} : am_fd (mk s) 121 6 3 f = f (.ref 125) := mk_fd (.inl 125) rfl rfl
theorem a125 {i : Int32} {f : Int32 → Prop} : am_ai 0 (mk s) 125 i f = (am_in i 48 = true ∧ f (s.1 125 i.toNatClampNeg)) := am_k_ai (sk := in_sk) rfl
theorem w125 {i x : Int32} {f : am_S → Prop} : am_wi 0 (mk s) 125 i x f = (am_in i 48 = true ∧ f (mk (va_up s.1 125 (upd (s.1 125) i.toNatClampNeg x), s.2))) := am_k_wi (sk := in_sk) rfl
theorem g121_4 {f : Value → Prop} : am_fd (mk s) 121 6 4 f = f (.ref 126) := mk_fd (.inl 126) rfl rfl
theorem a126 {i : Int32} {f : Int32 → Prop} : am_ai 0 (mk s) 126 i f = (am_in i 12 = true ∧ f (s.1 126 i.toNatClampNeg)) := am_k_ai (sk := in_sk) rfl
theorem w126 {i x : Int32} {f : am_S → Prop} : am_wi 0 (mk s) 126 i x f = (am_in i 12 = true ∧ f (mk (va_up s.1 126 (upd (s.1 126) i.toNatClampNeg x), s.2))) := am_k_wi (sk := in_sk) rfl
theorem g121_5 {f : Value → Prop} : am_fd (mk s) 121 6 5 f = f (.ref 127) := mk_fd (.inl 127) rfl rfl
theorem a127 {i : Int32} {f : Int32 → Prop} : am_ai 0 (mk s) 127 i f = (am_in i 12 = true ∧ f (s.1 127 i.toNatClampNeg)) := am_k_ai (sk := in_sk) rfl
theorem w127 {i x : Int32} {f : am_S → Prop} : am_wi 0 (mk s) 127 i x f = (am_in i 12 = true ∧ f (mk (va_up s.1 127 (upd (s.1 127) i.toNatClampNeg x), s.2))) := am_k_wi (sk := in_sk) rfl
theorem g121_6 {f : Value → Prop} : am_fd (mk s) 121 6 6 f = f (.ref 128) := mk_fd (.inl 128) rfl rfl
theorem a128 {i : Int32} {f : Int32 → Prop} : am_ai 1 (mk s) 128 i f = (am_in i 144 = true ∧ f (s.1 128 i.toNatClampNeg)) := am_k_ai (sk := in_sk) rfl
theorem w128 {i x : Int32} {f : am_S → Prop} : am_wi 1 (mk s) 128 i x f = (am_in i 144 = true ∧ f (mk (va_up s.1 128 (upd (s.1 128) i.toNatClampNeg x), s.2))) := am_k_wi (sk := in_sk) rfl
theorem g121_7 {f : Value → Prop} : am_fd (mk s) 121 6 7 f = f (.ref 129) := mk_fd (.inl 129) rfl rfl
theorem a129 {i : Int32} {f : Int32 → Prop} : am_ai 1 (mk s) 129 i f = (am_in i 144 = true ∧ f (s.1 129 i.toNatClampNeg)) := am_k_ai (sk := in_sk) rfl
theorem w129 {i x : Int32} {f : am_S → Prop} : am_wi 1 (mk s) 129 i x f = (am_in i 144 = true ∧ f (mk (va_up s.1 129 (upd (s.1 129) i.toNatClampNeg x), s.2))) := am_k_wi (sk := in_sk) rfl
theorem g121_8 {f : Value → Prop} : am_fd (mk s) 121 6 8 f = f (.ref 130) := mk_fd (.inl 130) rfl rfl
theorem a130 {i : Int32} {f : Int32 → Prop} : am_ai 1 (mk s) 130 i f = (am_in i 144 = true ∧ f (s.1 130 i.toNatClampNeg)) := am_k_ai (sk := in_sk) rfl
theorem w130 {i x : Int32} {f : am_S → Prop} : am_wi 1 (mk s) 130 i x f = (am_in i 144 = true ∧ f (mk (va_up s.1 130 (upd (s.1 130) i.toNatClampNeg x), s.2))) := am_k_wi (sk := in_sk) rfl
theorem g121_9 {f : Value → Prop} : am_fd (mk s) 121 6 9 f = f (.ref 131) := mk_fd (.inl 131) rfl rfl
theorem a131 {i : Int32} {f : Int32 → Prop} : am_ai 0 (mk s) 131 i f = (am_in i 12 = true ∧ f (s.1 131 i.toNatClampNeg)) := am_k_ai (sk := in_sk) rfl
theorem w131 {i x : Int32} {f : am_S → Prop} : am_wi 0 (mk s) 131 i x f = (am_in i 12 = true ∧ f (mk (va_up s.1 131 (upd (s.1 131) i.toNatClampNeg x), s.2))) := am_k_wi (sk := in_sk) rfl
theorem g121_10 {f : Value → Prop} : am_fd (mk s) 121 6 10 f = f (.ref 132) := mk_fd (.inl 132) rfl rfl
theorem a132 {i : Int32} {f : Int32 → Prop} : am_ai 0 (mk s) 132 i f = (am_in i 12 = true ∧ f (s.1 132 i.toNatClampNeg)) := am_k_ai (sk := in_sk) rfl
theorem w132 {i x : Int32} {f : am_S → Prop} : am_wi 0 (mk s) 132 i x f = (am_in i 12 = true ∧ f (mk (va_up s.1 132 (upd (s.1 132) i.toNatClampNeg x), s.2))) := am_k_wi (sk := in_sk) rfl
theorem g121_11 {f : Value → Prop} : am_fd (mk s) 121 6 11 f = f (.ref 133) := mk_fd (.inl 133) rfl rfl
theorem a133 {i : Int32} {f : Int32 → Prop} : am_ai 0 (mk s) 133 i f = (am_in i 12 = true ∧ f (s.1 133 i.toNatClampNeg)) := am_k_ai (sk := in_sk) rfl
theorem w133 {i x : Int32} {f : am_S → Prop} : am_wi 0 (mk s) 133 i x f = (am_in i 12 = true ∧ f (mk (va_up s.1 133 (upd (s.1 133) i.toNatClampNeg x), s.2))) := am_k_wi (sk := in_sk) rfl
theorem g121_12 {f : Value → Prop} : am_fd (mk s) 121 6 12 f = f (.ref 134) := mk_fd (.inl 134) rfl rfl
theorem a134 {i : Int32} {f : Int32 → Prop} : am_ai 1 (mk s) 134 i f = (am_in i 12 = true ∧ f (s.1 134 i.toNatClampNeg)) := am_k_ai (sk := in_sk) rfl
theorem w134 {i x : Int32} {f : am_S → Prop} : am_wi 1 (mk s) 134 i x f = (am_in i 12 = true ∧ f (mk (va_up s.1 134 (upd (s.1 134) i.toNatClampNeg x), s.2))) := am_k_wi (sk := in_sk) rfl
theorem g121_13 {f : Value → Prop} : am_fd (mk s) 121 6 13 f = f (.ref 135) := mk_fd (.inl 135) rfl rfl
theorem a135 {i : Int32} {f : Int32 → Prop} : am_ai 0 (mk s) 135 i f = (am_in i 12 = true ∧ f (s.1 135 i.toNatClampNeg)) := am_k_ai (sk := in_sk) rfl
theorem w135 {i x : Int32} {f : am_S → Prop} : am_wi 0 (mk s) 135 i x f = (am_in i 12 = true ∧ f (mk (va_up s.1 135 (upd (s.1 135) i.toNatClampNeg x), s.2))) := am_k_wi (sk := in_sk) rfl
theorem g121_14 {f : Value → Prop} : am_fd (mk s) 121 6 14 f = f (.ref 136) := mk_fd (.inl 136) rfl rfl
theorem a136 {i : Int32} {f : Int32 → Prop} : am_ai 0 (mk s) 136 i f = (am_in i 12 = true ∧ f (s.1 136 i.toNatClampNeg)) := am_k_ai (sk := in_sk) rfl
theorem w136 {i x : Int32} {f : am_S → Prop} : am_wi 0 (mk s) 136 i x f = (am_in i 12 = true ∧ f (mk (va_up s.1 136 (upd (s.1 136) i.toNatClampNeg x), s.2))) := am_k_wi (sk := in_sk) rfl
theorem g121_15 {f : Value → Prop} : am_fd (mk s) 121 6 15 f = f (.ref 137) := mk_fd (.inl 137) rfl rfl
theorem a137 {i : Int32} {f : Int32 → Prop} : am_ai 0 (mk s) 137 i f = (am_in i 12 = true ∧ f (s.1 137 i.toNatClampNeg)) := am_k_ai (sk := in_sk) rfl
theorem w137 {i x : Int32} {f : am_S → Prop} : am_wi 0 (mk s) 137 i x f = (am_in i 12 = true ∧ f (mk (va_up s.1 137 (upd (s.1 137) i.toNatClampNeg x), s.2))) := am_k_wi (sk := in_sk) rfl
theorem g121_16 {f : Value → Prop} : am_fd (mk s) 121 6 16 f = f (.int (s.2.1 121 16)) := mk_fd (.inr 0) rfl rfl
theorem v121_16 {y o : Nat} {x : Int32} {f : am_S → Prop} : am_wf y o (mk s) 121 6 16 (.int x) f = f (mk (s.1, am_u2 s.2.1 121 16 x, s.2.2)) := am_k_wF (sk := in_sk) rfl rfl rfl (fun h => by cases h)
theorem g121_17 {f : Value → Prop} : am_fd (mk s) 121 6 17 f = f (.int (s.2.1 121 17)) := mk_fd (.inr 0) rfl rfl
theorem v121_17 {y o : Nat} {x : Int32} {f : am_S → Prop} : am_wf y o (mk s) 121 6 17 (.int x) f = f (mk (s.1, am_u2 s.2.1 121 17 x, s.2.2)) := am_k_wF (sk := in_sk) rfl rfl rfl (fun h => by cases h)
theorem g121_18 {f : Value → Prop} : am_fd (mk s) 121 6 18 f = f (.ref 138) := mk_fd (.inl 138) rfl rfl
theorem a138 {i : Int32} {f : Int32 → Prop} : am_ai 0 (mk s) 138 i f = (am_in i 4 = true ∧ f (s.1 138 i.toNatClampNeg)) := am_k_ai (sk := in_sk) rfl
theorem w138 {i x : Int32} {f : am_S → Prop} : am_wi 0 (mk s) 138 i x f = (am_in i 4 = true ∧ f (mk (va_up s.1 138 (upd (s.1 138) i.toNatClampNeg x), s.2))) := am_k_wi (sk := in_sk) rfl
theorem g121_19 {f : Value → Prop} : am_fd (mk s) 121 6 19 f = f (.ref 139) := mk_fd (.inl 139) rfl rfl
theorem a139 {i : Int32} {f : Int32 → Prop} : am_ai 0 (mk s) 139 i f = (am_in i 160 = true ∧ f (s.1 139 i.toNatClampNeg)) := am_k_ai (sk := in_sk) rfl
theorem w139 {i x : Int32} {f : am_S → Prop} : am_wi 0 (mk s) 139 i x f = (am_in i 160 = true ∧ f (mk (va_up s.1 139 (upd (s.1 139) i.toNatClampNeg x), s.2))) := am_k_wi (sk := in_sk) rfl
theorem g121_20 {f : Value → Prop} : am_fd (mk s) 121 6 20 f = f (.ref 140) := mk_fd (.inl 140) rfl rfl
theorem a140 {i : Int32} {f : Int32 → Prop} : am_ai 0 (mk s) 140 i f = (am_in i 160 = true ∧ f (s.1 140 i.toNatClampNeg)) := am_k_ai (sk := in_sk) rfl
theorem w140 {i x : Int32} {f : am_S → Prop} : am_wi 0 (mk s) 140 i x f = (am_in i 160 = true ∧ f (mk (va_up s.1 140 (upd (s.1 140) i.toNatClampNeg x), s.2))) := am_k_wi (sk := in_sk) rfl
theorem g121_21 {f : Value → Prop} : am_fd (mk s) 121 6 21 f = f (.ref 141) := mk_fd (.inl 141) rfl rfl
theorem a141 {i : Int32} {f : Int32 → Prop} : am_ai 0 (mk s) 141 i f = (am_in i 160 = true ∧ f (s.1 141 i.toNatClampNeg)) := am_k_ai (sk := in_sk) rfl
theorem w141 {i x : Int32} {f : am_S → Prop} : am_wi 0 (mk s) 141 i x f = (am_in i 160 = true ∧ f (mk (va_up s.1 141 (upd (s.1 141) i.toNatClampNeg x), s.2))) := am_k_wi (sk := in_sk) rfl
theorem g121_22 {f : Value → Prop} : am_fd (mk s) 121 6 22 f = f (.ref 142) := mk_fd (.inl 142) rfl rfl
theorem a142 {i : Int32} {f : Int32 → Prop} : am_ai 0 (mk s) 142 i f = (am_in i 160 = true ∧ f (s.1 142 i.toNatClampNeg)) := am_k_ai (sk := in_sk) rfl
theorem w142 {i x : Int32} {f : am_S → Prop} : am_wi 0 (mk s) 142 i x f = (am_in i 160 = true ∧ f (mk (va_up s.1 142 (upd (s.1 142) i.toNatClampNeg x), s.2))) := am_k_wi (sk := in_sk) rfl
theorem g121_23 {f : Value → Prop} : am_fd (mk s) 121 6 23 f = f (.ref 143) := mk_fd (.inl 143) rfl rfl
theorem a143 {i : Int32} {f : Int32 → Prop} : am_ai 0 (mk s) 143 i f = (am_in i 160 = true ∧ f (s.1 143 i.toNatClampNeg)) := am_k_ai (sk := in_sk) rfl
theorem w143 {i x : Int32} {f : am_S → Prop} : am_wi 0 (mk s) 143 i x f = (am_in i 160 = true ∧ f (mk (va_up s.1 143 (upd (s.1 143) i.toNatClampNeg x), s.2))) := am_k_wi (sk := in_sk) rfl
theorem g121_24 {f : Value → Prop} : am_fd (mk s) 121 6 24 f = f (.ref 144) := mk_fd (.inl 144) rfl rfl
theorem a144 {i : Int32} {f : Int32 → Prop} : am_ai 0 (mk s) 144 i f = (am_in i 160 = true ∧ f (s.1 144 i.toNatClampNeg)) := am_k_ai (sk := in_sk) rfl
theorem w144 {i x : Int32} {f : am_S → Prop} : am_wi 0 (mk s) 144 i x f = (am_in i 160 = true ∧ f (mk (va_up s.1 144 (upd (s.1 144) i.toNatClampNeg x), s.2))) := am_k_wi (sk := in_sk) rfl
theorem g121_25 {f : Value → Prop} : am_fd (mk s) 121 6 25 f = f (.ref 145) := mk_fd (.inl 145) rfl rfl
theorem a145 {i : Int32} {f : Int32 → Prop} : am_ai 0 (mk s) 145 i f = (am_in i 4 = true ∧ f (s.1 145 i.toNatClampNeg)) := am_k_ai (sk := in_sk) rfl
theorem w145 {i x : Int32} {f : am_S → Prop} : am_wi 0 (mk s) 145 i x f = (am_in i 4 = true ∧ f (mk (va_up s.1 145 (upd (s.1 145) i.toNatClampNeg x), s.2))) := am_k_wi (sk := in_sk) rfl
theorem g121_26 {f : Value → Prop} : am_fd (mk s) 121 6 26 f = f (.int (s.2.1 121 26)) := mk_fd (.inr 0) rfl rfl
theorem v121_26 {y o : Nat} {x : Int32} {f : am_S → Prop} (hx : x = 0 ∨ x = 1) : am_wf y o (mk s) 121 6 26 (.int x) f = f (mk (s.1, am_u2 s.2.1 121 26 x, s.2.2)) := am_k_wF (sk := in_sk) rfl rfl (by rcases hx with rfl | rfl <;> rfl) (fun h => by cases h)
theorem g121_27 {f : Value → Prop} : am_fd (mk s) 121 6 27 f = f (.ref 146) := mk_fd (.inl 146) rfl rfl
theorem a146 {i : Int32} {f : Int32 → Prop} : am_ai 0 (mk s) 146 i f = (am_in i 12 = true ∧ f (s.1 146 i.toNatClampNeg)) := am_k_ai (sk := in_sk) rfl
theorem w146 {i x : Int32} {f : am_S → Prop} : am_wi 0 (mk s) 146 i x f = (am_in i 12 = true ∧ f (mk (va_up s.1 146 (upd (s.1 146) i.toNatClampNeg x), s.2))) := am_k_wi (sk := in_sk) rfl
theorem g121_28 {f : Value → Prop} : am_fd (mk s) 121 6 28 f = f (.int (s.2.1 121 28)) := mk_fd (.inr 0) rfl rfl
theorem v121_28 {y o : Nat} {x : Int32} {f : am_S → Prop} (hx : x = 0 ∨ x = 1) : am_wf y o (mk s) 121 6 28 (.int x) f = f (mk (s.1, am_u2 s.2.1 121 28 x, s.2.2)) := am_k_wF (sk := in_sk) rfl rfl (by rcases hx with rfl | rfl <;> rfl) (fun h => by cases h)
theorem g121_29 {f : Value → Prop} : am_fd (mk s) 121 6 29 f = f (.int (s.2.1 121 29)) := mk_fd (.inr 0) rfl rfl
theorem v121_29 {y o : Nat} {x : Int32} {f : am_S → Prop} : am_wf y o (mk s) 121 6 29 (.int x) f = f (mk (s.1, am_u2 s.2.1 121 29 x, s.2.2)) := am_k_wF (sk := in_sk) rfl rfl rfl (fun h => by cases h)
theorem g121_30 {f : Value → Prop} : am_fd (mk s) 121 6 30 f = f (.ref 147) := mk_fd (.inl 147) rfl rfl
theorem a147 {i : Int32} {f : Int32 → Prop} : am_ai 1 (mk s) 147 i f = (am_in i 36 = true ∧ f (s.1 147 i.toNatClampNeg)) := am_k_ai (sk := in_sk) rfl
theorem w147 {i x : Int32} {f : am_S → Prop} : am_wi 1 (mk s) 147 i x f = (am_in i 36 = true ∧ f (mk (va_up s.1 147 (upd (s.1 147) i.toNatClampNeg x), s.2))) := am_k_wi (sk := in_sk) rfl
theorem g121_31 {f : Value → Prop} : am_fd (mk s) 121 6 31 f = f (.ref 148) := mk_fd (.inl 148) rfl rfl
theorem a148 {i : Int32} {f : Int32 → Prop} : am_ai 0 (mk s) 148 i f = (am_in i 36 = true ∧ f (s.1 148 i.toNatClampNeg)) := am_k_ai (sk := in_sk) rfl
theorem w148 {i x : Int32} {f : am_S → Prop} : am_wi 0 (mk s) 148 i x f = (am_in i 36 = true ∧ f (mk (va_up s.1 148 (upd (s.1 148) i.toNatClampNeg x), s.2))) := am_k_wi (sk := in_sk) rfl
theorem g121_32 {f : Value → Prop} : am_fd (mk s) 121 6 32 f = f (.ref 149) := mk_fd (.inl 149) rfl rfl
theorem a149 {i : Int32} {f : Int32 → Prop} : am_ai 0 (mk s) 149 i f = (am_in i 36 = true ∧ f (s.1 149 i.toNatClampNeg)) := am_k_ai (sk := in_sk) rfl
theorem w149 {i x : Int32} {f : am_S → Prop} : am_wi 0 (mk s) 149 i x f = (am_in i 36 = true ∧ f (mk (va_up s.1 149 (upd (s.1 149) i.toNatClampNeg x), s.2))) := am_k_wi (sk := in_sk) rfl
theorem g121_33 {f : Value → Prop} : am_fd (mk s) 121 6 33 f = f (.ref 150) := mk_fd (.inl 150) rfl rfl
theorem a150 {i : Int32} {f : Int32 → Prop} : am_ai 0 (mk s) 150 i f = (am_in i 36 = true ∧ f (s.1 150 i.toNatClampNeg)) := am_k_ai (sk := in_sk) rfl
theorem w150 {i x : Int32} {f : am_S → Prop} : am_wi 0 (mk s) 150 i x f = (am_in i 36 = true ∧ f (mk (va_up s.1 150 (upd (s.1 150) i.toNatClampNeg x), s.2))) := am_k_wi (sk := in_sk) rfl
theorem g121_34 {f : Value → Prop} : am_fd (mk s) 121 6 34 f = f (.ref 151) := mk_fd (.inl 151) rfl rfl
theorem a151 {i : Int32} {f : Int32 → Prop} : am_ai 0 (mk s) 151 i f = (am_in i 36 = true ∧ f (s.1 151 i.toNatClampNeg)) := am_k_ai (sk := in_sk) rfl
theorem w151 {i x : Int32} {f : am_S → Prop} : am_wi 0 (mk s) 151 i x f = (am_in i 36 = true ∧ f (mk (va_up s.1 151 (upd (s.1 151) i.toNatClampNeg x), s.2))) := am_k_wi (sk := in_sk) rfl
theorem g121_35 {f : Value → Prop} : am_fd (mk s) 121 6 35 f = f (.int (s.2.1 121 35)) := mk_fd (.inr 0) rfl rfl
theorem v121_35 {y o : Nat} {x : Int32} {f : am_S → Prop} : am_wf y o (mk s) 121 6 35 (.int x) f = f (mk (s.1, am_u2 s.2.1 121 35 x, s.2.2)) := am_k_wF (sk := in_sk) rfl rfl rfl (fun h => by cases h)
theorem g121_36 {f : Value → Prop} : am_fd (mk s) 121 6 36 f = f (.ref 152) := mk_fd (.inl 152) rfl rfl
theorem a152 {i : Int32} {f : Int32 → Prop} : am_ai 0 (mk s) 152 i f = (am_in i 36 = true ∧ f (s.1 152 i.toNatClampNeg)) := am_k_ai (sk := in_sk) rfl
theorem w152 {i x : Int32} {f : am_S → Prop} : am_wi 0 (mk s) 152 i x f = (am_in i 36 = true ∧ f (mk (va_up s.1 152 (upd (s.1 152) i.toNatClampNeg x), s.2))) := am_k_wi (sk := in_sk) rfl
theorem g121_37 {f : Value → Prop} : am_fd (mk s) 121 6 37 f = f (.ref 153) := mk_fd (.inl 153) rfl rfl
theorem a153 {i : Int32} {f : Int32 → Prop} : am_ai 0 (mk s) 153 i f = (am_in i 36 = true ∧ f (s.1 153 i.toNatClampNeg)) := am_k_ai (sk := in_sk) rfl
theorem w153 {i x : Int32} {f : am_S → Prop} : am_wi 0 (mk s) 153 i x f = (am_in i 36 = true ∧ f (mk (va_up s.1 153 (upd (s.1 153) i.toNatClampNeg x), s.2))) := am_k_wi (sk := in_sk) rfl
theorem g121_38 {f : Value → Prop} : am_fd (mk s) 121 6 38 f = f (.ref 154) := mk_fd (.inl 154) rfl rfl
theorem a154 {i : Int32} {f : Int32 → Prop} : am_ai 1 (mk s) 154 i f = (am_in i 12 = true ∧ f (s.1 154 i.toNatClampNeg)) := am_k_ai (sk := in_sk) rfl
theorem w154 {i x : Int32} {f : am_S → Prop} : am_wi 1 (mk s) 154 i x f = (am_in i 12 = true ∧ f (mk (va_up s.1 154 (upd (s.1 154) i.toNatClampNeg x), s.2))) := am_k_wi (sk := in_sk) rfl
theorem g121_39 {f : Value → Prop} : am_fd (mk s) 121 6 39 f = f (.ref 155) := mk_fd (.inl 155) rfl rfl
theorem a155 {i : Int32} {f : Int32 → Prop} : am_ai 0 (mk s) 155 i f = (am_in i 12 = true ∧ f (s.1 155 i.toNatClampNeg)) := am_k_ai (sk := in_sk) rfl
theorem w155 {i x : Int32} {f : am_S → Prop} : am_wi 0 (mk s) 155 i x f = (am_in i 12 = true ∧ f (mk (va_up s.1 155 (upd (s.1 155) i.toNatClampNeg x), s.2))) := am_k_wi (sk := in_sk) rfl
/-- a forest of n places at p -/
def isF (p n : Nat) : Prop := in_sk[p]? = some (.inr (.inr (1, [.inl (p + 1), .inl (p + 2), .inl (p + 3), .inl (p + 4), .inr 0]))) ∧ in_sk[p + 1]? = some (.inl (0, n)) ∧ in_sk[p + 2]? = some (.inl (0, n)) ∧ in_sk[p + 3]? = some (.inl (0, n)) ∧ in_sk[p + 4]? = some (.inl (0, n))
theorem isF_t {j : Nat} (h : j < 3) : isF (2 + 5 * j) 12 := by
  match j, h with
  | 0, _ => exact ⟨rfl, rfl, rfl, rfl, rfl⟩
  | 1, _ => exact ⟨rfl, rfl, rfl, rfl, rfl⟩
  | 2, _ => exact ⟨rfl, rfl, rfl, rfl, rfl⟩
theorem isF_s : isF 18 12 := ⟨rfl, rfl, rfl, rfl, rfl⟩
theorem isF_r : isF 54 36 := ⟨rfl, rfl, rfl, rfl, rfl⟩
variable {p n : Nat}
theorem f_par (h : isF p n) {f : Value → Prop} : am_fd (mk s) p 1 0 f = f (.ref (p + 1)) := mk_fd (.inl (p + 1)) h.1 rfl
theorem fa_par (h : isF p n) {i : Int32} {f : Int32 → Prop} : am_ai 0 (mk s) (p + 1) i f = (am_in i n = true ∧ f (s.1 (p + 1) i.toNatClampNeg)) := am_k_ai (sk := in_sk) h.2.1
theorem fw_par (h : isF p n) {i x : Int32} {f : am_S → Prop} : am_wi 0 (mk s) (p + 1) i x f = (am_in i n = true ∧ f (mk (va_up s.1 (p + 1) (upd (s.1 (p + 1)) i.toNatClampNeg x), s.2))) := am_k_wi (sk := in_sk) h.2.1
theorem fl_par (h : isF p n) {f : Int32 → Prop} : am_ln (mk s) (p + 1) f = f (Int32.ofNat n) := am_k_lnA (sk := in_sk) h.2.1 (by decide)
theorem f_pla (h : isF p n) {f : Value → Prop} : am_fd (mk s) p 1 1 f = f (.ref (p + 2)) := mk_fd (.inl (p + 2)) h.1 rfl
theorem fa_pla (h : isF p n) {i : Int32} {f : Int32 → Prop} : am_ai 0 (mk s) (p + 2) i f = (am_in i n = true ∧ f (s.1 (p + 2) i.toNatClampNeg)) := am_k_ai (sk := in_sk) h.2.2.1
theorem fw_pla (h : isF p n) {i x : Int32} {f : am_S → Prop} : am_wi 0 (mk s) (p + 2) i x f = (am_in i n = true ∧ f (mk (va_up s.1 (p + 2) (upd (s.1 (p + 2)) i.toNatClampNeg x), s.2))) := am_k_wi (sk := in_sk) h.2.2.1
theorem fl_pla (h : isF p n) {f : Int32 → Prop} : am_ln (mk s) (p + 2) f = f (Int32.ofNat n) := am_k_lnA (sk := in_sk) h.2.2.1 (by decide)
theorem f_typ (h : isF p n) {f : Value → Prop} : am_fd (mk s) p 1 2 f = f (.ref (p + 3)) := mk_fd (.inl (p + 3)) h.1 rfl
theorem fa_typ (h : isF p n) {i : Int32} {f : Int32 → Prop} : am_ai 0 (mk s) (p + 3) i f = (am_in i n = true ∧ f (s.1 (p + 3) i.toNatClampNeg)) := am_k_ai (sk := in_sk) h.2.2.2.1
theorem fw_typ (h : isF p n) {i x : Int32} {f : am_S → Prop} : am_wi 0 (mk s) (p + 3) i x f = (am_in i n = true ∧ f (mk (va_up s.1 (p + 3) (upd (s.1 (p + 3)) i.toNatClampNeg x), s.2))) := am_k_wi (sk := in_sk) h.2.2.2.1
theorem fl_typ (h : isF p n) {f : Int32 → Prop} : am_ln (mk s) (p + 3) f = f (Int32.ofNat n) := am_k_lnA (sk := in_sk) h.2.2.2.1 (by decide)
theorem f_lab (h : isF p n) {f : Value → Prop} : am_fd (mk s) p 1 3 f = f (.ref (p + 4)) := mk_fd (.inl (p + 4)) h.1 rfl
theorem fa_lab (h : isF p n) {i : Int32} {f : Int32 → Prop} : am_ai 0 (mk s) (p + 4) i f = (am_in i n = true ∧ f (s.1 (p + 4) i.toNatClampNeg)) := am_k_ai (sk := in_sk) h.2.2.2.2
theorem fw_lab (h : isF p n) {i x : Int32} {f : am_S → Prop} : am_wi 0 (mk s) (p + 4) i x f = (am_in i n = true ∧ f (mk (va_up s.1 (p + 4) (upd (s.1 (p + 4)) i.toNatClampNeg x), s.2))) := am_k_wi (sk := in_sk) h.2.2.2.2
theorem fl_lab (h : isF p n) {f : Int32 → Prop} : am_ln (mk s) (p + 4) f = f (Int32.ofNat n) := am_k_lnA (sk := in_sk) h.2.2.2.2 (by decide)
theorem f_used (h : isF p n) {f : Value → Prop} : am_fd (mk s) p 1 4 f = f (.int (s.2.1 p 4)) := mk_fd (.inr 0) h.1 rfl
theorem fv_used (h : isF p n) {y o : Nat} {x : Int32} {f : am_S → Prop} : am_wf y o (mk s) p 1 4 (.int x) f = f (mk (s.1, am_u2 s.2.1 p 4 x, s.2.2)) := am_k_wF (sk := in_sk) h.1 rfl rfl (fun h => by cases h)
theorem f_oc (h : isF p n) : am_oc (mk s) p = 1 := mk_oc h.1
theorem t_oc : am_oc (mk s) 0 = 0 := mk_oc rfl
theorem m_oc : am_oc (mk s) 121 = 6 := mk_oc rfl
end
end
section
/-! The law's loop, out of its calls -/
theorem lw_i5 (k j : Nat) : nI (5 * k) + nI j = nI (5 * k + j) := nI_add _ _
theorem lw_in {L k j : Nat} (hL : L ≤ 2560) (hk : 5 * k + 5 ≤ L) (hj : j < 5) : am_in (nI (5 * k) + nI j) L = true := by
  rw [nI_add]
  unfold am_in
  rw [nI_clamp (by omega)]
  simp only [Bool.and_eq_true, Bool.not_eq_true', decide_eq_false_iff_not, decide_eq_true_eq]
  exact ⟨nI_pos (by omega), by omega⟩
theorem lw_in0 {L k : Nat} (hL : L ≤ 2560) (hk : 5 * k + 5 ≤ L) : am_in (nI (5 * k)) L = true := by
  have h := lw_in (j := 0) hL hk (by omega)
  rw [nI_add] at h
  exact h
theorem lw_head {L : Nat} {xs : Nat → Int32} {i : Int32} {σ : am_S} {Q : Option Value → am_S → Prop} : am_Rn L xs 100 132 18 [.float 0, .ref 0, .ref 121, .int i] [] σ Q = if Int32.ofNat L - 5 < i then am_Rn L xs 100 132 495 [.float 0, .ref 0, .ref 121, .int i] [] σ Q else am_Rn L xs 100 132 26 [.float 0, .ref 0, .ref 121, .int i] [] σ Q := by
  simp only [r132_18, r132_19, r132_20, r132_21, r132_22, r132_23, am_li0, am_liS, am_laR0, am_laF0, am_laS, am_tL, am_tN, am_okI, am_okR]
theorem lw_sw {L : Nat} {xs : Nat → Int32} {i : Int32} {σ : am_S} {Q : Option Value → am_S → Prop} (hi : am_in i L = true) : am_Rn L xs 100 132 26 [.float 0, .ref 0, .ref 121, .int i] [] σ Q = am_Rn L xs 100 132 32 [.float 0, .ref 0, .ref 121, .int i] [.int (xs i.toNatClampNeg &&& 15)] σ Q := by
  simp only [r132_26, r132_27, r132_29, r132_31, s132_28, am_li0, am_liS, am_laR0, am_laF0, am_laS, am_tL, am_tN, am_okI, am_okR, hi, true_and]
theorem lw_next {L : Nat} {xs : Nat → Int32} {i : Int32} {σ : am_S} {Q : Option Value → am_S → Prop} : am_Rn L xs 100 132 489 [.float 0, .ref 0, .ref 121, .int i] [] σ Q = am_Rn L xs 100 132 18 [.float 0, .ref 0, .ref 121, .int (i + 5)] [] σ Q := by
  simp only [r132_489, r132_492, am_li0, am_liS, am_laR0, am_laF0, am_laS, am_tL, am_tN, am_okI, am_okR, List.set_cons_succ, List.set_cons_zero]
theorem lw_out {L : Nat} {xs : Nat → Int32} {i : Int32} {σ : am_S} {Q : Option Value → am_S → Prop} : am_Rn L xs 100 132 495 [.float 0, .ref 0, .ref 121, .int i] [] σ Q = Q (some (.int 1)) σ := by
  rw [r132_495, r132_496 (Or.inr rfl)]
theorem lw_op0 {L : Nat} {xs : Nat → Int32} {k : Nat} {s : St} {J : St → Prop} {Q : Option Value → am_S → Prop} (hL : L ≤ 2560) (hk : 5 * k + 5 ≤ L) (h : op_ok L xs 7 84 [.int (xs (nI (5 * k) + 1).toNatClampNeg), .int (xs (nI (5 * k) + 2).toNatClampNeg), .int (xs (nI (5 * k) + 3).toNatClampNeg), .int (xs (nI (5 * k) + 4).toNatClampNeg)] s J) (hJ : ∀ s2, J s2 → am_Rn L xs 100 132 489 [.float 0, .ref 0, .ref 121, .int (nI (5 * k))] [] (mk s2) Q) : am_Rn L xs 100 132 100 [.float 0, .ref 0, .ref 121, .int (nI (5 * k))] [] (mk s) Q := by
  obtain ⟨r, s1, s2, c1, c2, hj⟩ := h
  have h1 : am_in (nI (5 * k) + 1) L = true := lw_in (j := 1) hL hk (by omega)
  have h2 : am_in (nI (5 * k) + 2) L = true := lw_in (j := 2) hL hk (by omega)
  have h3 : am_in (nI (5 * k) + 3) L = true := lw_in (j := 3) hL hk (by omega)
  have h4 : am_in (nI (5 * k) + 4) L = true := lw_in (j := 4) hL hk (by omega)
  have o1 : am_oc (mk s) 0 = 0 := mk_oc rfl
  have o2 : am_oc (mk s1) 121 = 6 := mk_oc rfl
  simp only [r132_100, r132_101, r132_102, r132_103, r132_104, s132_105, r132_106, r132_107, r132_108, r132_109, s132_110, r132_111, r132_112, r132_113, r132_114, s132_115, r132_116, r132_117, r132_118, r132_119, s132_120, r132_121, am_li0, am_liS, am_laR0, am_laF0, am_laS, am_tL, am_tN, am_okI, am_okR, h1, h2, h3, h4, true_and, o1, List.length_cons, List.length_nil, Nat.zero_le, and_true]
  refine c1 _ ?_
  simp only [r132_124, r132_125, r132_126, r132_127, r132_128, s132_129, r132_130, r132_131, r132_132, r132_133, s132_134, r132_135, r132_136, r132_137, r132_138, s132_139, r132_140, r132_141, r132_142, r132_143, s132_144, r132_145, am_li0, am_liS, am_laR0, am_laF0, am_laS, am_tL, am_tN, am_okI, am_okR, h1, h2, h3, h4, true_and, o2, List.length_cons, List.length_nil, Nat.reduceAdd, Nat.reduceLeDiff, and_true]
  refine c2 _ ?_
  simp only [r132_148, am_li0, am_liS, am_laR0, am_laF0, am_laS, am_tL, am_tN, am_okI, am_okR, if_true]
  exact hJ s2 hj
theorem lw_op1 {L : Nat} {xs : Nat → Int32} {k : Nat} {s : St} {J : St → Prop} {Q : Option Value → am_S → Prop} (hL : L ≤ 2560) (hk : 5 * k + 5 ≤ L) (h : op_ok L xs 14 87 [.int (xs (nI (5 * k) + 1).toNatClampNeg)] s J) (hJ : ∀ s2, J s2 → am_Rn L xs 100 132 489 [.float 0, .ref 0, .ref 121, .int (nI (5 * k))] [] (mk s2) Q) : am_Rn L xs 100 132 153 [.float 0, .ref 0, .ref 121, .int (nI (5 * k))] [] (mk s) Q := by
  obtain ⟨r, s1, s2, c1, c2, hj⟩ := h
  have h1 : am_in (nI (5 * k) + 1) L = true := lw_in (j := 1) hL hk (by omega)
  have o1 : am_oc (mk s) 0 = 0 := mk_oc rfl
  have o2 : am_oc (mk s1) 121 = 6 := mk_oc rfl
  simp only [r132_153, r132_154, r132_155, r132_156, r132_157, s132_158, r132_159, am_li0, am_liS, am_laR0, am_laF0, am_laS, am_tL, am_tN, am_okI, am_okR, h1, true_and, o1, List.length_cons, List.length_nil, Nat.zero_le, and_true]
  refine c1 _ ?_
  simp only [r132_162, r132_163, r132_164, r132_165, r132_166, s132_167, r132_168, am_li0, am_liS, am_laR0, am_laF0, am_laS, am_tL, am_tN, am_okI, am_okR, h1, true_and, o2, List.length_cons, List.length_nil, Nat.reduceAdd, Nat.reduceLeDiff, and_true]
  refine c2 _ ?_
  simp only [r132_171, am_li0, am_liS, am_laR0, am_laF0, am_laS, am_tL, am_tN, am_okI, am_okR, if_true]
  exact hJ s2 hj
theorem lw_op2 {L : Nat} {xs : Nat → Int32} {k : Nat} {s : St} {J : St → Prop} {Q : Option Value → am_S → Prop} (hL : L ≤ 2560) (hk : 5 * k + 5 ≤ L) (h : op_ok L xs 16 88 [.int (xs (nI (5 * k) + 1).toNatClampNeg)] s J) (hJ : ∀ s2, J s2 → am_Rn L xs 100 132 489 [.float 0, .ref 0, .ref 121, .int (nI (5 * k))] [] (mk s2) Q) : am_Rn L xs 100 132 176 [.float 0, .ref 0, .ref 121, .int (nI (5 * k))] [] (mk s) Q := by
  obtain ⟨r, s1, s2, c1, c2, hj⟩ := h
  have h1 : am_in (nI (5 * k) + 1) L = true := lw_in (j := 1) hL hk (by omega)
  have o1 : am_oc (mk s) 0 = 0 := mk_oc rfl
  have o2 : am_oc (mk s1) 121 = 6 := mk_oc rfl
  simp only [r132_176, r132_177, r132_178, r132_179, r132_180, s132_181, r132_182, am_li0, am_liS, am_laR0, am_laF0, am_laS, am_tL, am_tN, am_okI, am_okR, h1, true_and, o1, List.length_cons, List.length_nil, Nat.zero_le, and_true]
  refine c1 _ ?_
  simp only [r132_185, r132_186, r132_187, r132_188, r132_189, s132_190, r132_191, am_li0, am_liS, am_laR0, am_laF0, am_laS, am_tL, am_tN, am_okI, am_okR, h1, true_and, o2, List.length_cons, List.length_nil, Nat.reduceAdd, Nat.reduceLeDiff, and_true]
  refine c2 _ ?_
  simp only [r132_194, am_li0, am_liS, am_laR0, am_laF0, am_laS, am_tL, am_tN, am_okI, am_okR, if_true]
  exact hJ s2 hj
theorem lw_op3 {L : Nat} {xs : Nat → Int32} {k : Nat} {s : St} {J : St → Prop} {Q : Option Value → am_S → Prop} (hL : L ≤ 2560) (hk : 5 * k + 5 ≤ L) (h : op_ok L xs 17 89 [.int (xs (nI (5 * k) + 1).toNatClampNeg), .int (xs (nI (5 * k) + 2).toNatClampNeg)] s J) (hJ : ∀ s2, J s2 → am_Rn L xs 100 132 489 [.float 0, .ref 0, .ref 121, .int (nI (5 * k))] [] (mk s2) Q) : am_Rn L xs 100 132 199 [.float 0, .ref 0, .ref 121, .int (nI (5 * k))] [] (mk s) Q := by
  obtain ⟨r, s1, s2, c1, c2, hj⟩ := h
  have h1 : am_in (nI (5 * k) + 1) L = true := lw_in (j := 1) hL hk (by omega)
  have h2 : am_in (nI (5 * k) + 2) L = true := lw_in (j := 2) hL hk (by omega)
  have o1 : am_oc (mk s) 0 = 0 := mk_oc rfl
  have o2 : am_oc (mk s1) 121 = 6 := mk_oc rfl
  simp only [r132_199, r132_200, r132_201, r132_202, r132_203, s132_204, r132_205, r132_206, r132_207, r132_208, s132_209, r132_210, am_li0, am_liS, am_laR0, am_laF0, am_laS, am_tL, am_tN, am_okI, am_okR, h1, h2, true_and, o1, List.length_cons, List.length_nil, Nat.zero_le, and_true]
  refine c1 _ ?_
  simp only [r132_213, r132_214, r132_215, r132_216, r132_217, s132_218, r132_219, r132_220, r132_221, r132_222, s132_223, r132_224, am_li0, am_liS, am_laR0, am_laF0, am_laS, am_tL, am_tN, am_okI, am_okR, h1, h2, true_and, o2, List.length_cons, List.length_nil, Nat.reduceAdd, Nat.reduceLeDiff, and_true]
  refine c2 _ ?_
  simp only [r132_227, am_li0, am_liS, am_laR0, am_laF0, am_laS, am_tL, am_tN, am_okI, am_okR, if_true]
  exact hJ s2 hj
theorem lw_op4 {L : Nat} {xs : Nat → Int32} {k : Nat} {s : St} {J : St → Prop} {Q : Option Value → am_S → Prop} (hL : L ≤ 2560) (hk : 5 * k + 5 ≤ L) (h : op_ok L xs 19 90 [.int (xs (nI (5 * k) + 1).toNatClampNeg), .int (xs (nI (5 * k) + 2).toNatClampNeg), .int (xs (nI (5 * k) + 3).toNatClampNeg), .int (xs (nI (5 * k) + 4).toNatClampNeg)] s J) (hJ : ∀ s2, J s2 → am_Rn L xs 100 132 489 [.float 0, .ref 0, .ref 121, .int (nI (5 * k))] [] (mk s2) Q) : am_Rn L xs 100 132 232 [.float 0, .ref 0, .ref 121, .int (nI (5 * k))] [] (mk s) Q := by
  obtain ⟨r, s1, s2, c1, c2, hj⟩ := h
  have h1 : am_in (nI (5 * k) + 1) L = true := lw_in (j := 1) hL hk (by omega)
  have h2 : am_in (nI (5 * k) + 2) L = true := lw_in (j := 2) hL hk (by omega)
  have h3 : am_in (nI (5 * k) + 3) L = true := lw_in (j := 3) hL hk (by omega)
  have h4 : am_in (nI (5 * k) + 4) L = true := lw_in (j := 4) hL hk (by omega)
  have o1 : am_oc (mk s) 0 = 0 := mk_oc rfl
  have o2 : am_oc (mk s1) 121 = 6 := mk_oc rfl
  simp only [r132_232, r132_233, r132_234, r132_235, r132_236, s132_237, r132_238, r132_239, r132_240, r132_241, s132_242, r132_243, r132_244, r132_245, r132_246, s132_247, r132_248, r132_249, r132_250, r132_251, s132_252, r132_253, am_li0, am_liS, am_laR0, am_laF0, am_laS, am_tL, am_tN, am_okI, am_okR, h1, h2, h3, h4, true_and, o1, List.length_cons, List.length_nil, Nat.zero_le, and_true]
  refine c1 _ ?_
  simp only [r132_256, r132_257, r132_258, r132_259, r132_260, s132_261, r132_262, r132_263, r132_264, r132_265, s132_266, r132_267, r132_268, r132_269, r132_270, s132_271, r132_272, r132_273, r132_274, r132_275, s132_276, r132_277, am_li0, am_liS, am_laR0, am_laF0, am_laS, am_tL, am_tN, am_okI, am_okR, h1, h2, h3, h4, true_and, o2, List.length_cons, List.length_nil, Nat.reduceAdd, Nat.reduceLeDiff, and_true]
  refine c2 _ ?_
  simp only [r132_280, am_li0, am_liS, am_laR0, am_laF0, am_laS, am_tL, am_tN, am_okI, am_okR, if_true]
  exact hJ s2 hj
theorem lw_op5 {L : Nat} {xs : Nat → Int32} {k : Nat} {s : St} {J : St → Prop} {Q : Option Value → am_S → Prop} (hL : L ≤ 2560) (hk : 5 * k + 5 ≤ L) (h : op_ok L xs 21 93 [.int (xs (nI (5 * k) + 1).toNatClampNeg), .int (xs (nI (5 * k) + 2).toNatClampNeg)] s J) (hJ : ∀ s2, J s2 → am_Rn L xs 100 132 489 [.float 0, .ref 0, .ref 121, .int (nI (5 * k))] [] (mk s2) Q) : am_Rn L xs 100 132 285 [.float 0, .ref 0, .ref 121, .int (nI (5 * k))] [] (mk s) Q := by
  obtain ⟨r, s1, s2, c1, c2, hj⟩ := h
  have h1 : am_in (nI (5 * k) + 1) L = true := lw_in (j := 1) hL hk (by omega)
  have h2 : am_in (nI (5 * k) + 2) L = true := lw_in (j := 2) hL hk (by omega)
  have o1 : am_oc (mk s) 0 = 0 := mk_oc rfl
  have o2 : am_oc (mk s1) 121 = 6 := mk_oc rfl
  simp only [r132_285, r132_286, r132_287, r132_288, r132_289, s132_290, r132_291, r132_292, r132_293, r132_294, s132_295, r132_296, am_li0, am_liS, am_laR0, am_laF0, am_laS, am_tL, am_tN, am_okI, am_okR, h1, h2, true_and, o1, List.length_cons, List.length_nil, Nat.zero_le, and_true]
  refine c1 _ ?_
  simp only [r132_299, r132_300, r132_301, r132_302, r132_303, s132_304, r132_305, r132_306, r132_307, r132_308, s132_309, r132_310, am_li0, am_liS, am_laR0, am_laF0, am_laS, am_tL, am_tN, am_okI, am_okR, h1, h2, true_and, o2, List.length_cons, List.length_nil, Nat.reduceAdd, Nat.reduceLeDiff, and_true]
  refine c2 _ ?_
  simp only [r132_313, am_li0, am_liS, am_laR0, am_laF0, am_laS, am_tL, am_tN, am_okI, am_okR, if_true]
  exact hJ s2 hj
theorem lw_op6 {L : Nat} {xs : Nat → Int32} {k : Nat} {s : St} {J : St → Prop} {Q : Option Value → am_S → Prop} (hL : L ≤ 2560) (hk : 5 * k + 5 ≤ L) (h : op_ok L xs 56 109 [.int (xs (nI (5 * k) + 1).toNatClampNeg)] s J) (hJ : ∀ s2, J s2 → am_Rn L xs 100 132 489 [.float 0, .ref 0, .ref 121, .int (nI (5 * k))] [] (mk s2) Q) : am_Rn L xs 100 132 318 [.float 0, .ref 0, .ref 121, .int (nI (5 * k))] [] (mk s) Q := by
  obtain ⟨r, s1, s2, c1, c2, hj⟩ := h
  have h1 : am_in (nI (5 * k) + 1) L = true := lw_in (j := 1) hL hk (by omega)
  have o1 : am_oc (mk s) 0 = 0 := mk_oc rfl
  have o2 : am_oc (mk s1) 121 = 6 := mk_oc rfl
  simp only [r132_318, r132_319, r132_320, r132_321, r132_322, s132_323, r132_324, am_li0, am_liS, am_laR0, am_laF0, am_laS, am_tL, am_tN, am_okI, am_okR, h1, true_and, o1, List.length_cons, List.length_nil, Nat.zero_le, and_true]
  refine c1 _ ?_
  simp only [r132_327, r132_328, r132_329, r132_330, r132_331, s132_332, r132_333, am_li0, am_liS, am_laR0, am_laF0, am_laS, am_tL, am_tN, am_okI, am_okR, h1, true_and, o2, List.length_cons, List.length_nil, Nat.reduceAdd, Nat.reduceLeDiff, and_true]
  refine c2 _ ?_
  simp only [r132_336, am_li0, am_liS, am_laR0, am_laF0, am_laS, am_tL, am_tN, am_okI, am_okR, if_true]
  exact hJ s2 hj
theorem lw_op7 {L : Nat} {xs : Nat → Int32} {k : Nat} {s : St} {J : St → Prop} {Q : Option Value → am_S → Prop} (hL : L ≤ 2560) (hk : 5 * k + 5 ≤ L) (h : op_ok L xs 57 110 [.int (xs (nI (5 * k) + 1).toNatClampNeg), .int (xs (nI (5 * k) + 2).toNatClampNeg)] s J) (hJ : ∀ s2, J s2 → am_Rn L xs 100 132 489 [.float 0, .ref 0, .ref 121, .int (nI (5 * k))] [] (mk s2) Q) : am_Rn L xs 100 132 341 [.float 0, .ref 0, .ref 121, .int (nI (5 * k))] [] (mk s) Q := by
  obtain ⟨r, s1, s2, c1, c2, hj⟩ := h
  have h1 : am_in (nI (5 * k) + 1) L = true := lw_in (j := 1) hL hk (by omega)
  have h2 : am_in (nI (5 * k) + 2) L = true := lw_in (j := 2) hL hk (by omega)
  have o1 : am_oc (mk s) 0 = 0 := mk_oc rfl
  have o2 : am_oc (mk s1) 121 = 6 := mk_oc rfl
  simp only [r132_341, r132_342, r132_343, r132_344, r132_345, s132_346, r132_347, r132_348, r132_349, r132_350, s132_351, r132_352, am_li0, am_liS, am_laR0, am_laF0, am_laS, am_tL, am_tN, am_okI, am_okR, h1, h2, true_and, o1, List.length_cons, List.length_nil, Nat.zero_le, and_true]
  refine c1 _ ?_
  simp only [r132_355, r132_356, r132_357, r132_358, r132_359, s132_360, r132_361, r132_362, r132_363, r132_364, s132_365, r132_366, am_li0, am_liS, am_laR0, am_laF0, am_laS, am_tL, am_tN, am_okI, am_okR, h1, h2, true_and, o2, List.length_cons, List.length_nil, Nat.reduceAdd, Nat.reduceLeDiff, and_true]
  refine c2 _ ?_
  simp only [r132_369, am_li0, am_liS, am_laR0, am_laF0, am_laS, am_tL, am_tN, am_okI, am_okR, if_true]
  exact hJ s2 hj
theorem lw_op8 {L : Nat} {xs : Nat → Int32} {k : Nat} {s : St} {J : St → Prop} {Q : Option Value → am_S → Prop} (hL : L ≤ 2560) (hk : 5 * k + 5 ≤ L) (h : op_ok L xs 59 111 [.int (xs (nI (5 * k) + 1).toNatClampNeg)] s J) (hJ : ∀ s2, J s2 → am_Rn L xs 100 132 489 [.float 0, .ref 0, .ref 121, .int (nI (5 * k))] [] (mk s2) Q) : am_Rn L xs 100 132 374 [.float 0, .ref 0, .ref 121, .int (nI (5 * k))] [] (mk s) Q := by
  obtain ⟨r, s1, s2, c1, c2, hj⟩ := h
  have h1 : am_in (nI (5 * k) + 1) L = true := lw_in (j := 1) hL hk (by omega)
  have o1 : am_oc (mk s) 0 = 0 := mk_oc rfl
  have o2 : am_oc (mk s1) 121 = 6 := mk_oc rfl
  simp only [r132_374, r132_375, r132_376, r132_377, r132_378, s132_379, r132_380, am_li0, am_liS, am_laR0, am_laF0, am_laS, am_tL, am_tN, am_okI, am_okR, h1, true_and, o1, List.length_cons, List.length_nil, Nat.zero_le, and_true]
  refine c1 _ ?_
  simp only [r132_383, r132_384, r132_385, r132_386, r132_387, s132_388, r132_389, am_li0, am_liS, am_laR0, am_laF0, am_laS, am_tL, am_tN, am_okI, am_okR, h1, true_and, o2, List.length_cons, List.length_nil, Nat.reduceAdd, Nat.reduceLeDiff, and_true]
  refine c2 _ ?_
  simp only [r132_392, am_li0, am_liS, am_laR0, am_laF0, am_laS, am_tL, am_tN, am_okI, am_okR, if_true]
  exact hJ s2 hj
theorem lw_op9 {L : Nat} {xs : Nat → Int32} {k : Nat} {s : St} {J : St → Prop} {Q : Option Value → am_S → Prop} (hL : L ≤ 2560) (hk : 5 * k + 5 ≤ L) (h : op_ok L xs 61 112 [.int (xs (nI (5 * k) + 1).toNatClampNeg)] s J) (hJ : ∀ s2, J s2 → am_Rn L xs 100 132 489 [.float 0, .ref 0, .ref 121, .int (nI (5 * k))] [] (mk s2) Q) : am_Rn L xs 100 132 397 [.float 0, .ref 0, .ref 121, .int (nI (5 * k))] [] (mk s) Q := by
  obtain ⟨r, s1, s2, c1, c2, hj⟩ := h
  have h1 : am_in (nI (5 * k) + 1) L = true := lw_in (j := 1) hL hk (by omega)
  have o1 : am_oc (mk s) 0 = 0 := mk_oc rfl
  have o2 : am_oc (mk s1) 121 = 6 := mk_oc rfl
  simp only [r132_397, r132_398, r132_399, r132_400, r132_401, s132_402, r132_403, am_li0, am_liS, am_laR0, am_laF0, am_laS, am_tL, am_tN, am_okI, am_okR, h1, true_and, o1, List.length_cons, List.length_nil, Nat.zero_le, and_true]
  refine c1 _ ?_
  simp only [r132_406, r132_407, r132_408, r132_409, r132_410, s132_411, r132_412, am_li0, am_liS, am_laR0, am_laF0, am_laS, am_tL, am_tN, am_okI, am_okR, h1, true_and, o2, List.length_cons, List.length_nil, Nat.reduceAdd, Nat.reduceLeDiff, and_true]
  refine c2 _ ?_
  simp only [r132_415, am_li0, am_liS, am_laR0, am_laF0, am_laS, am_tL, am_tN, am_okI, am_okR, if_true]
  exact hJ s2 hj
theorem lw_op10 {L : Nat} {xs : Nat → Int32} {k : Nat} {s : St} {J : St → Prop} {Q : Option Value → am_S → Prop} (hL : L ≤ 2560) (hk : 5 * k + 5 ≤ L) (h : op_ok L xs 67 119 [] s J) (hJ : ∀ s2, J s2 → am_Rn L xs 100 132 489 [.float 0, .ref 0, .ref 121, .int (nI (5 * k))] [] (mk s2) Q) : am_Rn L xs 100 132 420 [.float 0, .ref 0, .ref 121, .int (nI (5 * k))] [] (mk s) Q := by
  obtain ⟨r, s1, s2, c1, c2, hj⟩ := h
  have o1 : am_oc (mk s) 0 = 0 := mk_oc rfl
  have o2 : am_oc (mk s1) 121 = 6 := mk_oc rfl
  simp only [r132_420, r132_421, am_li0, am_liS, am_laR0, am_laF0, am_laS, am_tL, am_tN, am_okI, am_okR, true_and, o1, List.length_cons, List.length_nil, Nat.zero_le, and_true]
  refine c1 _ ?_
  simp only [r132_424, r132_425, am_li0, am_liS, am_laR0, am_laF0, am_laS, am_tL, am_tN, am_okI, am_okR, true_and, o2, List.length_cons, List.length_nil, Nat.reduceAdd, Nat.reduceLeDiff, and_true]
  refine c2 _ ?_
  simp only [r132_428, am_li0, am_liS, am_laR0, am_laF0, am_laS, am_tL, am_tN, am_okI, am_okR, if_true]
  exact hJ s2 hj
theorem lw_op11 {L : Nat} {xs : Nat → Int32} {k : Nat} {s : St} {J : St → Prop} {Q : Option Value → am_S → Prop} (hL : L ≤ 2560) (hk : 5 * k + 5 ≤ L) (h : op_ok L xs 81 129 [.int (xs (nI (5 * k) + 1).toNatClampNeg), .int (xs (nI (5 * k) + 2).toNatClampNeg)] s J) (hJ : ∀ s2, J s2 → am_Rn L xs 100 132 489 [.float 0, .ref 0, .ref 121, .int (nI (5 * k))] [] (mk s2) Q) : am_Rn L xs 100 132 433 [.float 0, .ref 0, .ref 121, .int (nI (5 * k))] [] (mk s) Q := by
  obtain ⟨r, s1, s2, c1, c2, hj⟩ := h
  have h1 : am_in (nI (5 * k) + 1) L = true := lw_in (j := 1) hL hk (by omega)
  have h2 : am_in (nI (5 * k) + 2) L = true := lw_in (j := 2) hL hk (by omega)
  have o1 : am_oc (mk s) 0 = 0 := mk_oc rfl
  have o2 : am_oc (mk s1) 121 = 6 := mk_oc rfl
  simp only [r132_433, r132_434, r132_435, r132_436, r132_437, s132_438, r132_439, r132_440, r132_441, r132_442, s132_443, r132_444, am_li0, am_liS, am_laR0, am_laF0, am_laS, am_tL, am_tN, am_okI, am_okR, h1, h2, true_and, o1, List.length_cons, List.length_nil, Nat.zero_le, and_true]
  refine c1 _ ?_
  simp only [r132_447, r132_448, r132_449, r132_450, r132_451, s132_452, r132_453, r132_454, r132_455, r132_456, s132_457, r132_458, am_li0, am_liS, am_laR0, am_laF0, am_laS, am_tL, am_tN, am_okI, am_okR, h1, h2, true_and, o2, List.length_cons, List.length_nil, Nat.reduceAdd, Nat.reduceLeDiff, and_true]
  refine c2 _ ?_
  simp only [r132_461, am_li0, am_liS, am_laR0, am_laF0, am_laS, am_tL, am_tN, am_okI, am_okR, if_true]
  exact hJ s2 hj
theorem lw_op12 {L : Nat} {xs : Nat → Int32} {k : Nat} {s : St} {J : St → Prop} {Q : Option Value → am_S → Prop} (hL : L ≤ 2560) (hk : 5 * k + 5 ≤ L) (h : op_ok L xs 82 130 [.int (xs (nI (5 * k) + 1).toNatClampNeg)] s J) (hJ : ∀ s2, J s2 → am_Rn L xs 100 132 489 [.float 0, .ref 0, .ref 121, .int (nI (5 * k))] [] (mk s2) Q) : am_Rn L xs 100 132 466 [.float 0, .ref 0, .ref 121, .int (nI (5 * k))] [] (mk s) Q := by
  obtain ⟨r, s1, s2, c1, c2, hj⟩ := h
  have h1 : am_in (nI (5 * k) + 1) L = true := lw_in (j := 1) hL hk (by omega)
  have o1 : am_oc (mk s) 0 = 0 := mk_oc rfl
  have o2 : am_oc (mk s1) 121 = 6 := mk_oc rfl
  simp only [r132_466, r132_467, r132_468, r132_469, r132_470, s132_471, r132_472, am_li0, am_liS, am_laR0, am_laF0, am_laS, am_tL, am_tN, am_okI, am_okR, h1, true_and, o1, List.length_cons, List.length_nil, Nat.zero_le, and_true]
  refine c1 _ ?_
  simp only [r132_475, r132_476, r132_477, r132_478, r132_479, s132_480, r132_481, am_li0, am_liS, am_laR0, am_laF0, am_laS, am_tL, am_tN, am_okI, am_okR, h1, true_and, o2, List.length_cons, List.length_nil, Nat.reduceAdd, Nat.reduceLeDiff, and_true]
  refine c2 _ ?_
  simp only [r132_484, am_li0, am_liS, am_laR0, am_laF0, am_laS, am_tL, am_tN, am_okI, am_okR, if_true]
  exact hJ s2 hj
end
section
/-! The law's loop -/
/-- all calls are alike on both sides at s, and what comes holds J -/
def all_ok (L : Nat) (xs : Nat → Int32) (s : St) (J : St → Prop) : Prop := ∀ a b c e : Int32,
  op_ok L xs 7 84 [.int a, .int b, .int c, .int e] s J ∧ op_ok L xs 14 87 [.int a] s J ∧ op_ok L xs 16 88 [.int a] s J ∧ op_ok L xs 17 89 [.int a, .int b] s J ∧ op_ok L xs 19 90 [.int a, .int b, .int c, .int e] s J ∧
  op_ok L xs 21 93 [.int a, .int b] s J ∧ op_ok L xs 56 109 [.int a] s J ∧ op_ok L xs 57 110 [.int a, .int b] s J ∧ op_ok L xs 59 111 [.int a] s J ∧ op_ok L xs 61 112 [.int a] s J ∧ op_ok L xs 67 119 [] s J ∧
  op_ok L xs 81 129 [.int a, .int b] s J ∧ op_ok L xs 82 130 [.int a] s J
theorem lw_iter {L : Nat} {xs : Nat → Int32} {k : Nat} {s : St} {J : St → Prop} {Q : Option Value → am_S → Prop} (hL : L ≤ 2560) (hk : 5 * k + 5 ≤ L) (h : all_ok L xs s J) (hs : J s) (hJ : ∀ s2, J s2 → am_Rn L xs 100 132 489 [.float 0, .ref 0, .ref 121, .int (nI (5 * k))] [] (mk s2) Q) :
    am_Rn L xs 100 132 26 [.float 0, .ref 0, .ref 121, .int (nI (5 * k))] [] (mk s) Q := by
  rw [lw_sw (lw_in0 hL hk)]
  obtain ⟨j, hj, e⟩ := pk_andE (xs (nI (5 * k)).toNatClampNeg) (m := 15) 4 (by decide)
  rw [e]
  obtain ⟨q0, q1, q2, q3, q4, q5, q6, q7, q8, q9, q10, q11, q12⟩ := h (xs (nI (5 * k) + 1).toNatClampNeg) (xs (nI (5 * k) + 2).toNatClampNeg) (xs (nI (5 * k) + 3).toNatClampNeg) (xs (nI (5 * k) + 4).toNatClampNeg)
  have hj : j < 16 := hj
  have hc : j = 0 ∨ j = 1 ∨ j = 2 ∨ j = 3 ∨ j = 4 ∨ j = 5 ∨ j = 6 ∨ j = 7 ∨ j = 8 ∨ j = 9 ∨ j = 10 ∨ j = 11 ∨ j = 12 ∨ j = 13 ∨ j = 14 ∨ j = 15 := by omega
  rcases hc with rfl | rfl | rfl | rfl | rfl | rfl | rfl | rfl | rfl | rfl | rfl | rfl | rfl | rfl | rfl | rfl
  · rw [am_r_tsIn (t := 100) d132_32 (by decide +kernel) (off := 68) (by decide +kernel) (by decide)]; exact lw_op0 hL hk q0 hJ
  · rw [am_r_tsIn (t := 153) d132_32 (by decide +kernel) (off := 121) (by decide +kernel) (by decide)]; exact lw_op1 hL hk q1 hJ
  · rw [am_r_tsIn (t := 176) d132_32 (by decide +kernel) (off := 144) (by decide +kernel) (by decide)]; exact lw_op2 hL hk q2 hJ
  · rw [am_r_tsIn (t := 199) d132_32 (by decide +kernel) (off := 167) (by decide +kernel) (by decide)]; exact lw_op3 hL hk q3 hJ
  · rw [am_r_tsIn (t := 232) d132_32 (by decide +kernel) (off := 200) (by decide +kernel) (by decide)]; exact lw_op4 hL hk q4 hJ
  · rw [am_r_tsIn (t := 285) d132_32 (by decide +kernel) (off := 253) (by decide +kernel) (by decide)]; exact lw_op5 hL hk q5 hJ
  · rw [am_r_tsIn (t := 318) d132_32 (by decide +kernel) (off := 286) (by decide +kernel) (by decide)]; exact lw_op6 hL hk q6 hJ
  · rw [am_r_tsIn (t := 341) d132_32 (by decide +kernel) (off := 309) (by decide +kernel) (by decide)]; exact lw_op7 hL hk q7 hJ
  · rw [am_r_tsIn (t := 374) d132_32 (by decide +kernel) (off := 342) (by decide +kernel) (by decide)]; exact lw_op8 hL hk q8 hJ
  · rw [am_r_tsIn (t := 397) d132_32 (by decide +kernel) (off := 365) (by decide +kernel) (by decide)]; exact lw_op9 hL hk q9 hJ
  · rw [am_r_tsIn (t := 420) d132_32 (by decide +kernel) (off := 388) (by decide +kernel) (by decide)]; exact lw_op10 hL hk q10 hJ
  · rw [am_r_tsIn (t := 433) d132_32 (by decide +kernel) (off := 401) (by decide +kernel) (by decide)]; exact lw_op11 hL hk q11 hJ
  · rw [am_r_tsIn (t := 466) d132_32 (by decide +kernel) (off := 434) (by decide +kernel) (by decide)]; exact lw_op12 hL hk q12 hJ
  · rw [am_r_tsOut (t := 489) d132_32 (by decide +kernel) (by decide)]; exact hJ s hs
  · rw [am_r_tsOut (t := 489) d132_32 (by decide +kernel) (by decide)]; exact hJ s hs
  · rw [am_r_tsOut (t := 489) d132_32 (by decide +kernel) (by decide)]; exact hJ s hs
theorem lw_cmp {L k : Nat} (hL : L ≤ 2560) (hk : 5 * k ≤ L + 5) : (Int32.ofNat L - 5 < nI (5 * k)) ↔ L < 5 * k + 5 := by
  have h5 : (5 : Int32) = nI 5 := by decide
  show nI L - 5 < nI (5 * k) ↔ _
  rw [h5, Int32.lt_iff_toInt_lt, pk_sub_toInt (by omega) (by omega), nI_toInt (by omega)]
  omega
theorem lw_loop {L : Nat} {xs : Nat → Int32} (hL : L ≤ 2560) (I : Nat → St → Prop) (hop : ∀ (k : Nat) (s : St), 5 * k + 5 ≤ L → I k s → all_ok L xs s (I (k + 1)) ∧ I (k + 1) s) {Q : Option Value → am_S → Prop} (hQ : ∀ s, Q (some (.int 1)) (mk s)) :
    ∀ (m k : Nat) (s : St), L / 5 - k ≤ m → 5 * k ≤ L → I k s → am_Rn L xs 100 132 18 [.float 0, .ref 0, .ref 121, .int (nI (5 * k))] [] (mk s) Q
  | m, k, s, hm, hk, hI => by
    rw [lw_head]
    by_cases h : L < 5 * k + 5
    · rw [if_pos ((lw_cmp hL (by omega)).mpr h), lw_out]
      exact hQ s
    · rw [if_neg (fun q => h ((lw_cmp hL (by omega)).mp q))]
      obtain ⟨h1, h2⟩ := hop k s (by omega) hI
      refine lw_iter hL (by omega) h1 h2 (fun s2 hs2 => ?_)
      rw [lw_next]
      have e : nI (5 * k) + 5 = nI (5 * (k + 1)) := by
        show nI (5 * k) + nI 5 = _
        rw [nI_add]
        rfl
      rw [e]
      match m, hm with
      | 0, hm => omega
      | m + 1, hm => exact lw_loop hL I hop hQ m (k + 1) s2 (by omega) (by omega) hs2
/-- the store behind the constructors -/
def in_S : am_S := match in_run2 with
  | some (_, σ) => σ
  | none => []
def in_St : St := (in_gA in_S, in_gF in_S, in_gG in_S)
theorem in_mk : in_run2 = some (none, mk in_St) ∧ in_fc (mk in_St) = true := by
  obtain ⟨σ, h1, h2⟩ := in_end
  have e1 : in_S = σ := by unfold in_S; rw [h1]
  have e2 : in_B = in_gB σ := by unfold in_B; rw [h1]
  have h3 : σ.map in_sh = in_sk ∧ σ.all in_gd = true := by
    unfold in_fc at h2
    simp only [Bool.and_eq_true, decide_eq_true_eq] at h2
    obtain ⟨⟨⟨⟨⟨⟨⟨⟨⟨⟨⟨a, b⟩, -⟩, -⟩, -⟩, -⟩, -⟩, -⟩, -⟩, -⟩, -⟩, -⟩ := h2
    exact ⟨a, b⟩
  have e3 : mk in_St = σ := by
    unfold mk in_St
    rw [e1, e2]
    exact (in_mk1 σ in_sk h3.1 h3.2).symm
  rw [e3]
  exact ⟨h1, h2⟩
theorem lw_start {L : Nat} {xs : Nat → Int32} {Q : Option Value → am_S → Prop} (h : am_Rn L xs 100 132 18 [.float 0, .ref 0, .ref 121, .int (nI 0)] [] (mk in_St) Q) : am_Rn L xs 100 132 0 (am_en 132 [.float 0]) [] [] Q := by
  obtain ⟨σ1, h1, h2, h3⟩ := in_end1
  have c1 : ∀ Q : Option Value → am_S → Prop, am_Call L xs 99 0 [.ref 0] [.inr (0, pg_def 0)] Q = Q none σ1 := fun Q => am_val (n := 5000) (by rw [am_nol L xs _ _ _ _ _ _ _ (by decide)]; exact h1)
  have c2 : ∀ Q : Option Value → am_S → Prop, am_Call L xs 99 83 [.ref 121] (σ1 ++ [.inr (6, pg_def 6)]) Q = Q none (mk in_St) := fun Q => am_val (n := 5000) (by
    rw [am_nol L xs _ _ _ _ _ _ _ (by decide)]
    have := in_mk.1
    unfold in_run2 at this
    rw [h2] at this
    exact this)
  show am_Rn L xs 100 132 0 [.float 0, .retAddr 0, .retAddr 0, .retAddr 0] [] [] Q
  simp only [r132_0, r132_3, am_okR, true_and, List.length_nil, List.nil_append]
  rw [r132_4 (by decide), c1]
  simp only [am_tN, r132_7, r132_8, r132_11, am_okR, true_and, List.length_cons, List.length_nil, h3, List.set_cons_succ, List.set_cons_zero, Nat.reduceAdd, Nat.reduceLT]
  rw [r132_12 (by decide), c2]
  simp only [am_tN, r132_15, r132_16, r132_17, true_and, List.length_cons, List.length_nil, List.set_cons_succ, List.set_cons_zero, Nat.reduceAdd, Nat.reduceLT]
  exact h
theorem lw_whole {L : Nat} {xs : Nat → Int32} (hL : L ≤ 2560) (I : Nat → St → Prop) (h0 : I 0 in_St) (hop : ∀ (k : Nat) (s : St), 5 * k + 5 ≤ L → I k s → all_ok L xs s (I (k + 1)) ∧ I (k + 1) s) :
    ∃ (n : Nat) (σ' : am_S), am_run L xs n 100 pg_num 0 (am_en pg_num [.float 0]) [] [] = some (some (.int 1), σ') ∧ σ'.length ≤ 600000 ∧ am_ns σ' ≤ 7302250 := by
  have h := lw_start (L := L) (xs := xs) (Q := fun r σ => r = some (.int 1) ∧ σ.length ≤ 600000 ∧ am_ns σ ≤ 7302250) (lw_loop hL I hop (fun s => ⟨rfl, by rw [mk_len]; decide, by rw [mk_ns]; exact mk_ns_le⟩) (L / 5) 0 in_St (by omega) (by omega) h0)
  obtain ⟨n, r, σ', h1, rfl, h2, h3⟩ := h
  exact ⟨n, σ', h1, h2, h3⟩
end
section
/-! What is known of the store behind the constructors -/
theorem gF_int {s : St} {p k ci : Nat} {fs : List (Nat ⊕ Nat)} (h : in_sk[p]? = some (.inr (.inr (ci, fs)))) (hk : fs[k]? = some (.inr 0)) : in_gF (mk s) p k = s.2.1 p k := by
  unfold in_gF mk
  rw [am_mk_at h]
  simp only [am_mc, List.getElem?_mapIdx, hk]
  rfl
theorem gA_arr {s : St} {p t n : Nat} (h : in_sk[p]? = some (.inl (t, n))) : in_gA (mk s) p = s.1 p := by
  unfold in_gA mk
  rw [am_mk_at h]
  rfl
theorem gB_arr {s : St} {p t n : Nat} (h : in_sk[p]? = some (.inr (.inl (t, n)))) : in_gB (mk s) p = in_B p := by
  unfold in_gB mk
  rw [am_mk_at h]
  rfl
theorem in_facts : (∀ j, j < 3 → in_B 1 j = some (2 + 5 * j)) ∧ (∀ j, j < 6 → in_B 37 j = some (38 + j) ∧ in_B 73 j = some (74 + j) ∧ in_B 103 j = some (104 + j)) ∧ in_St.2.1 0 6 = 0 ∧ in_St.2.1 0 7 = 0 ∧
    (∀ j, j < 3 → in_St.2.1 (2 + 5 * j) 4 = 0 ∧ ∀ i, i < 12 → in_St.1 (2 + 5 * j + 1) i = -2) ∧ (∀ j, j < 4 → in_St.1 122 j = 0 ∧ in_St.1 138 j = 0) ∧ in_St.2.1 121 26 = 0 ∧ in_St.2.1 121 28 = 0 := by
  have h := in_mk.2
  unfold in_fc at h
  simp only [Bool.and_eq_true, decide_eq_true_eq, beq_iff_eq, List.all_eq_true, List.mem_range] at h
  obtain ⟨⟨⟨⟨⟨⟨⟨⟨⟨⟨⟨-, -⟩, h1⟩, h2⟩, h3⟩, h4⟩, h5⟩, -⟩, -⟩, h8⟩, h9⟩, h10⟩ := h
  refine ⟨fun j hj => ?_, fun j hj => ?_, ?_, ?_, fun j hj => ?_, fun j hj => ?_, ?_, ?_⟩
  · rw [← gB_arr (s := in_St) (p := 1) rfl]; exact h1 j hj
  · obtain ⟨⟨q1, q2⟩, q3⟩ := h2 j hj
    rw [gB_arr rfl] at q1 q2 q3
    exact ⟨q1, q2, q3⟩
  · rw [gF_int rfl rfl] at h3; exact h3
  · rw [gF_int rfl rfl] at h4; exact h4
  · have hp : 2 + 5 * j ∈ [2, 7, 12, 18] := by
      match j, hj with
      | 0, _ => decide
      | 1, _ => decide
      | 2, _ => decide
    obtain ⟨q1, q2⟩ := h5 _ hp
    rw [gF_int (isF_t hj).1 rfl] at q1
    rw [gA_arr (isF_t hj).2.1] at q2
    exact ⟨q1, q2⟩
  · obtain ⟨q1, q2⟩ := h8 j hj
    rw [gA_arr rfl] at q1 q2
    exact ⟨q1, q2⟩
  · rw [gF_int rfl rfl] at h9; exact h9
  · rw [gF_int rfl rfl] at h10; exact h10
theorem t_tree {s : St} {j : Nat} {f : Nat → Prop} (h : j < 3) : am_ar2 (mk s) 1 (nI j) f = f (2 + 5 * j) := by
  have e := am_k_ar (sk := in_sk) (A := s.1) (B := in_B) (F := s.2.1) (G := s.2.2) (p := 1) (t := 2) (n := 3) (i := nI j) (f := f) rfl (Or.inl rfl)
  refine Eq.trans e ?_
  rw [nI_clamp (by omega), in_facts.1 j h]
  apply propext
  refine ⟨fun q => q.2, fun q => ⟨?_, q⟩⟩
  unfold am_in
  rw [nI_clamp (by omega)]
  simp only [Bool.and_eq_true, Bool.not_eq_true', decide_eq_false_iff_not, decide_eq_true_eq]
  exact ⟨nI_pos (by omega), h⟩
theorem in_of {j n : Nat} (h : j < n) (hn : n < 2 ^ 31) : am_in (nI j) n = true := by
  unfold am_in
  rw [nI_clamp (by omega)]
  simp only [Bool.and_eq_true, Bool.not_eq_true', decide_eq_false_iff_not, decide_eq_true_eq]
  exact ⟨nI_pos (by omega), h⟩
end
section
/-! Small methods of the class and of the reference -/
section
variable {L : Nat} {xs : Nat → Int32} {d : Nat} {s : St} {σ : am_S} {Q : Option Value → am_S → Prop}
theorem c_isTree1 {j : Nat} (h : j < 3) : am_Call L xs d 8 [.int (nI j)] σ Q = Q (some (.int 1)) σ := by
  have h1 : ¬ nI j < 0 := nI_pos (by omega)
  have h2 : ¬ (3 : Int32) ≤ nI j := nI_ge (b := 3) (by omega) (by omega)
  simp only [e8, r8_0, r8_1, r8_4, r8_5, r8_6, r8_9, r8_10, r8_13, r8_14, am_li0, h1, h2, if_false, or_true, eq_self]
theorem c_isTree0 {t : Int32} (h : t < 0 ∨ 3 ≤ t) : am_Call L xs d 8 [.int t] σ Q = Q (some (.int 0)) σ := by
  by_cases h1 : t < 0
  · simp only [e8, r8_0, r8_1, r8_4, r8_5, r8_6, r8_9, r8_10, r8_13, r8_14, am_li0, h1, if_true, true_or, eq_self]
  · have h2 : (3 : Int32) ≤ t := h.resolve_left h1
    simp only [e8, r8_0, r8_1, r8_4, r8_5, r8_6, r8_9, r8_10, r8_13, r8_14, am_li0, h1, h2, if_true, if_false, true_or, eq_self]
theorem m_isTree1 {j : Nat} (h : j < 3) : am_Call L xs d 85 [.int (nI j)] σ Q = Q (some (.int 1)) σ := by
  have h1 : ¬ nI j < 0 := nI_pos (by omega)
  have h2 : ¬ (3 : Int32) ≤ nI j := nI_ge (b := 3) (by omega) (by omega)
  simp only [e85, r85_0, r85_1, r85_4, r85_5, r85_6, r85_9, r85_10, r85_13, r85_14, am_li0, h1, h2, if_false, or_true, eq_self]
theorem m_isTree0 {t : Int32} (h : t < 0 ∨ 3 ≤ t) : am_Call L xs d 85 [.int t] σ Q = Q (some (.int 0)) σ := by
  by_cases h1 : t < 0
  · simp only [e85, r85_0, r85_1, r85_4, r85_5, r85_6, r85_9, r85_10, r85_13, r85_14, am_li0, h1, if_true, true_or, eq_self]
  · have h2 : (3 : Int32) ≤ t := h.resolve_left h1
    simp only [e85, r85_0, r85_1, r85_4, r85_5, r85_6, r85_9, r85_10, r85_13, r85_14, am_li0, h1, h2, if_true, if_false, true_or, eq_self]
/-- has: on a forest with u numbers used -/
theorem c_has {p n u : Nat} (hF : isF p n) (hn : n < 2 ^ 31) (hu : s.2.1 p 4 = nI u) (hun : u ≤ n) {x : Int32} :
    am_Call L xs d 9 [.ref p, .int x] (mk s) Q = Q (some (.int (if ∃ j, j < u ∧ x = nI j ∧ ¬ s.1 (p + 1) j = -2 then 1 else 0))) (mk s) := by
  rcases pk_ix x (n := u) (by omega) with h | h | ⟨j, hj, rfl⟩
  · have e : ¬ ∃ j, j < u ∧ x = nI j ∧ ¬ s.1 (p + 1) j = -2 := by
      rintro ⟨j, h1, rfl, -⟩
      exact nI_pos (by omega) h
    simp only [e9, r9_0, r9_1, r9_4, r9_5, r9_6, r9_9, r9_12, r9_13, r9_16, r9_17, r9_18, r9_20, r9_23, r9_24, r9_27, r9_28, am_li0, am_liS, am_laR0, am_laS, h, e, if_true, if_false, true_or, eq_self]
  · have h0 : ¬ x < 0 := fun q => by
      have h1 := Int32.le_iff_toInt_le.mp h
      have h2 := Int32.lt_iff_toInt_lt.mp q
      rw [nI_toInt (by omega)] at h1
      rw [Int32.toInt_zero] at h2
      omega
    have e : ¬ ∃ j, j < u ∧ x = nI j ∧ ¬ s.1 (p + 1) j = -2 := by
      rintro ⟨j, h1, rfl, -⟩
      exact nI_ge h1 (by omega) h
    simp only [e9, r9_0, r9_1, r9_4, r9_5, r9_6, r9_9, r9_12, r9_13, r9_16, r9_17, r9_18, r9_20, r9_23, r9_24, r9_27, r9_28, am_li0, am_liS, am_laR0, am_laS, f_used hF, hu, h0, h, e, if_true, if_false, true_or, eq_self]
  · have h0 : ¬ nI j < 0 := nI_pos (by omega)
    have h1 : ¬ nI u ≤ nI j := nI_ge hj (by omega)
    have h2 : am_in (nI j) n = true := in_of (by omega) hn
    have h3 : (nI j).toNatClampNeg = j := nI_clamp (by omega)
    by_cases hp : s.1 (p + 1) j = -2
    · have e : ¬ ∃ i, i < u ∧ nI j = nI i ∧ ¬ s.1 (p + 1) i = -2 := by
        rintro ⟨i, h4, h5, h6⟩
        rw [(nI_eq (by omega) (by omega)).mp h5] at hp
        exact h6 hp
      simp only [e9, r9_0, r9_1, r9_4, r9_5, r9_6, r9_9, r9_12, r9_13, r9_16, r9_17, r9_18, r9_20, r9_23, r9_24, r9_27, r9_28, am_li0, am_liS, am_laR0, am_laS, f_used hF, f_par hF, fa_par hF, hu, h0, h1, h2, h3, hp, e, if_true, if_false, true_or, eq_self, true_and]
    · have e : ∃ i, i < u ∧ nI j = nI i ∧ ¬ s.1 (p + 1) i = -2 := ⟨j, hj, rfl, hp⟩
      simp only [e9, r9_0, r9_1, r9_4, r9_5, r9_6, r9_9, r9_12, r9_13, r9_16, r9_17, r9_18, r9_20, r9_23, r9_24, r9_27, r9_28, am_li0, am_liS, am_laR0, am_laS, f_used hF, f_par hF, fa_par hF, hu, h0, h1, h2, h3, hp, e, if_true, if_false, or_true, eq_self, true_and]
end
end
section
/-! Arrays.fill, wipe, size, clear -/
theorem up_same {α : Type} (A : Nat → α) (q : Nat) (g : α) : va_up A q g q = g := by simp [va_up]
theorem up_up {α : Type} (A : Nat → α) (q : Nat) (g h : α) : va_up (va_up A q g) q h = va_up A q h := by
  funext j; unfold va_up; split <;> rfl
theorem up_ne {α : Type} (A : Nat → α) {q k : Nat} (g : α) (h : k ≠ q) : va_up A q g k = A k := by simp [va_up, h]
theorem up_self {α : Type} (A : Nat → α) (q : Nat) : va_up A q (A q) = A := by
  funext j; unfold va_up
  by_cases h : j = q
  · rw [if_pos h, h]
  · rw [if_neg h]
theorem u2_same {α : Type} (F : Nat → Nat → α) (p k : Nat) (x : α) : am_u2 F p k x p k = x := by simp [am_u2]
theorem u2_ne {α : Type} (F : Nat → Nat → α) {p k q j : Nat} (x : α) (h : ¬ (q = p ∧ j = k)) : am_u2 F p k x q j = F q j := by simp only [am_u2, h, if_false]
section
variable {L : Nat} {xs : Nat → Int32} {d : Nat} {s : St} {Q : Option Value → am_S → Prop}
/-- an array's first i places filled with v -/
def fil (i : Nat) (v : Int32) (g : Nat → Int32) : Nat → Int32 := fun j => if j < i then v else g j
theorem fil_0 (v : Int32) (g : Nat → Int32) : fil 0 v g = g := by funext j; simp [fil]
theorem fil_s (i : Nat) (v : Int32) (g : Nat → Int32) : upd (fil i v g) i v = fil (i + 1) v g := by
  funext j
  unfold upd fil
  by_cases h : j = i
  · rw [if_pos h, if_pos (by omega)]
  · rw [if_neg h]
    by_cases h2 : j < i
    · rw [if_pos h2, if_pos (by omega)]
    · rw [if_neg h2, if_neg (by omega)]
theorem a_fill_loop {q n : Nat} {v : Int32} (hq : in_sk[q]? = some (.inl (0, n))) (hn : n < 2 ^ 31) : ∀ (m i : Nat), n - i = m → i ≤ n →
    am_Rn L xs d 2 5 [.ref q, .int v, .int (nI i), .int (nI n)] [] (mk (va_up s.1 q (fil i v (s.1 q)), s.2)) Q = Q none (mk (va_up s.1 q (fil n v (s.1 q)), s.2))
  | 0, i, hm, hi => by
    have e : i = n := by omega
    subst e
    have h1 : nI i ≤ nI i := nI_le (Nat.le_refl _) (by omega)
    simp only [r2_5, r2_6, r2_7, r2_20, am_li0, am_liS, h1, if_true]
  | m + 1, i, hm, hi => by
    have h1 : ¬ nI n ≤ nI i := nI_ge (by omega) (by omega)
    have h2 : am_in (nI i) n = true := in_of (by omega) hn
    have h3 : (nI i).toNatClampNeg = i := nI_clamp (by omega)
    have hw : ∀ (S : St) (x : Int32) (f : am_S → Prop), am_wi 0 (mk S) q (nI i) x f = (am_in (nI i) n = true ∧ f (mk (va_up S.1 q (upd (S.1 q) (nI i).toNatClampNeg x), S.2))) := fun S x f => am_k_wi (sk := in_sk) hq
    rw [r2_5]
    simp only [r2_6, r2_7, r2_10, r2_11, r2_12, r2_13, r2_14, r2_17, am_li0, am_liS, am_laR0, h1, if_false, hw, h2, h3, true_and, up_same, up_up, fil_s, List.set_cons_succ, List.set_cons_zero, nI_1]
    exact a_fill_loop hq hn m (i + 1) (by omega) (by omega)
theorem a_fill {q n : Nat} {v : Int32} (hq : in_sk[q]? = some (.inl (0, n))) (hn : n < 2 ^ 31) : am_Call L xs d 2 [.ref q, .int v] (mk s) Q = Q none (mk (va_up s.1 q (fil n v (s.1 q)), s.2)) := by
  have hl : ∀ f : Int32 → Prop, am_ln (mk s) q f = f (Int32.ofNat n) := fun f => am_k_lnA (sk := in_sk) hq (by decide)
  have h := a_fill_loop (L := L) (xs := xs) (d := d) (s := s) (Q := Q) (v := v) hq hn n 0 (by omega) (by omega)
  rw [fil_0, up_self] at h
  simp only [e2, r2_0, r2_1, r2_2, r2_3, r2_4, am_laR0, hl, List.length_cons, List.length_nil, List.set_cons_succ, List.set_cons_zero, Nat.reduceAdd, Nat.reduceLT, true_and]
  exact h
theorem c_wipe {p n : Nat} (hF : isF p n) (hn : n < 2 ^ 31) : am_Call L xs (d + 1) 15 [.ref p] (mk s) Q = Q none (mk (va_up s.1 (p + 1) (fil n (-2) (s.1 (p + 1))), am_u2 s.2.1 p 4 0, s.2.2)) := by
  simp only [e15, r15_0, r15_1, r15_4, r15_6, r15_9, r15_10, r15_11, r15_14, am_laR0, f_par hF, a_fill hF.2.1 hn, fv_used hF, am_tN, am_okI, am_okR, List.length_nil, Nat.zero_le, and_true, true_and]
theorem c_size1 {j : Nat} (h : j < 3) : am_Call L xs (d + 1) 16 [.ref 0, .int (nI j)] (mk s) Q = Q (some (.int (s.2.1 (2 + 5 * j) 4))) (mk s) := by
  have h1 : ¬ (1 : Int32) = 0 := by decide
  simp only [e16, r16_0, r16_1, r16_4, r16_7, r16_8, r16_11, r16_12, r16_13, r16_16, r16_19, r16_20, am_li0, am_liS, am_laR0, c_isTree1 h, am_tL, h1, if_false, g0_0, t_tree h, f_used (isF_t h), am_okI, List.length_nil, Nat.zero_le, and_true, true_and]
theorem c_size0 {t : Int32} (h : t < 0 ∨ 3 ≤ t) : am_Call L xs (d + 1) 16 [.ref 0, .int t] (mk s) Q = Q (some (.int (-1))) (mk s) := by
  simp only [e16, r16_0, r16_1, r16_4, r16_7, r16_8, r16_11, r16_12, r16_13, r16_16, r16_19, r16_20, am_li0, am_liS, am_laR0, c_isTree0 h, am_tL, if_true, am_okI, List.length_nil, Nat.zero_le, and_true, true_and]
theorem m_size1 {j : Nat} (h : j < 3) : am_Call L xs (d + 1) 88 [.ref 121, .int (nI j)] (mk s) Q = Q (some (.int (s.1 122 j))) (mk s) := by
  have h1 : ¬ (1 : Int32) = 0 := by decide
  have h2 : am_in (nI j) 4 = true := in_of (by omega) (by decide)
  have h3 : (nI j).toNatClampNeg = j := nI_clamp (by omega)
  simp only [e88, r88_0, r88_1, r88_4, r88_7, r88_8, r88_11, r88_12, r88_13, r88_16, r88_17, am_li0, am_liS, am_laR0, m_isTree1 h, am_tL, h1, if_false, g121_0, a122, h2, h3, am_okI, List.length_nil, Nat.zero_le, and_true, true_and]
theorem m_size0 {t : Int32} (h : t < 0 ∨ 3 ≤ t) : am_Call L xs (d + 1) 88 [.ref 121, .int t] (mk s) Q = Q (some (.int (-1))) (mk s) := by
  simp only [e88, r88_0, r88_1, r88_4, r88_7, r88_8, r88_11, r88_12, r88_13, r88_16, r88_17, am_li0, am_liS, am_laR0, m_isTree0 h, am_tL, if_true, am_okI, List.length_nil, Nat.zero_le, and_true, true_and]
theorem c_clear1 {j : Nat} (h : j < 3) : am_Call L xs (d + 2) 14 [.ref 0, .int (nI j)] (mk s) Q = Q (some (.int 1)) (mk (va_up s.1 (2 + 5 * j + 1) (fil 12 (-2) (s.1 (2 + 5 * j + 1))), am_u2 s.2.1 (2 + 5 * j) 4 0, s.2.2)) := by
  have h1 : ¬ (1 : Int32) = 0 := by decide
  simp only [e14, r14_0, r14_1, r14_4, r14_7, r14_8, r14_9, r14_10, r14_13, r14_14, r14_15, r14_18, r14_19, am_li0, am_liS, am_laR0, c_isTree1 h, am_tL, am_tN, h1, not_false_eq_true, if_true, g0_0, t_tree h, f_oc (isF_t h), c_wipe (isF_t h) (by decide), am_okI, List.length_nil, Nat.zero_le, and_true, true_and, or_true, eq_self]
theorem c_clear0 {t : Int32} (h : t < 0 ∨ 3 ≤ t) : am_Call L xs (d + 2) 14 [.ref 0, .int t] (mk s) Q = Q (some (.int 0)) (mk s) := by
  simp only [e14, r14_0, r14_1, r14_4, r14_7, r14_8, r14_9, r14_10, r14_13, r14_14, r14_15, r14_18, r14_19, am_li0, am_liS, am_laR0, c_isTree0 h, am_tL, not_true, if_false, am_okI, List.length_nil, Nat.zero_le, and_true, true_and, true_or, eq_self]
theorem m_clear1 {j : Nat} (h : j < 3) : am_Call L xs (d + 1) 87 [.ref 121, .int (nI j)] (mk s) Q = Q (some (.int 1)) (mk (va_up s.1 122 (upd (s.1 122) j 0), s.2)) := by
  have h1 : ¬ (1 : Int32) = 0 := by decide
  have h2 : am_in (nI j) 4 = true := in_of (by omega) (by decide)
  have h3 : (nI j).toNatClampNeg = j := nI_clamp (by omega)
  simp only [e87, r87_0, r87_1, r87_4, r87_7, r87_8, r87_9, r87_10, r87_13, r87_14, r87_15, r87_16, r87_17, am_li0, am_liS, am_laR0, m_isTree1 h, am_tL, h1, not_false_eq_true, if_true, g121_0, w122, h2, h3, am_okI, List.length_nil, Nat.zero_le, and_true, true_and, or_true, eq_self]
theorem m_clear0 {t : Int32} (h : t < 0 ∨ 3 ≤ t) : am_Call L xs (d + 1) 87 [.ref 121, .int t] (mk s) Q = Q (some (.int 0)) (mk s) := by
  simp only [e87, r87_0, r87_1, r87_4, r87_7, r87_8, r87_9, r87_10, r87_13, r87_14, r87_15, r87_16, r87_17, am_li0, am_liS, am_laR0, m_isTree0 h, am_tL, not_true, if_false, am_okI, List.length_nil, Nat.zero_le, and_true, true_and, true_or, eq_self]
end
end
section
/-! Calls that end early: what is not there -/
section
variable {L : Nat} {xs : Nat → Int32} {d : Nat} {s : St} {Q : Option Value → am_S → Prop}
theorem c_partner0 {a : Int32} (h : s.2.1 0 6 = 0) : am_Call L xs d 56 [.ref 0, .int a] (mk s) Q = Q (some (.int (-1))) (mk s) := by
  simp only [e56, r56_0, r56_1, r56_4, r56_32, r56_33, am_laR0, g0_6, h, if_true]
theorem c_step0 {a b : Int32} (h : s.2.1 0 6 = 0) : am_Call L xs d 57 [.ref 0, .int a, .int b] (mk s) Q = Q (some (.int (-2))) (mk s) := by
  simp only [e57, r57_0, r57_1, r57_4, r57_35, r57_37, am_laR0, g0_6, h, if_true]
theorem c_count0 {a : Int32} (h : s.2.1 0 6 = 0) : am_Call L xs d 59 [.ref 0, .int a] (mk s) Q = Q (some (.int 0)) (mk s) := by
  simp only [e59, r59_0, r59_1, r59_4, r59_21, r59_22, am_laR0, g0_6, h, if_true]
theorem c_replay0 {a : Int32} (h : s.2.1 0 6 = 0) : am_Call L xs d 61 [.ref 0, .int a] (mk s) Q = Q (some (.int (-1))) (mk s) := by
  simp only [e61, r61_0, r61_1, r61_4, r61_25, r61_26, am_laR0, g0_6, h, if_true]
theorem c_node0 {a b : Int32} (h : s.2.1 0 7 = 0) : am_Call L xs d 81 [.ref 0, .int a, .int b] (mk s) Q = Q (some (.int (-2))) (mk s) := by
  simp only [e81, r81_0, r81_1, r81_4, r81_18, r81_20, am_laR0, g0_7, h, if_true]
theorem c_equal0 {a : Int32} (h : s.2.1 0 7 = 0) : am_Call L xs d 82 [.ref 0, .int a] (mk s) Q = Q (some (.int 0)) (mk s) := by
  simp only [e82, r82_0, r82_1, r82_4, r82_57, r82_58, am_laR0, g0_7, h, if_true, true_or, eq_self]
theorem c_isFilled0 {a : Int32} (h : (a < 0 ∨ 3 ≤ a) ∨ ∃ j, j < 3 ∧ a = nI j ∧ s.2.1 (2 + 5 * j) 4 = 0) : am_Call L xs (d + 1) 22 [.ref 0, .int a] (mk s) Q = Q (some (.int 0)) (mk s) := by
  rcases h with h | ⟨j, h, rfl, hu⟩
  · simp only [e22, r22_0, r22_1, r22_4, r22_7, r22_8, r22_11, r22_12, r22_13, r22_16, r22_19, r22_20, r22_23, r22_24, am_li0, am_liS, am_laR0, c_isTree0 h, am_tL, if_true, am_okI, List.length_nil, Nat.zero_le, and_true, true_and, true_or, eq_self]
  · have h1 : ¬ (1 : Int32) = 0 := by decide
    have h2 : (0 : Int32) ≤ 0 := by decide
    simp only [e22, r22_0, r22_1, r22_4, r22_7, r22_8, r22_11, r22_12, r22_13, r22_16, r22_19, r22_20, r22_23, r22_24, am_li0, am_liS, am_laR0, c_isTree1 h, am_tL, h1, h2, hu, g0_0, t_tree h, f_used (isF_t h), if_true, if_false, am_okI, List.length_nil, Nat.zero_le, and_true, true_and, true_or, eq_self]
theorem c_diff0 {a b : Int32} (h : (a < 0 ∨ 3 ≤ a) ∨ ∃ j, j < 3 ∧ a = nI j ∧ s.2.1 (2 + 5 * j) 4 = 0) : am_Call L xs (d + 2) 21 [.ref 0, .int a, .int b] (mk s) Q = Q (some (.int (-1))) (mk s) := by
  simp only [e21, r21_0, r21_1, r21_2, r21_5, r21_16, r21_17, am_li0, am_liS, am_laR0, t_oc, c_isFilled0 h, am_tL, if_true, am_okI, List.length_nil, Nat.zero_le, and_true, true_and]
theorem c_merge0 (h : s.2.1 2 4 = 0) : am_Call L xs (d + 2) 67 [.ref 0] (mk s) Q = Q (some (.int (-1))) (mk s) := by
  have hf : ∀ Q : Option Value → am_S → Prop, am_Call L xs (d + 1) 22 [.ref 0, .int 0] (mk s) Q = Q (some (.int 0)) (mk s) := fun Q => c_isFilled0 (Or.inr ⟨0, by omega, rfl, h⟩)
  simp only [e67, r67_0, r67_1, r67_2, r67_5, r67_24, r67_25, am_laR0, t_oc, hf, am_tL, if_true, am_okI, List.length_nil, Nat.zero_le, and_true, true_and]
/-- has on an empty forest -/
theorem c_hasE {p n : Nat} (hF : isF p n) (hn : n < 2 ^ 31) (hu : s.2.1 p 4 = 0) {x : Int32} : am_Call L xs d 9 [.ref p, .int x] (mk s) Q = Q (some (.int 0)) (mk s) := by
  have e : ¬ ∃ j, j < 0 ∧ x = nI j ∧ ¬ s.1 (p + 1) j = -2 := by
    rintro ⟨j, h, -⟩
    exact Nat.not_lt_zero _ h
  have h := c_has (L := L) (xs := xs) (d := d) (Q := Q) (x := x) (u := 0) hF hn hu (Nat.zero_le _)
  rw [if_neg e] at h
  exact h
theorem c_height0 {a b : Int32} (h : (a < 0 ∨ 3 ≤ a) ∨ ∃ j, j < 3 ∧ a = nI j ∧ s.2.1 (2 + 5 * j) 4 = 0) : am_Call L xs (d + 1) 17 [.ref 0, .int a, .int b] (mk s) Q = Q (some (.int (-1))) (mk s) := by
  rcases h with h | ⟨j, h, rfl, hu⟩
  · simp only [e17, r17_0, r17_1, r17_4, r17_20, r17_21, am_li0, am_liS, am_laR0, c_isTree0 h, am_tL, if_true, am_okI, List.length_nil, Nat.zero_le, and_true, true_and]
  · have h1 : ¬ (1 : Int32) = 0 := by decide
    simp only [e17, r17_0, r17_1, r17_4, r17_7, r17_8, r17_11, r17_12, r17_13, r17_14, r17_17, r17_20, r17_21, am_li0, am_liS, am_laR0, c_isTree1 h, am_tL, h1, not_true, g0_0, t_tree h, f_oc (isF_t h), c_hasE (isF_t h) (by decide) hu, if_false, am_okI, List.length_nil, Nat.zero_le, and_true, true_and]
theorem c_same0 {p q : Nat} {x y : Int32} (hF : isF p 12) (hu : s.2.1 p 4 = 0) : am_Call L xs (d + 1) 20 [.ref p, .int x, .ref q, .int y, .int 0] (mk s) Q = Q (some (.int 0)) (mk s) := by
  have h1 : ¬ (40 : Int32) < 0 := by decide
  simp only [e20, r20_0, r20_2, r20_4, r20_7, r20_8, r20_9, r20_12, r20_23, r20_24, am_li0, am_liS, am_laR0, am_laS, h1, f_oc hF, c_hasE hF (by decide) hu, am_tL, if_true, if_false, am_okI, List.length_nil, Nat.zero_le, and_true, true_and, true_or, eq_self]
theorem c_alike0 {a b c e : Int32} (h : (a < 0 ∨ 3 ≤ a) ∨ (c < 0 ∨ 3 ≤ c) ∨ ∃ j, j < 3 ∧ a = nI j ∧ s.2.1 (2 + 5 * j) 4 = 0) : am_Call L xs (d + 2) 19 [.ref 0, .int a, .int b, .int c, .int e] (mk s) Q = Q (some (.int 0)) (mk s) := by
  have h1 : ¬ (1 : Int32) = 0 := by decide
  by_cases ha : a < 0 ∨ 3 ≤ a
  · simp only [e19, r19_0, r19_1, r19_4, r19_40, r19_41, am_li0, am_liS, am_laR0, c_isTree0 ha, am_tL, if_true, am_okI, List.length_nil, Nat.zero_le, and_true, true_and, true_or, eq_self]
  · obtain ⟨j, hj, rfl⟩ : ∃ j, j < 3 ∧ a = nI j := by
      rcases pk_ix a (n := 3) (by decide) with q | q | q
      · exact absurd (Or.inl q) ha
      · exact absurd (Or.inr q) ha
      · exact q
    by_cases hc : c < 0 ∨ 3 ≤ c
    · simp only [e19, r19_0, r19_1, r19_4, r19_7, r19_8, r19_11, r19_40, r19_41, am_li0, am_liS, am_laR0, c_isTree1 hj, c_isTree0 hc, am_tL, h1, if_true, if_false, am_okI, List.length_nil, Nat.zero_le, and_true, true_and, true_or, eq_self]
    · obtain ⟨i, hi, rfl⟩ : ∃ j, j < 3 ∧ c = nI j := by
        rcases pk_ix c (n := 3) (by decide) with q | q | q
        · exact absurd (Or.inl q) hc
        · exact absurd (Or.inr q) hc
        · exact q
      have hu : s.2.1 (2 + 5 * j) 4 = 0 := by
        rcases h with h | h | ⟨j2, h2, h3, h4⟩
        · exact absurd h ha
        · exact absurd h hc
        · rw [(nI_eq (by omega) (by omega)).mp h3]; exact h4
      simp only [e19, r19_0, r19_1, r19_4, r19_7, r19_8, r19_11, r19_14, r19_15, r19_18, r19_19, r19_20, r19_21, r19_22, r19_25, r19_26, r19_27, r19_29, r19_30, r19_33, r19_36, r19_37, r19_40, r19_41, am_li0, am_liS, am_laR0, c_isTree1 hj, c_isTree1 hi, am_tL, h1, g0_0, t_tree hj, t_tree hi, c_same0 (isF_t hj) hu, if_true, if_false, am_okI, am_okR, List.length_nil, Nat.zero_le, and_true, true_and, true_or, eq_self]
/-! the reference -/
theorem m_isNode0 {a b : Int32} (h : (a < 0 ∨ 3 ≤ a) ∨ ∃ j, j < 3 ∧ a = nI j ∧ s.1 122 j = 0) : am_Call L xs (d + 1) 86 [.ref 121, .int a, .int b] (mk s) Q = Q (some (.int 0)) (mk s) := by
  rcases h with h | ⟨j, h, rfl, hu⟩
  · simp only [e86, r86_0, r86_1, r86_4, r86_7, r86_8, r86_11, r86_12, r86_13, r86_16, r86_17, r86_18, r86_21, r86_22, r86_25, r86_26, am_li0, am_liS, am_laR0, m_isTree0 h, am_tL, if_true, am_okI, List.length_nil, Nat.zero_le, and_true, true_and, true_or, eq_self]
  · have h1 : ¬ (1 : Int32) = 0 := by decide
    have h2 : am_in (nI j) 4 = true := in_of (by omega) (by decide)
    have h3 : (nI j).toNatClampNeg = j := nI_clamp (by omega)
    by_cases hb : b < 0
    · simp only [e86, r86_0, r86_1, r86_4, r86_7, r86_8, r86_11, r86_12, r86_13, r86_16, r86_17, r86_18, r86_21, r86_22, r86_25, r86_26, am_li0, am_liS, am_laR0, m_isTree1 h, am_tL, h1, hb, if_true, if_false, am_okI, List.length_nil, Nat.zero_le, and_true, true_and, true_or, eq_self]
    · have hb2 : (0 : Int32) ≤ b := Int32.not_lt.mp hb
      simp only [e86, r86_0, r86_1, r86_4, r86_7, r86_8, r86_11, r86_12, r86_13, r86_16, r86_17, r86_18, r86_21, r86_22, r86_25, r86_26, am_li0, am_liS, am_laR0, m_isTree1 h, am_tL, h1, h2, h3, hb, hb2, hu, g121_0, a122, if_true, if_false, am_okI, List.length_nil, Nat.zero_le, and_true, true_and, true_or, eq_self]
theorem m_height0 {a b : Int32} (h : (a < 0 ∨ 3 ≤ a) ∨ ∃ j, j < 3 ∧ a = nI j ∧ s.1 122 j = 0) : am_Call L xs (d + 2) 89 [.ref 121, .int a, .int b] (mk s) Q = Q (some (.int (-1))) (mk s) := by
  simp only [e89, r89_0, r89_1, r89_2, r89_3, r89_6, r89_9, r89_10, am_li0, am_liS, am_laR0, m_oc, m_isNode0 h, am_tL, not_true, if_false, am_okI, List.length_nil, Nat.zero_le, and_true, true_and]
theorem m_alike0 {a b c e : Int32} (h : (a < 0 ∨ 3 ≤ a) ∨ ∃ j, j < 3 ∧ a = nI j ∧ s.1 122 j = 0) : am_Call L xs (d + 2) 90 [.ref 121, .int a, .int b, .int c, .int e] (mk s) Q = Q (some (.int 0)) (mk s) := by
  simp only [e90, r90_0, r90_1, r90_2, r90_3, r90_6, r90_19, r90_20, am_li0, am_liS, am_laR0, m_oc, m_isNode0 h, am_tL, if_true, am_okI, List.length_nil, Nat.zero_le, and_true, true_and, true_or, eq_self]
theorem m_diff0 {a b : Int32} (h : (a < 0 ∨ 3 ≤ a) ∨ ∃ j, j < 3 ∧ a = nI j ∧ s.1 122 j = 0) : am_Call L xs (d + 1) 93 [.ref 121, .int a, .int b] (mk s) Q = Q (some (.int (-1))) (mk s) := by
  have h1 : ¬ (1 : Int32) = 0 := by decide
  rcases h with h | ⟨j, h, rfl, hu⟩
  · simp only [e93, r93_0, r93_1, r93_4, r93_32, r93_33, am_li0, am_liS, am_laR0, m_isTree0 h, am_tL, if_true, am_okI, List.length_nil, Nat.zero_le, and_true, true_and]
  · have h2 : am_in (nI j) 4 = true := in_of (by omega) (by decide)
    have h3 : (nI j).toNatClampNeg = j := nI_clamp (by omega)
    rcases pk_ix b (n := 3) (by decide) with q | q | ⟨i, hi, rfl⟩
    · simp only [e93, r93_0, r93_1, r93_4, r93_7, r93_8, r93_11, r93_32, r93_33, am_li0, am_liS, am_laR0, m_isTree1 h, m_isTree0 (Or.inl q), am_tL, h1, if_true, if_false, am_okI, List.length_nil, Nat.zero_le, and_true, true_and]
    · simp only [e93, r93_0, r93_1, r93_4, r93_7, r93_8, r93_11, r93_32, r93_33, am_li0, am_liS, am_laR0, m_isTree1 h, m_isTree0 (Or.inr q), am_tL, h1, if_true, if_false, am_okI, List.length_nil, Nat.zero_le, and_true, true_and]
    · simp only [e93, r93_0, r93_1, r93_4, r93_7, r93_8, r93_11, r93_14, r93_15, r93_18, r93_19, r93_20, r93_32, r93_33, am_li0, am_liS, am_laR0, m_isTree1 h, m_isTree1 hi, am_tL, h1, h2, h3, hu, g121_0, a122, if_true, if_false, am_okI, List.length_nil, Nat.zero_le, and_true, true_and]
theorem m_partner0 {a : Int32} (h : s.2.1 121 26 = 0) : am_Call L xs d 109 [.ref 121, .int a] (mk s) Q = Q (some (.int (-1))) (mk s) := by
  simp only [e109, r109_0, r109_1, r109_4, r109_30, r109_31, am_laR0, g121_26, h, if_true]
theorem m_step0 {a b : Int32} (h : s.2.1 121 26 = 0) : am_Call L xs d 110 [.ref 121, .int a, .int b] (mk s) Q = Q (some (.int (-2))) (mk s) := by
  simp only [e110, r110_0, r110_1, r110_4, r110_30, r110_32, am_laR0, g121_26, h, if_true]
theorem m_count0 {a : Int32} (h : s.1 138 1 = 0) : am_Call L xs d 111 [.ref 121, .int a] (mk s) Q = Q (some (.int 0)) (mk s) := by
  have h1 : am_in 1 4 = true := by decide
  have h2 : (1 : Int32).toNatClampNeg = 1 := by decide
  have h3 : (0 : Int32) ≤ 0 := by decide
  simp only [e111, r111_0, r111_1, r111_2, r111_3, r111_4, r111_5, r111_6, r111_9, r111_10, r111_11, r111_41, r111_42, am_li0, am_liS, am_laR0, am_laS, g121_18, a138, h1, h2, h3, h, if_true, List.length_cons, List.length_nil, List.set_cons_succ, List.set_cons_zero, Nat.reduceAdd, Nat.reduceLT, true_and]
theorem m_replay0 {a : Int32} (h : s.2.1 121 26 = 0) : am_Call L xs d 112 [.ref 121, .int a] (mk s) Q = Q (some (.int (-1))) (mk s) := by
  simp only [e112, r112_0, r112_1, r112_4, r112_21, r112_22, am_laR0, g121_26, h, if_true]
theorem m_merge0 (h : s.1 122 0 = 0) : am_Call L xs d 119 [.ref 121] (mk s) Q = Q (some (.int (-1))) (mk s) := by
  have h1 : am_in 0 4 = true := by decide
  have h2 : (0 : Int32).toNatClampNeg = 0 := by decide
  simp only [e119, r119_0, r119_1, r119_4, r119_5, r119_6, r119_27, r119_28, am_laR0, g121_0, a122, h1, h2, h, if_true, true_and]
theorem m_node0 {a b : Int32} (h : s.2.1 121 28 = 0) : am_Call L xs d 129 [.ref 121, .int a, .int b] (mk s) Q = Q (some (.int (-2))) (mk s) := by
  simp only [e129, r129_0, r129_1, r129_4, r129_37, r129_39, am_laR0, g121_28, h, if_true]
theorem m_equal0 {a : Int32} (h : s.2.1 121 28 = 0) : am_Call L xs d 130 [.ref 121, .int a] (mk s) Q = Q (some (.int 0)) (mk s) := by
  simp only [e130, r130_0, r130_1, r130_4, r130_41, r130_42, am_laR0, g121_28, h, if_true, true_or, eq_self]
end
end
section
/-! add on an empty tree -/
section
variable {L : Nat} {xs : Nat → Int32} {d : Nat} {s : St} {Q : Option Value → am_S → Prop}
theorem c_count00 {p n : Nat} (hF : isF p n) (hu : s.2.1 p 4 = 0) {x : Int32} : am_Call L xs d 10 [.ref p, .int x] (mk s) Q = Q (some (.int 0)) (mk s) := by
  have h3 : (0 : Int32) ≤ 0 := by decide
  simp only [e10, r10_0, r10_1, r10_2, r10_3, r10_4, r10_5, r10_6, r10_9, r10_31, r10_32, am_li0, am_liS, am_laR0, f_used hF, hu, h3, if_true, List.length_cons, List.length_nil, List.set_cons_succ, List.set_cons_zero, Nat.reduceAdd, Nat.reduceLT, true_and]
theorem c_childAt00 {p n : Nat} (hF : isF p n) (hu : s.2.1 p 4 = 0) {x y : Int32} : am_Call L xs d 11 [.ref p, .int x, .int y] (mk s) Q = Q (some (.int (-1))) (mk s) := by
  have h3 : (0 : Int32) ≤ 0 := by decide
  simp only [e11, r11_0, r11_1, r11_2, r11_3, r11_4, r11_7, r11_38, r11_39, am_li0, am_liS, am_laR0, f_used hF, hu, h3, if_true, List.length_cons, List.length_nil, List.set_cons_succ, List.set_cons_zero, Nat.reduceAdd, Nat.reduceLT, true_and]
theorem c_hasN {p n : Nat} (hF : isF p n) {x : Int32} (hx : x < 0) : am_Call L xs d 9 [.ref p, .int x] (mk s) Q = Q (some (.int 0)) (mk s) := by
  simp only [e9, r9_0, r9_1, r9_27, r9_28, am_li0, am_liS, hx, if_true, true_or, eq_self]
theorem c_make00 {p : Nat} (hF : isF p 12) (hu : s.2.1 p 4 = 0) {x y : Int32} : am_Call L xs (d + 1) 12 [.ref p, .int 0, .int x, .int y] (mk s) Q =
    Q none (mk (va_up (va_up s.1 (p + 3) (upd (s.1 (p + 3)) 0 x)) (p + 4) (upd (s.1 (p + 4)) 0 y), am_u2 s.2.1 p 4 1, s.2.2)) := by
  have h1 : ¬ (0 : Int32) < 0 := by decide
  have h2 : (0 : Int32) < Int32.ofNat 12 := by decide
  have h3 : am_in 0 12 = true := by decide
  have h4 : (0 : Int32).toNatClampNeg = 0 := by decide
  have h5 : (0 : Int32) < 1 := by decide
  have h6 : (0 : Int32) + 1 = 1 := by decide
  have h7 : va_up s.1 (p + 3) (upd (s.1 (p + 3)) 0 x) (p + 4) = s.1 (p + 4) := up_ne _ _ (by omega)
  simp only [e12, r12_0, r12_1, r12_4, r12_5, r12_6, r12_9, r12_10, r12_13, r12_14, r12_15, r12_18, r12_19, r12_20, r12_21, r12_22, r12_25, r12_26, r12_27, r12_28, r12_29, r12_30, r12_33, r12_34, r12_35, r12_36, r12_39, r12_42, am_li0, am_liS, am_laR0, f_par hF, f_typ hF, f_lab hF, f_used hF, fl_par hF, fw_typ hF, fw_lab hF, fv_used hF, hu, h1, h2, h3, h4, h5, h6, h7, if_true, if_false, List.length_cons, List.length_nil, Nat.reduceAdd, Nat.reduceLeDiff, true_and]
theorem c_put00 {p : Nat} (hF : isF p 12) (hu : s.2.1 p 4 = 1) (hp : s.1 (p + 1) 0 = -2) : am_Call L xs (d + 1) 13 [.ref p, .int 0, .int (-1), .int (-1)] (mk s) Q =
    Q none (mk (va_up (va_up s.1 (p + 1) (upd (s.1 (p + 1)) 0 (-1))) (p + 2) (upd (s.1 (p + 2)) 0 0), s.2)) := by
  have h1 : ¬ (0 : Int32) < 0 := by decide
  have h2 : (0 : Int32) < 1 := by decide
  have h3 : am_in 0 12 = true := by decide
  have h4 : (0 : Int32).toNatClampNeg = 0 := by decide
  have h5 : ¬ (1 : Int32) ≤ 0 := by decide
  have h6 : (0 : Int32) + 1 = 1 := by decide
  have h7 : (1 : Int32) ≤ 1 := by decide
  have h8 : ¬ (-2 : Int32) = -1 := by decide
  have h9 : (-1 : Int32) < 0 := by decide
  have h10 : va_up s.1 (p + 1) (upd (s.1 (p + 1)) 0 (-1)) (p + 2) = s.1 (p + 2) := up_ne _ _ (by omega)
  simp only [e13, r13_0, r13_1, r13_4, r13_5, r13_6, r13_9, r13_12, r13_13, r13_14, r13_15, r13_18, r13_21, r13_22, r13_25, r13_26, r13_27, r13_28, r13_29, r13_32, r13_33, r13_35, r13_36, am_li0, am_liS, am_laR0, am_tL, f_used hF, f_oc hF, c_hasN hF h9, hu, h1, h2, if_true, if_false, am_okI, List.length_cons, List.length_nil, List.set_cons_succ, List.set_cons_zero, Nat.reduceAdd, Nat.reduceLT, Nat.zero_le, and_true, true_and]
  rw [r13_38]
  simp only [r13_40, r13_41, r13_44, r13_47, r13_48, r13_51, r13_53, r13_54, r13_55, r13_81, r13_84, am_li0, am_liS, am_laR0, f_par hF, f_used hF, fa_par hF, hu, hp, h3, h4, h5, h6, h8, if_true, if_false, not_false_eq_true, List.set_cons_succ, List.set_cons_zero, true_and]
  rw [r13_38]
  simp only [r13_40, r13_41, r13_44, r13_87, r13_88, r13_91, r13_92, r13_93, r13_94, r13_95, r13_98, r13_99, r13_101, r13_102, am_li0, am_liS, am_laR0, f_par hF, f_pla hF, f_used hF, fw_par hF, fw_pla hF, hu, h3, h4, h7, h10, if_true, true_and]
/-- the store behind add(j, -1, x, y) on an empty tree -/
def add00 (s : St) (p : Nat) (x y : Int32) : St := (va_up (va_up (va_up (va_up s.1 (p + 3) (upd (s.1 (p + 3)) 0 x)) (p + 4) (upd (s.1 (p + 4)) 0 y)) (p + 1) (upd (s.1 (p + 1)) 0 (-1))) (p + 2) (upd (s.1 (p + 2)) 0 0), am_u2 s.2.1 p 4 1, s.2.2)
theorem c_add00 {j : Nat} (h : j < 3) (hu : s.2.1 (2 + 5 * j) 4 = 0) (hp : s.1 (2 + 5 * j + 1) 0 = -2) {x y : Int32} (hx : ¬ x < 0) (hx8 : x < 8) :
    am_Call L xs (d + 2) 7 [.ref 0, .int (nI j), .int (-1), .int x, .int y] (mk s) Q = Q (some (.int 0)) (mk (add00 s (2 + 5 * j) x y)) := by
  have hF := isF_t h
  generalize hpe : 2 + 5 * j = p at hF hu hp ⊢
  have ht : ∀ f : Nat → Prop, am_ar2 (mk s) 1 (nI j) f = f p := fun f => by rw [t_tree h, hpe]
  have h1 : ¬ (1 : Int32) = 0 := by decide
  have h2 : ¬ (0 : Int32) = 1 := by decide
  have h3 : (0 : Int32) < 12 := by decide
  have hm1 : ((-1 : Int32) = -1) = True := eq_self _
  have e1 : ∀ (Q : Option Value → am_S → Prop), am_Call L xs (d + 1) 13 [.ref p, .int 0, .int (-1), .int (-1)] (mk (va_up (va_up s.1 (p + 3) (upd (s.1 (p + 3)) 0 x)) (p + 4) (upd (s.1 (p + 4)) 0 y), am_u2 s.2.1 p 4 1, s.2.2)) Q = Q none (mk (add00 s p x y)) := by
    intro Q
    have a1 : (va_up (va_up s.1 (p + 3) (upd (s.1 (p + 3)) 0 x)) (p + 4) (upd (s.1 (p + 4)) 0 y)) (p + 1) = s.1 (p + 1) := by rw [up_ne _ _ (by omega), up_ne _ _ (by omega)]
    have a2 : (va_up (va_up s.1 (p + 3) (upd (s.1 (p + 3)) 0 x)) (p + 4) (upd (s.1 (p + 4)) 0 y)) (p + 2) = s.1 (p + 2) := by rw [up_ne _ _ (by omega), up_ne _ _ (by omega)]
    have a3 : (va_up (va_up s.1 (p + 3) (upd (s.1 (p + 3)) 0 x)) (p + 4) (upd (s.1 (p + 4)) 0 y)) (p + 1) 0 = -2 := by rw [a1]; exact hp
    rw [c_put00 hF (u2_same _ _ _ _) a3]
    dsimp only
    rw [a1, a2]
    rfl
  simp only [e7, r7_0, r7_1, r7_4, r7_7, r7_8, r7_11, r7_12, r7_14, r7_17, r7_18, r7_19, r7_20, r7_23, r7_24, r7_25, r7_27, r7_29, r7_32, r7_35, r7_36, r7_37, r7_40, r7_41, r7_44, r7_45, r7_48, r7_50, r7_51, r7_54, r7_56, r7_58, r7_61, r7_63, r7_66, r7_68, r7_71, r7_72, r7_73, r7_75, r7_78, r7_80, r7_82, r7_83, r7_85, r7_86, r7_89, r7_90, r7_91, r7_94, r7_96, r7_98, r7_100, r7_101, r7_103, r7_106, r7_108, r7_110, r7_111, r7_113, r7_116, r7_118, am_li0, am_liS, am_laR0, am_laS, c_isTree1 h, am_tL, am_tN, h1, hx, hx8, hm1, not_true, not_false_eq_true, g0_0, ht, f_used hF, f_oc hF, hu, h3, c_count00 hF hu, c_childAt00 hF hu, c_make00 hF hu, e1, if_true, if_false, am_okI, am_okR, List.length_cons, List.length_nil, List.set_cons_succ, List.set_cons_zero, Nat.reduceAdd, Nat.reduceLT, Nat.reduceLeDiff, Nat.zero_le, and_true, true_and]
theorem c_add0T {t a x y : Int32} (h : t < 0 ∨ 3 ≤ t) : am_Call L xs (d + 2) 7 [.ref 0, .int t, .int a, .int x, .int y] (mk s) Q = Q (some (.int (-1))) (mk s) := by
  simp only [e7, r7_0, r7_1, r7_4, r7_17, r7_18, am_li0, am_liS, c_isTree0 h, am_tL, if_true, am_okI, List.length_nil, Nat.zero_le, and_true, true_and]
theorem c_add0K {j : Nat} {a x y : Int32} (h : j < 3) (hx : x < 0 ∨ ¬ x < 8) : am_Call L xs (d + 2) 7 [.ref 0, .int (nI j), .int a, .int x, .int y] (mk s) Q = Q (some (.int (-1))) (mk s) := by
  have h1 : ¬ (1 : Int32) = 0 := by decide
  by_cases h2 : x < 0
  · simp only [e7, r7_0, r7_1, r7_4, r7_7, r7_8, r7_11, r7_12, r7_14, r7_17, r7_18, am_li0, am_liS, c_isTree1 h, am_tL, h1, h2, if_true, if_false, am_okI, List.length_nil, Nat.zero_le, and_true, true_and]
  · have h3 := hx.resolve_left h2
    simp only [e7, r7_0, r7_1, r7_4, r7_7, r7_8, r7_11, r7_12, r7_14, r7_17, r7_18, am_li0, am_liS, c_isTree1 h, am_tL, h1, h2, h3, if_true, if_false, am_okI, List.length_nil, Nat.zero_le, and_true, true_and]
theorem c_add0P {j : Nat} {a x y : Int32} (h : j < 3) (hu : s.2.1 (2 + 5 * j) 4 = 0) (hx : ¬ x < 0) (hx8 : x < 8) (ha : ¬ a = -1) : am_Call L xs (d + 2) 7 [.ref 0, .int (nI j), .int a, .int x, .int y] (mk s) Q = Q (some (.int (-1))) (mk s) := by
  have hF := isF_t h
  have h1 : ¬ (1 : Int32) = 0 := by decide
  simp only [e7, r7_0, r7_1, r7_4, r7_7, r7_8, r7_11, r7_12, r7_14, r7_17, r7_18, r7_19, r7_20, r7_23, r7_24, r7_25, r7_27, r7_29, r7_32, r7_35, r7_36, r7_37, r7_40, r7_41, r7_44, r7_45, r7_48, r7_50, r7_51, r7_54, r7_56, r7_58, r7_61, r7_63, r7_66, r7_68, r7_71, r7_72, am_li0, am_liS, am_laR0, am_laS, c_isTree1 h, am_tL, am_tN, h1, hx, hx8, ha, not_true, not_false_eq_true, g0_0, t_tree h, f_used hF, hu, if_true, if_false, am_okI, am_okR, List.length_cons, List.length_nil, List.set_cons_succ, List.set_cons_zero, Nat.reduceAdd, Nat.reduceLT, Nat.reduceLeDiff, Nat.zero_le, and_true, true_and]
/-! the reference -/
theorem m_add0T {t a x y : Int32} (h : t < 0 ∨ 3 ≤ t) : am_Call L xs (d + 2) 84 [.ref 121, .int t, .int a, .int x, .int y] (mk s) Q = Q (some (.int (-1))) (mk s) := by
  simp only [e84, r84_0, r84_1, r84_4, r84_28, r84_29, am_li0, am_liS, m_isTree0 h, am_tL, if_true, am_okI, List.length_nil, Nat.zero_le, and_true, true_and]
theorem k7 {x : Int32} (h : ¬ x < 8) : 7 < x := by
  rw [Int32.lt_iff_toInt_lt] at h ⊢
  have e7 : (7 : Int32).toInt = 7 := by decide
  have e8 : (8 : Int32).toInt = 8 := by decide
  rw [e8] at h
  rw [e7]
  omega
theorem k7' {x : Int32} (h : x < 8) : ¬ 7 < x := by
  rw [Int32.lt_iff_toInt_lt] at h ⊢
  have e7 : (7 : Int32).toInt = 7 := by decide
  have e8 : (8 : Int32).toInt = 8 := by decide
  rw [e8] at h
  rw [e7]
  omega
theorem m_add0K {j : Nat} {a x y : Int32} (h : j < 3) (hx : x < 0 ∨ ¬ x < 8) : am_Call L xs (d + 2) 84 [.ref 121, .int (nI j), .int a, .int x, .int y] (mk s) Q = Q (some (.int (-1))) (mk s) := by
  have h1 : ¬ (1 : Int32) = 0 := by decide
  by_cases h2 : x < 0
  · simp only [e84, r84_0, r84_1, r84_4, r84_7, r84_8, r84_11, r84_12, r84_14, r84_28, r84_29, am_li0, am_liS, m_isTree1 h, am_tL, h1, h2, if_true, if_false, am_okI, List.length_nil, Nat.zero_le, and_true, true_and]
  · have h3 := k7 (hx.resolve_left h2)
    simp only [e84, r84_0, r84_1, r84_4, r84_7, r84_8, r84_11, r84_12, r84_14, r84_28, r84_29, am_li0, am_liS, m_isTree1 h, am_tL, h1, h2, h3, if_true, if_false, am_okI, List.length_nil, Nat.zero_le, and_true, true_and]
theorem m_add0P {j : Nat} {a x y : Int32} (h : j < 3) (hu : s.1 122 j = 0) (hx : ¬ x < 0) (hx8 : x < 8) (ha : ¬ a = -1) : am_Call L xs (d + 2) 84 [.ref 121, .int (nI j), .int a, .int x, .int y] (mk s) Q = Q (some (.int (-1))) (mk s) := by
  have h1 : ¬ (1 : Int32) = 0 := by decide
  have h2 : am_in (nI j) 4 = true := in_of (by omega) (by decide)
  have h3 : (nI j).toNatClampNeg = j := nI_clamp (by omega)
  have h4 : ¬ (0 : Int32) = 12 := by decide
  simp only [e84, r84_0, r84_1, r84_4, r84_7, r84_8, r84_11, r84_12, r84_14, r84_17, r84_18, r84_21, r84_22, r84_23, r84_25, r84_28, r84_29, r84_30, r84_31, r84_32, r84_35, r84_36, r84_39, r84_40, r84_41, r84_44, r84_47, r84_48, r84_49, r84_50, r84_53, r84_56, r84_57, am_li0, am_liS, am_laR0, m_isTree1 h, m_isNode0 (Or.inr ⟨j, h, rfl, hu⟩), m_oc, am_tL, h1, h2, h3, h4, hx, k7' hx8, ha, hu, g121_0, a122, not_true, not_false_eq_true, if_true, if_false, am_okI, List.length_nil, Nat.zero_le, and_true, true_and]
/-- the store behind the reference's add(j, -1, x, y) on an empty tree -/
def addM0 (s : St) (j : Nat) (x y : Int32) : St := (va_up (va_up (va_up (va_up s.1 123 (upd (s.1 123) (12 * j) (-1))) 124 (upd (s.1 124) (12 * j) x)) 125 (upd (s.1 125) (12 * j) y)) 122 (upd (s.1 122) j 1), s.2)
theorem m_add00 {j : Nat} (h : j < 3) (hu : s.1 122 j = 0) {x y : Int32} (hx : ¬ x < 0) (hx8 : x < 8) : am_Call L xs (d + 2) 84 [.ref 121, .int (nI j), .int (-1), .int x, .int y] (mk s) Q = Q (some (.int 0)) (mk (addM0 s j x y)) := by
  have h1 : ¬ (1 : Int32) = 0 := by decide
  have h2 : am_in (nI j) 4 = true := in_of (by omega) (by decide)
  have h3 : (nI j).toNatClampNeg = j := nI_clamp (by omega)
  have h4 : ¬ (0 : Int32) = 12 := by decide
  have hm1 : ((-1 : Int32) = -1) = True := eq_self _
  have h5 : (0 : Int32) ≤ 0 := by decide
  have e12 : (12 : Int32) * nI j + 0 = nI (12 * j) := by
    show nI 12 * nI j + nI 0 = _
    rw [pk_mul, nI_add]; rfl
  have h6 : am_in (nI (12 * j)) 48 = true := in_of (by omega) (by decide)
  have h7 : (nI (12 * j)).toNatClampNeg = 12 * j := nI_clamp (by omega)
  have h9 : ∀ (f : Nat → Int32) (v : Int32), upd f j v j = v := fun f v => by simp [upd]
  have h10 : (1 : Int32) - 1 = 0 := by decide
  have h11 : (0 : Int32) + 1 = 1 := by decide
  unfold addM0
  simp only [e84, r84_0, r84_1, r84_4, r84_7, r84_8, r84_11, r84_12, r84_14, r84_17, r84_18, r84_21, r84_22, r84_23, r84_25, r84_28, r84_29, r84_30, r84_31, r84_32, r84_35, r84_36, r84_39, r84_40, r84_41, r84_44, r84_47, r84_48, r84_49, r84_50, r84_53, r84_56, r84_57, r84_58, r84_60, r84_61, r84_62, r84_63, r84_66, r84_67, r84_68, r84_69, r84_71, r84_72, r84_75, r84_77, r84_78, r84_79, r84_80, r84_83, r84_85, r84_86, r84_87, r84_88, r84_91, r84_93, r84_95, r84_96, r84_97, r84_100, r84_101, r84_102, r84_103, r84_104, r84_105, r84_106, r84_107, r84_110, r84_111, r84_112, r84_113, r84_114, am_li0, am_liS, am_laR0, m_isTree1 h, am_tL, h1, h2, h3, h4, h5, hx, k7' hx8, hm1, hu, g121_0, g121_1, g121_2, g121_3, a122, w122, w123, w124, w125, e12, h6, h7, up_ne, ne_eq, Nat.reduceEqDiff, up_same, h9, h10, h11, not_true, not_false_eq_true, if_true, if_false, am_okI, am_okR, Bool.and_self, List.length_cons, List.length_nil, List.set_cons_succ, List.set_cons_zero, Nat.reduceAdd, Nat.reduceLT, Nat.zero_le, and_true, true_and]
end
end
section
/-! The first call on a fresh object -/
theorem first_ok (L : Nat) (xs : Nat → Int32) : all_ok L xs in_St (fun _ => True) := by
  obtain ⟨-, -, f3, f4, f5, f6, f7, f8⟩ := in_facts
  have tr : ∀ a : Int32, (a < 0 ∨ 3 ≤ a) ∨ ∃ j, j < 3 ∧ a = nI j := by
    intro a
    rcases pk_ix a (n := 3) (by decide) with q | q | q
    · exact Or.inl (Or.inl q)
    · exact Or.inl (Or.inr q)
    · exact Or.inr q
  have tc : ∀ a : Int32, (a < 0 ∨ 3 ≤ a) ∨ ∃ j, j < 3 ∧ a = nI j ∧ in_St.2.1 (2 + 5 * j) 4 = 0 := by
    intro a
    rcases tr a with q | ⟨j, h, e⟩
    · exact Or.inl q
    · exact Or.inr ⟨j, h, e, (f5 j h).1⟩
  have tm : ∀ a : Int32, (a < 0 ∨ 3 ≤ a) ∨ ∃ j, j < 3 ∧ a = nI j ∧ in_St.1 122 j = 0 := by
    intro a
    rcases tr a with q | ⟨j, h, e⟩
    · exact Or.inl q
    · exact Or.inr ⟨j, h, e, (f6 j (by omega)).1⟩
  have u0 : in_St.2.1 2 4 = 0 := (f5 0 (by omega)).1
  intro a b c e
  refine ⟨?_, ?_, ?_, ?_, ?_, ?_, ?_, ?_, ?_, ?_, ?_, ?_, ?_⟩
  · rcases tr a with h | ⟨j, h, rfl⟩
    · exact ⟨-1, in_St, in_St, fun Q q => by rw [c_add0T h]; exact q, fun Q q => by rw [m_add0T h]; exact q, trivial⟩
    · have hu := (f5 j h).1
      have hp := (f5 j h).2 0 (by omega)
      have hm := (f6 j (by omega)).1
      by_cases hk : c < 0 ∨ ¬ c < 8
      · exact ⟨-1, in_St, in_St, fun Q q => by rw [c_add0K h hk]; exact q, fun Q q => by rw [m_add0K h hk]; exact q, trivial⟩
      · have hx : ¬ c < 0 := fun q => hk (Or.inl q)
        have hx8 : c < 8 := Classical.not_not.mp fun q => hk (Or.inr q)
        by_cases hb : b = -1
        · subst hb
          have hm1 : (add00 in_St (2 + 5 * j) c e).1 122 j = 0 := by
            unfold add00
            dsimp only
            rw [up_ne _ _ (by omega), up_ne _ _ (by omega), up_ne _ _ (by omega), up_ne _ _ (by omega)]
            exact hm
          exact ⟨0, _, _, fun Q q => by rw [c_add00 h hu hp hx hx8]; exact q, fun Q q => by rw [m_add00 h hm1 hx hx8]; exact q, trivial⟩
        · exact ⟨-1, in_St, in_St, fun Q q => by rw [c_add0P h hu hx hx8 hb]; exact q, fun Q q => by rw [m_add0P h hm hx hx8 hb]; exact q, trivial⟩
  · rcases tr a with h | ⟨j, h, rfl⟩
    · exact ⟨0, in_St, in_St, fun Q q => by rw [c_clear0 h]; exact q, fun Q q => by rw [m_clear0 h]; exact q, trivial⟩
    · exact ⟨1, _, _, fun Q q => by rw [c_clear1 h]; exact q, fun Q q => by rw [m_clear1 h]; exact q, trivial⟩
  · rcases tr a with h | ⟨j, h, rfl⟩
    · exact ⟨-1, in_St, in_St, fun Q q => by rw [c_size0 h]; exact q, fun Q q => by rw [m_size0 h]; exact q, trivial⟩
    · exact ⟨0, in_St, in_St, fun Q q => by rw [c_size1 h, (f5 j h).1]; exact q, fun Q q => by rw [m_size1 h, (f6 j (by omega)).1]; exact q, trivial⟩
  · exact ⟨-1, in_St, in_St, fun Q q => by rw [c_height0 (tc a)]; exact q, fun Q q => by rw [m_height0 (tm a)]; exact q, trivial⟩
  · exact ⟨0, in_St, in_St, fun Q q => by rw [c_alike0 ((tc a).imp_right Or.inr)]; exact q, fun Q q => by rw [m_alike0 (tm a)]; exact q, trivial⟩
  · exact ⟨-1, in_St, in_St, fun Q q => by rw [c_diff0 (tc a)]; exact q, fun Q q => by rw [m_diff0 (tm a)]; exact q, trivial⟩
  · exact ⟨-1, in_St, in_St, fun Q q => by rw [c_partner0 f3]; exact q, fun Q q => by rw [m_partner0 f7]; exact q, trivial⟩
  · exact ⟨-2, in_St, in_St, fun Q q => by rw [c_step0 f3]; exact q, fun Q q => by rw [m_step0 f7]; exact q, trivial⟩
  · exact ⟨0, in_St, in_St, fun Q q => by rw [c_count0 f3]; exact q, fun Q q => by rw [m_count0 (f6 1 (by omega)).2]; exact q, trivial⟩
  · exact ⟨-1, in_St, in_St, fun Q q => by rw [c_replay0 f3]; exact q, fun Q q => by rw [m_replay0 f7]; exact q, trivial⟩
  · exact ⟨-1, in_St, in_St, fun Q q => by rw [c_merge0 u0]; exact q, fun Q q => by rw [m_merge0 (f6 0 (by omega)).1]; exact q, trivial⟩
  · exact ⟨-2, in_St, in_St, fun Q q => by rw [c_node0 f4]; exact q, fun Q q => by rw [m_node0 f8]; exact q, trivial⟩
  · exact ⟨0, in_St, in_St, fun Q q => by rw [c_equal0 f4]; exact q, fun Q q => by rw [m_equal0 f8]; exact q, trivial⟩
/-- a script of at most one call -/
theorem first_run (L : Nat) (xs : Nat → Int32) (hL : L ≤ 5) : ∃ (n : Nat) (σ' : am_S), am_run L xs n 100 pg_num 0 (am_en pg_num [.float 0]) [] [] = some (some (.int 1), σ') ∧ σ'.length ≤ 600000 ∧ am_ns σ' ≤ 7302250 := by
  refine lw_whole (by omega) (fun k s => k = 0 → s = in_St) (fun _ => rfl) (fun k s hk hs => ?_)
  have hk0 : k = 0 := by omega
  have e := hs hk0
  subst e
  refine ⟨?_, fun h => absurd h (by omega)⟩
  have h := first_ok L xs
  have wk : ∀ (z1 z2 : Nat) (as : List Value), op_ok L xs z1 z2 as in_St (fun _ => True) → op_ok L xs z1 z2 as in_St (fun s => k + 1 = 0 → s = in_St) := by
    rintro z1 z2 as ⟨r, s1, s2, a1, a2, -⟩
    exact ⟨r, s1, s2, a1, a2, fun h => absurd h (by omega)⟩
  intro a b c e
  obtain ⟨q0, q1, q2, q3, q4, q5, q6, q7, q8, q9, q10, q11, q12⟩ := h a b c e
  exact ⟨wk _ _ _ q0, wk _ _ _ q1, wk _ _ _ q2, wk _ _ _ q3, wk _ _ _ q4, wk _ _ _ q5, wk _ _ _ q6, wk _ _ _ q7, wk _ _ _ q8, wk _ _ _ q9, wk _ _ _ q10, wk _ _ _ q11, wk _ _ _ q12⟩
end
section
/-! THE CLAIM OUT OF ONE WALK OF THE LAW'S BODY. Your part is whole_start (and what it stands on); all else here is the same for every law, but numbers. -/
def R_law : String := "TwigMergeLaw"
def lw_P (b : Addr) (xs : List Int32) (args : Array Value) (s : State) : Prop := args = #[.ref b] ∧ s.IntsAt b xs ∧ xs.length ≤ 5 ∧ (Jvm.Cond.and given_1 narrow_1).before args s = true
def lw_Q (_ : Array Value) (s : State) (o : Outcome) (t : State) : Prop := o = .returned (some (.int 1)) ∧ Framed s o t [] 600000 7302250
def lw_Z (below : List Frame) (a : Array Value) (s : State) : State → Prop := fun t => ∃ o, t.status = .running ∧ Ended t below o ∧ lw_Q a s o t
/-- the law's own end, with 1 on the stack, nothing written that was there before, its room as the claim has it -/
theorem lw_ret {p : Program} {l : Launch} {e : Env} {s : State} {m : MethodId} {below : List Frame} {meth : Method} {c : Code} {b : Nat} (hx : p.tables.exec = Jvm.exec) (hb : c.code = code) (hr : meth.sig.returnType = ret) (hlocks : meth.locks = false) {pc : Nat} {H : Heap} {ls : Array Slot} (hdg : decode code pc = .ok (.ireturn, 1)) : W p l e room_1 s m #[Value.ref b] below meth c H [] 600000 7302250 (lw_Z below #[Value.ref b] s) (F0 m pc ls [.int 1]) := by
  intro T hT X
  obtain ⟨fs, hret, hrun, hended, hW, hframe⟩ := X.leave (v := some (.int 1)) (hlocks := hlocks) (fun h => by rw [hr] at h; cases h)
  have hmeth' : T.vm.method? m = some meth := X.method'
  refine ⟨T.setFrames fs, ?_, .returned (some (.int 1)), hrun, hended, rfl, ⟨_, rfl⟩, hW, hframe⟩
  jvm_step X.here [X.here.top, hx, hb, hdg, hmeth', hr, ret, narrow_b1]
  (try refine ⟨rfl, ?_⟩); (try refine ⟨rfl, ?_⟩)
  first | (intro acts; rw [hret _ acts rfl rfl rfl]) | rw [hret _ _ rfl rfl rfl]
  exact Steps.refl _
/-- what holds at the law's entry: the machine, the code, the tables' words (any of lw_tbl by 'hts w (by decide +kernel)'), the script of L ints xs at the cell b, what the Statement gives of the start (any of its parts by flat_of_before) -/
def lw_At (p : Program) (s : State) (m : MethodId) (meth : Method) (c : Code) (b L : Nat) (xs : Nat → Int32) : Prop :=
  p.tables.exec = Jvm.exec ∧ c.code = code ∧ meth.sig.returnType = ret ∧ c.maxLocals = 4 ∧ s.vm.findClass R_law = some m.cls ∧ (∀ w ∈ lw_tbl, w.before #[Value.ref b] s = true) ∧ va_X b L xs s s.heap ∧ b < s.heap.size ∧ meth.locks = false ∧ (Jvm.Cond.and given_1 narrow_1).before #[Value.ref b] s = true
end
section
/-! From the law's entry: what the abstract machine runs, the machine runs -/
set_option maxHeartbeats 4000000 in
theorem am_begin {p : Program} {l : Launch} {e : Env} {s : State} {m : MethodId} {below : List Frame} {meth : Method} {c : Code} {b L : Nat} {xs : Nat → Int32} (C0 : lw_At p s m meth c b L xs) {n : Nat} {σ' : am_S}
    (hrun : am_run L xs n 100 pg_num 0 (am_en pg_num [.float 0]) [] [] = some (some (.int 1), σ')) (hcn : σ'.length ≤ 600000) (hsn : am_ns σ' ≤ 7302250) :
    W p l e room_1 s m #[Value.ref b] below meth c s.heap [] 0 0 (lw_Z below #[Value.ref b] s) (entryFrame m ([Value.ref b] : List Value).toArray 4) := by
  obtain ⟨hx, hb, hr, hml, hown, hts, hX, hbl, hlocks, hgv⟩ := C0
  have hw : ∀ w ∈ pg_words, w.before #[Value.ref b] s = true := fun w h => hts w (List.mem_filter.mp h).1
  have hkn : ∀ ci : Nat, ∃ (cC : ClassId) (iS : Nat → Nat), ci < 7 → u_Kn s (pg_cn ci) (pg_T ci) (pg_N ci) cC iS := by
    intro ci
    by_cases h : ci < 7
    · have hins : (Cond.instantiable (pg_cn ci) (pg_N ci)).before #[Value.ref b] s = true := hw _ (pg_inst h)
      obtain ⟨cC, iS, hk⟩ := u_known hw (pg_cls h).2.1 hins
      exact ⟨cC, iS, fun _ => hk⟩
    · exact ⟨0, fun _ => 0, fun h2 => absurd h2 h⟩
  obtain ⟨dC, hkn⟩ := Classical.axiomOfChoice hkn
  obtain ⟨dI, hkn⟩ := Classical.axiomOfChoice hkn
  obtain ⟨c0, k0, m0, i1, i2, i3⟩ := Cond.arrayClass_spec (hw _ pg_ac_int)
  obtain ⟨c1, k1, m1, j1, j2, j3⟩ := Cond.arrayClass_spec (hw _ pg_ac_bool)
  have hov := hts _ pg_ov_obj
  obtain ⟨m2, c2, k2, o1, o2, o3, o4, o5⟩ := Cond.arrayOver_spec hov
  obtain ⟨m3, c3, k3, q1, q2, q3, q4, q5⟩ := arrayOverA_spec (hts _ pg_ov_arr)
  have hK : va_K (dC, dI) pg_cl (pg_tys (fun t => [c0, c1, c2, c3].getD t 0)) s := by
    refine ⟨fun ci q hq => ?_, fun k q hk => ?_⟩
    · have hl : ci < 7 := (List.getElem?_eq_some_iff.mp hq).1
      rw [(pg_cls hl).1] at hq
      cases hq
      exact hkn ci hl
    · have hl : k < 4 := (List.getElem?_eq_some_iff.mp hk).1
      match k, hl with
      | 0, _ => cases hk; exact ⟨fun n z => ⟨fun k h => (by cases h), k0, i2, m0, i3⟩, i1⟩
      | 1, _ => cases hk; exact ⟨fun n z => ⟨fun k h => (by cases h), k1, j2, m1, j3⟩, j1⟩
      | 2, _ => cases hk; exact ⟨fun n z => ⟨fun k h => (by cases h), k2, o3, m2, o4⟩, k2, m2, o3, o4, o1, o5⟩
      | 3, _ => cases hk; exact ⟨fun n z => ⟨fun k h => (by cases h), k3, q3, m3, q4⟩, q5⟩
  have hx0 : am_X0 s := by
    refine ⟨va_AO.of hov, ⟨m3, c3, k3, q1, q3, q4, q5⟩, fun w hw => ?_⟩
    have h2 := hts w (pg_nest_in w hw)
    simp only [pg_nest, List.mem_cons, List.not_mem_nil, or_false] at hw
    rcases hw with rfl | rfl
    · exact va_Nw.of rfl h2
    · exact va_Nw.of rfl h2
  have hin := am_L_in (bs := b) (hz := s.heap.size) (vs := [.float 0]) (nL := 4) (by decide) (by intro v hv; rw [List.mem_singleton.mp hv]; rfl)
  have key := am_sound (l := l) (bs := b) (hz := s.heap.size) (dC := dC) (dI := dI) (dA := fun t => [c0, c1, c2, c3].getD t 0) (L := L) (xs := xs) n 100 pg_num 0 (am_en pg_num [.float 0]) [] [] (some (.int 1)) σ' hrun p e room_1 s m #[Value.ref b] below meth c s.heap [] 0 0 σ'.length (am_ns σ') _
    ⟨hx, hb, hml, hr, hlocks, fun h => (by cases h), hown, hw, hK, hX, hbl, Nat.le_refl _, by decide, by decide, Nat.le_refl _, hx0⟩ ⟨fun k q hk => (by simp [am_w] at hk), va_S.rf, by simp⟩ hin.1 (by simp) (by simp [am_ns]) hcn hsn
  rw [lg_entry_eq]
  intro T hT X
  obtain ⟨t, a1, o, b1, b2, b3, LL, b4, b5⟩ := key T hT X
  refine ⟨t, a1, o, b1, b2, b3.1, b4.1, b4.2.1, ?_⟩
  exact b4.2.2.weaken (fun q hq hlt => absurd hlt (Nat.not_lt.mpr (b5 q hq))) hcn hsn
theorem whole_start {p : Program} {e : Env} {s : State} {m : MethodId} {below : List Frame} {meth : Method} {c : Code} (l : Launch) {b L : Nat} {xs : Nat → Int32} (hL : L ≤ 5) (C0 : lw_At p s m meth c b L xs) : W p l e room_1 s m #[Value.ref b] below meth c s.heap [] 0 0 (lw_Z below #[Value.ref b] s) (entryFrame m ([Value.ref b] : List Value).toArray 4) := by
  obtain ⟨n, σ', h1, h2, h3⟩ := first_run L xs hL
  exact am_begin C0 h1 h2 h3
end
section
set_option maxHeartbeats 4000000 in
theorem lw_walk (l : Launch) (b : Addr) (xs : List Int32) : MetFree l x (headSpec (Jvm.Cond.code x code maxLocals ret :: tables_1) room_1) (lw_P b xs) (fun _ _ _ _ _ => True) lw_Q := by
  refine MetFree.of_bodyS (code := code) (maxLocals := maxLocals) (ret := ret) (by decide) ?_ ?_
  · intro args s m h hn
    obtain ⟨meth, c, h1, h2, h3, h4, h5, h6, -, -⟩ := Cond.code_spec hn (atoms_spec (ws := Jvm.Cond.code x code maxLocals ret :: tables_1) h _ List.mem_cons_self)
    exact ⟨meth, c, h1, h2, h3, h4, h5, h6⟩
  · intro p e s m args below meth c s₁ B hml0 hP _
    obtain ⟨rfl, hx, hbd, hgv⟩ := hP
    obtain ⟨scr, harrAt, hlist, hof, hsmall⟩ := hx
    obtain ⟨hcb, hkn, -, -⟩ := State.arrayAt?_spec harrAt
    have hown : s.vm.findClass R_law = some m.cls := findClass_of_methodNamed B.named
    have hts0 : ∀ c ∈ (Jvm.Cond.code x code maxLocals ret :: tables_1), c.before #[Value.ref b] s = true := atoms_spec (ws := Jvm.Cond.code x code maxLocals ret :: tables_1) B.pre
    have hts : ∀ w ∈ lw_tbl, w.before #[Value.ref b] s = true := k2_hts_sels lw_privs (fun w hw => hts0 w (List.mem_cons_of_mem _ hw)) lw_privs_ok
    have hml : c.maxLocals = 4 := B.maxLocals_eq (hts0 _ List.mem_cons_self)
    have X₀ : Stand p l e room_1 s m #[Value.ref b] below meth c s₁ [] 0 0 := Stand.of_body B
    have hh0 : s₁.heap = s.heap := by rw [B.state]; rfl
    have hsz : scr.slots.size = xs.length := by rw [← Array.length_toList, hlist, List.length_map]
    have hval : ∀ j : Nat, j < xs.length → scr.slots[j]? = some (.int (xs.getD j 0)) := fun j hj => by
      rw [← Array.getElem?_toList, hlist]
      simp [hj]
    have hbl : b < s.heap.size := (Array.getElem?_eq_some_iff.mp hcb).1
    have hX : va_X b xs.length (fun j => xs.getD j 0) s s.heap := ⟨scr, hcb, hof, hkn, hsz, hval⟩
    have K : W p l e room_1 s m #[Value.ref b] below meth c s₁.heap [] 0 0 (lw_Z below #[Value.ref b] s) (entryFrame m ([Value.ref b] : List Value).toArray 4) := by
      rw [hh0]
      exact whole_start l hbd ⟨B.exec, B.bytes, B.returns, hml, hown, hts, hX, hbl, B.notSynchronized, hgv⟩
    obtain ⟨t, a1, o, b1, b2, b3⟩ := K s₁ rfl X₀
    exact ⟨t, o, a1, b1, b2, b3⟩
theorem lw_pre_spec {args : Array Value} {s : State} (h : (Jvm.Cond.and given_1 narrow_1).before args s = true) (hr : rest_1_c.before args s = true) : ∃ (b : Addr) (xs : List Int32), lw_P b xs args s := by
  have hs := flat_of_before _ h
  have hq := flat_of_before _ hr
  have hc : (Cond.count 1).before args s = true := hs _ (by decide +kernel)
  have harr : (Cond.arrayOf (.arg 0) .int).before args s = true := hs _ (by decide +kernel)
  have hle : (Cond.le (.length (.arg 0)) (.int 5)).before args s = true := hs _ (by decide +kernel)
  have hlen : (Cond.isInt (.length (.arg 0))).before args s = true := hq _ (by decide +kernel)
  have hall : (Cond.all (.arg 0) (.isInt (.elem (.arg 0) (.index 0)))).before args s = true := hq _ (by decide +kernel)
  obtain ⟨b, xs, hb, hx⟩ := State.ints_of_pre rfl harr hlen hall
  have hsm : xs.length < 2 ^ 31 := hx.choose_spec.2.2.2
  have hev : (Term.length (.arg 0)).eval args s none [] s = some (.int xs.length.toInt32) := hx.length_eval hb
  have hv := Cond.le_ints hev (show (Term.int 5).eval args s none [] s = some (.int 5) from rfl)
  have hd : xs.length.toInt32 ≤ 5 := by
    simpa [Cond.before, Cond.holds, hv] using hle
  have hN : xs.length ≤ 5 := (Int32.ofNat_le_ofNat hsm (by decide)).mp (show Int32.ofNat xs.length ≤ Int32.ofNat 5 from hd)
  exact ⟨b, xs, Cond.one_arg hc (show args[0]? = some (.ref b) from hb), hx, hN, h⟩
theorem lw_comes (l : Launch) : Comes l x (Jvm.Cond.code x code maxLocals ret :: tables_1) room_1 (fun tb e args s => Calls_1 tb e args s ∧ rest_1 tb e args s ∧ Pre_1 tb e args s)
    (fun _ _ args s o t => lw_Q args s o t) := by
  intro p e ha hc hk s m args below hf hfit hheap happ hpre
  obtain ⟨b, xs, hP⟩ := lw_pre_spec hpre.2.2 hpre.2.1
  obtain ⟨k, o, h1, h2, h3, hQ⟩ := lw_walk l b xs p e ha hc hk s m args below hf ((Spec.applies_iff_loose hf).mp happ).1 hP trivial
  exact ⟨k, o, h1, h2, h3, hQ⟩
theorem lw_frame {s t : State} {o : Outcome} {args : Array Value} (h : Framed s o t [] 600000 7302250) :
    Framed s o t (fieldLocs frame_1_writes args s ++ arrayLocs frame_1_arrays args s ++ staticLocs frame_1_statics s) 600000 7302250 := h
theorem lw_limb (L : Cond) (hL : ∀ (args : Array Value) (s t : State), L.after args s (.returned (some (.int 1))) t = true) :
    ArmFor flags0 classFile x code maxLocals ret World_1 tables_1 room_1 Calls_1 rest_1 Pre_1
      (fun tb e a s o t => postC L tb e a s o t ∧ Framed s o t (fieldLocs frame_1_writes a s ++ arrayLocs frame_1_arrays a s ++ staticLocs frame_1_statics s) 600000 7302250) := by
  intro l _ _ _ p e ha hc hk s m args below hf hfit hheap happ hpre
  obtain ⟨k, o, h1, h2, h3, rfl, hF⟩ := lw_comes l p e ha hc hk s m args below hf hfit hheap happ hpre
  exact ⟨k, _, h1, h2, h3, hL args s _, lw_frame hF⟩
theorem i_vc : Claimed_1_1 ∧ Claimed_1_2 := ⟨lw_limb limb_1_1 (fun args s t => by simp [limb_1_1, Cond.after, Cond.holds, Cond.value]), lw_limb limb_1_2 (fun args s t => Cond.after_iff.mpr (by
  first | (rw [show limb_1_2 = Cond.eq .result (.int 1) from rfl, Cond.eq_ints (x := 1) (y := 1) rfl rfl]; simp; done) | (simp [limb_1_2, Cond.value, Term.eval]; done)))⟩
end
