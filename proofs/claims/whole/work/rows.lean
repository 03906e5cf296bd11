section
-- ===== PART A: goes FIRST, ahead of the names: the tables' words, and 'selects' of the private methods out of them =====
/-- a private method of a class that the tables say can be made, by its rows of tables_1 -/
def lw_okq (q : MethodName × Nat) : Prop := (q.1.cls ≠ "java/lang/invoke/MethodHandle" ∧ q.1.cls ≠ "java/lang/invoke/VarHandle") ∧ Cond.instantiable q.1.cls q.2 ∈ tables_1 ∧ Cond.privateMethod q.1 ∈ tables_1 ∧ Cond.instanceMethod q.1 ∈ tables_1
theorem lw_p0 : lw_okq (⟨"TwigMerge", "isFilled", "(I)Z"⟩, 8) := ⟨⟨by decide +kernel, by decide +kernel⟩, List.mem_of_getElem? (i := 13) (by decide +kernel), List.mem_of_getElem? (i := 283) (by decide +kernel), List.mem_of_getElem? (i := 284) (by decide +kernel)⟩
theorem lw_p1 : lw_okq (⟨"TwigMerge$Partners", "markAlikes", "()V"⟩, 8) := ⟨⟨by decide +kernel, by decide +kernel⟩, List.mem_of_getElem? (i := 70) (by decide +kernel), List.mem_of_getElem? (i := 312) (by decide +kernel), List.mem_of_getElem? (i := 313) (by decide +kernel)⟩
theorem lw_p2 : lw_okq (⟨"TwigMerge$Partners", "joinBestAlikes", "()Z"⟩, 8) := ⟨⟨by decide +kernel, by decide +kernel⟩, List.mem_of_getElem? (i := 70) (by decide +kernel), List.mem_of_getElem? (i := 317) (by decide +kernel), List.mem_of_getElem? (i := 318) (by decide +kernel)⟩
theorem lw_p3 : lw_okq (⟨"TwigMerge$Partners", "areFreeAlikes", "(II)Z"⟩, 8) := ⟨⟨by decide +kernel, by decide +kernel⟩, List.mem_of_getElem? (i := 70) (by decide +kernel), List.mem_of_getElem? (i := 321) (by decide +kernel), List.mem_of_getElem? (i := 322) (by decide +kernel)⟩
theorem lw_p4 : lw_okq (⟨"TwigMerge$Partners", "shareOfParents", "(II)I"⟩, 8) := ⟨⟨by decide +kernel, by decide +kernel⟩, List.mem_of_getElem? (i := 70) (by decide +kernel), List.mem_of_getElem? (i := 325) (by decide +kernel), List.mem_of_getElem? (i := 326) (by decide +kernel)⟩
theorem lw_p5 : lw_okq (⟨"TwigMerge$Partners", "share", "(II)I"⟩, 8) := ⟨⟨by decide +kernel, by decide +kernel⟩, List.mem_of_getElem? (i := 70) (by decide +kernel), List.mem_of_getElem? (i := 329) (by decide +kernel), List.mem_of_getElem? (i := 330) (by decide +kernel)⟩
theorem lw_p6 : lw_okq (⟨"TwigMerge$Partners", "joinTwigs", "(III)V"⟩, 8) := ⟨⟨by decide +kernel, by decide +kernel⟩, List.mem_of_getElem? (i := 70) (by decide +kernel), List.mem_of_getElem? (i := 333) (by decide +kernel), List.mem_of_getElem? (i := 334) (by decide +kernel)⟩
theorem lw_p7 : lw_okq (⟨"TwigMerge$Partners", "join", "(II)V"⟩, 8) := ⟨⟨by decide +kernel, by decide +kernel⟩, List.mem_of_getElem? (i := 70) (by decide +kernel), List.mem_of_getElem? (i := 338) (by decide +kernel), List.mem_of_getElem? (i := 339) (by decide +kernel)⟩
theorem lw_p8 : lw_okq (⟨"TwigMerge$Partners", "joinByShare", "()V"⟩, 8) := ⟨⟨by decide +kernel, by decide +kernel⟩, List.mem_of_getElem? (i := 70) (by decide +kernel), List.mem_of_getElem? (i := 344) (by decide +kernel), List.mem_of_getElem? (i := 345) (by decide +kernel)⟩
theorem lw_p9 : lw_okq (⟨"TwigMerge$Partners", "bestByShare", "(I)I"⟩, 8) := ⟨⟨by decide +kernel, by decide +kernel⟩, List.mem_of_getElem? (i := 70) (by decide +kernel), List.mem_of_getElem? (i := 348) (by decide +kernel), List.mem_of_getElem? (i := 349) (by decide +kernel)⟩
theorem lw_p10 : lw_okq (⟨"TwigMerge$Partners", "pairChildren", "(II)V"⟩, 8) := ⟨⟨by decide +kernel, by decide +kernel⟩, List.mem_of_getElem? (i := 70) (by decide +kernel), List.mem_of_getElem? (i := 358) (by decide +kernel), List.mem_of_getElem? (i := 359) (by decide +kernel)⟩
theorem lw_p11 : lw_okq (⟨"TwigMerge$Partners", "pairChildrenOnce", "(IIZ)V"⟩, 8) := ⟨⟨by decide +kernel, by decide +kernel⟩, List.mem_of_getElem? (i := 70) (by decide +kernel), List.mem_of_getElem? (i := 362) (by decide +kernel), List.mem_of_getElem? (i := 363) (by decide +kernel)⟩
theorem lw_p12 : lw_okq (⟨"TwigMerge$Partners", "firstFreeChild", "(IIZ)I"⟩, 8) := ⟨⟨by decide +kernel, by decide +kernel⟩, List.mem_of_getElem? (i := 70) (by decide +kernel), List.mem_of_getElem? (i := 366) (by decide +kernel), List.mem_of_getElem? (i := 367) (by decide +kernel)⟩
theorem lw_p13 : lw_okq (⟨"TwigMerge$Partners", "joinRoots", "()V"⟩, 8) := ⟨⟨by decide +kernel, by decide +kernel⟩, List.mem_of_getElem? (i := 70) (by decide +kernel), List.mem_of_getElem? (i := 370) (by decide +kernel), List.mem_of_getElem? (i := 371) (by decide +kernel)⟩
theorem lw_p14 : lw_okq (⟨"TwigMerge$Difference", "settleAll", "()V"⟩, 9) := ⟨⟨by decide +kernel, by decide +kernel⟩, List.mem_of_getElem? (i := 64) (by decide +kernel), List.mem_of_getElem? (i := 374) (by decide +kernel), List.mem_of_getElem? (i := 375) (by decide +kernel)⟩
theorem lw_p15 : lw_okq (⟨"TwigMerge$Difference", "settleChildren", "(II)V"⟩, 9) := ⟨⟨by decide +kernel, by decide +kernel⟩, List.mem_of_getElem? (i := 64) (by decide +kernel), List.mem_of_getElem? (i := 378) (by decide +kernel), List.mem_of_getElem? (i := 379) (by decide +kernel)⟩
def lw_privs_1 : List (MethodName × Nat) := [(⟨"TwigMerge", "isFilled", "(I)Z"⟩, 8), (⟨"TwigMerge$Partners", "markAlikes", "()V"⟩, 8), (⟨"TwigMerge$Partners", "joinBestAlikes", "()Z"⟩, 8), (⟨"TwigMerge$Partners", "areFreeAlikes", "(II)Z"⟩, 8), (⟨"TwigMerge$Partners", "shareOfParents", "(II)I"⟩, 8), (⟨"TwigMerge$Partners", "share", "(II)I"⟩, 8), (⟨"TwigMerge$Partners", "joinTwigs", "(III)V"⟩, 8), (⟨"TwigMerge$Partners", "join", "(II)V"⟩, 8), (⟨"TwigMerge$Partners", "joinByShare", "()V"⟩, 8), (⟨"TwigMerge$Partners", "bestByShare", "(I)I"⟩, 8), (⟨"TwigMerge$Partners", "pairChildren", "(II)V"⟩, 8), (⟨"TwigMerge$Partners", "pairChildrenOnce", "(IIZ)V"⟩, 8), (⟨"TwigMerge$Partners", "firstFreeChild", "(IIZ)I"⟩, 8), (⟨"TwigMerge$Partners", "joinRoots", "()V"⟩, 8), (⟨"TwigMerge$Difference", "settleAll", "()V"⟩, 9), (⟨"TwigMerge$Difference", "settleChildren", "(II)V"⟩, 9)]
theorem lw_r1 : ∀ q ∈ lw_privs_1, lw_okq q := List.forall_mem_cons.mpr ⟨lw_p0, List.forall_mem_cons.mpr ⟨lw_p1, List.forall_mem_cons.mpr ⟨lw_p2, List.forall_mem_cons.mpr ⟨lw_p3, List.forall_mem_cons.mpr ⟨lw_p4, List.forall_mem_cons.mpr ⟨lw_p5, List.forall_mem_cons.mpr ⟨lw_p6, List.forall_mem_cons.mpr ⟨lw_p7, List.forall_mem_cons.mpr ⟨lw_p8, List.forall_mem_cons.mpr ⟨lw_p9, List.forall_mem_cons.mpr ⟨lw_p10, List.forall_mem_cons.mpr ⟨lw_p11, List.forall_mem_cons.mpr ⟨lw_p12, List.forall_mem_cons.mpr ⟨lw_p13, List.forall_mem_cons.mpr ⟨lw_p14, List.forall_mem_cons.mpr ⟨lw_p15, fun _ h => absurd h List.not_mem_nil⟩⟩⟩⟩⟩⟩⟩⟩⟩⟩⟩⟩⟩⟩⟩⟩
theorem lw_p16 : lw_okq (⟨"TwigMerge$Difference", "gatherKept", "(II)I"⟩, 9) := ⟨⟨by decide +kernel, by decide +kernel⟩, List.mem_of_getElem? (i := 64) (by decide +kernel), List.mem_of_getElem? (i := 382) (by decide +kernel), List.mem_of_getElem? (i := 383) (by decide +kernel)⟩
theorem lw_p17 : lw_okq (⟨"TwigMerge$Difference", "measureReach", "(I)I"⟩, 9) := ⟨⟨by decide +kernel, by decide +kernel⟩, List.mem_of_getElem? (i := 64) (by decide +kernel), List.mem_of_getElem? (i := 390) (by decide +kernel), List.mem_of_getElem? (i := 391) (by decide +kernel)⟩
theorem lw_p18 : lw_okq (⟨"TwigMerge$Difference", "writeTwig", "(IIII)I"⟩, 9) := ⟨⟨by decide +kernel, by decide +kernel⟩, List.mem_of_getElem? (i := 64) (by decide +kernel), List.mem_of_getElem? (i := 399) (by decide +kernel), List.mem_of_getElem? (i := 400) (by decide +kernel)⟩
theorem lw_p19 : lw_okq (⟨"TwigMerge$Difference", "writeNode", "(III)I"⟩, 9) := ⟨⟨by decide +kernel, by decide +kernel⟩, List.mem_of_getElem? (i := 64) (by decide +kernel), List.mem_of_getElem? (i := 403) (by decide +kernel), List.mem_of_getElem? (i := 404) (by decide +kernel)⟩
theorem lw_p20 : lw_okq (⟨"TwigMerge$Script", "write", "(IIIIII)V"⟩, 2) := ⟨⟨by decide +kernel, by decide +kernel⟩, List.mem_of_getElem? (i := 103) (by decide +kernel), List.mem_of_getElem? (i := 415) (by decide +kernel), List.mem_of_getElem? (i := 416) (by decide +kernel)⟩
theorem lw_p21 : lw_okq (⟨"TwigMerge$Difference", "writeDeletes", "()V"⟩, 9) := ⟨⟨by decide +kernel, by decide +kernel⟩, List.mem_of_getElem? (i := 64) (by decide +kernel), List.mem_of_getElem? (i := 427) (by decide +kernel), List.mem_of_getElem? (i := 428) (by decide +kernel)⟩
theorem lw_p22 : lw_okq (⟨"TwigMerge$Script", "perform", "(ILTwigMerge$Forest;)V"⟩, 2) := ⟨⟨by decide +kernel, by decide +kernel⟩, List.mem_of_getElem? (i := 103) (by decide +kernel), List.mem_of_getElem? (i := 464) (by decide +kernel), List.mem_of_getElem? (i := 465) (by decide +kernel)⟩
theorem lw_p23 : lw_okq (⟨"TwigMerge$Merger", "mergeStep", "(I)Z"⟩, 9) := ⟨⟨by decide +kernel, by decide +kernel⟩, List.mem_of_getElem? (i := 154) (by decide +kernel), List.mem_of_getElem? (i := 493) (by decide +kernel), List.mem_of_getElem? (i := 494) (by decide +kernel)⟩
theorem lw_p24 : lw_okq (⟨"TwigMerge$Merger", "mergeInsert", "(I)Z"⟩, 9) := ⟨⟨by decide +kernel, by decide +kernel⟩, List.mem_of_getElem? (i := 154) (by decide +kernel), List.mem_of_getElem? (i := 498) (by decide +kernel), List.mem_of_getElem? (i := 499) (by decide +kernel)⟩
theorem lw_p25 : lw_okq (⟨"TwigMerge$Merger", "meaning", "(I)I"⟩, 9) := ⟨⟨by decide +kernel, by decide +kernel⟩, List.mem_of_getElem? (i := 154) (by decide +kernel), List.mem_of_getElem? (i := 502) (by decide +kernel), List.mem_of_getElem? (i := 503) (by decide +kernel)⟩
theorem lw_p26 : lw_okq (⟨"TwigMerge$Merger", "findTwin", "(III)I"⟩, 9) := ⟨⟨by decide +kernel, by decide +kernel⟩, List.mem_of_getElem? (i := 154) (by decide +kernel), List.mem_of_getElem? (i := 506) (by decide +kernel), List.mem_of_getElem? (i := 507) (by decide +kernel)⟩
theorem lw_p27 : lw_okq (⟨"TwigMerge$Merger", "isPutAt", "(III)Z"⟩, 9) := ⟨⟨by decide +kernel, by decide +kernel⟩, List.mem_of_getElem? (i := 154) (by decide +kernel), List.mem_of_getElem? (i := 510) (by decide +kernel), List.mem_of_getElem? (i := 511) (by decide +kernel)⟩
theorem lw_p28 : lw_okq (⟨"TwigMerge$Merger", "remember", "(I)V"⟩, 9) := ⟨⟨by decide +kernel, by decide +kernel⟩, List.mem_of_getElem? (i := 154) (by decide +kernel), List.mem_of_getElem? (i := 514) (by decide +kernel), List.mem_of_getElem? (i := 515) (by decide +kernel)⟩
theorem lw_p29 : lw_okq (⟨"TwigMerge$Merger", "canPut", "(II)Z"⟩, 9) := ⟨⟨by decide +kernel, by decide +kernel⟩, List.mem_of_getElem? (i := 154) (by decide +kernel), List.mem_of_getElem? (i := 519) (by decide +kernel), List.mem_of_getElem? (i := 520) (by decide +kernel)⟩
theorem lw_p30 : lw_okq (⟨"TwigMerge$Merger", "mergeUpdate", "(I)Z"⟩, 9) := ⟨⟨by decide +kernel, by decide +kernel⟩, List.mem_of_getElem? (i := 154) (by decide +kernel), List.mem_of_getElem? (i := 526) (by decide +kernel), List.mem_of_getElem? (i := 527) (by decide +kernel)⟩
theorem lw_p31 : lw_okq (⟨"TwigMerge$Merger", "mergeMove", "(I)Z"⟩, 9) := ⟨⟨by decide +kernel, by decide +kernel⟩, List.mem_of_getElem? (i := 154) (by decide +kernel), List.mem_of_getElem? (i := 535) (by decide +kernel), List.mem_of_getElem? (i := 536) (by decide +kernel)⟩
def lw_privs_2 : List (MethodName × Nat) := [(⟨"TwigMerge$Difference", "gatherKept", "(II)I"⟩, 9), (⟨"TwigMerge$Difference", "measureReach", "(I)I"⟩, 9), (⟨"TwigMerge$Difference", "writeTwig", "(IIII)I"⟩, 9), (⟨"TwigMerge$Difference", "writeNode", "(III)I"⟩, 9), (⟨"TwigMerge$Script", "write", "(IIIIII)V"⟩, 2), (⟨"TwigMerge$Difference", "writeDeletes", "()V"⟩, 9), (⟨"TwigMerge$Script", "perform", "(ILTwigMerge$Forest;)V"⟩, 2), (⟨"TwigMerge$Merger", "mergeStep", "(I)Z"⟩, 9), (⟨"TwigMerge$Merger", "mergeInsert", "(I)Z"⟩, 9), (⟨"TwigMerge$Merger", "meaning", "(I)I"⟩, 9), (⟨"TwigMerge$Merger", "findTwin", "(III)I"⟩, 9), (⟨"TwigMerge$Merger", "isPutAt", "(III)Z"⟩, 9), (⟨"TwigMerge$Merger", "remember", "(I)V"⟩, 9), (⟨"TwigMerge$Merger", "canPut", "(II)Z"⟩, 9), (⟨"TwigMerge$Merger", "mergeUpdate", "(I)Z"⟩, 9), (⟨"TwigMerge$Merger", "mergeMove", "(I)Z"⟩, 9)]
theorem lw_r2 : ∀ q ∈ lw_privs_2, lw_okq q := List.forall_mem_cons.mpr ⟨lw_p16, List.forall_mem_cons.mpr ⟨lw_p17, List.forall_mem_cons.mpr ⟨lw_p18, List.forall_mem_cons.mpr ⟨lw_p19, List.forall_mem_cons.mpr ⟨lw_p20, List.forall_mem_cons.mpr ⟨lw_p21, List.forall_mem_cons.mpr ⟨lw_p22, List.forall_mem_cons.mpr ⟨lw_p23, List.forall_mem_cons.mpr ⟨lw_p24, List.forall_mem_cons.mpr ⟨lw_p25, List.forall_mem_cons.mpr ⟨lw_p26, List.forall_mem_cons.mpr ⟨lw_p27, List.forall_mem_cons.mpr ⟨lw_p28, List.forall_mem_cons.mpr ⟨lw_p29, List.forall_mem_cons.mpr ⟨lw_p30, List.forall_mem_cons.mpr ⟨lw_p31, fun _ h => absurd h List.not_mem_nil⟩⟩⟩⟩⟩⟩⟩⟩⟩⟩⟩⟩⟩⟩⟩⟩
theorem lw_p32 : lw_okq (⟨"TwigMerge$Merger", "mergeDelete", "(I)Z"⟩, 9) := ⟨⟨by decide +kernel, by decide +kernel⟩, List.mem_of_getElem? (i := 154) (by decide +kernel), List.mem_of_getElem? (i := 544) (by decide +kernel), List.mem_of_getElem? (i := 545) (by decide +kernel)⟩
theorem lw_p33 : lw_okq (⟨"TwigMergeModel", "isNode", "(II)Z"⟩, 40) := ⟨⟨by decide +kernel, by decide +kernel⟩, List.mem_of_getElem? (i := 557) (by decide +kernel), List.mem_of_getElem? (i := 691) (by decide +kernel), List.mem_of_getElem? (i := 692) (by decide +kernel)⟩
theorem lw_p34 : lw_okq (⟨"TwigMergeModel", "compare", "(II)V"⟩, 40) := ⟨⟨by decide +kernel, by decide +kernel⟩, List.mem_of_getElem? (i := 557) (by decide +kernel), List.mem_of_getElem? (i := 711) (by decide +kernel), List.mem_of_getElem? (i := 712) (by decide +kernel)⟩
theorem lw_p35 : lw_okq (⟨"TwigMergeModel", "child", "(III)I"⟩, 40) := ⟨⟨by decide +kernel, by decide +kernel⟩, List.mem_of_getElem? (i := 557) (by decide +kernel), List.mem_of_getElem? (i := 715) (by decide +kernel), List.mem_of_getElem? (i := 716) (by decide +kernel)⟩
theorem lw_p36 : lw_okq (⟨"TwigMergeModel", "work", "(II)V"⟩, 40) := ⟨⟨by decide +kernel, by decide +kernel⟩, List.mem_of_getElem? (i := 557) (by decide +kernel), List.mem_of_getElem? (i := 723) (by decide +kernel), List.mem_of_getElem? (i := 724) (by decide +kernel)⟩
theorem lw_p37 : lw_okq (⟨"TwigMergeModel", "partners", "()V"⟩, 40) := ⟨⟨by decide +kernel, by decide +kernel⟩, List.mem_of_getElem? (i := 557) (by decide +kernel), List.mem_of_getElem? (i := 727) (by decide +kernel), List.mem_of_getElem? (i := 728) (by decide +kernel)⟩
theorem lw_p38 : lw_okq (⟨"TwigMergeModel", "look", "()V"⟩, 40) := ⟨⟨by decide +kernel, by decide +kernel⟩, List.mem_of_getElem? (i := 557) (by decide +kernel), List.mem_of_getElem? (i := 731) (by decide +kernel), List.mem_of_getElem? (i := 732) (by decide +kernel)⟩
theorem lw_p39 : lw_okq (⟨"TwigMergeModel", "isBelow", "(III)Z"⟩, 40) := ⟨⟨by decide +kernel, by decide +kernel⟩, List.mem_of_getElem? (i := 557) (by decide +kernel), List.mem_of_getElem? (i := 736) (by decide +kernel), List.mem_of_getElem? (i := 737) (by decide +kernel)⟩
theorem lw_p40 : lw_okq (⟨"TwigMergeModel", "best", "()I"⟩, 40) := ⟨⟨by decide +kernel, by decide +kernel⟩, List.mem_of_getElem? (i := 557) (by decide +kernel), List.mem_of_getElem? (i := 740) (by decide +kernel), List.mem_of_getElem? (i := 741) (by decide +kernel)⟩
theorem lw_p41 : lw_okq (⟨"TwigMergeModel", "share", "(II)I"⟩, 40) := ⟨⟨by decide +kernel, by decide +kernel⟩, List.mem_of_getElem? (i := 557) (by decide +kernel), List.mem_of_getElem? (i := 744) (by decide +kernel), List.mem_of_getElem? (i := 745) (by decide +kernel)⟩
theorem lw_p42 : lw_okq (⟨"TwigMergeModel", "wed", "(II)V"⟩, 40) := ⟨⟨by decide +kernel, by decide +kernel⟩, List.mem_of_getElem? (i := 557) (by decide +kernel), List.mem_of_getElem? (i := 748) (by decide +kernel), List.mem_of_getElem? (i := 749) (by decide +kernel)⟩
theorem lw_p43 : lw_okq (⟨"TwigMergeModel", "marry", "(II)V"⟩, 40) := ⟨⟨by decide +kernel, by decide +kernel⟩, List.mem_of_getElem? (i := 557) (by decide +kernel), List.mem_of_getElem? (i := 752) (by decide +kernel), List.mem_of_getElem? (i := 753) (by decide +kernel)⟩
theorem lw_p44 : lw_okq (⟨"TwigMergeModel", "likely", "(I)I"⟩, 40) := ⟨⟨by decide +kernel, by decide +kernel⟩, List.mem_of_getElem? (i := 557) (by decide +kernel), List.mem_of_getElem? (i := 756) (by decide +kernel), List.mem_of_getElem? (i := 757) (by decide +kernel)⟩
theorem lw_p45 : lw_okq (⟨"TwigMergeModel", "paired", "(II)V"⟩, 40) := ⟨⟨by decide +kernel, by decide +kernel⟩, List.mem_of_getElem? (i := 557) (by decide +kernel), List.mem_of_getElem? (i := 760) (by decide +kernel), List.mem_of_getElem? (i := 761) (by decide +kernel)⟩
theorem lw_p46 : lw_okq (⟨"TwigMergeModel", "script", "()V"⟩, 40) := ⟨⟨by decide +kernel, by decide +kernel⟩, List.mem_of_getElem? (i := 557) (by decide +kernel), List.mem_of_getElem? (i := 764) (by decide +kernel), List.mem_of_getElem? (i := 765) (by decide +kernel)⟩
theorem lw_p47 : lw_okq (⟨"TwigMergeModel", "settle", "(I)V"⟩, 40) := ⟨⟨by decide +kernel, by decide +kernel⟩, List.mem_of_getElem? (i := 557) (by decide +kernel), List.mem_of_getElem? (i := 768) (by decide +kernel), List.mem_of_getElem? (i := 769) (by decide +kernel)⟩
def lw_privs_3 : List (MethodName × Nat) := [(⟨"TwigMerge$Merger", "mergeDelete", "(I)Z"⟩, 9), (⟨"TwigMergeModel", "isNode", "(II)Z"⟩, 40), (⟨"TwigMergeModel", "compare", "(II)V"⟩, 40), (⟨"TwigMergeModel", "child", "(III)I"⟩, 40), (⟨"TwigMergeModel", "work", "(II)V"⟩, 40), (⟨"TwigMergeModel", "partners", "()V"⟩, 40), (⟨"TwigMergeModel", "look", "()V"⟩, 40), (⟨"TwigMergeModel", "isBelow", "(III)Z"⟩, 40), (⟨"TwigMergeModel", "best", "()I"⟩, 40), (⟨"TwigMergeModel", "share", "(II)I"⟩, 40), (⟨"TwigMergeModel", "wed", "(II)V"⟩, 40), (⟨"TwigMergeModel", "marry", "(II)V"⟩, 40), (⟨"TwigMergeModel", "likely", "(I)I"⟩, 40), (⟨"TwigMergeModel", "paired", "(II)V"⟩, 40), (⟨"TwigMergeModel", "script", "()V"⟩, 40), (⟨"TwigMergeModel", "settle", "(I)V"⟩, 40)]
theorem lw_r3 : ∀ q ∈ lw_privs_3, lw_okq q := List.forall_mem_cons.mpr ⟨lw_p32, List.forall_mem_cons.mpr ⟨lw_p33, List.forall_mem_cons.mpr ⟨lw_p34, List.forall_mem_cons.mpr ⟨lw_p35, List.forall_mem_cons.mpr ⟨lw_p36, List.forall_mem_cons.mpr ⟨lw_p37, List.forall_mem_cons.mpr ⟨lw_p38, List.forall_mem_cons.mpr ⟨lw_p39, List.forall_mem_cons.mpr ⟨lw_p40, List.forall_mem_cons.mpr ⟨lw_p41, List.forall_mem_cons.mpr ⟨lw_p42, List.forall_mem_cons.mpr ⟨lw_p43, List.forall_mem_cons.mpr ⟨lw_p44, List.forall_mem_cons.mpr ⟨lw_p45, List.forall_mem_cons.mpr ⟨lw_p46, List.forall_mem_cons.mpr ⟨lw_p47, fun _ h => absurd h List.not_mem_nil⟩⟩⟩⟩⟩⟩⟩⟩⟩⟩⟩⟩⟩⟩⟩⟩
theorem lw_p48 : lw_okq (⟨"TwigMergeModel", "walk", "()V"⟩, 40) := ⟨⟨by decide +kernel, by decide +kernel⟩, List.mem_of_getElem? (i := 557) (by decide +kernel), List.mem_of_getElem? (i := 772) (by decide +kernel), List.mem_of_getElem? (i := 773) (by decide +kernel)⟩
theorem lw_p49 : lw_okq (⟨"TwigMergeModel", "put", "(IIIIII)V"⟩, 40) := ⟨⟨by decide +kernel, by decide +kernel⟩, List.mem_of_getElem? (i := 557) (by decide +kernel), List.mem_of_getElem? (i := 776) (by decide +kernel), List.mem_of_getElem? (i := 777) (by decide +kernel)⟩
theorem lw_p50 : lw_okq (⟨"TwigMergeModel", "keep", "(I)V"⟩, 40) := ⟨⟨by decide +kernel, by decide +kernel⟩, List.mem_of_getElem? (i := 557) (by decide +kernel), List.mem_of_getElem? (i := 780) (by decide +kernel), List.mem_of_getElem? (i := 781) (by decide +kernel)⟩
theorem lw_p51 : lw_okq (⟨"TwigMergeModel", "begin", "(I)V"⟩, 40) := ⟨⟨by decide +kernel, by decide +kernel⟩, List.mem_of_getElem? (i := 557) (by decide +kernel), List.mem_of_getElem? (i := 800) (by decide +kernel), List.mem_of_getElem? (i := 801) (by decide +kernel)⟩
theorem lw_p52 : lw_okq (⟨"TwigMergeModel", "does", "(IIII)V"⟩, 40) := ⟨⟨by decide +kernel, by decide +kernel⟩, List.mem_of_getElem? (i := 557) (by decide +kernel), List.mem_of_getElem? (i := 804) (by decide +kernel), List.mem_of_getElem? (i := 805) (by decide +kernel)⟩
theorem lw_p53 : lw_okq (⟨"TwigMergeModel", "inserted", "(IIIII)V"⟩, 40) := ⟨⟨by decide +kernel, by decide +kernel⟩, List.mem_of_getElem? (i := 557) (by decide +kernel), List.mem_of_getElem? (i := 808) (by decide +kernel), List.mem_of_getElem? (i := 809) (by decide +kernel)⟩
theorem lw_p54 : lw_okq (⟨"TwigMergeModel", "into", "(III)V"⟩, 40) := ⟨⟨by decide +kernel, by decide +kernel⟩, List.mem_of_getElem? (i := 557) (by decide +kernel), List.mem_of_getElem? (i := 812) (by decide +kernel), List.mem_of_getElem? (i := 813) (by decide +kernel)⟩
theorem lw_p55 : lw_okq (⟨"TwigMergeModel", "out", "(I)V"⟩, 40) := ⟨⟨by decide +kernel, by decide +kernel⟩, List.mem_of_getElem? (i := 557) (by decide +kernel), List.mem_of_getElem? (i := 816) (by decide +kernel), List.mem_of_getElem? (i := 817) (by decide +kernel)⟩
theorem lw_p56 : lw_okq (⟨"TwigMergeModel", "nodes", "()I"⟩, 40) := ⟨⟨by decide +kernel, by decide +kernel⟩, List.mem_of_getElem? (i := 557) (by decide +kernel), List.mem_of_getElem? (i := 820) (by decide +kernel), List.mem_of_getElem? (i := 821) (by decide +kernel)⟩
theorem lw_p57 : lw_okq (⟨"TwigMergeModel", "second", "(II)Z"⟩, 40) := ⟨⟨by decide +kernel, by decide +kernel⟩, List.mem_of_getElem? (i := 557) (by decide +kernel), List.mem_of_getElem? (i := 828) (by decide +kernel), List.mem_of_getElem? (i := 829) (by decide +kernel)⟩
theorem lw_p58 : lw_okq (⟨"TwigMergeModel", "named", "(II)I"⟩, 40) := ⟨⟨by decide +kernel, by decide +kernel⟩, List.mem_of_getElem? (i := 557) (by decide +kernel), List.mem_of_getElem? (i := 832) (by decide +kernel), List.mem_of_getElem? (i := 833) (by decide +kernel)⟩
theorem lw_p59 : lw_okq (⟨"TwigMergeModel", "adds", "(IIII)Z"⟩, 40) := ⟨⟨by decide +kernel, by decide +kernel⟩, List.mem_of_getElem? (i := 557) (by decide +kernel), List.mem_of_getElem? (i := 836) (by decide +kernel), List.mem_of_getElem? (i := 837) (by decide +kernel)⟩
theorem lw_p60 : lw_okq (⟨"TwigMergeModel", "alikeInsert", "(IIII)I"⟩, 40) := ⟨⟨by decide +kernel, by decide +kernel⟩, List.mem_of_getElem? (i := 557) (by decide +kernel), List.mem_of_getElem? (i := 840) (by decide +kernel), List.mem_of_getElem? (i := 841) (by decide +kernel)⟩
theorem lw_p61 : lw_okq (⟨"TwigMergeModel", "fitsUnder", "(II)Z"⟩, 40) := ⟨⟨by decide +kernel, by decide +kernel⟩, List.mem_of_getElem? (i := 557) (by decide +kernel), List.mem_of_getElem? (i := 844) (by decide +kernel), List.mem_of_getElem? (i := 845) (by decide +kernel)⟩
theorem lw_p62 : lw_okq (⟨"TwigMergeModel", "present", "(I)Z"⟩, 40) := ⟨⟨by decide +kernel, by decide +kernel⟩, List.mem_of_getElem? (i := 557) (by decide +kernel), List.mem_of_getElem? (i := 848) (by decide +kernel), List.mem_of_getElem? (i := 849) (by decide +kernel)⟩
theorem lw_p63 : lw_okq (⟨"TwigMergeModel", "first", "(II)I"⟩, 40) := ⟨⟨by decide +kernel, by decide +kernel⟩, List.mem_of_getElem? (i := 557) (by decide +kernel), List.mem_of_getElem? (i := 852) (by decide +kernel), List.mem_of_getElem? (i := 853) (by decide +kernel)⟩
def lw_privs_4 : List (MethodName × Nat) := [(⟨"TwigMergeModel", "walk", "()V"⟩, 40), (⟨"TwigMergeModel", "put", "(IIIIII)V"⟩, 40), (⟨"TwigMergeModel", "keep", "(I)V"⟩, 40), (⟨"TwigMergeModel", "begin", "(I)V"⟩, 40), (⟨"TwigMergeModel", "does", "(IIII)V"⟩, 40), (⟨"TwigMergeModel", "inserted", "(IIIII)V"⟩, 40), (⟨"TwigMergeModel", "into", "(III)V"⟩, 40), (⟨"TwigMergeModel", "out", "(I)V"⟩, 40), (⟨"TwigMergeModel", "nodes", "()I"⟩, 40), (⟨"TwigMergeModel", "second", "(II)Z"⟩, 40), (⟨"TwigMergeModel", "named", "(II)I"⟩, 40), (⟨"TwigMergeModel", "adds", "(IIII)Z"⟩, 40), (⟨"TwigMergeModel", "alikeInsert", "(IIII)I"⟩, 40), (⟨"TwigMergeModel", "fitsUnder", "(II)Z"⟩, 40), (⟨"TwigMergeModel", "present", "(I)Z"⟩, 40), (⟨"TwigMergeModel", "first", "(II)I"⟩, 40)]
theorem lw_r4 : ∀ q ∈ lw_privs_4, lw_okq q := List.forall_mem_cons.mpr ⟨lw_p48, List.forall_mem_cons.mpr ⟨lw_p49, List.forall_mem_cons.mpr ⟨lw_p50, List.forall_mem_cons.mpr ⟨lw_p51, List.forall_mem_cons.mpr ⟨lw_p52, List.forall_mem_cons.mpr ⟨lw_p53, List.forall_mem_cons.mpr ⟨lw_p54, List.forall_mem_cons.mpr ⟨lw_p55, List.forall_mem_cons.mpr ⟨lw_p56, List.forall_mem_cons.mpr ⟨lw_p57, List.forall_mem_cons.mpr ⟨lw_p58, List.forall_mem_cons.mpr ⟨lw_p59, List.forall_mem_cons.mpr ⟨lw_p60, List.forall_mem_cons.mpr ⟨lw_p61, List.forall_mem_cons.mpr ⟨lw_p62, List.forall_mem_cons.mpr ⟨lw_p63, fun _ h => absurd h List.not_mem_nil⟩⟩⟩⟩⟩⟩⟩⟩⟩⟩⟩⟩⟩⟩⟩⟩
theorem lw_p64 : lw_okq (⟨"TwigMergeModel", "hasChildren", "(I)Z"⟩, 40) := ⟨⟨by decide +kernel, by decide +kernel⟩, List.mem_of_getElem? (i := 557) (by decide +kernel), List.mem_of_getElem? (i := 856) (by decide +kernel), List.mem_of_getElem? (i := 857) (by decide +kernel)⟩
theorem lw_p65 : lw_okq (⟨"TwigMergeModel", "within", "(II)Z"⟩, 40) := ⟨⟨by decide +kernel, by decide +kernel⟩, List.mem_of_getElem? (i := 557) (by decide +kernel), List.mem_of_getElem? (i := 860) (by decide +kernel), List.mem_of_getElem? (i := 861) (by decide +kernel)⟩
theorem lw_p66 : lw_okq (⟨"TwigMergeModel", "twig", "(II)I"⟩, 40) := ⟨⟨by decide +kernel, by decide +kernel⟩, List.mem_of_getElem? (i := 557) (by decide +kernel), List.mem_of_getElem? (i := 872) (by decide +kernel), List.mem_of_getElem? (i := 873) (by decide +kernel)⟩
def lw_privs_5 : List (MethodName × Nat) := [(⟨"TwigMergeModel", "hasChildren", "(I)Z"⟩, 40), (⟨"TwigMergeModel", "within", "(II)Z"⟩, 40), (⟨"TwigMergeModel", "twig", "(II)I"⟩, 40)]
theorem lw_r5 : ∀ q ∈ lw_privs_5, lw_okq q := List.forall_mem_cons.mpr ⟨lw_p64, List.forall_mem_cons.mpr ⟨lw_p65, List.forall_mem_cons.mpr ⟨lw_p66, fun _ h => absurd h List.not_mem_nil⟩⟩⟩
def lw_privs : List (MethodName × Nat) := lw_privs_1 ++ (lw_privs_2 ++ (lw_privs_3 ++ (lw_privs_4 ++ (lw_privs_5))))
def lw_tbl : List Cond := k2_sels lw_privs ++ tables_1
theorem lw_privs_ok : ∀ q ∈ lw_privs, lw_okq q := by
  show ∀ q ∈ lw_privs_1 ++ (lw_privs_2 ++ (lw_privs_3 ++ (lw_privs_4 ++ (lw_privs_5)))), lw_okq q
  exact List.forall_mem_append.mpr ⟨lw_r1, List.forall_mem_append.mpr ⟨lw_r2, List.forall_mem_append.mpr ⟨lw_r3, List.forall_mem_append.mpr ⟨lw_r4, lw_r5⟩⟩⟩⟩
end
section
/-! The program's tables, written by program (wip/gen/gen_tables.py) -/
/-- words that stay true whatever the machine loads -/
def pg_gd (w : Cond) : Bool := (w.onTables && w.keeps) || (match w with | .arrayClass _ => true | _ => false)
def pg_words : List Cond := lw_tbl.filter pg_gd
def pg_num : Nat := 132
def pg_cnL : List String := ["TwigMerge", "TwigMerge$Forest", "TwigMerge$Script", "TwigMerge$Partners", "TwigMerge$Difference", "TwigMerge$Merger", "TwigMergeModel", "TwigMergeLaw", "java/util/Arrays", "java/lang/Integer"]
def pg_cn (c : Nat) : String := pg_cnL.getD c ""
def pg_yL : List MethodName := [⟨"TwigMerge", "<init>", "()V"⟩, ⟨"TwigMerge$Forest", "<init>", "(I)V"⟩, ⟨"java/util/Arrays", "fill", "([II)V"⟩, ⟨"TwigMerge$Difference", "<init>", "()V"⟩, ⟨"TwigMerge$Partners", "<init>", "()V"⟩, ⟨"TwigMerge$Script", "<init>", "()V"⟩, ⟨"TwigMerge$Merger", "<init>", "()V"⟩, ⟨"TwigMerge", "add", "(IIII)I"⟩, ⟨"TwigMerge", "isTree", "(I)Z"⟩, ⟨"TwigMerge$Forest", "has", "(I)Z"⟩, ⟨"TwigMerge$Forest", "childCount", "(I)I"⟩, ⟨"TwigMerge$Forest", "childAt", "(II)I"⟩, ⟨"TwigMerge$Forest", "make", "(III)V"⟩, ⟨"TwigMerge$Forest", "putBehind", "(III)V"⟩, ⟨"TwigMerge", "clear", "(I)Z"⟩, ⟨"TwigMerge$Forest", "wipe", "()V"⟩, ⟨"TwigMerge", "size", "(I)I"⟩, ⟨"TwigMerge", "height", "(II)I"⟩, ⟨"TwigMerge$Forest", "measureHeights", "([I)V"⟩, ⟨"TwigMerge", "alike", "(IIII)Z"⟩, ⟨"TwigMerge$Forest", "sameTwig", "(LTwigMerge$Forest;ILTwigMerge$Forest;II)Z"⟩, ⟨"TwigMerge", "diff", "(II)I"⟩, ⟨"TwigMerge", "isFilled", "(I)Z"⟩, ⟨"TwigMerge$Forest", "copyFrom", "(LTwigMerge$Forest;)V"⟩, ⟨"TwigMerge$Difference", "find", "(LTwigMerge$Forest;LTwigMerge$Forest;)V"⟩, ⟨"TwigMerge$Partners", "find", "(LTwigMerge$Forest;LTwigMerge$Forest;)V"⟩, ⟨"TwigMerge$Forest", "markBelow", "([I)V"⟩, ⟨"TwigMerge$Partners", "markAlikes", "()V"⟩, ⟨"TwigMerge$Partners", "joinBestAlikes", "()Z"⟩, ⟨"TwigMerge$Partners", "areFreeAlikes", "(II)Z"⟩, ⟨"TwigMerge$Partners", "shareOfParents", "(II)I"⟩, ⟨"TwigMerge$Partners", "share", "(II)I"⟩, ⟨"TwigMerge$Partners", "joinTwigs", "(III)V"⟩, ⟨"TwigMerge$Partners", "join", "(II)V"⟩, ⟨"TwigMerge$Partners", "joinByShare", "()V"⟩, ⟨"TwigMerge$Partners", "bestByShare", "(I)I"⟩, ⟨"java/lang/Integer", "bitCount", "(I)I"⟩, ⟨"TwigMerge$Partners", "pairChildren", "(II)V"⟩, ⟨"TwigMerge$Partners", "pairChildrenOnce", "(IIZ)V"⟩, ⟨"TwigMerge$Partners", "firstFreeChild", "(IIZ)I"⟩, ⟨"TwigMerge$Partners", "joinRoots", "()V"⟩, ⟨"TwigMerge$Difference", "settleAll", "()V"⟩, ⟨"TwigMerge$Difference", "settleChildren", "(II)V"⟩, ⟨"TwigMerge$Difference", "gatherKept", "(II)I"⟩, ⟨"TwigMerge$Partners", "partnerOf", "(I)I"⟩, ⟨"TwigMerge$Difference", "measureReach", "(I)I"⟩, ⟨"TwigMerge$Script", "wipe", "()V"⟩, ⟨"TwigMerge$Difference", "writeTwig", "(IIII)I"⟩, ⟨"TwigMerge$Difference", "writeNode", "(III)I"⟩, ⟨"TwigMerge$Partners", "ownerOf", "(I)I"⟩, ⟨"TwigMerge$Script", "insertNode", "(IIIII)V"⟩, ⟨"TwigMerge$Script", "write", "(IIIIII)V"⟩, ⟨"TwigMerge$Script", "updateNode", "(II)V"⟩, ⟨"TwigMerge$Script", "moveNode", "(III)V"⟩, ⟨"TwigMerge$Difference", "writeDeletes", "()V"⟩, ⟨"TwigMerge$Script", "deleteNode", "(I)V"⟩, ⟨"TwigMerge", "partner", "(I)I"⟩, ⟨"TwigMerge", "step", "(II)I"⟩, ⟨"TwigMerge$Script", "part", "(II)I"⟩, ⟨"TwigMerge", "count", "(I)I"⟩, ⟨"TwigMerge$Script", "countOf", "(I)I"⟩, ⟨"TwigMerge", "replay", "(I)I"⟩, ⟨"TwigMerge$Script", "performFirst", "(ILTwigMerge$Forest;)V"⟩, ⟨"TwigMerge$Script", "perform", "(ILTwigMerge$Forest;)V"⟩, ⟨"TwigMerge$Forest", "relabel", "(II)V"⟩, ⟨"TwigMerge$Forest", "takeOut", "(I)V"⟩, ⟨"TwigMerge$Forest", "countThere", "()I"⟩, ⟨"TwigMerge", "merge", "()I"⟩, ⟨"TwigMerge$Merger", "run", "(LTwigMerge$Forest;LTwigMerge$Forest;LTwigMerge$Forest;)I"⟩, ⟨"TwigMerge$Merger", "mergeStep", "(I)Z"⟩, ⟨"TwigMerge$Merger", "mergeInsert", "(I)Z"⟩, ⟨"TwigMerge$Merger", "meaning", "(I)I"⟩, ⟨"TwigMerge$Merger", "findTwin", "(III)I"⟩, ⟨"TwigMerge$Merger", "isPutAt", "(III)Z"⟩, ⟨"TwigMerge$Merger", "remember", "(I)V"⟩, ⟨"TwigMerge$Merger", "canPut", "(II)Z"⟩, ⟨"TwigMerge$Merger", "mergeUpdate", "(I)Z"⟩, ⟨"TwigMerge$Script", "find", "(II)I"⟩, ⟨"TwigMerge$Merger", "mergeMove", "(I)Z"⟩, ⟨"TwigMerge$Forest", "isAtOrBelow", "(II)Z"⟩, ⟨"TwigMerge$Merger", "mergeDelete", "(I)Z"⟩, ⟨"TwigMerge", "node", "(II)I"⟩, ⟨"TwigMerge", "equal", "(I)Z"⟩, ⟨"TwigMergeModel", "<init>", "()V"⟩, ⟨"TwigMergeModel", "add", "(IIII)I"⟩, ⟨"TwigMergeModel", "isTree", "(I)Z"⟩, ⟨"TwigMergeModel", "isNode", "(II)Z"⟩, ⟨"TwigMergeModel", "clear", "(I)Z"⟩, ⟨"TwigMergeModel", "size", "(I)I"⟩, ⟨"TwigMergeModel", "height", "(II)I"⟩, ⟨"TwigMergeModel", "alike", "(IIII)Z"⟩, ⟨"TwigMergeModel", "compare", "(II)V"⟩, ⟨"TwigMergeModel", "child", "(III)I"⟩, ⟨"TwigMergeModel", "diff", "(II)I"⟩, ⟨"TwigMergeModel", "work", "(II)V"⟩, ⟨"TwigMergeModel", "partners", "()V"⟩, ⟨"TwigMergeModel", "look", "()V"⟩, ⟨"TwigMergeModel", "isBelow", "(III)Z"⟩, ⟨"TwigMergeModel", "best", "()I"⟩, ⟨"TwigMergeModel", "share", "(II)I"⟩, ⟨"TwigMergeModel", "wed", "(II)V"⟩, ⟨"TwigMergeModel", "marry", "(II)V"⟩, ⟨"TwigMergeModel", "likely", "(I)I"⟩, ⟨"TwigMergeModel", "paired", "(II)V"⟩, ⟨"TwigMergeModel", "script", "()V"⟩, ⟨"TwigMergeModel", "settle", "(I)V"⟩, ⟨"TwigMergeModel", "walk", "()V"⟩, ⟨"TwigMergeModel", "put", "(IIIIII)V"⟩, ⟨"TwigMergeModel", "keep", "(I)V"⟩, ⟨"TwigMergeModel", "partner", "(I)I"⟩, ⟨"TwigMergeModel", "step", "(II)I"⟩, ⟨"TwigMergeModel", "count", "(I)I"⟩, ⟨"TwigMergeModel", "replay", "(I)I"⟩, ⟨"TwigMergeModel", "begin", "(I)V"⟩, ⟨"TwigMergeModel", "does", "(IIII)V"⟩, ⟨"TwigMergeModel", "inserted", "(IIIII)V"⟩, ⟨"TwigMergeModel", "into", "(III)V"⟩, ⟨"TwigMergeModel", "out", "(I)V"⟩, ⟨"TwigMergeModel", "nodes", "()I"⟩, ⟨"TwigMergeModel", "merge", "()I"⟩, ⟨"TwigMergeModel", "second", "(II)Z"⟩, ⟨"TwigMergeModel", "named", "(II)I"⟩, ⟨"TwigMergeModel", "adds", "(IIII)Z"⟩, ⟨"TwigMergeModel", "alikeInsert", "(IIII)I"⟩, ⟨"TwigMergeModel", "fitsUnder", "(II)Z"⟩, ⟨"TwigMergeModel", "present", "(I)Z"⟩, ⟨"TwigMergeModel", "first", "(II)I"⟩, ⟨"TwigMergeModel", "hasChildren", "(I)Z"⟩, ⟨"TwigMergeModel", "within", "(II)Z"⟩, ⟨"TwigMergeModel", "node", "(II)I"⟩, ⟨"TwigMergeModel", "equal", "(I)Z"⟩, ⟨"TwigMergeModel", "twig", "(II)I"⟩, ⟨"TwigMergeLaw", "law", "([I)Z"⟩]
def pg_y (z : Nat) : MethodName := pg_yL.getD z ⟨"", "", ""⟩
def pg_codeL : List ByteArray := [prog_1_method_1_code, prog_3_method_1_code, prog_12_method_103_code, prog_2_method_1_code, prog_5_method_1_code, prog_6_method_1_code, prog_4_method_1_code, prog_1_method_2_code, prog_1_method_15_code, prog_3_method_4_code, prog_3_method_6_code, prog_3_method_7_code, prog_3_method_8_code, prog_3_method_9_code, prog_1_method_3_code, prog_3_method_2_code, prog_1_method_4_code, prog_1_method_5_code, prog_3_method_13_code, prog_1_method_6_code, prog_3_method_15_code, prog_1_method_7_code, prog_1_method_16_code, prog_3_method_3_code, prog_2_method_2_code, prog_5_method_4_code, prog_3_method_14_code, prog_5_method_7_code, prog_5_method_8_code, prog_5_method_9_code, prog_5_method_10_code, prog_5_method_6_code, prog_5_method_11_code, prog_5_method_5_code, prog_5_method_12_code, prog_5_method_13_code, prog_9_method_49_code, prog_5_method_15_code, prog_5_method_16_code, prog_5_method_17_code, prog_5_method_14_code, prog_2_method_3_code, prog_2_method_4_code, prog_2_method_5_code, prog_5_method_2_code, prog_2_method_6_code, prog_6_method_2_code, prog_2_method_7_code, prog_2_method_8_code, prog_5_method_3_code, prog_6_method_3_code, prog_6_method_7_code, prog_6_method_4_code, prog_6_method_5_code, prog_2_method_9_code, prog_6_method_6_code, prog_1_method_8_code, prog_1_method_9_code, prog_6_method_8_code, prog_1_method_10_code, prog_6_method_9_code, prog_1_method_11_code, prog_6_method_11_code, prog_6_method_12_code, prog_3_method_11_code, prog_3_method_10_code, prog_3_method_5_code, prog_1_method_12_code, prog_4_method_2_code, prog_4_method_3_code, prog_4_method_4_code, prog_4_method_12_code, prog_4_method_8_code, prog_4_method_9_code, prog_4_method_11_code, prog_4_method_10_code, prog_4_method_5_code, prog_6_method_10_code, prog_4_method_6_code, prog_3_method_12_code, prog_4_method_7_code, prog_1_method_13_code, prog_1_method_14_code, prog_8_method_1_code, prog_8_method_4_code, prog_8_method_2_code, prog_8_method_3_code, prog_8_method_5_code, prog_8_method_6_code, prog_8_method_7_code, prog_8_method_10_code, prog_8_method_8_code, prog_8_method_9_code, prog_8_method_26_code, prog_8_method_24_code, prog_8_method_19_code, prog_8_method_13_code, prog_8_method_11_code, prog_8_method_15_code, prog_8_method_12_code, prog_8_method_16_code, prog_8_method_14_code, prog_8_method_18_code, prog_8_method_17_code, prog_8_method_23_code, prog_8_method_20_code, prog_8_method_22_code, prog_8_method_21_code, prog_8_method_25_code, prog_8_method_27_code, prog_8_method_28_code, prog_8_method_29_code, prog_8_method_36_code, prog_8_method_30_code, prog_8_method_34_code, prog_8_method_33_code, prog_8_method_32_code, prog_8_method_31_code, prog_8_method_35_code, prog_8_method_46_code, prog_8_method_44_code, prog_8_method_37_code, prog_8_method_45_code, prog_8_method_39_code, prog_8_method_41_code, prog_8_method_40_code, prog_8_method_38_code, prog_8_method_43_code, prog_8_method_42_code, prog_8_method_47_code, prog_8_method_49_code, prog_8_method_48_code, code]
def pg_code (z : Nat) : ByteArray := pg_codeL.getD z ⟨#[]⟩
/-- own class, locals, kind of answer (0 none, 1 an int, 2 a boolean), kind (0 of an object, 1 a constructor, 2 static), parameters -/
def pg_M : List (Nat × Nat × Nat × Nat × Nat) := [(0, 2, 0, 1, 0), (1, 2, 0, 1, 1), (8, 4, 0, 2, 2), (4, 1, 0, 1, 0), (3, 1, 0, 1, 0), (2, 1, 0, 1, 0), (5, 1, 0, 1, 0), (0, 9, 1, 0, 4), (0, 1, 2, 2, 1), (1, 2, 2, 0, 1), (1, 4, 1, 0, 1), (1, 4, 1, 0, 2), (1, 4, 0, 0, 3), (1, 6, 0, 0, 3), (0, 2, 2, 0, 1), (1, 1, 0, 0, 0), (0, 2, 1, 0, 1), (0, 3, 1, 0, 2), (1, 3, 0, 0, 1), (0, 5, 2, 0, 4), (1, 7, 2, 2, 5), (0, 3, 1, 0, 2), (0, 2, 2, 0, 1), (1, 2, 0, 0, 1), (4, 3, 0, 0, 2), (3, 5, 0, 0, 2), (1, 3, 0, 0, 1), (3, 3, 0, 0, 0), (3, 8, 2, 0, 0), (3, 3, 2, 0, 2), (3, 3, 1, 0, 2), (3, 6, 1, 0, 2), (3, 6, 0, 0, 3), (3, 3, 0, 0, 2), (3, 3, 0, 0, 0), (3, 9, 1, 0, 1), (9, 1, 1, 2, 1), (3, 3, 0, 0, 2), (3, 6, 0, 0, 3), (3, 8, 1, 0, 3), (3, 2, 0, 0, 0), (4, 2, 0, 0, 0), (4, 7, 0, 0, 2), (4, 6, 1, 0, 2), (3, 2, 1, 0, 1), (4, 5, 1, 0, 1), (2, 1, 0, 0, 0), (4, 8, 1, 0, 4), (4, 6, 1, 0, 3), (3, 2, 1, 0, 1), (2, 6, 0, 0, 5), (2, 7, 0, 0, 6), (2, 3, 0, 0, 2), (2, 4, 0, 0, 3), (4, 2, 0, 0, 0), (2, 2, 0, 0, 1), (0, 2, 1, 0, 1), (0, 3, 1, 0, 2), (2, 3, 1, 0, 2), (0, 2, 1, 0, 1), (2, 4, 1, 0, 1), (0, 2, 1, 0, 1), (2, 4, 0, 0, 2), (2, 4, 0, 0, 2), (1, 3, 0, 0, 2), (1, 3, 0, 0, 1), (1, 3, 1, 0, 0), (0, 2, 1, 0, 0), (5, 5, 1, 0, 3), (5, 2, 2, 0, 1), (5, 6, 2, 0, 1), (5, 3, 1, 0, 1), (5, 6, 1, 0, 3), (5, 4, 2, 0, 3), (5, 2, 0, 0, 1), (5, 5, 2, 0, 2), (5, 5, 2, 0, 1), (2, 4, 1, 0, 2), (5, 6, 2, 0, 1), (1, 5, 2, 0, 2), (5, 4, 2, 0, 1), (0, 3, 1, 0, 2), (0, 2, 2, 0, 1), (6, 1, 0, 1, 0), (6, 6, 1, 0, 4), (6, 1, 2, 2, 1), (6, 3, 2, 0, 2), (6, 2, 2, 0, 1), (6, 2, 1, 0, 1), (6, 7, 1, 0, 2), (6, 5, 2, 0, 4), (6, 9, 0, 0, 2), (6, 6, 1, 0, 3), (6, 4, 1, 0, 2), (6, 3, 0, 0, 2), (6, 4, 0, 0, 0), (6, 3, 0, 0, 0), (6, 5, 2, 0, 3), (6, 8, 1, 0, 0), (6, 5, 1, 0, 2), (6, 7, 0, 0, 2), (6, 3, 0, 0, 2), (6, 8, 1, 0, 1), (6, 8, 0, 0, 2), (6, 6, 0, 0, 0), (6, 10, 0, 0, 1), (6, 6, 0, 0, 0), (6, 8, 0, 0, 6), (6, 3, 0, 0, 1), (6, 2, 1, 0, 1), (6, 4, 1, 0, 2), (6, 4, 1, 0, 1), (6, 3, 1, 0, 1), (6, 3, 0, 0, 1), (6, 5, 0, 0, 4), (6, 6, 0, 0, 5), (6, 6, 0, 0, 3), (6, 4, 0, 0, 1), (6, 3, 1, 0, 0), (6, 2, 1, 0, 0), (6, 7, 2, 0, 2), (6, 3, 1, 0, 2), (6, 7, 2, 0, 4), (6, 7, 1, 0, 4), (6, 3, 2, 0, 2), (6, 2, 2, 0, 1), (6, 4, 1, 0, 2), (6, 4, 2, 0, 1), (6, 5, 2, 0, 2), (6, 5, 1, 0, 2), (6, 7, 2, 0, 1), (6, 5, 1, 0, 2), (7, 4, 2, 2, 1)]
def pg_own (z : Nat) : Nat := (pg_M.getD z (99, 0, 9, 9, 0)).1
def pg_maxL (z : Nat) : Nat := (pg_M.getD z (99, 0, 9, 9, 0)).2.1
def pg_rk (z : Nat) : Nat := (pg_M.getD z (99, 0, 9, 9, 0)).2.2.1
def pg_mk (z : Nat) : Nat := (pg_M.getD z (99, 0, 9, 9, 0)).2.2.2.1
def pg_np (z : Nat) : Nat := (pg_M.getD z (99, 0, 9, 9, 0)).2.2.2.2
def pg_ret (z : Nat) : Option FieldType := match pg_rk z with
  | 0 => none
  | 1 => some .int
  | _ => some .boolean
def pg_ini (z : Nat) : Bool := pg_mk z == 1
def pg_w (z : Nat) : List Cond := Cond.code (pg_y z) (pg_code z) (pg_maxL z) (pg_ret z) :: pg_words
def pg_T0 : u_T := fun k => match k with
  | 0 => ("TwigMerge", "trees", "[LTwigMerge$Forest;", true)
  | 1 => ("TwigMerge", "heights", "[I", true)
  | 2 => ("TwigMerge", "start", "LTwigMerge$Forest;", true)
  | 3 => ("TwigMerge", "latest", "LTwigMerge$Difference;", true)
  | 4 => ("TwigMerge", "merger", "LTwigMerge$Merger;", true)
  | 5 => ("TwigMerge", "result", "LTwigMerge$Forest;", true)
  | 6 => ("TwigMerge", "hasDiff", "Z", false)
  | _ => ("TwigMerge", "hasResult", "Z", false)
def pg_t0 : Nat → FieldType := fun k => match k with
  | 0 => .array (.object "TwigMerge$Forest")
  | 1 => .array .int
  | 2 => .object "TwigMerge$Forest"
  | 3 => .object "TwigMerge$Difference"
  | 4 => .object "TwigMerge$Merger"
  | 5 => .object "TwigMerge$Forest"
  | 6 => .boolean
  | _ => .boolean
def pg_T1 : u_T := fun k => match k with
  | 0 => ("TwigMerge$Forest", "parent", "[I", true)
  | 1 => ("TwigMerge$Forest", "place", "[I", true)
  | 2 => ("TwigMerge$Forest", "type", "[I", true)
  | 3 => ("TwigMerge$Forest", "label", "[I", true)
  | _ => ("TwigMerge$Forest", "used", "I", false)
def pg_t1 : Nat → FieldType := fun k => match k with
  | 0 => .array .int
  | 1 => .array .int
  | 2 => .array .int
  | 3 => .array .int
  | _ => .int
def pg_T2 : u_T := fun k => match k with
  | 0 => ("TwigMerge$Script", "parts", "[[I", true)
  | _ => ("TwigMerge$Script", "length", "I", false)
def pg_t2 : Nat → FieldType := fun k => match k with
  | 0 => .array (.array .int)
  | _ => .int
def pg_T3 : u_T := fun k => match k with
  | 0 => ("TwigMerge$Partners", "partner", "[I", true)
  | 1 => ("TwigMerge$Partners", "owner", "[I", true)
  | 2 => ("TwigMerge$Partners", "fromHeights", "[I", true)
  | 3 => ("TwigMerge$Partners", "fromBelow", "[I", true)
  | 4 => ("TwigMerge$Partners", "toBelow", "[I", true)
  | 5 => ("TwigMerge$Partners", "alikes", "[I", true)
  | 6 => ("TwigMerge$Partners", "from", "LTwigMerge$Forest;", false)
  | _ => ("TwigMerge$Partners", "to", "LTwigMerge$Forest;", false)
def pg_t3 : Nat → FieldType := fun k => match k with
  | 0 => .array .int
  | 1 => .array .int
  | 2 => .array .int
  | 3 => .array .int
  | 4 => .array .int
  | 5 => .array .int
  | 6 => .object "TwigMerge$Forest"
  | _ => .object "TwigMerge$Forest"
def pg_T4 : u_T := fun k => match k with
  | 0 => ("TwigMerge$Difference", "partners", "LTwigMerge$Partners;", true)
  | 1 => ("TwigMerge$Difference", "script", "LTwigMerge$Script;", true)
  | 2 => ("TwigMerge$Difference", "settled", "[Z", true)
  | 3 => ("TwigMerge$Difference", "row", "[I", true)
  | 4 => ("TwigMerge$Difference", "places", "[I", true)
  | 5 => ("TwigMerge$Difference", "reach", "[I", true)
  | 6 => ("TwigMerge$Difference", "from", "LTwigMerge$Forest;", false)
  | 7 => ("TwigMerge$Difference", "to", "LTwigMerge$Forest;", false)
  | _ => ("TwigMerge$Difference", "inserts", "I", false)
def pg_t4 : Nat → FieldType := fun k => match k with
  | 0 => .object "TwigMerge$Partners"
  | 1 => .object "TwigMerge$Script"
  | 2 => .array .boolean
  | 3 => .array .int
  | 4 => .array .int
  | 5 => .array .int
  | 6 => .object "TwigMerge$Forest"
  | 7 => .object "TwigMerge$Forest"
  | _ => .int
def pg_T5 : u_T := fun k => match k with
  | 0 => ("TwigMerge$Merger", "result", "LTwigMerge$Forest;", true)
  | 1 => ("TwigMerge$Merger", "toLeft", "LTwigMerge$Difference;", true)
  | 2 => ("TwigMerge$Merger", "toRight", "LTwigMerge$Difference;", true)
  | 3 => ("TwigMerge$Merger", "first", "LTwigMerge$Script;", true)
  | 4 => ("TwigMerge$Merger", "second", "LTwigMerge$Script;", true)
  | 5 => ("TwigMerge$Merger", "taken", "[Z", true)
  | 6 => ("TwigMerge$Merger", "meant", "[I", true)
  | 7 => ("TwigMerge$Merger", "baseSize", "I", false)
  | _ => ("TwigMerge$Merger", "inserts", "I", false)
def pg_t5 : Nat → FieldType := fun k => match k with
  | 0 => .object "TwigMerge$Forest"
  | 1 => .object "TwigMerge$Difference"
  | 2 => .object "TwigMerge$Difference"
  | 3 => .object "TwigMerge$Script"
  | 4 => .object "TwigMerge$Script"
  | 5 => .array .boolean
  | 6 => .array .int
  | 7 => .int
  | _ => .int
def pg_T6 : u_T := fun k => match k with
  | 0 => ("TwigMergeModel", "size", "[I", true)
  | 1 => ("TwigMergeModel", "parent", "[I", true)
  | 2 => ("TwigMergeModel", "type", "[I", true)
  | 3 => ("TwigMergeModel", "label", "[I", true)
  | 4 => ("TwigMergeModel", "mate", "[I", true)
  | 5 => ("TwigMergeModel", "back", "[I", true)
  | 6 => ("TwigMergeModel", "same", "[Z", true)
  | 7 => ("TwigMergeModel", "lowFrom", "[Z", true)
  | 8 => ("TwigMergeModel", "lowTo", "[Z", true)
  | 9 => ("TwigMergeModel", "manyFrom", "[I", true)
  | 10 => ("TwigMergeModel", "manyTo", "[I", true)
  | 11 => ("TwigMergeModel", "tall", "[I", true)
  | 12 => ("TwigMergeModel", "settled", "[Z", true)
  | 13 => ("TwigMergeModel", "stands", "[I", true)
  | 14 => ("TwigMergeModel", "row", "[I", true)
  | 15 => ("TwigMergeModel", "kids", "[I", true)
  | 16 => ("TwigMergeModel", "from", "I", false)
  | 17 => ("TwigMergeModel", "to", "I", false)
  | 18 => ("TwigMergeModel", "steps", "[I", true)
  | 19 => ("TwigMergeModel", "kind", "[I", true)
  | 20 => ("TwigMergeModel", "node", "[I", true)
  | 21 => ("TwigMergeModel", "under", "[I", true)
  | 22 => ("TwigMergeModel", "behind", "[I", true)
  | 23 => ("TwigMergeModel", "kinds", "[I", true)
  | 24 => ("TwigMergeModel", "labels", "[I", true)
  | 25 => ("TwigMergeModel", "inserts", "[I", true)
  | 26 => ("TwigMergeModel", "found", "Z", false)
  | 27 => ("TwigMergeModel", "kept", "[I", true)
  | 28 => ("TwigMergeModel", "result", "Z", false)
  | 29 => ("TwigMergeModel", "names", "I", false)
  | 30 => ("TwigMergeModel", "there", "[Z", true)
  | 31 => ("TwigMergeModel", "above", "[I", true)
  | 32 => ("TwigMergeModel", "sort", "[I", true)
  | 33 => ("TwigMergeModel", "text", "[I", true)
  | 34 => ("TwigMergeModel", "line", "[I", true)
  | 35 => ("TwigMergeModel", "length", "I", false)
  | 36 => ("TwigMergeModel", "pairs", "[I", true)
  | 37 => ("TwigMergeModel", "others", "[I", true)
  | 38 => ("TwigMergeModel", "taken", "[Z", true)
  | _ => ("TwigMergeModel", "means", "[I", true)
def pg_t6 : Nat → FieldType := fun k => match k with
  | 0 => .array .int
  | 1 => .array .int
  | 2 => .array .int
  | 3 => .array .int
  | 4 => .array .int
  | 5 => .array .int
  | 6 => .array .boolean
  | 7 => .array .boolean
  | 8 => .array .boolean
  | 9 => .array .int
  | 10 => .array .int
  | 11 => .array .int
  | 12 => .array .boolean
  | 13 => .array .int
  | 14 => .array .int
  | 15 => .array .int
  | 16 => .int
  | 17 => .int
  | 18 => .array .int
  | 19 => .array .int
  | 20 => .array .int
  | 21 => .array .int
  | 22 => .array .int
  | 23 => .array .int
  | 24 => .array .int
  | 25 => .array .int
  | 26 => .boolean
  | 27 => .array .int
  | 28 => .boolean
  | 29 => .int
  | 30 => .array .boolean
  | 31 => .array .int
  | 32 => .array .int
  | 33 => .array .int
  | 34 => .array .int
  | 35 => .int
  | 36 => .array .int
  | 37 => .array .int
  | 38 => .array .boolean
  | _ => .array .int
def pg_T (ci : Nat) : u_T := match ci with
  | 0 => pg_T0
  | 1 => pg_T1
  | 2 => pg_T2
  | 3 => pg_T3
  | 4 => pg_T4
  | 5 => pg_T5
  | _ => pg_T6
def pg_t (ci : Nat) : Nat → FieldType := match ci with
  | 0 => pg_t0
  | 1 => pg_t1
  | 2 => pg_t2
  | 3 => pg_t3
  | 4 => pg_t4
  | 5 => pg_t5
  | _ => pg_t6
def pg_NL : List Nat := [8, 5, 2, 8, 9, 9, 40]
def pg_N (ci : Nat) : Nat := pg_NL.getD ci 0
def pg_cl : List vw_C := [("TwigMerge", pg_T0, 8), ("TwigMerge$Forest", pg_T1, 5), ("TwigMerge$Script", pg_T2, 2), ("TwigMerge$Partners", pg_T3, 8), ("TwigMerge$Difference", pg_T4, 9), ("TwigMerge$Merger", pg_T5, 9), ("TwigMergeModel", pg_T6, 40)]
def am_kd (ty : FieldType) : Nat := match ty with
  | .int => 0
  | .boolean => 1
  | .object _ => 2
  | .array _ => 2
  | _ => 9
def pg_fk (ci k : Nat) : Nat := am_kd (pg_t ci k)
def pg_ff (ci k : Nat) : Bool := (pg_T ci k).2.2.2
def pg_defL : List (List Value) := [[.null, .null, .null, .null, .null, .null, .int 0, .int 0], [.null, .null, .null, .null, .int 0], [.null, .int 0], [.null, .null, .null, .null, .null, .null, .null, .null], [.null, .null, .null, .null, .null, .null, .null, .null, .int 0], [.null, .null, .null, .null, .null, .null, .null, .int 0, .int 0], [.null, .null, .null, .null, .null, .null, .null, .null, .null, .null, .null, .null, .null, .null, .null, .null, .int 0, .int 0, .null, .null, .null, .null, .null, .null, .null, .null, .int 0, .null, .int 0, .int 0, .null, .null, .null, .null, .null, .int 0, .null, .null, .null, .null]]
def pg_def (ci : Nat) : List Value := pg_defL.getD ci []
def pg_ae : Nat := 1
def pg_tys (dA : Nat → ClassId) : List (ClassId × FieldType) := [(dA 0, .int), (dA 1, .boolean), (dA 2, .object (pg_cn pg_ae)), (dA 3, .array .int)]
/-- own class, pool number, class, field, place among the words -/
def pg_fldL : List (Nat × Nat × Nat × Nat × Nat) := [(0, 11, 0, 0, 259), (0, 18, 0, 1, 260), (0, 22, 0, 2, 261), (0, 29, 0, 3, 262), (0, 36, 0, 4, 263), (0, 40, 5, 0, 231), (0, 43, 0, 5, 264), (0, 44, 0, 6, 265), (0, 48, 0, 7, 266), (0, 55, 1, 4, 115), (0, 99, 4, 1, 192), (0, 103, 2, 1, 180), (0, 108, 4, 0, 189), (0, 135, 1, 0, 101), (0, 138, 1, 1, 104), (0, 141, 1, 2, 108), (0, 144, 1, 3, 111), (1, 9, 1, 0, 97), (1, 15, 1, 1, 102), (1, 18, 1, 2, 105), (1, 21, 1, 3, 109), (1, 30, 1, 4, 113), (2, 11, 2, 0, 177), (2, 16, 2, 1, 178), (3, 9, 3, 0, 144), (3, 15, 3, 1, 145), (3, 18, 3, 2, 146), (3, 21, 3, 3, 147), (3, 24, 3, 4, 148), (3, 27, 3, 5, 149), (3, 35, 3, 6, 150), (3, 39, 3, 7, 151), (3, 68, 1, 4, 117), (3, 88, 1, 0, 99), (3, 115, 1, 2, 107), (3, 131, 1, 3, 112), (4, 12, 4, 0, 188), (4, 21, 4, 1, 190), (4, 25, 4, 2, 193), (4, 29, 4, 3, 194), (4, 33, 4, 4, 195), (4, 36, 4, 5, 196), (4, 44, 4, 6, 197), (4, 48, 4, 7, 198), (4, 51, 4, 8, 199), (4, 72, 1, 4, 116), (4, 90, 1, 0, 98), (4, 93, 1, 1, 103), (4, 108, 1, 2, 106), (4, 111, 1, 3, 110), (5, 14, 5, 0, 230), (5, 23, 5, 1, 232), (5, 27, 5, 2, 233), (5, 30, 4, 1, 191), (5, 34, 5, 3, 234), (5, 37, 5, 4, 235), (5, 40, 5, 5, 236), (5, 44, 5, 6, 237), (5, 48, 5, 7, 238), (5, 52, 5, 8, 239), (5, 59, 1, 4, 114), (5, 66, 2, 1, 179), (5, 142, 1, 0, 100), (6, 7, 6, 0, 629), (6, 13, 6, 1, 630), (6, 16, 6, 2, 631), (6, 19, 6, 3, 632), (6, 22, 6, 4, 633), (6, 25, 6, 5, 634), (6, 28, 6, 6, 635), (6, 32, 6, 7, 636), (6, 35, 6, 8, 637), (6, 38, 6, 9, 638), (6, 41, 6, 10, 639), (6, 44, 6, 11, 640), (6, 47, 6, 12, 641), (6, 50, 6, 13, 642), (6, 53, 6, 14, 643), (6, 56, 6, 15, 644), (6, 59, 6, 18, 647), (6, 62, 6, 19, 648), (6, 65, 6, 20, 649), (6, 68, 6, 21, 650), (6, 71, 6, 22, 651), (6, 74, 6, 23, 652), (6, 77, 6, 24, 653), (6, 80, 6, 25, 654), (6, 83, 6, 27, 656), (6, 86, 6, 30, 659), (6, 89, 6, 31, 660), (6, 92, 6, 32, 661), (6, 95, 6, 33, 662), (6, 98, 6, 34, 663), (6, 101, 6, 36, 665), (6, 104, 6, 37, 666), (6, 107, 6, 38, 667), (6, 110, 6, 39, 668), (6, 129, 6, 16, 645), (6, 141, 6, 17, 646), (6, 190, 6, 26, 655), (6, 194, 6, 29, 658), (6, 197, 6, 35, 664), (6, 218, 6, 28, 657)]
def pg_fld (own idx : Nat) : Option (Nat × Nat) := (pg_fldL.find? (fun q => q.1 == own && q.2.1 == idx)).map (fun q => (q.2.2.1, q.2.2.2.1))
/-- own class, pool number, method, place among the words, a nest mate's -/
def pg_mthL : List (Nat × Nat × Nat × Nat × Nat) := [(0, 3, 1000, 84, 0), (0, 15, 1, 90, 0), (0, 28, 3, 132, 0), (0, 35, 6, 222, 0), (0, 51, 8, 288, 0), (0, 59, 9, 291, 0), (0, 62, 10, 295, 0), (0, 66, 11, 299, 0), (0, 70, 12, 303, 0), (0, 74, 13, 310, 0), (0, 77, 15, 319, 0), (0, 80, 18, 331, 0), (0, 84, 20, 339, 1), (0, 88, 22, 349, 0), (0, 91, 23, 353, 0), (0, 95, 24, 364, 0), (0, 112, 44, 505, 0), (0, 117, 58, 510, 0), (0, 120, 60, 518, 0), (0, 123, 62, 526, 0), (0, 127, 66, 544, 0), (0, 131, 68, 552, 0), (1, 3, 1000, 93, 0), (1, 24, 2, 94, 0), (1, 34, 15, 357, 0), (1, 37, 1002, 358, 0), (1, 43, 1003, 361, 0), (1, 49, 1001, 307, 0), (1, 52, 9, 314, 0), (1, 56, 10, 342, 0), (1, 60, 11, 343, 0), (1, 63, 20, 344, 0), (2, 3, 1000, 174, 0), (2, 20, 51, 481, 0), (2, 24, 63, 530, 0), (2, 28, 12, 534, 0), (2, 34, 13, 535, 0), (2, 37, 64, 536, 0), (2, 41, 65, 540, 0), (3, 3, 1000, 141, 0), (3, 32, 1, 143, 0), (3, 42, 2, 372, 0), (3, 48, 18, 373, 0), (3, 52, 26, 374, 0), (3, 55, 27, 378, 0), (3, 58, 28, 383, 0), (3, 62, 34, 410, 0), (3, 65, 40, 436, 0), (3, 72, 20, 382, 1), (3, 76, 29, 387, 0), (3, 80, 30, 391, 0), (3, 84, 32, 399, 0), (3, 91, 31, 395, 0), (3, 94, 9, 403, 0), (3, 98, 33, 404, 0), (3, 102, 10, 408, 0), (3, 106, 11, 409, 0), (3, 109, 35, 414, 0), (3, 112, 37, 424, 0), (3, 118, 36, 418, 0), (3, 123, 38, 428, 0), (3, 127, 39, 432, 0), (4, 3, 1000, 135, 0), (4, 11, 4, 138, 0), (4, 20, 5, 171, 0), (4, 41, 1, 187, 0), (4, 55, 25, 368, 0), (4, 59, 41, 440, 0), (4, 62, 46, 461, 0), (4, 65, 47, 465, 0), (4, 69, 54, 493, 0), (4, 75, 42, 444, 0), (4, 79, 44, 452, 0), (4, 83, 43, 448, 0), (4, 87, 45, 456, 0), (4, 96, 1001, 460, 0), (4, 101, 48, 469, 0), (4, 105, 49, 473, 0), (4, 114, 50, 477, 0), (4, 118, 52, 485, 0), (4, 121, 53, 489, 0), (4, 125, 55, 497, 0), (5, 3, 1000, 225, 0), (5, 11, 1, 227, 0), (5, 22, 3, 229, 0), (5, 55, 24, 556, 0), (5, 62, 23, 557, 0), (5, 71, 62, 558, 0), (5, 75, 69, 559, 0), (5, 79, 58, 563, 0), (5, 83, 70, 564, 0), (5, 86, 76, 592, 0), (5, 89, 78, 601, 0), (5, 92, 80, 610, 0), (5, 95, 71, 568, 0), (5, 99, 72, 572, 0), (5, 103, 74, 580, 0), (5, 106, 60, 584, 0), (5, 109, 75, 585, 0), (5, 113, 12, 590, 0), (5, 117, 13, 591, 0), (5, 120, 9, 589, 0), (5, 123, 77, 596, 0), (5, 125, 64, 600, 0), (5, 129, 73, 576, 0), (5, 133, 79, 605, 0), (5, 136, 65, 609, 0), (5, 139, 10, 614, 0), (6, 1, 1000, 628, 0), (6, 113, 85, 754, 0), (6, 117, 86, 757, 0), (6, 121, 92, 781, 0), (6, 125, 91, 777, 0), (6, 133, 89, 801, 0), (6, 137, 97, 802, 0), (6, 144, 99, 810, 0), (6, 147, 101, 818, 0), (6, 150, 96, 797, 0), (6, 153, 98, 806, 0), (6, 157, 100, 814, 0), (6, 160, 102, 822, 0), (6, 164, 103, 826, 0), (6, 167, 105, 834, 0), (6, 171, 106, 838, 0), (6, 174, 107, 842, 0), (6, 178, 95, 793, 0), (6, 181, 104, 830, 0), (6, 184, 94, 789, 0), (6, 187, 108, 846, 0), (6, 200, 116, 878, 0), (6, 204, 115, 874, 0), (6, 208, 117, 882, 0), (6, 211, 113, 866, 0), (6, 214, 114, 870, 0), (6, 221, 118, 886, 0), (6, 224, 125, 914, 0), (6, 227, 121, 898, 0), (6, 230, 122, 902, 0), (6, 234, 126, 918, 0), (6, 237, 127, 922, 0), (6, 240, 124, 910, 0), (6, 243, 128, 926, 0), (6, 246, 123, 906, 0), (6, 250, 120, 894, 0), (6, 253, 131, 938, 0), (7, 9, 0, 81, 0), (7, 12, 83, 625, 0), (7, 13, 7, 284, 0), (7, 17, 84, 750, 0), (7, 18, 14, 315, 0), (7, 22, 87, 761, 0), (7, 23, 16, 323, 0), (7, 27, 88, 765, 0), (7, 28, 17, 327, 0), (7, 32, 89, 769, 0), (7, 33, 19, 335, 0), (7, 37, 90, 773, 0), (7, 38, 21, 345, 0), (7, 41, 93, 785, 0), (7, 42, 56, 501, 0), (7, 45, 109, 850, 0), (7, 46, 57, 506, 0), (7, 49, 110, 854, 0), (7, 50, 59, 514, 0), (7, 53, 111, 858, 0), (7, 54, 61, 522, 0), (7, 57, 112, 862, 0), (7, 58, 67, 548, 0), (7, 62, 119, 890, 0), (7, 63, 81, 615, 0), (7, 66, 129, 930, 0), (7, 67, 82, 619, 0), (7, 70, 130, 934, 0)]
def pg_mth (own idx : Nat) : Option Nat := (pg_mthL.find? (fun q => q.1 == own && q.2.1 == idx)).map (fun q => q.2.2.1)
def pg_newL : List (Nat × Nat × Nat × Nat) := [(0, 9, 1, 87), (0, 26, 4, 130), (0, 33, 5, 220), (4, 9, 3, 136), (4, 18, 2, 169), (4, 39, 1, 186), (5, 9, 1, 226), (5, 20, 4, 228), (3, 30, 1, 142), (7, 7, 0, 79), (7, 10, 6, 623)]
def pg_new (own idx : Nat) : Option Nat := (pg_newL.find? (fun q => q.1 == own && q.2.1 == idx)).map (fun q => q.2.2.1)
def pg_ana (own idx : Nat) : Bool := pg_newL.any (fun q => q.1 == own && q.2.1 == idx && q.2.2.1 == pg_ae)
def pg_mna (own idx : Nat) : Bool := own == 2 && idx == 9
def pg_ldcL : List (Nat × Nat × Int32 × Nat) := [(9, 265, 1431655765, 421), (9, 266, 858993459, 422), (9, 267, 252645135, 423)]
def pg_ldc (own idx : Nat) : Option Int32 := (pg_ldcL.find? (fun q => q.1 == own && q.2.1 == idx)).map (fun q => q.2.2.1)
def pg_Z : List (Nat × Nat × Nat × Nat) := [(83, 82, 0, 68), (92, 91, 0, 69), (96, 95, 0, 70), (134, 133, 0, 71), (140, 139, 0, 72), (173, 172, 0, 73), (224, 223, 0, 74), (287, 285, 286, 68), (290, 289, 0, 68), (294, 292, 293, 69), (298, 296, 297, 69), (302, 300, 301, 69), (306, 304, 305, 69), (313, 311, 312, 69), (318, 316, 317, 68), (322, 320, 321, 69), (326, 324, 325, 68), (330, 328, 329, 68), (334, 332, 333, 69), (338, 336, 337, 68), (341, 340, 0, 69), (348, 346, 347, 68), (352, 351, 0, 68), (356, 354, 355, 69), (367, 365, 366, 71), (371, 369, 370, 72), (377, 375, 376, 69), (381, 380, 1, 72), (386, 385, 2, 72), (390, 389, 3, 72), (394, 393, 4, 72), (398, 397, 5, 72), (402, 401, 6, 72), (407, 406, 7, 72), (413, 412, 8, 72), (417, 416, 9, 72), (420, 419, 0, 78), (427, 426, 10, 72), (431, 430, 11, 72), (435, 434, 12, 72), (439, 438, 13, 72), (443, 442, 14, 71), (447, 446, 15, 71), (451, 450, 16, 71), (455, 453, 454, 72), (459, 458, 17, 71), (464, 462, 463, 73), (468, 467, 18, 71), (472, 471, 19, 71), (476, 474, 475, 72), (480, 478, 479, 73), (484, 483, 20, 73), (488, 486, 487, 73), (492, 490, 491, 73), (496, 495, 21, 71), (500, 498, 499, 73), (504, 502, 503, 68), (509, 507, 508, 68), (513, 511, 512, 73), (517, 515, 516, 68), (521, 519, 520, 73), (525, 523, 524, 68), (529, 527, 528, 73), (533, 532, 22, 73), (539, 537, 538, 69), (543, 541, 542, 69), (547, 545, 546, 69), (551, 549, 550, 68), (555, 553, 554, 74), (562, 561, 23, 74), (567, 566, 24, 74), (571, 570, 25, 74), (575, 574, 26, 74), (579, 578, 27, 74), (583, 582, 28, 74), (588, 587, 29, 74), (595, 594, 30, 74), (599, 597, 598, 73), (604, 603, 31, 74), (608, 606, 607, 69), (613, 612, 32, 74), (618, 616, 617, 68), (622, 620, 621, 68), (627, 626, 0, 75), (753, 751, 752, 75), (756, 755, 0, 75), (760, 759, 33, 75), (764, 762, 763, 75), (768, 766, 767, 75), (772, 770, 771, 75), (776, 774, 775, 75), (780, 779, 34, 75), (784, 783, 35, 75), (788, 786, 787, 75), (792, 791, 36, 75), (796, 795, 37, 75), (800, 799, 38, 75), (805, 804, 39, 75), (809, 808, 40, 75), (813, 812, 41, 75), (817, 816, 42, 75), (821, 820, 43, 75), (825, 824, 44, 75), (829, 828, 45, 75), (833, 832, 46, 75), (837, 836, 47, 75), (841, 840, 48, 75), (845, 844, 49, 75), (849, 848, 50, 75), (853, 851, 852, 75), (857, 855, 856, 75), (861, 859, 860, 75), (865, 863, 864, 75), (869, 868, 51, 75), (873, 872, 52, 75), (877, 876, 53, 75), (881, 880, 54, 75), (885, 884, 55, 75), (889, 888, 56, 75), (893, 891, 892, 75), (897, 896, 57, 75), (901, 900, 58, 75), (905, 904, 59, 75), (909, 908, 60, 75), (913, 912, 61, 75), (917, 916, 62, 75), (921, 920, 63, 75), (925, 924, 64, 75), (929, 928, 65, 75), (933, 931, 932, 75), (937, 935, 936, 75), (941, 940, 66, 75)]
def pg_zi (z : Nat) : Nat × Nat × Nat × Nat := pg_Z.getD z (0, 0, 0, 0)
end
section
/-! What the tables say, checked by program -/
def pg_is (w : Nat) (q : Cond) : Bool := decide (lw_tbl[w]? = some q) && pg_gd q
theorem pg_is_mem {w : Nat} {q : Cond} (h : pg_is w q = true) : q ∈ pg_words := by
  simp only [pg_is, Bool.and_eq_true] at h
  exact List.mem_filter.mpr ⟨List.mem_of_getElem? (of_decide_eq_true h.1), h.2⟩
theorem pg_good : ∀ w ∈ pg_words, (w.onTables && w.keeps) = true ∨ ∃ ty, w = .arrayClass ty := by
  intro w hw
  have h1 := (List.mem_filter.mp hw).2
  unfold pg_gd at h1
  rw [Bool.or_eq_true] at h1
  rcases h1 with h1 | h1
  · exact Or.inl h1
  · right; split at h1; exact ⟨_, rfl⟩; cases h1
theorem pg_in0 : ∀ w ∈ u_ws "TwigMerge" pg_T0 8, w ∈ pg_words := by
  have h : (List.range 8).all (fun k => pg_is ([267, 269, 271, 273, 275, 277, 279, 281].getD k 0) (u_lay "TwigMerge" pg_T0 k)) = true := by decide +kernel
  intro w hw
  obtain ⟨k, hk, rfl⟩ := List.mem_map.mp hw
  exact pg_is_mem (List.all_eq_true.mp h k hk)
theorem pg_nm0 : ∀ a, a < 8 → ∀ b, b < 8 → a ≠ b → (pg_T0 a).2.1 ≠ (pg_T0 b).2.1 := by decide +kernel
theorem pg_ty0 : ∀ k, k < 8 → parseFieldDescriptor (pg_T0 k).2.2.1 = some (pg_t0 k) := by decide +kernel
theorem pg_de0 : ∀ k, k < 8 → (pg_T0 k).1 = "TwigMerge" := by decide +kernel
theorem pg_df0 : ∀ k, k < 8 → defaultValue (pg_t0 k) = vp_V (pg_def 0) k := by decide +kernel
theorem pg_in1 : ∀ w ∈ u_ws "TwigMerge$Forest" pg_T1 5, w ∈ pg_words := by
  have h : (List.range 5).all (fun k => pg_is ([118, 120, 122, 124, 126].getD k 0) (u_lay "TwigMerge$Forest" pg_T1 k)) = true := by decide +kernel
  intro w hw
  obtain ⟨k, hk, rfl⟩ := List.mem_map.mp hw
  exact pg_is_mem (List.all_eq_true.mp h k hk)
theorem pg_nm1 : ∀ a, a < 5 → ∀ b, b < 5 → a ≠ b → (pg_T1 a).2.1 ≠ (pg_T1 b).2.1 := by decide +kernel
theorem pg_ty1 : ∀ k, k < 5 → parseFieldDescriptor (pg_T1 k).2.2.1 = some (pg_t1 k) := by decide +kernel
theorem pg_de1 : ∀ k, k < 5 → (pg_T1 k).1 = "TwigMerge$Forest" := by decide +kernel
theorem pg_df1 : ∀ k, k < 5 → defaultValue (pg_t1 k) = vp_V (pg_def 1) k := by decide +kernel
theorem pg_in2 : ∀ w ∈ u_ws "TwigMerge$Script" pg_T2 2, w ∈ pg_words := by
  have h : (List.range 2).all (fun k => pg_is ([181, 183].getD k 0) (u_lay "TwigMerge$Script" pg_T2 k)) = true := by decide +kernel
  intro w hw
  obtain ⟨k, hk, rfl⟩ := List.mem_map.mp hw
  exact pg_is_mem (List.all_eq_true.mp h k hk)
theorem pg_nm2 : ∀ a, a < 2 → ∀ b, b < 2 → a ≠ b → (pg_T2 a).2.1 ≠ (pg_T2 b).2.1 := by decide +kernel
theorem pg_ty2 : ∀ k, k < 2 → parseFieldDescriptor (pg_T2 k).2.2.1 = some (pg_t2 k) := by decide +kernel
theorem pg_de2 : ∀ k, k < 2 → (pg_T2 k).1 = "TwigMerge$Script" := by decide +kernel
theorem pg_df2 : ∀ k, k < 2 → defaultValue (pg_t2 k) = vp_V (pg_def 2) k := by decide +kernel
theorem pg_in3 : ∀ w ∈ u_ws "TwigMerge$Partners" pg_T3 8, w ∈ pg_words := by
  have h : (List.range 8).all (fun k => pg_is ([152, 154, 156, 158, 160, 162, 164, 166].getD k 0) (u_lay "TwigMerge$Partners" pg_T3 k)) = true := by decide +kernel
  intro w hw
  obtain ⟨k, hk, rfl⟩ := List.mem_map.mp hw
  exact pg_is_mem (List.all_eq_true.mp h k hk)
theorem pg_nm3 : ∀ a, a < 8 → ∀ b, b < 8 → a ≠ b → (pg_T3 a).2.1 ≠ (pg_T3 b).2.1 := by decide +kernel
theorem pg_ty3 : ∀ k, k < 8 → parseFieldDescriptor (pg_T3 k).2.2.1 = some (pg_t3 k) := by decide +kernel
theorem pg_de3 : ∀ k, k < 8 → (pg_T3 k).1 = "TwigMerge$Partners" := by decide +kernel
theorem pg_df3 : ∀ k, k < 8 → defaultValue (pg_t3 k) = vp_V (pg_def 3) k := by decide +kernel
theorem pg_in4 : ∀ w ∈ u_ws "TwigMerge$Difference" pg_T4 9, w ∈ pg_words := by
  have h : (List.range 9).all (fun k => pg_is ([200, 202, 204, 206, 208, 210, 212, 214, 216].getD k 0) (u_lay "TwigMerge$Difference" pg_T4 k)) = true := by decide +kernel
  intro w hw
  obtain ⟨k, hk, rfl⟩ := List.mem_map.mp hw
  exact pg_is_mem (List.all_eq_true.mp h k hk)
theorem pg_nm4 : ∀ a, a < 9 → ∀ b, b < 9 → a ≠ b → (pg_T4 a).2.1 ≠ (pg_T4 b).2.1 := by decide +kernel
theorem pg_ty4 : ∀ k, k < 9 → parseFieldDescriptor (pg_T4 k).2.2.1 = some (pg_t4 k) := by decide +kernel
theorem pg_de4 : ∀ k, k < 9 → (pg_T4 k).1 = "TwigMerge$Difference" := by decide +kernel
theorem pg_df4 : ∀ k, k < 9 → defaultValue (pg_t4 k) = vp_V (pg_def 4) k := by decide +kernel
theorem pg_in5 : ∀ w ∈ u_ws "TwigMerge$Merger" pg_T5 9, w ∈ pg_words := by
  have h : (List.range 9).all (fun k => pg_is ([240, 242, 244, 246, 248, 250, 252, 254, 256].getD k 0) (u_lay "TwigMerge$Merger" pg_T5 k)) = true := by decide +kernel
  intro w hw
  obtain ⟨k, hk, rfl⟩ := List.mem_map.mp hw
  exact pg_is_mem (List.all_eq_true.mp h k hk)
theorem pg_nm5 : ∀ a, a < 9 → ∀ b, b < 9 → a ≠ b → (pg_T5 a).2.1 ≠ (pg_T5 b).2.1 := by decide +kernel
theorem pg_ty5 : ∀ k, k < 9 → parseFieldDescriptor (pg_T5 k).2.2.1 = some (pg_t5 k) := by decide +kernel
theorem pg_de5 : ∀ k, k < 9 → (pg_T5 k).1 = "TwigMerge$Merger" := by decide +kernel
theorem pg_df5 : ∀ k, k < 9 → defaultValue (pg_t5 k) = vp_V (pg_def 5) k := by decide +kernel
theorem pg_in6 : ∀ w ∈ u_ws "TwigMergeModel" pg_T6 40, w ∈ pg_words := by
  have h : (List.range 40).all (fun k => pg_is ([669, 671, 673, 675, 677, 679, 681, 683, 685, 687, 689, 691, 693, 695, 697, 699, 701, 703, 705, 707, 709, 711, 713, 715, 717, 719, 721, 723, 725, 727, 729, 731, 733, 735, 737, 739, 741, 743, 745, 747].getD k 0) (u_lay "TwigMergeModel" pg_T6 k)) = true := by decide +kernel
  intro w hw
  obtain ⟨k, hk, rfl⟩ := List.mem_map.mp hw
  exact pg_is_mem (List.all_eq_true.mp h k hk)
theorem pg_nm6 : ∀ a, a < 40 → ∀ b, b < 40 → a ≠ b → (pg_T6 a).2.1 ≠ (pg_T6 b).2.1 := by decide +kernel
theorem pg_ty6 : ∀ k, k < 40 → parseFieldDescriptor (pg_T6 k).2.2.1 = some (pg_t6 k) := by decide +kernel
theorem pg_de6 : ∀ k, k < 40 → (pg_T6 k).1 = "TwigMergeModel" := by decide +kernel
theorem pg_df6 : ∀ k, k < 40 → defaultValue (pg_t6 k) = vp_V (pg_def 6) k := by decide +kernel
theorem pg_cls {ci : Nat} (h : ci < 7) : pg_cl[ci]? = some (pg_cn ci, pg_T ci, pg_N ci) ∧ (∀ w ∈ u_ws (pg_cn ci) (pg_T ci) (pg_N ci), w ∈ pg_words) ∧ (∀ a, a < pg_N ci → ∀ b, b < pg_N ci → a ≠ b → (pg_T ci a).2.1 ≠ (pg_T ci b).2.1) ∧ (∀ k, k < pg_N ci → parseFieldDescriptor (pg_T ci k).2.2.1 = some (pg_t ci k)) ∧ (∀ k, k < pg_N ci → (pg_T ci k).1 = pg_cn ci) ∧ (∀ k, k < pg_N ci → defaultValue (pg_t ci k) = vp_V (pg_def ci) k) ∧ (pg_def ci).length = pg_N ci := by
  match ci, h with
  | 0, _ => exact ⟨rfl, pg_in0, pg_nm0, pg_ty0, pg_de0, pg_df0, rfl⟩
  | 1, _ => exact ⟨rfl, pg_in1, pg_nm1, pg_ty1, pg_de1, pg_df1, rfl⟩
  | 2, _ => exact ⟨rfl, pg_in2, pg_nm2, pg_ty2, pg_de2, pg_df2, rfl⟩
  | 3, _ => exact ⟨rfl, pg_in3, pg_nm3, pg_ty3, pg_de3, pg_df3, rfl⟩
  | 4, _ => exact ⟨rfl, pg_in4, pg_nm4, pg_ty4, pg_de4, pg_df4, rfl⟩
  | 5, _ => exact ⟨rfl, pg_in5, pg_nm5, pg_ty5, pg_de5, pg_df5, rfl⟩
  | 6, _ => exact ⟨rfl, pg_in6, pg_nm6, pg_ty6, pg_de6, pg_df6, rfl⟩
def pg_fchk (q : Nat × Nat × Nat × Nat × Nat) : Bool := decide (q.2.2.1 < 7) && decide (q.2.2.2.1 < pg_N q.2.2.1) && pg_is q.2.2.2.2 (.fieldLink (pg_cn q.1) q.2.1 (pg_T q.2.2.1 q.2.2.2.1).1 (pg_T q.2.2.1 q.2.2.2.1).2.1 (pg_T q.2.2.1 q.2.2.2.1).2.2.1)
theorem pg_fall : pg_fldL.all pg_fchk = true := by decide +kernel
theorem pg_fld_ok {own idx ci k : Nat} (h : pg_fld own idx = some (ci, k)) : ∃ (C : String) (T : u_T) (N : Nat) (ty : Nat → FieldType), pg_cl[ci]? = some (C, T, N) ∧ k < N ∧ (∀ w ∈ u_ws C T N, w ∈ pg_words) ∧ Cond.fieldLink (pg_cn own) idx (T k).1 (T k).2.1 (T k).2.2.1 ∈ pg_words ∧ (∀ j, j < N → parseFieldDescriptor (T j).2.2.1 = some (ty j)) ∧ (∀ a, a < N → ∀ b, b < N → a ≠ b → (T a).2.1 ≠ (T b).2.1) ∧ am_kd (ty k) = pg_fk ci k ∧ (T k).2.2.2 = pg_ff ci k ∧ (T k).1 = C ∧ C = pg_cn ci := by
  unfold pg_fld at h
  obtain ⟨q, hq, he⟩ := Option.map_eq_some_iff.mp h
  have h1 := List.find?_some hq
  have h2 := List.all_eq_true.mp pg_fall q (List.mem_of_find?_eq_some hq)
  simp only [Bool.and_eq_true, beq_iff_eq] at h1
  simp only [pg_fchk, Bool.and_eq_true, decide_eq_true_eq] at h2
  obtain ⟨e1, e2⟩ := Prod.mk.inj he
  obtain ⟨rfl, rfl⟩ := h1
  subst e1; subst e2
  obtain ⟨c1, c2, c3, c4, c5, c6, c7⟩ := pg_cls h2.1.1
  exact ⟨_, _, _, pg_t q.2.2.1, c1, h2.1.2, c2, pg_is_mem h2.2, c4, c3, rfl, rfl, c5 _ h2.1.2, rfl⟩
def pg_nchk (q : Nat × Nat × Nat × Nat) : Bool := decide (q.2.2.1 < 7) && pg_is q.2.2.2 (.classLink (pg_cn q.1) q.2.1 (pg_cn q.2.2.1)) && pg_is ([80, 89, 170, 137, 131, 221, 624].getD q.2.2.1 0) (.instantiable (pg_cn q.2.2.1) (pg_N q.2.2.1)) && pg_is ([68, 69, 73, 72, 71, 74, 75].getD q.2.2.1 0) (.initialized (pg_cn q.2.2.1))
theorem pg_nall : pg_newL.all pg_nchk = true := by decide +kernel
theorem pg_new_ok {own idx ci : Nat} (h : pg_new own idx = some ci) : ∃ (C : String) (T : u_T) (N : Nat) (ty : Nat → FieldType), pg_cl[ci]? = some (C, T, N) ∧ (∀ w ∈ u_ws C T N, w ∈ pg_words) ∧ (∀ j, j < N → parseFieldDescriptor (T j).2.2.1 = some (ty j)) ∧ Cond.classLink (pg_cn own) idx C ∈ pg_words ∧ Cond.instantiable C N ∈ pg_words ∧ Cond.initialized C ∈ pg_words ∧ (pg_def ci).length = N ∧ (∀ j, j < N → defaultValue (ty j) = vp_V (pg_def ci) j) ∧ ci < 7 := by
  unfold pg_new at h
  obtain ⟨q, hq, he⟩ := Option.map_eq_some_iff.mp h
  have h1 := List.find?_some hq
  have h2 := List.all_eq_true.mp pg_nall q (List.mem_of_find?_eq_some hq)
  simp only [Bool.and_eq_true, beq_iff_eq] at h1
  simp only [pg_nchk, Bool.and_eq_true, decide_eq_true_eq] at h2
  obtain ⟨rfl, rfl⟩ := h1
  subst he
  obtain ⟨c1, c2, c3, c4, c5, c6, c7⟩ := pg_cls h2.1.1.1
  exact ⟨_, _, _, pg_t q.2.2.1, c1, c2, c4, pg_is_mem h2.1.1.2, pg_is_mem h2.1.2, pg_is_mem h2.2, c7, c6, h2.1.1.1⟩
theorem pg_ac_int : Cond.arrayClass (newarray.typeOf .int) ∈ pg_words := pg_is_mem (w := 129) (by decide +kernel)
theorem pg_ac_bool : Cond.arrayClass (newarray.typeOf .boolean) ∈ pg_words := pg_is_mem (w := 219) (by decide +kernel)
theorem pg_ov_obj : Cond.arrayOver (.object (pg_cn pg_ae)) ∈ lw_tbl := List.mem_of_getElem? (i := 88) (by decide +kernel)
theorem pg_ov_arr : Cond.arrayOver (.array .int) ∈ lw_tbl := List.mem_of_getElem? (i := 176) (by decide +kernel)
theorem pg_ana_ok {own idx : Nat} (h : pg_ana own idx = true) : Cond.classLink (pg_cn own) idx (pg_cn pg_ae) ∈ pg_words := by
  unfold pg_ana at h
  obtain ⟨q, hq, h1⟩ := List.any_eq_true.mp h
  have h2 := List.all_eq_true.mp pg_nall q hq
  simp only [Bool.and_eq_true, beq_iff_eq] at h1
  simp only [pg_nchk, Bool.and_eq_true, decide_eq_true_eq] at h2
  obtain ⟨⟨rfl, rfl⟩, e⟩ := h1
  rw [← e]
  exact pg_is_mem h2.1.1.2
theorem pg_mna_ok {own idx : Nat} (h : pg_mna own idx = true) : Cond.classLink (pg_cn own) idx ("[" ++ (FieldType.array .int).toString) ∈ pg_words := by
  simp only [pg_mna, Bool.and_eq_true, beq_iff_eq] at h
  obtain ⟨rfl, rfl⟩ := h
  exact pg_is_mem (w := 175) (by decide +kernel)
theorem pg_ae_ok : ∃ (T : u_T) (N : Nat), pg_cl[pg_ae]? = some (pg_cn pg_ae, T, N) := ⟨_, _, rfl⟩
def pg_lchk (q : Nat × Nat × Int32 × Nat) : Bool := pg_is q.2.2.2 (.constant (pg_cn q.1) q.2.1 q.2.2.1)
theorem pg_lall : pg_ldcL.all pg_lchk = true := by decide +kernel
theorem pg_ldc_ok {own idx : Nat} {v : Int32} (h : pg_ldc own idx = some v) : Cond.constant (pg_cn own) idx v ∈ pg_words := by
  unfold pg_ldc at h
  obtain ⟨q, hq, he⟩ := Option.map_eq_some_iff.mp h
  have h1 := List.find?_some hq
  have h2 := List.all_eq_true.mp pg_lall q (List.mem_of_find?_eq_some hq)
  simp only [Bool.and_eq_true, beq_iff_eq] at h1
  obtain ⟨rfl, rfl⟩ := h1
  subst he
  exact pg_is_mem h2
set_option maxRecDepth 100000 in
theorem pg_c0 : Cond.code (pg_y 0) (pg_code 0) (pg_maxL 0) (pg_ret 0) ∈ lw_tbl := List.mem_of_getElem? (i := 83) rfl
set_option maxRecDepth 100000 in
theorem pg_c1 : Cond.code (pg_y 1) (pg_code 1) (pg_maxL 1) (pg_ret 1) ∈ lw_tbl := List.mem_of_getElem? (i := 92) rfl
set_option maxRecDepth 100000 in
theorem pg_c2 : Cond.code (pg_y 2) (pg_code 2) (pg_maxL 2) (pg_ret 2) ∈ lw_tbl := List.mem_of_getElem? (i := 96) rfl
set_option maxRecDepth 100000 in
theorem pg_c3 : Cond.code (pg_y 3) (pg_code 3) (pg_maxL 3) (pg_ret 3) ∈ lw_tbl := List.mem_of_getElem? (i := 134) rfl
set_option maxRecDepth 100000 in
theorem pg_c4 : Cond.code (pg_y 4) (pg_code 4) (pg_maxL 4) (pg_ret 4) ∈ lw_tbl := List.mem_of_getElem? (i := 140) rfl
set_option maxRecDepth 100000 in
theorem pg_c5 : Cond.code (pg_y 5) (pg_code 5) (pg_maxL 5) (pg_ret 5) ∈ lw_tbl := List.mem_of_getElem? (i := 173) rfl
set_option maxRecDepth 100000 in
theorem pg_c6 : Cond.code (pg_y 6) (pg_code 6) (pg_maxL 6) (pg_ret 6) ∈ lw_tbl := List.mem_of_getElem? (i := 224) rfl
set_option maxRecDepth 100000 in
theorem pg_c7 : Cond.code (pg_y 7) (pg_code 7) (pg_maxL 7) (pg_ret 7) ∈ lw_tbl := List.mem_of_getElem? (i := 287) rfl
set_option maxRecDepth 100000 in
theorem pg_c8 : Cond.code (pg_y 8) (pg_code 8) (pg_maxL 8) (pg_ret 8) ∈ lw_tbl := List.mem_of_getElem? (i := 290) rfl
set_option maxRecDepth 100000 in
theorem pg_c9 : Cond.code (pg_y 9) (pg_code 9) (pg_maxL 9) (pg_ret 9) ∈ lw_tbl := List.mem_of_getElem? (i := 294) rfl
set_option maxRecDepth 100000 in
theorem pg_c10 : Cond.code (pg_y 10) (pg_code 10) (pg_maxL 10) (pg_ret 10) ∈ lw_tbl := List.mem_of_getElem? (i := 298) rfl
set_option maxRecDepth 100000 in
theorem pg_c11 : Cond.code (pg_y 11) (pg_code 11) (pg_maxL 11) (pg_ret 11) ∈ lw_tbl := List.mem_of_getElem? (i := 302) rfl
set_option maxRecDepth 100000 in
theorem pg_c12 : Cond.code (pg_y 12) (pg_code 12) (pg_maxL 12) (pg_ret 12) ∈ lw_tbl := List.mem_of_getElem? (i := 306) rfl
set_option maxRecDepth 100000 in
theorem pg_c13 : Cond.code (pg_y 13) (pg_code 13) (pg_maxL 13) (pg_ret 13) ∈ lw_tbl := List.mem_of_getElem? (i := 313) rfl
set_option maxRecDepth 100000 in
theorem pg_c14 : Cond.code (pg_y 14) (pg_code 14) (pg_maxL 14) (pg_ret 14) ∈ lw_tbl := List.mem_of_getElem? (i := 318) rfl
set_option maxRecDepth 100000 in
theorem pg_c15 : Cond.code (pg_y 15) (pg_code 15) (pg_maxL 15) (pg_ret 15) ∈ lw_tbl := List.mem_of_getElem? (i := 322) rfl
set_option maxRecDepth 100000 in
theorem pg_c16 : Cond.code (pg_y 16) (pg_code 16) (pg_maxL 16) (pg_ret 16) ∈ lw_tbl := List.mem_of_getElem? (i := 326) rfl
set_option maxRecDepth 100000 in
theorem pg_c17 : Cond.code (pg_y 17) (pg_code 17) (pg_maxL 17) (pg_ret 17) ∈ lw_tbl := List.mem_of_getElem? (i := 330) rfl
set_option maxRecDepth 100000 in
theorem pg_c18 : Cond.code (pg_y 18) (pg_code 18) (pg_maxL 18) (pg_ret 18) ∈ lw_tbl := List.mem_of_getElem? (i := 334) rfl
set_option maxRecDepth 100000 in
theorem pg_c19 : Cond.code (pg_y 19) (pg_code 19) (pg_maxL 19) (pg_ret 19) ∈ lw_tbl := List.mem_of_getElem? (i := 338) rfl
set_option maxRecDepth 100000 in
theorem pg_c20 : Cond.code (pg_y 20) (pg_code 20) (pg_maxL 20) (pg_ret 20) ∈ lw_tbl := List.mem_of_getElem? (i := 341) rfl
set_option maxRecDepth 100000 in
theorem pg_c21 : Cond.code (pg_y 21) (pg_code 21) (pg_maxL 21) (pg_ret 21) ∈ lw_tbl := List.mem_of_getElem? (i := 348) rfl
set_option maxRecDepth 100000 in
theorem pg_c22 : Cond.code (pg_y 22) (pg_code 22) (pg_maxL 22) (pg_ret 22) ∈ lw_tbl := List.mem_of_getElem? (i := 352) rfl
set_option maxRecDepth 100000 in
theorem pg_c23 : Cond.code (pg_y 23) (pg_code 23) (pg_maxL 23) (pg_ret 23) ∈ lw_tbl := List.mem_of_getElem? (i := 356) rfl
set_option maxRecDepth 100000 in
theorem pg_c24 : Cond.code (pg_y 24) (pg_code 24) (pg_maxL 24) (pg_ret 24) ∈ lw_tbl := List.mem_of_getElem? (i := 367) rfl
set_option maxRecDepth 100000 in
theorem pg_c25 : Cond.code (pg_y 25) (pg_code 25) (pg_maxL 25) (pg_ret 25) ∈ lw_tbl := List.mem_of_getElem? (i := 371) rfl
set_option maxRecDepth 100000 in
theorem pg_c26 : Cond.code (pg_y 26) (pg_code 26) (pg_maxL 26) (pg_ret 26) ∈ lw_tbl := List.mem_of_getElem? (i := 377) rfl
set_option maxRecDepth 100000 in
theorem pg_c27 : Cond.code (pg_y 27) (pg_code 27) (pg_maxL 27) (pg_ret 27) ∈ lw_tbl := List.mem_of_getElem? (i := 381) rfl
set_option maxRecDepth 100000 in
theorem pg_c28 : Cond.code (pg_y 28) (pg_code 28) (pg_maxL 28) (pg_ret 28) ∈ lw_tbl := List.mem_of_getElem? (i := 386) rfl
set_option maxRecDepth 100000 in
theorem pg_c29 : Cond.code (pg_y 29) (pg_code 29) (pg_maxL 29) (pg_ret 29) ∈ lw_tbl := List.mem_of_getElem? (i := 390) rfl
set_option maxRecDepth 100000 in
theorem pg_c30 : Cond.code (pg_y 30) (pg_code 30) (pg_maxL 30) (pg_ret 30) ∈ lw_tbl := List.mem_of_getElem? (i := 394) rfl
set_option maxRecDepth 100000 in
theorem pg_c31 : Cond.code (pg_y 31) (pg_code 31) (pg_maxL 31) (pg_ret 31) ∈ lw_tbl := List.mem_of_getElem? (i := 398) rfl
set_option maxRecDepth 100000 in
theorem pg_c32 : Cond.code (pg_y 32) (pg_code 32) (pg_maxL 32) (pg_ret 32) ∈ lw_tbl := List.mem_of_getElem? (i := 402) rfl
set_option maxRecDepth 100000 in
theorem pg_c33 : Cond.code (pg_y 33) (pg_code 33) (pg_maxL 33) (pg_ret 33) ∈ lw_tbl := List.mem_of_getElem? (i := 407) rfl
set_option maxRecDepth 100000 in
theorem pg_c34 : Cond.code (pg_y 34) (pg_code 34) (pg_maxL 34) (pg_ret 34) ∈ lw_tbl := List.mem_of_getElem? (i := 413) rfl
set_option maxRecDepth 100000 in
theorem pg_c35 : Cond.code (pg_y 35) (pg_code 35) (pg_maxL 35) (pg_ret 35) ∈ lw_tbl := List.mem_of_getElem? (i := 417) rfl
set_option maxRecDepth 100000 in
theorem pg_c36 : Cond.code (pg_y 36) (pg_code 36) (pg_maxL 36) (pg_ret 36) ∈ lw_tbl := List.mem_of_getElem? (i := 420) rfl
set_option maxRecDepth 100000 in
theorem pg_c37 : Cond.code (pg_y 37) (pg_code 37) (pg_maxL 37) (pg_ret 37) ∈ lw_tbl := List.mem_of_getElem? (i := 427) rfl
set_option maxRecDepth 100000 in
theorem pg_c38 : Cond.code (pg_y 38) (pg_code 38) (pg_maxL 38) (pg_ret 38) ∈ lw_tbl := List.mem_of_getElem? (i := 431) rfl
set_option maxRecDepth 100000 in
theorem pg_c39 : Cond.code (pg_y 39) (pg_code 39) (pg_maxL 39) (pg_ret 39) ∈ lw_tbl := List.mem_of_getElem? (i := 435) rfl
set_option maxRecDepth 100000 in
theorem pg_c40 : Cond.code (pg_y 40) (pg_code 40) (pg_maxL 40) (pg_ret 40) ∈ lw_tbl := List.mem_of_getElem? (i := 439) rfl
set_option maxRecDepth 100000 in
theorem pg_c41 : Cond.code (pg_y 41) (pg_code 41) (pg_maxL 41) (pg_ret 41) ∈ lw_tbl := List.mem_of_getElem? (i := 443) rfl
set_option maxRecDepth 100000 in
theorem pg_c42 : Cond.code (pg_y 42) (pg_code 42) (pg_maxL 42) (pg_ret 42) ∈ lw_tbl := List.mem_of_getElem? (i := 447) rfl
set_option maxRecDepth 100000 in
theorem pg_c43 : Cond.code (pg_y 43) (pg_code 43) (pg_maxL 43) (pg_ret 43) ∈ lw_tbl := List.mem_of_getElem? (i := 451) rfl
set_option maxRecDepth 100000 in
theorem pg_c44 : Cond.code (pg_y 44) (pg_code 44) (pg_maxL 44) (pg_ret 44) ∈ lw_tbl := List.mem_of_getElem? (i := 455) rfl
set_option maxRecDepth 100000 in
theorem pg_c45 : Cond.code (pg_y 45) (pg_code 45) (pg_maxL 45) (pg_ret 45) ∈ lw_tbl := List.mem_of_getElem? (i := 459) rfl
set_option maxRecDepth 100000 in
theorem pg_c46 : Cond.code (pg_y 46) (pg_code 46) (pg_maxL 46) (pg_ret 46) ∈ lw_tbl := List.mem_of_getElem? (i := 464) rfl
set_option maxRecDepth 100000 in
theorem pg_c47 : Cond.code (pg_y 47) (pg_code 47) (pg_maxL 47) (pg_ret 47) ∈ lw_tbl := List.mem_of_getElem? (i := 468) rfl
set_option maxRecDepth 100000 in
theorem pg_c48 : Cond.code (pg_y 48) (pg_code 48) (pg_maxL 48) (pg_ret 48) ∈ lw_tbl := List.mem_of_getElem? (i := 472) rfl
set_option maxRecDepth 100000 in
theorem pg_c49 : Cond.code (pg_y 49) (pg_code 49) (pg_maxL 49) (pg_ret 49) ∈ lw_tbl := List.mem_of_getElem? (i := 476) rfl
set_option maxRecDepth 100000 in
theorem pg_c50 : Cond.code (pg_y 50) (pg_code 50) (pg_maxL 50) (pg_ret 50) ∈ lw_tbl := List.mem_of_getElem? (i := 480) rfl
set_option maxRecDepth 100000 in
theorem pg_c51 : Cond.code (pg_y 51) (pg_code 51) (pg_maxL 51) (pg_ret 51) ∈ lw_tbl := List.mem_of_getElem? (i := 484) rfl
set_option maxRecDepth 100000 in
theorem pg_c52 : Cond.code (pg_y 52) (pg_code 52) (pg_maxL 52) (pg_ret 52) ∈ lw_tbl := List.mem_of_getElem? (i := 488) rfl
set_option maxRecDepth 100000 in
theorem pg_c53 : Cond.code (pg_y 53) (pg_code 53) (pg_maxL 53) (pg_ret 53) ∈ lw_tbl := List.mem_of_getElem? (i := 492) rfl
set_option maxRecDepth 100000 in
theorem pg_c54 : Cond.code (pg_y 54) (pg_code 54) (pg_maxL 54) (pg_ret 54) ∈ lw_tbl := List.mem_of_getElem? (i := 496) rfl
set_option maxRecDepth 100000 in
theorem pg_c55 : Cond.code (pg_y 55) (pg_code 55) (pg_maxL 55) (pg_ret 55) ∈ lw_tbl := List.mem_of_getElem? (i := 500) rfl
set_option maxRecDepth 100000 in
theorem pg_c56 : Cond.code (pg_y 56) (pg_code 56) (pg_maxL 56) (pg_ret 56) ∈ lw_tbl := List.mem_of_getElem? (i := 504) rfl
set_option maxRecDepth 100000 in
theorem pg_c57 : Cond.code (pg_y 57) (pg_code 57) (pg_maxL 57) (pg_ret 57) ∈ lw_tbl := List.mem_of_getElem? (i := 509) rfl
set_option maxRecDepth 100000 in
theorem pg_c58 : Cond.code (pg_y 58) (pg_code 58) (pg_maxL 58) (pg_ret 58) ∈ lw_tbl := List.mem_of_getElem? (i := 513) rfl
set_option maxRecDepth 100000 in
theorem pg_c59 : Cond.code (pg_y 59) (pg_code 59) (pg_maxL 59) (pg_ret 59) ∈ lw_tbl := List.mem_of_getElem? (i := 517) rfl
set_option maxRecDepth 100000 in
theorem pg_c60 : Cond.code (pg_y 60) (pg_code 60) (pg_maxL 60) (pg_ret 60) ∈ lw_tbl := List.mem_of_getElem? (i := 521) rfl
set_option maxRecDepth 100000 in
theorem pg_c61 : Cond.code (pg_y 61) (pg_code 61) (pg_maxL 61) (pg_ret 61) ∈ lw_tbl := List.mem_of_getElem? (i := 525) rfl
set_option maxRecDepth 100000 in
theorem pg_c62 : Cond.code (pg_y 62) (pg_code 62) (pg_maxL 62) (pg_ret 62) ∈ lw_tbl := List.mem_of_getElem? (i := 529) rfl
set_option maxRecDepth 100000 in
theorem pg_c63 : Cond.code (pg_y 63) (pg_code 63) (pg_maxL 63) (pg_ret 63) ∈ lw_tbl := List.mem_of_getElem? (i := 533) rfl
set_option maxRecDepth 100000 in
theorem pg_c64 : Cond.code (pg_y 64) (pg_code 64) (pg_maxL 64) (pg_ret 64) ∈ lw_tbl := List.mem_of_getElem? (i := 539) rfl
set_option maxRecDepth 100000 in
theorem pg_c65 : Cond.code (pg_y 65) (pg_code 65) (pg_maxL 65) (pg_ret 65) ∈ lw_tbl := List.mem_of_getElem? (i := 543) rfl
set_option maxRecDepth 100000 in
theorem pg_c66 : Cond.code (pg_y 66) (pg_code 66) (pg_maxL 66) (pg_ret 66) ∈ lw_tbl := List.mem_of_getElem? (i := 547) rfl
set_option maxRecDepth 100000 in
theorem pg_c67 : Cond.code (pg_y 67) (pg_code 67) (pg_maxL 67) (pg_ret 67) ∈ lw_tbl := List.mem_of_getElem? (i := 551) rfl
set_option maxRecDepth 100000 in
theorem pg_c68 : Cond.code (pg_y 68) (pg_code 68) (pg_maxL 68) (pg_ret 68) ∈ lw_tbl := List.mem_of_getElem? (i := 555) rfl
set_option maxRecDepth 100000 in
theorem pg_c69 : Cond.code (pg_y 69) (pg_code 69) (pg_maxL 69) (pg_ret 69) ∈ lw_tbl := List.mem_of_getElem? (i := 562) rfl
set_option maxRecDepth 100000 in
theorem pg_c70 : Cond.code (pg_y 70) (pg_code 70) (pg_maxL 70) (pg_ret 70) ∈ lw_tbl := List.mem_of_getElem? (i := 567) rfl
set_option maxRecDepth 100000 in
theorem pg_c71 : Cond.code (pg_y 71) (pg_code 71) (pg_maxL 71) (pg_ret 71) ∈ lw_tbl := List.mem_of_getElem? (i := 571) rfl
set_option maxRecDepth 100000 in
theorem pg_c72 : Cond.code (pg_y 72) (pg_code 72) (pg_maxL 72) (pg_ret 72) ∈ lw_tbl := List.mem_of_getElem? (i := 575) rfl
set_option maxRecDepth 100000 in
theorem pg_c73 : Cond.code (pg_y 73) (pg_code 73) (pg_maxL 73) (pg_ret 73) ∈ lw_tbl := List.mem_of_getElem? (i := 579) rfl
set_option maxRecDepth 100000 in
theorem pg_c74 : Cond.code (pg_y 74) (pg_code 74) (pg_maxL 74) (pg_ret 74) ∈ lw_tbl := List.mem_of_getElem? (i := 583) rfl
set_option maxRecDepth 100000 in
theorem pg_c75 : Cond.code (pg_y 75) (pg_code 75) (pg_maxL 75) (pg_ret 75) ∈ lw_tbl := List.mem_of_getElem? (i := 588) rfl
set_option maxRecDepth 100000 in
theorem pg_c76 : Cond.code (pg_y 76) (pg_code 76) (pg_maxL 76) (pg_ret 76) ∈ lw_tbl := List.mem_of_getElem? (i := 595) rfl
set_option maxRecDepth 100000 in
theorem pg_c77 : Cond.code (pg_y 77) (pg_code 77) (pg_maxL 77) (pg_ret 77) ∈ lw_tbl := List.mem_of_getElem? (i := 599) rfl
set_option maxRecDepth 100000 in
theorem pg_c78 : Cond.code (pg_y 78) (pg_code 78) (pg_maxL 78) (pg_ret 78) ∈ lw_tbl := List.mem_of_getElem? (i := 604) rfl
set_option maxRecDepth 100000 in
theorem pg_c79 : Cond.code (pg_y 79) (pg_code 79) (pg_maxL 79) (pg_ret 79) ∈ lw_tbl := List.mem_of_getElem? (i := 608) rfl
set_option maxRecDepth 100000 in
theorem pg_c80 : Cond.code (pg_y 80) (pg_code 80) (pg_maxL 80) (pg_ret 80) ∈ lw_tbl := List.mem_of_getElem? (i := 613) rfl
set_option maxRecDepth 100000 in
theorem pg_c81 : Cond.code (pg_y 81) (pg_code 81) (pg_maxL 81) (pg_ret 81) ∈ lw_tbl := List.mem_of_getElem? (i := 618) rfl
set_option maxRecDepth 100000 in
theorem pg_c82 : Cond.code (pg_y 82) (pg_code 82) (pg_maxL 82) (pg_ret 82) ∈ lw_tbl := List.mem_of_getElem? (i := 622) rfl
set_option maxRecDepth 100000 in
theorem pg_c83 : Cond.code (pg_y 83) (pg_code 83) (pg_maxL 83) (pg_ret 83) ∈ lw_tbl := List.mem_of_getElem? (i := 627) rfl
set_option maxRecDepth 100000 in
theorem pg_c84 : Cond.code (pg_y 84) (pg_code 84) (pg_maxL 84) (pg_ret 84) ∈ lw_tbl := List.mem_of_getElem? (i := 753) rfl
set_option maxRecDepth 100000 in
theorem pg_c85 : Cond.code (pg_y 85) (pg_code 85) (pg_maxL 85) (pg_ret 85) ∈ lw_tbl := List.mem_of_getElem? (i := 756) rfl
set_option maxRecDepth 100000 in
theorem pg_c86 : Cond.code (pg_y 86) (pg_code 86) (pg_maxL 86) (pg_ret 86) ∈ lw_tbl := List.mem_of_getElem? (i := 760) rfl
set_option maxRecDepth 100000 in
theorem pg_c87 : Cond.code (pg_y 87) (pg_code 87) (pg_maxL 87) (pg_ret 87) ∈ lw_tbl := List.mem_of_getElem? (i := 764) rfl
set_option maxRecDepth 100000 in
theorem pg_c88 : Cond.code (pg_y 88) (pg_code 88) (pg_maxL 88) (pg_ret 88) ∈ lw_tbl := List.mem_of_getElem? (i := 768) rfl
set_option maxRecDepth 100000 in
theorem pg_c89 : Cond.code (pg_y 89) (pg_code 89) (pg_maxL 89) (pg_ret 89) ∈ lw_tbl := List.mem_of_getElem? (i := 772) rfl
set_option maxRecDepth 100000 in
theorem pg_c90 : Cond.code (pg_y 90) (pg_code 90) (pg_maxL 90) (pg_ret 90) ∈ lw_tbl := List.mem_of_getElem? (i := 776) rfl
set_option maxRecDepth 100000 in
theorem pg_c91 : Cond.code (pg_y 91) (pg_code 91) (pg_maxL 91) (pg_ret 91) ∈ lw_tbl := List.mem_of_getElem? (i := 780) rfl
set_option maxRecDepth 100000 in
theorem pg_c92 : Cond.code (pg_y 92) (pg_code 92) (pg_maxL 92) (pg_ret 92) ∈ lw_tbl := List.mem_of_getElem? (i := 784) rfl
set_option maxRecDepth 100000 in
theorem pg_c93 : Cond.code (pg_y 93) (pg_code 93) (pg_maxL 93) (pg_ret 93) ∈ lw_tbl := List.mem_of_getElem? (i := 788) rfl
set_option maxRecDepth 100000 in
theorem pg_c94 : Cond.code (pg_y 94) (pg_code 94) (pg_maxL 94) (pg_ret 94) ∈ lw_tbl := List.mem_of_getElem? (i := 792) rfl
set_option maxRecDepth 100000 in
theorem pg_c95 : Cond.code (pg_y 95) (pg_code 95) (pg_maxL 95) (pg_ret 95) ∈ lw_tbl := List.mem_of_getElem? (i := 796) rfl
set_option maxRecDepth 100000 in
theorem pg_c96 : Cond.code (pg_y 96) (pg_code 96) (pg_maxL 96) (pg_ret 96) ∈ lw_tbl := List.mem_of_getElem? (i := 800) rfl
set_option maxRecDepth 100000 in
theorem pg_c97 : Cond.code (pg_y 97) (pg_code 97) (pg_maxL 97) (pg_ret 97) ∈ lw_tbl := List.mem_of_getElem? (i := 805) rfl
set_option maxRecDepth 100000 in
theorem pg_c98 : Cond.code (pg_y 98) (pg_code 98) (pg_maxL 98) (pg_ret 98) ∈ lw_tbl := List.mem_of_getElem? (i := 809) rfl
set_option maxRecDepth 100000 in
theorem pg_c99 : Cond.code (pg_y 99) (pg_code 99) (pg_maxL 99) (pg_ret 99) ∈ lw_tbl := List.mem_of_getElem? (i := 813) rfl
set_option maxRecDepth 100000 in
theorem pg_c100 : Cond.code (pg_y 100) (pg_code 100) (pg_maxL 100) (pg_ret 100) ∈ lw_tbl := List.mem_of_getElem? (i := 817) rfl
set_option maxRecDepth 100000 in
theorem pg_c101 : Cond.code (pg_y 101) (pg_code 101) (pg_maxL 101) (pg_ret 101) ∈ lw_tbl := List.mem_of_getElem? (i := 821) rfl
set_option maxRecDepth 100000 in
theorem pg_c102 : Cond.code (pg_y 102) (pg_code 102) (pg_maxL 102) (pg_ret 102) ∈ lw_tbl := List.mem_of_getElem? (i := 825) rfl
set_option maxRecDepth 100000 in
theorem pg_c103 : Cond.code (pg_y 103) (pg_code 103) (pg_maxL 103) (pg_ret 103) ∈ lw_tbl := List.mem_of_getElem? (i := 829) rfl
set_option maxRecDepth 100000 in
theorem pg_c104 : Cond.code (pg_y 104) (pg_code 104) (pg_maxL 104) (pg_ret 104) ∈ lw_tbl := List.mem_of_getElem? (i := 833) rfl
set_option maxRecDepth 100000 in
theorem pg_c105 : Cond.code (pg_y 105) (pg_code 105) (pg_maxL 105) (pg_ret 105) ∈ lw_tbl := List.mem_of_getElem? (i := 837) rfl
set_option maxRecDepth 100000 in
theorem pg_c106 : Cond.code (pg_y 106) (pg_code 106) (pg_maxL 106) (pg_ret 106) ∈ lw_tbl := List.mem_of_getElem? (i := 841) rfl
set_option maxRecDepth 100000 in
theorem pg_c107 : Cond.code (pg_y 107) (pg_code 107) (pg_maxL 107) (pg_ret 107) ∈ lw_tbl := List.mem_of_getElem? (i := 845) rfl
set_option maxRecDepth 100000 in
theorem pg_c108 : Cond.code (pg_y 108) (pg_code 108) (pg_maxL 108) (pg_ret 108) ∈ lw_tbl := List.mem_of_getElem? (i := 849) rfl
set_option maxRecDepth 100000 in
theorem pg_c109 : Cond.code (pg_y 109) (pg_code 109) (pg_maxL 109) (pg_ret 109) ∈ lw_tbl := List.mem_of_getElem? (i := 853) rfl
set_option maxRecDepth 100000 in
theorem pg_c110 : Cond.code (pg_y 110) (pg_code 110) (pg_maxL 110) (pg_ret 110) ∈ lw_tbl := List.mem_of_getElem? (i := 857) rfl
set_option maxRecDepth 100000 in
theorem pg_c111 : Cond.code (pg_y 111) (pg_code 111) (pg_maxL 111) (pg_ret 111) ∈ lw_tbl := List.mem_of_getElem? (i := 861) rfl
set_option maxRecDepth 100000 in
theorem pg_c112 : Cond.code (pg_y 112) (pg_code 112) (pg_maxL 112) (pg_ret 112) ∈ lw_tbl := List.mem_of_getElem? (i := 865) rfl
set_option maxRecDepth 100000 in
theorem pg_c113 : Cond.code (pg_y 113) (pg_code 113) (pg_maxL 113) (pg_ret 113) ∈ lw_tbl := List.mem_of_getElem? (i := 869) rfl
set_option maxRecDepth 100000 in
theorem pg_c114 : Cond.code (pg_y 114) (pg_code 114) (pg_maxL 114) (pg_ret 114) ∈ lw_tbl := List.mem_of_getElem? (i := 873) rfl
set_option maxRecDepth 100000 in
theorem pg_c115 : Cond.code (pg_y 115) (pg_code 115) (pg_maxL 115) (pg_ret 115) ∈ lw_tbl := List.mem_of_getElem? (i := 877) rfl
set_option maxRecDepth 100000 in
theorem pg_c116 : Cond.code (pg_y 116) (pg_code 116) (pg_maxL 116) (pg_ret 116) ∈ lw_tbl := List.mem_of_getElem? (i := 881) rfl
set_option maxRecDepth 100000 in
theorem pg_c117 : Cond.code (pg_y 117) (pg_code 117) (pg_maxL 117) (pg_ret 117) ∈ lw_tbl := List.mem_of_getElem? (i := 885) rfl
set_option maxRecDepth 100000 in
theorem pg_c118 : Cond.code (pg_y 118) (pg_code 118) (pg_maxL 118) (pg_ret 118) ∈ lw_tbl := List.mem_of_getElem? (i := 889) rfl
set_option maxRecDepth 100000 in
theorem pg_c119 : Cond.code (pg_y 119) (pg_code 119) (pg_maxL 119) (pg_ret 119) ∈ lw_tbl := List.mem_of_getElem? (i := 893) rfl
set_option maxRecDepth 100000 in
theorem pg_c120 : Cond.code (pg_y 120) (pg_code 120) (pg_maxL 120) (pg_ret 120) ∈ lw_tbl := List.mem_of_getElem? (i := 897) rfl
set_option maxRecDepth 100000 in
theorem pg_c121 : Cond.code (pg_y 121) (pg_code 121) (pg_maxL 121) (pg_ret 121) ∈ lw_tbl := List.mem_of_getElem? (i := 901) rfl
set_option maxRecDepth 100000 in
theorem pg_c122 : Cond.code (pg_y 122) (pg_code 122) (pg_maxL 122) (pg_ret 122) ∈ lw_tbl := List.mem_of_getElem? (i := 905) rfl
set_option maxRecDepth 100000 in
theorem pg_c123 : Cond.code (pg_y 123) (pg_code 123) (pg_maxL 123) (pg_ret 123) ∈ lw_tbl := List.mem_of_getElem? (i := 909) rfl
set_option maxRecDepth 100000 in
theorem pg_c124 : Cond.code (pg_y 124) (pg_code 124) (pg_maxL 124) (pg_ret 124) ∈ lw_tbl := List.mem_of_getElem? (i := 913) rfl
set_option maxRecDepth 100000 in
theorem pg_c125 : Cond.code (pg_y 125) (pg_code 125) (pg_maxL 125) (pg_ret 125) ∈ lw_tbl := List.mem_of_getElem? (i := 917) rfl
set_option maxRecDepth 100000 in
theorem pg_c126 : Cond.code (pg_y 126) (pg_code 126) (pg_maxL 126) (pg_ret 126) ∈ lw_tbl := List.mem_of_getElem? (i := 921) rfl
set_option maxRecDepth 100000 in
theorem pg_c127 : Cond.code (pg_y 127) (pg_code 127) (pg_maxL 127) (pg_ret 127) ∈ lw_tbl := List.mem_of_getElem? (i := 925) rfl
set_option maxRecDepth 100000 in
theorem pg_c128 : Cond.code (pg_y 128) (pg_code 128) (pg_maxL 128) (pg_ret 128) ∈ lw_tbl := List.mem_of_getElem? (i := 929) rfl
set_option maxRecDepth 100000 in
theorem pg_c129 : Cond.code (pg_y 129) (pg_code 129) (pg_maxL 129) (pg_ret 129) ∈ lw_tbl := List.mem_of_getElem? (i := 933) rfl
set_option maxRecDepth 100000 in
theorem pg_c130 : Cond.code (pg_y 130) (pg_code 130) (pg_maxL 130) (pg_ret 130) ∈ lw_tbl := List.mem_of_getElem? (i := 937) rfl
set_option maxRecDepth 100000 in
theorem pg_c131 : Cond.code (pg_y 131) (pg_code 131) (pg_maxL 131) (pg_ret 131) ∈ lw_tbl := List.mem_of_getElem? (i := 941) rfl
def pg_Pc (z : Nat) : Prop := Cond.code (pg_y z) (pg_code z) (pg_maxL z) (pg_ret z) ∈ lw_tbl
theorem pg_q0 : ∀ z, z < 0 → pg_Pc z := fun z h => absurd h (Nat.not_lt_zero z)
theorem pg_q1 : ∀ z, z < 1 → pg_Pc z := lt_s (p := pg_Pc) pg_q0 pg_c0
theorem pg_q2 : ∀ z, z < 2 → pg_Pc z := lt_s (p := pg_Pc) pg_q1 pg_c1
theorem pg_q3 : ∀ z, z < 3 → pg_Pc z := lt_s (p := pg_Pc) pg_q2 pg_c2
theorem pg_q4 : ∀ z, z < 4 → pg_Pc z := lt_s (p := pg_Pc) pg_q3 pg_c3
theorem pg_q5 : ∀ z, z < 5 → pg_Pc z := lt_s (p := pg_Pc) pg_q4 pg_c4
theorem pg_q6 : ∀ z, z < 6 → pg_Pc z := lt_s (p := pg_Pc) pg_q5 pg_c5
theorem pg_q7 : ∀ z, z < 7 → pg_Pc z := lt_s (p := pg_Pc) pg_q6 pg_c6
theorem pg_q8 : ∀ z, z < 8 → pg_Pc z := lt_s (p := pg_Pc) pg_q7 pg_c7
theorem pg_q9 : ∀ z, z < 9 → pg_Pc z := lt_s (p := pg_Pc) pg_q8 pg_c8
theorem pg_q10 : ∀ z, z < 10 → pg_Pc z := lt_s (p := pg_Pc) pg_q9 pg_c9
theorem pg_q11 : ∀ z, z < 11 → pg_Pc z := lt_s (p := pg_Pc) pg_q10 pg_c10
theorem pg_q12 : ∀ z, z < 12 → pg_Pc z := lt_s (p := pg_Pc) pg_q11 pg_c11
theorem pg_q13 : ∀ z, z < 13 → pg_Pc z := lt_s (p := pg_Pc) pg_q12 pg_c12
theorem pg_q14 : ∀ z, z < 14 → pg_Pc z := lt_s (p := pg_Pc) pg_q13 pg_c13
theorem pg_q15 : ∀ z, z < 15 → pg_Pc z := lt_s (p := pg_Pc) pg_q14 pg_c14
theorem pg_q16 : ∀ z, z < 16 → pg_Pc z := lt_s (p := pg_Pc) pg_q15 pg_c15
theorem pg_q17 : ∀ z, z < 17 → pg_Pc z := lt_s (p := pg_Pc) pg_q16 pg_c16
theorem pg_q18 : ∀ z, z < 18 → pg_Pc z := lt_s (p := pg_Pc) pg_q17 pg_c17
theorem pg_q19 : ∀ z, z < 19 → pg_Pc z := lt_s (p := pg_Pc) pg_q18 pg_c18
theorem pg_q20 : ∀ z, z < 20 → pg_Pc z := lt_s (p := pg_Pc) pg_q19 pg_c19
theorem pg_q21 : ∀ z, z < 21 → pg_Pc z := lt_s (p := pg_Pc) pg_q20 pg_c20
theorem pg_q22 : ∀ z, z < 22 → pg_Pc z := lt_s (p := pg_Pc) pg_q21 pg_c21
theorem pg_q23 : ∀ z, z < 23 → pg_Pc z := lt_s (p := pg_Pc) pg_q22 pg_c22
theorem pg_q24 : ∀ z, z < 24 → pg_Pc z := lt_s (p := pg_Pc) pg_q23 pg_c23
theorem pg_q25 : ∀ z, z < 25 → pg_Pc z := lt_s (p := pg_Pc) pg_q24 pg_c24
theorem pg_q26 : ∀ z, z < 26 → pg_Pc z := lt_s (p := pg_Pc) pg_q25 pg_c25
theorem pg_q27 : ∀ z, z < 27 → pg_Pc z := lt_s (p := pg_Pc) pg_q26 pg_c26
theorem pg_q28 : ∀ z, z < 28 → pg_Pc z := lt_s (p := pg_Pc) pg_q27 pg_c27
theorem pg_q29 : ∀ z, z < 29 → pg_Pc z := lt_s (p := pg_Pc) pg_q28 pg_c28
theorem pg_q30 : ∀ z, z < 30 → pg_Pc z := lt_s (p := pg_Pc) pg_q29 pg_c29
theorem pg_q31 : ∀ z, z < 31 → pg_Pc z := lt_s (p := pg_Pc) pg_q30 pg_c30
theorem pg_q32 : ∀ z, z < 32 → pg_Pc z := lt_s (p := pg_Pc) pg_q31 pg_c31
theorem pg_q33 : ∀ z, z < 33 → pg_Pc z := lt_s (p := pg_Pc) pg_q32 pg_c32
theorem pg_q34 : ∀ z, z < 34 → pg_Pc z := lt_s (p := pg_Pc) pg_q33 pg_c33
theorem pg_q35 : ∀ z, z < 35 → pg_Pc z := lt_s (p := pg_Pc) pg_q34 pg_c34
theorem pg_q36 : ∀ z, z < 36 → pg_Pc z := lt_s (p := pg_Pc) pg_q35 pg_c35
theorem pg_q37 : ∀ z, z < 37 → pg_Pc z := lt_s (p := pg_Pc) pg_q36 pg_c36
theorem pg_q38 : ∀ z, z < 38 → pg_Pc z := lt_s (p := pg_Pc) pg_q37 pg_c37
theorem pg_q39 : ∀ z, z < 39 → pg_Pc z := lt_s (p := pg_Pc) pg_q38 pg_c38
theorem pg_q40 : ∀ z, z < 40 → pg_Pc z := lt_s (p := pg_Pc) pg_q39 pg_c39
theorem pg_q41 : ∀ z, z < 41 → pg_Pc z := lt_s (p := pg_Pc) pg_q40 pg_c40
theorem pg_q42 : ∀ z, z < 42 → pg_Pc z := lt_s (p := pg_Pc) pg_q41 pg_c41
theorem pg_q43 : ∀ z, z < 43 → pg_Pc z := lt_s (p := pg_Pc) pg_q42 pg_c42
theorem pg_q44 : ∀ z, z < 44 → pg_Pc z := lt_s (p := pg_Pc) pg_q43 pg_c43
theorem pg_q45 : ∀ z, z < 45 → pg_Pc z := lt_s (p := pg_Pc) pg_q44 pg_c44
theorem pg_q46 : ∀ z, z < 46 → pg_Pc z := lt_s (p := pg_Pc) pg_q45 pg_c45
theorem pg_q47 : ∀ z, z < 47 → pg_Pc z := lt_s (p := pg_Pc) pg_q46 pg_c46
theorem pg_q48 : ∀ z, z < 48 → pg_Pc z := lt_s (p := pg_Pc) pg_q47 pg_c47
theorem pg_q49 : ∀ z, z < 49 → pg_Pc z := lt_s (p := pg_Pc) pg_q48 pg_c48
theorem pg_q50 : ∀ z, z < 50 → pg_Pc z := lt_s (p := pg_Pc) pg_q49 pg_c49
theorem pg_q51 : ∀ z, z < 51 → pg_Pc z := lt_s (p := pg_Pc) pg_q50 pg_c50
theorem pg_q52 : ∀ z, z < 52 → pg_Pc z := lt_s (p := pg_Pc) pg_q51 pg_c51
theorem pg_q53 : ∀ z, z < 53 → pg_Pc z := lt_s (p := pg_Pc) pg_q52 pg_c52
theorem pg_q54 : ∀ z, z < 54 → pg_Pc z := lt_s (p := pg_Pc) pg_q53 pg_c53
theorem pg_q55 : ∀ z, z < 55 → pg_Pc z := lt_s (p := pg_Pc) pg_q54 pg_c54
theorem pg_q56 : ∀ z, z < 56 → pg_Pc z := lt_s (p := pg_Pc) pg_q55 pg_c55
theorem pg_q57 : ∀ z, z < 57 → pg_Pc z := lt_s (p := pg_Pc) pg_q56 pg_c56
theorem pg_q58 : ∀ z, z < 58 → pg_Pc z := lt_s (p := pg_Pc) pg_q57 pg_c57
theorem pg_q59 : ∀ z, z < 59 → pg_Pc z := lt_s (p := pg_Pc) pg_q58 pg_c58
theorem pg_q60 : ∀ z, z < 60 → pg_Pc z := lt_s (p := pg_Pc) pg_q59 pg_c59
theorem pg_q61 : ∀ z, z < 61 → pg_Pc z := lt_s (p := pg_Pc) pg_q60 pg_c60
theorem pg_q62 : ∀ z, z < 62 → pg_Pc z := lt_s (p := pg_Pc) pg_q61 pg_c61
theorem pg_q63 : ∀ z, z < 63 → pg_Pc z := lt_s (p := pg_Pc) pg_q62 pg_c62
theorem pg_q64 : ∀ z, z < 64 → pg_Pc z := lt_s (p := pg_Pc) pg_q63 pg_c63
theorem pg_q65 : ∀ z, z < 65 → pg_Pc z := lt_s (p := pg_Pc) pg_q64 pg_c64
theorem pg_q66 : ∀ z, z < 66 → pg_Pc z := lt_s (p := pg_Pc) pg_q65 pg_c65
theorem pg_q67 : ∀ z, z < 67 → pg_Pc z := lt_s (p := pg_Pc) pg_q66 pg_c66
theorem pg_q68 : ∀ z, z < 68 → pg_Pc z := lt_s (p := pg_Pc) pg_q67 pg_c67
theorem pg_q69 : ∀ z, z < 69 → pg_Pc z := lt_s (p := pg_Pc) pg_q68 pg_c68
theorem pg_q70 : ∀ z, z < 70 → pg_Pc z := lt_s (p := pg_Pc) pg_q69 pg_c69
theorem pg_q71 : ∀ z, z < 71 → pg_Pc z := lt_s (p := pg_Pc) pg_q70 pg_c70
theorem pg_q72 : ∀ z, z < 72 → pg_Pc z := lt_s (p := pg_Pc) pg_q71 pg_c71
theorem pg_q73 : ∀ z, z < 73 → pg_Pc z := lt_s (p := pg_Pc) pg_q72 pg_c72
theorem pg_q74 : ∀ z, z < 74 → pg_Pc z := lt_s (p := pg_Pc) pg_q73 pg_c73
theorem pg_q75 : ∀ z, z < 75 → pg_Pc z := lt_s (p := pg_Pc) pg_q74 pg_c74
theorem pg_q76 : ∀ z, z < 76 → pg_Pc z := lt_s (p := pg_Pc) pg_q75 pg_c75
theorem pg_q77 : ∀ z, z < 77 → pg_Pc z := lt_s (p := pg_Pc) pg_q76 pg_c76
theorem pg_q78 : ∀ z, z < 78 → pg_Pc z := lt_s (p := pg_Pc) pg_q77 pg_c77
theorem pg_q79 : ∀ z, z < 79 → pg_Pc z := lt_s (p := pg_Pc) pg_q78 pg_c78
theorem pg_q80 : ∀ z, z < 80 → pg_Pc z := lt_s (p := pg_Pc) pg_q79 pg_c79
theorem pg_q81 : ∀ z, z < 81 → pg_Pc z := lt_s (p := pg_Pc) pg_q80 pg_c80
theorem pg_q82 : ∀ z, z < 82 → pg_Pc z := lt_s (p := pg_Pc) pg_q81 pg_c81
theorem pg_q83 : ∀ z, z < 83 → pg_Pc z := lt_s (p := pg_Pc) pg_q82 pg_c82
theorem pg_q84 : ∀ z, z < 84 → pg_Pc z := lt_s (p := pg_Pc) pg_q83 pg_c83
theorem pg_q85 : ∀ z, z < 85 → pg_Pc z := lt_s (p := pg_Pc) pg_q84 pg_c84
theorem pg_q86 : ∀ z, z < 86 → pg_Pc z := lt_s (p := pg_Pc) pg_q85 pg_c85
theorem pg_q87 : ∀ z, z < 87 → pg_Pc z := lt_s (p := pg_Pc) pg_q86 pg_c86
theorem pg_q88 : ∀ z, z < 88 → pg_Pc z := lt_s (p := pg_Pc) pg_q87 pg_c87
theorem pg_q89 : ∀ z, z < 89 → pg_Pc z := lt_s (p := pg_Pc) pg_q88 pg_c88
theorem pg_q90 : ∀ z, z < 90 → pg_Pc z := lt_s (p := pg_Pc) pg_q89 pg_c89
theorem pg_q91 : ∀ z, z < 91 → pg_Pc z := lt_s (p := pg_Pc) pg_q90 pg_c90
theorem pg_q92 : ∀ z, z < 92 → pg_Pc z := lt_s (p := pg_Pc) pg_q91 pg_c91
theorem pg_q93 : ∀ z, z < 93 → pg_Pc z := lt_s (p := pg_Pc) pg_q92 pg_c92
theorem pg_q94 : ∀ z, z < 94 → pg_Pc z := lt_s (p := pg_Pc) pg_q93 pg_c93
theorem pg_q95 : ∀ z, z < 95 → pg_Pc z := lt_s (p := pg_Pc) pg_q94 pg_c94
theorem pg_q96 : ∀ z, z < 96 → pg_Pc z := lt_s (p := pg_Pc) pg_q95 pg_c95
theorem pg_q97 : ∀ z, z < 97 → pg_Pc z := lt_s (p := pg_Pc) pg_q96 pg_c96
theorem pg_q98 : ∀ z, z < 98 → pg_Pc z := lt_s (p := pg_Pc) pg_q97 pg_c97
theorem pg_q99 : ∀ z, z < 99 → pg_Pc z := lt_s (p := pg_Pc) pg_q98 pg_c98
theorem pg_q100 : ∀ z, z < 100 → pg_Pc z := lt_s (p := pg_Pc) pg_q99 pg_c99
theorem pg_q101 : ∀ z, z < 101 → pg_Pc z := lt_s (p := pg_Pc) pg_q100 pg_c100
theorem pg_q102 : ∀ z, z < 102 → pg_Pc z := lt_s (p := pg_Pc) pg_q101 pg_c101
theorem pg_q103 : ∀ z, z < 103 → pg_Pc z := lt_s (p := pg_Pc) pg_q102 pg_c102
theorem pg_q104 : ∀ z, z < 104 → pg_Pc z := lt_s (p := pg_Pc) pg_q103 pg_c103
theorem pg_q105 : ∀ z, z < 105 → pg_Pc z := lt_s (p := pg_Pc) pg_q104 pg_c104
theorem pg_q106 : ∀ z, z < 106 → pg_Pc z := lt_s (p := pg_Pc) pg_q105 pg_c105
theorem pg_q107 : ∀ z, z < 107 → pg_Pc z := lt_s (p := pg_Pc) pg_q106 pg_c106
theorem pg_q108 : ∀ z, z < 108 → pg_Pc z := lt_s (p := pg_Pc) pg_q107 pg_c107
theorem pg_q109 : ∀ z, z < 109 → pg_Pc z := lt_s (p := pg_Pc) pg_q108 pg_c108
theorem pg_q110 : ∀ z, z < 110 → pg_Pc z := lt_s (p := pg_Pc) pg_q109 pg_c109
theorem pg_q111 : ∀ z, z < 111 → pg_Pc z := lt_s (p := pg_Pc) pg_q110 pg_c110
theorem pg_q112 : ∀ z, z < 112 → pg_Pc z := lt_s (p := pg_Pc) pg_q111 pg_c111
theorem pg_q113 : ∀ z, z < 113 → pg_Pc z := lt_s (p := pg_Pc) pg_q112 pg_c112
theorem pg_q114 : ∀ z, z < 114 → pg_Pc z := lt_s (p := pg_Pc) pg_q113 pg_c113
theorem pg_q115 : ∀ z, z < 115 → pg_Pc z := lt_s (p := pg_Pc) pg_q114 pg_c114
theorem pg_q116 : ∀ z, z < 116 → pg_Pc z := lt_s (p := pg_Pc) pg_q115 pg_c115
theorem pg_q117 : ∀ z, z < 117 → pg_Pc z := lt_s (p := pg_Pc) pg_q116 pg_c116
theorem pg_q118 : ∀ z, z < 118 → pg_Pc z := lt_s (p := pg_Pc) pg_q117 pg_c117
theorem pg_q119 : ∀ z, z < 119 → pg_Pc z := lt_s (p := pg_Pc) pg_q118 pg_c118
theorem pg_q120 : ∀ z, z < 120 → pg_Pc z := lt_s (p := pg_Pc) pg_q119 pg_c119
theorem pg_q121 : ∀ z, z < 121 → pg_Pc z := lt_s (p := pg_Pc) pg_q120 pg_c120
theorem pg_q122 : ∀ z, z < 122 → pg_Pc z := lt_s (p := pg_Pc) pg_q121 pg_c121
theorem pg_q123 : ∀ z, z < 123 → pg_Pc z := lt_s (p := pg_Pc) pg_q122 pg_c122
theorem pg_q124 : ∀ z, z < 124 → pg_Pc z := lt_s (p := pg_Pc) pg_q123 pg_c123
theorem pg_q125 : ∀ z, z < 125 → pg_Pc z := lt_s (p := pg_Pc) pg_q124 pg_c124
theorem pg_q126 : ∀ z, z < 126 → pg_Pc z := lt_s (p := pg_Pc) pg_q125 pg_c125
theorem pg_q127 : ∀ z, z < 127 → pg_Pc z := lt_s (p := pg_Pc) pg_q126 pg_c126
theorem pg_q128 : ∀ z, z < 128 → pg_Pc z := lt_s (p := pg_Pc) pg_q127 pg_c127
theorem pg_q129 : ∀ z, z < 129 → pg_Pc z := lt_s (p := pg_Pc) pg_q128 pg_c128
theorem pg_q130 : ∀ z, z < 130 → pg_Pc z := lt_s (p := pg_Pc) pg_q129 pg_c129
theorem pg_q131 : ∀ z, z < 131 → pg_Pc z := lt_s (p := pg_Pc) pg_q130 pg_c130
theorem pg_q132 : ∀ z, z < 132 → pg_Pc z := lt_s (p := pg_Pc) pg_q131 pg_c131
theorem pg_call : ∀ z, z < pg_num → Cond.code (pg_y z) (pg_code z) (pg_maxL z) (pg_ret z) ∈ lw_tbl := pg_q132
def pg_zchk (z : Nat) : Bool := pg_is (pg_zi z).2.1 (if pg_mk z = 2 then .static (pg_y z) else .instanceMethod (pg_y z)) && (pg_mk z != 0 || pg_is (pg_zi z).2.2.1 (.selects (pg_cn (pg_own z)) (pg_y z) (pg_y z))) && pg_is (pg_zi z).2.2.2 (.initialized (pg_y z).cls)
theorem pg_zall : (List.range pg_num).all pg_zchk = true := by decide +kernel
def pg_dchk (z : Nat) : Bool := plainName (pg_y z).cls && decide ((pg_y z).cls = pg_cn (pg_own z)) && decide ((pg_y z).cls ≠ "java/lang/invoke/MethodHandle") && decide ((pg_y z).cls ≠ "java/lang/invoke/VarHandle") && decide ((parseMethodDescriptor (pg_y z).desc).map (fun d => d.parameters.length) = some (pg_np z)) && decide (pg_maxL z ≤ 41) && (pg_mk z != 1 || (decide ((pg_y z).name = "<init>") && decide (pg_rk z = 0))) && decide (pg_rk z ≤ 2) && (pg_mk z != 0 || decide (pg_own z < 7)) && decide (pg_mk z ≤ 2)
theorem pg_dall : (List.range (pg_num + 1)).all pg_dchk = true := by decide +kernel
theorem pg_d {z : Nat} (h : z ≤ pg_num) : plainName (pg_y z).cls = true ∧ (pg_y z).cls = pg_cn (pg_own z) ∧ (pg_y z).cls ≠ "java/lang/invoke/MethodHandle" ∧ (pg_y z).cls ≠ "java/lang/invoke/VarHandle" ∧ (parseMethodDescriptor (pg_y z).desc).map (fun d => d.parameters.length) = some (pg_np z) ∧ pg_maxL z ≤ 41 ∧ (pg_mk z = 1 → (pg_y z).name = "<init>" ∧ pg_rk z = 0) ∧ pg_rk z ≤ 2 ∧ (pg_mk z = 0 → pg_own z < 7) := by
  have h2 := List.all_eq_true.mp pg_dall z (List.mem_range.mpr (Nat.lt_succ_of_le h))
  simp only [pg_dchk, Bool.and_eq_true, Bool.or_eq_true, decide_eq_true_eq, bne_iff_ne] at h2
  obtain ⟨⟨⟨⟨⟨⟨⟨⟨⟨a1, a2⟩, a3⟩, a4⟩, a5⟩, a6⟩, a7⟩, a8⟩, a9⟩, a10⟩ := h2
  exact ⟨a1, a2, a3, a4, a5, a6, fun e => a7.resolve_left (fun n => n e), a8, fun e => a9.resolve_left (fun n => n e)⟩
theorem pg_plain {z : Nat} (h : z < pg_num) : plainName (pg_y z).cls = true := (pg_d (Nat.le_of_lt h)).1
theorem pg_own_ok {z : Nat} (h : z ≤ pg_num) : (pg_y z).cls = pg_cn (pg_own z) := (pg_d h).2.1
theorem pg_desc {z : Nat} (h : z < pg_num) : (pg_y z).cls ≠ "java/lang/invoke/MethodHandle" ∧ (pg_y z).cls ≠ "java/lang/invoke/VarHandle" ∧ (parseMethodDescriptor (pg_y z).desc).map (fun d => d.parameters.length) = some (pg_np z) := ⟨(pg_d (Nat.le_of_lt h)).2.2.1, (pg_d (Nat.le_of_lt h)).2.2.2.1, (pg_d (Nat.le_of_lt h)).2.2.2.2.1⟩
theorem pg_maxL_ok {z : Nat} (h : z < pg_num) : pg_maxL z ≤ 41 := (pg_d (Nat.le_of_lt h)).2.2.2.2.2.1
theorem pg_ini_ok {y : Nat} (hy : y ≤ pg_num) (h : pg_ini y = true) : (pg_y y).name = "<init>" := ((pg_d hy).2.2.2.2.2.2.1 (by simpa [pg_ini] using h)).1
theorem pg_rk_ok (y : Nat) : (pg_rk y = 0 → pg_ret y = none) ∧ (pg_rk y = 1 → pg_ret y = some .int) ∧ (pg_rk y = 2 → pg_ret y = some .boolean) := ⟨fun h => by unfold pg_ret; rw [h]; rfl, fun h => by unfold pg_ret; rw [h]; rfl, fun h => by unfold pg_ret; rw [h]; rfl⟩
theorem pg_zok {z : Nat} (h : z < pg_num) : Cond.code (pg_y z) (pg_code z) (pg_maxL z) (pg_ret z) ∈ pg_words ∧ (if pg_mk z = 2 then Cond.static (pg_y z) else Cond.instanceMethod (pg_y z)) ∈ pg_words ∧ (pg_mk z = 0 → Cond.selects (pg_cn (pg_own z)) (pg_y z) (pg_y z) ∈ pg_words) ∧ Cond.initialized (pg_y z).cls ∈ pg_words := by
  have h2 := List.all_eq_true.mp pg_zall z (List.mem_range.mpr h)
  simp only [pg_zchk, Bool.and_eq_true, Bool.or_eq_true, bne_iff_ne] at h2
  obtain ⟨⟨a2, a3⟩, a4⟩ := h2
  exact ⟨List.mem_filter.mpr ⟨pg_call z h, rfl⟩, pg_is_mem a2, fun e => pg_is_mem (a3.resolve_left (fun n => n e)), pg_is_mem a4⟩
theorem pg_wz {z : Nat} (h : z < pg_num) : Cond.code (pg_y z) (pg_code z) (pg_maxL z) (pg_ret z) ∈ pg_words := (pg_zok h).1
theorem pg_obj_ok {z : Nat} (h : z < pg_num) (hk : pg_mk z = 0) : ∃ (T : u_T) (N : Nat), pg_cl[pg_own z]? = some (pg_cn (pg_own z), T, N) := ⟨_, _, (pg_cls ((pg_d (Nat.le_of_lt h)).2.2.2.2.2.2.2.2 hk)).1⟩
def pg_spy (z : Nat) : MethodName := if z = 1000 then objectInit else if z = 1001 then Lib.Math.max.name else if z = 1002 then Lib.Math.min.name else arraycopyName
def pg_nest : List Cond := [.methodLinkNest "TwigMerge" 84 ⟨"TwigMerge$Forest", "sameTwig", "(LTwigMerge$Forest;ILTwigMerge$Forest;II)Z"⟩ "TwigMerge", .methodLinkNest "TwigMerge$Partners" 72 ⟨"TwigMerge$Forest", "sameTwig", "(LTwigMerge$Forest;ILTwigMerge$Forest;II)Z"⟩ "TwigMerge"]
theorem pg_nest_in : ∀ w ∈ pg_nest, w ∈ lw_tbl := by
  intro w hw
  simp only [pg_nest, List.mem_cons, List.not_mem_nil, or_false] at hw
  rcases hw with rfl | rfl
  · exact List.mem_of_getElem? (i := 339) (by decide +kernel)
  · exact List.mem_of_getElem? (i := 382) (by decide +kernel)
def pg_mchk (q : Nat × Nat × Nat × Nat × Nat) : Bool := if q.2.2.1 < 1000 then (if q.2.2.2.2 = 0 then pg_is q.2.2.2.1 (.methodLink (pg_cn q.1) q.2.1 (pg_y q.2.2.1)) else (pg_mk q.2.2.1 == 2 && decide (Cond.methodLinkNest (pg_cn q.1) q.2.1 (pg_y q.2.2.1) (pg_cn 0) ∈ pg_nest))) else pg_is q.2.2.2.1 (.methodLink (pg_cn q.1) q.2.1 (pg_spy q.2.2.1))
theorem pg_mall : pg_mthL.all pg_mchk = true := by decide +kernel
theorem pg_mth_ok {own idx z : Nat} (h : pg_mth own idx = some z) : (z < 1000 → Cond.methodLink (pg_cn own) idx (pg_y z) ∈ pg_words ∨ (pg_mk z = 2 ∧ Cond.methodLinkNest (pg_cn own) idx (pg_y z) (pg_cn 0) ∈ pg_nest)) ∧ (¬ z < 1000 → Cond.methodLink (pg_cn own) idx (pg_spy z) ∈ pg_words) := by
  unfold pg_mth at h
  obtain ⟨q, hq, he⟩ := Option.map_eq_some_iff.mp h
  have h1 := List.find?_some hq
  have h2 := List.all_eq_true.mp pg_mall q (List.mem_of_find?_eq_some hq)
  simp only [Bool.and_eq_true, beq_iff_eq] at h1
  obtain ⟨rfl, rfl⟩ := h1
  subst he
  unfold pg_mchk at h2
  refine ⟨fun hz => ?_, fun hz => ?_⟩
  · rw [if_pos hz] at h2
    split at h2
    · exact Or.inl (pg_is_mem h2)
    · simp only [Bool.and_eq_true, beq_iff_eq, decide_eq_true_eq] at h2
      exact Or.inr h2
  · rw [if_neg hz] at h2
    exact pg_is_mem h2
theorem pg_num_lt : pg_num < 1000 := by decide
theorem pg_callV {own idx z : Nat} (hm : pg_mth own idx = some z) (hz : z < pg_num) (hk : pg_mk z = 0) : Cond.methodLink (pg_cn own) idx (pg_y z) ∈ pg_words ∧ Cond.instanceMethod (pg_y z) ∈ pg_words ∧ Cond.selects (pg_cn (pg_own z)) (pg_y z) (pg_y z) ∈ pg_words ∧ Cond.initialized (pg_cn (pg_own z)) ∈ pg_words := by
  obtain ⟨a1, a2, a3, a4⟩ := pg_zok hz
  rw [if_neg (by omega)] at a2
  refine ⟨?_, a2, a3 hk, ?_⟩
  · rcases (pg_mth_ok hm).1 (Nat.lt_trans hz pg_num_lt) with h | ⟨h, -⟩
    · exact h
    · omega
  · rw [← pg_own_ok (Nat.le_of_lt hz)]; exact a4
theorem pg_callI {own idx z : Nat} (hm : pg_mth own idx = some z) (hz : z < pg_num) (hk : pg_mk z = 1) : Cond.methodLink (pg_cn own) idx (pg_y z) ∈ pg_words ∧ Cond.instanceMethod (pg_y z) ∈ pg_words ∧ Cond.initialized (pg_y z).cls ∈ pg_words ∧ (pg_y z).name = "<init>" ∧ pg_ret z = none := by
  obtain ⟨a1, a2, a3, a4⟩ := pg_zok hz
  rw [if_neg (by omega)] at a2
  obtain ⟨b1, b2⟩ := (pg_d (Nat.le_of_lt hz)).2.2.2.2.2.2.1 hk
  refine ⟨?_, a2, a4, b1, (pg_rk_ok z).1 b2⟩
  rcases (pg_mth_ok hm).1 (Nat.lt_trans hz pg_num_lt) with h | ⟨h, -⟩
  · exact h
  · omega
theorem pg_callS {own idx z : Nat} (hm : pg_mth own idx = some z) (hz : z < pg_num) (hk : pg_mk z = 2) : (Cond.methodLink (pg_cn own) idx (pg_y z) ∈ pg_words ∨ Cond.methodLinkNest (pg_cn own) idx (pg_y z) (pg_cn 0) ∈ pg_nest) ∧ Cond.static (pg_y z) ∈ pg_words ∧ Cond.initialized (pg_y z).cls ∈ pg_words := by
  obtain ⟨a1, a2, a3, a4⟩ := pg_zok hz
  rw [if_pos hk] at a2
  refine ⟨?_, a2, a4⟩
  rcases (pg_mth_ok hm).1 (Nat.lt_trans hz pg_num_lt) with h | ⟨-, h⟩
  · exact Or.inl h
  · exact Or.inr h
theorem pg_sp0 {own idx : Nat} (h : pg_mth own idx = some 1000) : Cond.methodLink (pg_cn own) idx objectInit ∈ pg_words ∧ Cond.instanceMethod objectInit ∈ pg_words ∧ Cond.code objectInit ⟨#[0xb1]⟩ 1 none ∈ pg_words := ⟨(pg_mth_ok h).2 (by decide), pg_is_mem (w := 85) (by decide +kernel), pg_is_mem (w := 86) (by decide +kernel)⟩
theorem pg_sp1 {own idx : Nat} (h : pg_mth own idx = some 1001) : Cond.methodLink (pg_cn own) idx Lib.Math.max.name ∈ pg_words ∧ Cond.static Lib.Math.max.name ∈ pg_words ∧ Cond.initialized "java/lang/Math" ∈ pg_words ∧ Cond.code Lib.Math.max.name Lib.Math.max.code 2 (some .int) ∈ pg_words := ⟨(pg_mth_ok h).2 (by decide), pg_is_mem (w := 308) (by decide +kernel), pg_is_mem (w := 76) (by decide +kernel), pg_is_mem (w := 309) (by decide +kernel)⟩
theorem pg_sp2 {own idx : Nat} (h : pg_mth own idx = some 1002) : Cond.methodLink (pg_cn own) idx Lib.Math.min.name ∈ pg_words ∧ Cond.static Lib.Math.min.name ∈ pg_words ∧ Cond.initialized "java/lang/Math" ∈ pg_words ∧ Cond.code Lib.Math.min.name Lib.Math.min.code 2 (some .int) ∈ pg_words := ⟨(pg_mth_ok h).2 (by decide), pg_is_mem (w := 359) (by decide +kernel), pg_is_mem (w := 76) (by decide +kernel), pg_is_mem (w := 360) (by decide +kernel)⟩
theorem pg_sp3 {own idx : Nat} (h : pg_mth own idx = some 1003) : Cond.methodLink (pg_cn own) idx arraycopyName ∈ pg_words ∧ Cond.native arraycopyName ∈ pg_words ∧ Cond.static arraycopyName ∈ pg_words ∧ Cond.initialized "java/lang/System" ∈ pg_words := ⟨(pg_mth_ok h).2 (by decide), pg_is_mem (w := 363) (by decide +kernel), pg_is_mem (w := 362) (by decide +kernel), pg_is_mem (w := 77) (by decide +kernel)⟩
end
