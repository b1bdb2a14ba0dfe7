section
-- ===== PART A: goes FIRST, ahead of the names: the tables' words, and 'selects' of the private methods out of them =====
/-- a private method of a class that the tables say can be made, by its rows of tables_1 -/
def lw_okq (q : MethodName × Nat) : Prop := (q.1.cls ≠ "java/lang/invoke/MethodHandle" ∧ q.1.cls ≠ "java/lang/invoke/VarHandle") ∧ Cond.instantiable q.1.cls q.2 ∈ tables_1 ∧ Cond.privateMethod q.1 ∈ tables_1 ∧ Cond.instanceMethod q.1 ∈ tables_1
theorem lw_p0 : lw_okq (⟨"DreamLedger", "countFadedAfter", "(I)I"⟩, 9) := ⟨⟨by decide +kernel, by decide +kernel⟩, List.mem_of_getElem? (i := 15) (by decide +kernel), List.mem_of_getElem? (i := 135) (by decide +kernel), List.mem_of_getElem? (i := 136) (by decide +kernel)⟩
theorem lw_p1 : lw_okq (⟨"DreamLedger", "vividnessAfter", "(II)I"⟩, 9) := ⟨⟨by decide +kernel, by decide +kernel⟩, List.mem_of_getElem? (i := 15) (by decide +kernel), List.mem_of_getElem? (i := 139) (by decide +kernel), List.mem_of_getElem? (i := 140) (by decide +kernel)⟩
theorem lw_p2 : lw_okq (⟨"DreamLedger", "ownTagsOfLatest", "()I"⟩, 9) := ⟨⟨by decide +kernel, by decide +kernel⟩, List.mem_of_getElem? (i := 15) (by decide +kernel), List.mem_of_getElem? (i := 143) (by decide +kernel), List.mem_of_getElem? (i := 144) (by decide +kernel)⟩
theorem lw_p3 : lw_okq (⟨"DreamLedger", "digestedTag", "(JI)J"⟩, 9) := ⟨⟨by decide +kernel, by decide +kernel⟩, List.mem_of_getElem? (i := 15) (by decide +kernel), List.mem_of_getElem? (i := 163) (by decide +kernel), List.mem_of_getElem? (i := 164) (by decide +kernel)⟩
theorem lw_p4 : lw_okq (⟨"DreamLedger$TagTree", "countAbove", "(I)I"⟩, 3) := ⟨⟨by decide +kernel, by decide +kernel⟩, List.mem_of_getElem? (i := 23) (by decide +kernel), List.mem_of_getElem? (i := 167) (by decide +kernel), List.mem_of_getElem? (i := 168) (by decide +kernel)⟩
theorem lw_p5 : lw_okq (⟨"DreamLedger$TagTree", "countBelow", "(I)I"⟩, 3) := ⟨⟨by decide +kernel, by decide +kernel⟩, List.mem_of_getElem? (i := 23) (by decide +kernel), List.mem_of_getElem? (i := 177) (by decide +kernel), List.mem_of_getElem? (i := 178) (by decide +kernel)⟩
theorem lw_p6 : lw_okq (⟨"DreamLedger$TagTree", "standsBelow", "(II)Z"⟩, 3) := ⟨⟨by decide +kernel, by decide +kernel⟩, List.mem_of_getElem? (i := 23) (by decide +kernel), List.mem_of_getElem? (i := 181) (by decide +kernel), List.mem_of_getElem? (i := 182) (by decide +kernel)⟩
theorem lw_p7 : lw_okq (⟨"DreamLedger", "dreamsHaving", "(I)I"⟩, 9) := ⟨⟨by decide +kernel, by decide +kernel⟩, List.mem_of_getElem? (i := 15) (by decide +kernel), List.mem_of_getElem? (i := 188) (by decide +kernel), List.mem_of_getElem? (i := 189) (by decide +kernel)⟩
theorem lw_p8 : lw_okq (⟨"DreamLedger", "digestedDream", "(JI)J"⟩, 9) := ⟨⟨by decide +kernel, by decide +kernel⟩, List.mem_of_getElem? (i := 15) (by decide +kernel), List.mem_of_getElem? (i := 194) (by decide +kernel), List.mem_of_getElem? (i := 195) (by decide +kernel)⟩
theorem lw_p9 : lw_okq (⟨"DreamLedger", "digestedTerm", "(JI)J"⟩, 9) := ⟨⟨by decide +kernel, by decide +kernel⟩, List.mem_of_getElem? (i := 15) (by decide +kernel), List.mem_of_getElem? (i := 201) (by decide +kernel), List.mem_of_getElem? (i := 202) (by decide +kernel)⟩
theorem lw_p10 : lw_okq (⟨"DreamLedger", "smallestCover", "(I)I"⟩, 9) := ⟨⟨by decide +kernel, by decide +kernel⟩, List.mem_of_getElem? (i := 15) (by decide +kernel), List.mem_of_getElem? (i := 205) (by decide +kernel), List.mem_of_getElem? (i := 206) (by decide +kernel)⟩
theorem lw_p11 : lw_okq (⟨"DreamLedger$CoverSearch", "smallestOf", "(I)I"⟩, 2) := ⟨⟨by decide +kernel, by decide +kernel⟩, List.mem_of_getElem? (i := 69) (by decide +kernel), List.mem_of_getElem? (i := 209) (by decide +kernel), List.mem_of_getElem? (i := 210) (by decide +kernel)⟩
theorem lw_p12 : lw_okq (⟨"DreamLedger", "mostVividOf", "(I)I"⟩, 9) := ⟨⟨by decide +kernel, by decide +kernel⟩, List.mem_of_getElem? (i := 15) (by decide +kernel), List.mem_of_getElem? (i := 216) (by decide +kernel), List.mem_of_getElem? (i := 217) (by decide +kernel)⟩
theorem lw_p13 : lw_okq (⟨"DreamLedger", "tagsSharedBy", "(I)I"⟩, 9) := ⟨⟨by decide +kernel, by decide +kernel⟩, List.mem_of_getElem? (i := 15) (by decide +kernel), List.mem_of_getElem? (i := 220) (by decide +kernel), List.mem_of_getElem? (i := 221) (by decide +kernel)⟩
theorem lw_p14 : lw_okq (⟨"java/lang/Throwable", "fillInStackTrace", "(I)Ljava/lang/Throwable;"⟩, 6) := ⟨⟨by decide +kernel, by decide +kernel⟩, List.mem_of_getElem? (i := 271) (by decide +kernel), List.mem_of_getElem? (i := 269) (by decide +kernel), List.mem_of_getElem? (i := 270) (by decide +kernel)⟩
theorem lw_p15 : lw_okq (⟨"DreamLedger$TagTree", "grow", "()I"⟩, 3) := ⟨⟨by decide +kernel, by decide +kernel⟩, List.mem_of_getElem? (i := 23) (by decide +kernel), List.mem_of_getElem? (i := 301) (by decide +kernel), List.mem_of_getElem? (i := 302) (by decide +kernel)⟩
def lw_privs_1 : List (MethodName × Nat) := [(⟨"DreamLedger", "countFadedAfter", "(I)I"⟩, 9), (⟨"DreamLedger", "vividnessAfter", "(II)I"⟩, 9), (⟨"DreamLedger", "ownTagsOfLatest", "()I"⟩, 9), (⟨"DreamLedger", "digestedTag", "(JI)J"⟩, 9), (⟨"DreamLedger$TagTree", "countAbove", "(I)I"⟩, 3), (⟨"DreamLedger$TagTree", "countBelow", "(I)I"⟩, 3), (⟨"DreamLedger$TagTree", "standsBelow", "(II)Z"⟩, 3), (⟨"DreamLedger", "dreamsHaving", "(I)I"⟩, 9), (⟨"DreamLedger", "digestedDream", "(JI)J"⟩, 9), (⟨"DreamLedger", "digestedTerm", "(JI)J"⟩, 9), (⟨"DreamLedger", "smallestCover", "(I)I"⟩, 9), (⟨"DreamLedger$CoverSearch", "smallestOf", "(I)I"⟩, 2), (⟨"DreamLedger", "mostVividOf", "(I)I"⟩, 9), (⟨"DreamLedger", "tagsSharedBy", "(I)I"⟩, 9), (⟨"java/lang/Throwable", "fillInStackTrace", "(I)Ljava/lang/Throwable;"⟩, 6), (⟨"DreamLedger$TagTree", "grow", "()I"⟩, 3)]
theorem lw_r1 : ∀ q ∈ lw_privs_1, lw_okq q := List.forall_mem_cons.mpr ⟨lw_p0, List.forall_mem_cons.mpr ⟨lw_p1, List.forall_mem_cons.mpr ⟨lw_p2, List.forall_mem_cons.mpr ⟨lw_p3, List.forall_mem_cons.mpr ⟨lw_p4, List.forall_mem_cons.mpr ⟨lw_p5, List.forall_mem_cons.mpr ⟨lw_p6, List.forall_mem_cons.mpr ⟨lw_p7, List.forall_mem_cons.mpr ⟨lw_p8, List.forall_mem_cons.mpr ⟨lw_p9, List.forall_mem_cons.mpr ⟨lw_p10, List.forall_mem_cons.mpr ⟨lw_p11, List.forall_mem_cons.mpr ⟨lw_p12, List.forall_mem_cons.mpr ⟨lw_p13, List.forall_mem_cons.mpr ⟨lw_p14, List.forall_mem_cons.mpr ⟨lw_p15, fun _ h => absurd h List.not_mem_nil⟩⟩⟩⟩⟩⟩⟩⟩⟩⟩⟩⟩⟩⟩⟩⟩
theorem lw_p16 : lw_okq (⟨"DreamLedger$TagTree", "hang", "(II)V"⟩, 3) := ⟨⟨by decide +kernel, by decide +kernel⟩, List.mem_of_getElem? (i := 23) (by decide +kernel), List.mem_of_getElem? (i := 305) (by decide +kernel), List.mem_of_getElem? (i := 306) (by decide +kernel)⟩
theorem lw_p17 : lw_okq (⟨"DreamLedger$TagTree", "lineFrom", "(I)I"⟩, 3) := ⟨⟨by decide +kernel, by decide +kernel⟩, List.mem_of_getElem? (i := 23) (by decide +kernel), List.mem_of_getElem? (i := 309) (by decide +kernel), List.mem_of_getElem? (i := 310) (by decide +kernel)⟩
theorem lw_p18 : lw_okq (⟨"DreamLedger", "requirePlaceUnder", "(II)V"⟩, 9) := ⟨⟨by decide +kernel, by decide +kernel⟩, List.mem_of_getElem? (i := 15) (by decide +kernel), List.mem_of_getElem? (i := 322) (by decide +kernel), List.mem_of_getElem? (i := 323) (by decide +kernel)⟩
theorem lw_p19 : lw_okq (⟨"DreamLedger", "requireTag", "(I)V"⟩, 9) := ⟨⟨by decide +kernel, by decide +kernel⟩, List.mem_of_getElem? (i := 15) (by decide +kernel), List.mem_of_getElem? (i := 326) (by decide +kernel), List.mem_of_getElem? (i := 327) (by decide +kernel)⟩
theorem lw_p20 : lw_okq (⟨"DreamLedger$TagTree", "canHang", "(II)Z"⟩, 3) := ⟨⟨by decide +kernel, by decide +kernel⟩, List.mem_of_getElem? (i := 23) (by decide +kernel), List.mem_of_getElem? (i := 362) (by decide +kernel), List.mem_of_getElem? (i := 363) (by decide +kernel)⟩
theorem lw_p21 : lw_okq (⟨"DreamLedger", "moveTag", "(II)V"⟩, 9) := ⟨⟨by decide +kernel, by decide +kernel⟩, List.mem_of_getElem? (i := 15) (by decide +kernel), List.mem_of_getElem? (i := 367) (by decide +kernel), List.mem_of_getElem? (i := 368) (by decide +kernel)⟩
theorem lw_p22 : lw_okq (⟨"DreamLedger$TagTree", "linesOf", "(I)I"⟩, 3) := ⟨⟨by decide +kernel, by decide +kernel⟩, List.mem_of_getElem? (i := 23) (by decide +kernel), List.mem_of_getElem? (i := 372) (by decide +kernel), List.mem_of_getElem? (i := 373) (by decide +kernel)⟩
theorem lw_p23 : lw_okq (⟨"DreamLedger", "rematchTerms", "()V"⟩, 9) := ⟨⟨by decide +kernel, by decide +kernel⟩, List.mem_of_getElem? (i := 15) (by decide +kernel), List.mem_of_getElem? (i := 376) (by decide +kernel), List.mem_of_getElem? (i := 377) (by decide +kernel)⟩
theorem lw_p24 : lw_okq (⟨"DreamLedger", "allDreams", "()I"⟩, 9) := ⟨⟨by decide +kernel, by decide +kernel⟩, List.mem_of_getElem? (i := 15) (by decide +kernel), List.mem_of_getElem? (i := 380) (by decide +kernel), List.mem_of_getElem? (i := 381) (by decide +kernel)⟩
theorem lw_p25 : lw_okq (⟨"DreamLedger$TermList", "combine", "(II)V"⟩, 5) := ⟨⟨by decide +kernel, by decide +kernel⟩, List.mem_of_getElem? (i := 43) (by decide +kernel), List.mem_of_getElem? (i := 384) (by decide +kernel), List.mem_of_getElem? (i := 385) (by decide +kernel)⟩
theorem lw_p26 : lw_okq (⟨"DreamLedger$TermList", "matchedAhead", "(II)I"⟩, 5) := ⟨⟨by decide +kernel, by decide +kernel⟩, List.mem_of_getElem? (i := 43) (by decide +kernel), List.mem_of_getElem? (i := 388) (by decide +kernel), List.mem_of_getElem? (i := 389) (by decide +kernel)⟩
theorem lw_p27 : lw_okq (⟨"DreamLedger", "requireParent", "(I)V"⟩, 9) := ⟨⟨by decide +kernel, by decide +kernel⟩, List.mem_of_getElem? (i := 15) (by decide +kernel), List.mem_of_getElem? (i := 399) (by decide +kernel), List.mem_of_getElem? (i := 400) (by decide +kernel)⟩
theorem lw_p28 : lw_okq (⟨"DreamLedger", "setOwnTags", "(II)V"⟩, 9) := ⟨⟨by decide +kernel, by decide +kernel⟩, List.mem_of_getElem? (i := 15) (by decide +kernel), List.mem_of_getElem? (i := 413) (by decide +kernel), List.mem_of_getElem? (i := 414) (by decide +kernel)⟩
theorem lw_p29 : lw_okq (⟨"DreamLedger", "requireDream", "(I)V"⟩, 9) := ⟨⟨by decide +kernel, by decide +kernel⟩, List.mem_of_getElem? (i := 15) (by decide +kernel), List.mem_of_getElem? (i := 424) (by decide +kernel), List.mem_of_getElem? (i := 425) (by decide +kernel)⟩
theorem lw_p30 : lw_okq (⟨"DreamLedger", "requireNights", "(I)V"⟩, 9) := ⟨⟨by decide +kernel, by decide +kernel⟩, List.mem_of_getElem? (i := 15) (by decide +kernel), List.mem_of_getElem? (i := 454) (by decide +kernel), List.mem_of_getElem? (i := 455) (by decide +kernel)⟩
theorem lw_p31 : lw_okq (⟨"DreamLedger", "requireRoomForTerm", "()V"⟩, 9) := ⟨⟨by decide +kernel, by decide +kernel⟩, List.mem_of_getElem? (i := 15) (by decide +kernel), List.mem_of_getElem? (i := 466) (by decide +kernel), List.mem_of_getElem? (i := 467) (by decide +kernel)⟩
def lw_privs_2 : List (MethodName × Nat) := [(⟨"DreamLedger$TagTree", "hang", "(II)V"⟩, 3), (⟨"DreamLedger$TagTree", "lineFrom", "(I)I"⟩, 3), (⟨"DreamLedger", "requirePlaceUnder", "(II)V"⟩, 9), (⟨"DreamLedger", "requireTag", "(I)V"⟩, 9), (⟨"DreamLedger$TagTree", "canHang", "(II)Z"⟩, 3), (⟨"DreamLedger", "moveTag", "(II)V"⟩, 9), (⟨"DreamLedger$TagTree", "linesOf", "(I)I"⟩, 3), (⟨"DreamLedger", "rematchTerms", "()V"⟩, 9), (⟨"DreamLedger", "allDreams", "()I"⟩, 9), (⟨"DreamLedger$TermList", "combine", "(II)V"⟩, 5), (⟨"DreamLedger$TermList", "matchedAhead", "(II)I"⟩, 5), (⟨"DreamLedger", "requireParent", "(I)V"⟩, 9), (⟨"DreamLedger", "setOwnTags", "(II)V"⟩, 9), (⟨"DreamLedger", "requireDream", "(I)V"⟩, 9), (⟨"DreamLedger", "requireNights", "(I)V"⟩, 9), (⟨"DreamLedger", "requireRoomForTerm", "()V"⟩, 9)]
theorem lw_r2 : ∀ q ∈ lw_privs_2, lw_okq q := List.forall_mem_cons.mpr ⟨lw_p16, List.forall_mem_cons.mpr ⟨lw_p17, List.forall_mem_cons.mpr ⟨lw_p18, List.forall_mem_cons.mpr ⟨lw_p19, List.forall_mem_cons.mpr ⟨lw_p20, List.forall_mem_cons.mpr ⟨lw_p21, List.forall_mem_cons.mpr ⟨lw_p22, List.forall_mem_cons.mpr ⟨lw_p23, List.forall_mem_cons.mpr ⟨lw_p24, List.forall_mem_cons.mpr ⟨lw_p25, List.forall_mem_cons.mpr ⟨lw_p26, List.forall_mem_cons.mpr ⟨lw_p27, List.forall_mem_cons.mpr ⟨lw_p28, List.forall_mem_cons.mpr ⟨lw_p29, List.forall_mem_cons.mpr ⟨lw_p30, List.forall_mem_cons.mpr ⟨lw_p31, fun _ h => absurd h List.not_mem_nil⟩⟩⟩⟩⟩⟩⟩⟩⟩⟩⟩⟩⟩⟩⟩⟩
theorem lw_p32 : lw_okq (⟨"DreamLedger", "addTerm", "(III)I"⟩, 9) := ⟨⟨by decide +kernel, by decide +kernel⟩, List.mem_of_getElem? (i := 15) (by decide +kernel), List.mem_of_getElem? (i := 471) (by decide +kernel), List.mem_of_getElem? (i := 472) (by decide +kernel)⟩
theorem lw_p33 : lw_okq (⟨"DreamLedger$TermList", "add", "(III)I"⟩, 5) := ⟨⟨by decide +kernel, by decide +kernel⟩, List.mem_of_getElem? (i := 43) (by decide +kernel), List.mem_of_getElem? (i := 475) (by decide +kernel), List.mem_of_getElem? (i := 476) (by decide +kernel)⟩
theorem lw_p34 : lw_okq (⟨"DreamLedger", "requireTerm", "(I)V"⟩, 9) := ⟨⟨by decide +kernel, by decide +kernel⟩, List.mem_of_getElem? (i := 15) (by decide +kernel), List.mem_of_getElem? (i := 486) (by decide +kernel), List.mem_of_getElem? (i := 487) (by decide +kernel)⟩
theorem lw_p35 : lw_okq (⟨"DreamLedger$TagTree", "lowestOf", "(I)I"⟩, 3) := ⟨⟨by decide +kernel, by decide +kernel⟩, List.mem_of_getElem? (i := 23) (by decide +kernel), List.mem_of_getElem? (i := 548) (by decide +kernel), List.mem_of_getElem? (i := 549) (by decide +kernel)⟩
theorem lw_p36 : lw_okq (⟨"DreamLedger", "countMatchedIfUnder", "(III)I"⟩, 9) := ⟨⟨by decide +kernel, by decide +kernel⟩, List.mem_of_getElem? (i := 15) (by decide +kernel), List.mem_of_getElem? (i := 662) (by decide +kernel), List.mem_of_getElem? (i := 663) (by decide +kernel)⟩
theorem lw_p37 : lw_okq (⟨"DreamLedgerModel", "fail", "(I)I"⟩, 16) := ⟨⟨by decide +kernel, by decide +kernel⟩, List.mem_of_getElem? (i := 673) (by decide +kernel), List.mem_of_getElem? (i := 736) (by decide +kernel), List.mem_of_getElem? (i := 737) (by decide +kernel)⟩
theorem lw_p38 : lw_okq (⟨"DreamLedgerModel", "canPut", "(II)Z"⟩, 16) := ⟨⟨by decide +kernel, by decide +kernel⟩, List.mem_of_getElem? (i := 673) (by decide +kernel), List.mem_of_getElem? (i := 744) (by decide +kernel), List.mem_of_getElem? (i := 745) (by decide +kernel)⟩
theorem lw_p39 : lw_okq (⟨"DreamLedgerModel", "isTag", "(I)Z"⟩, 16) := ⟨⟨by decide +kernel, by decide +kernel⟩, List.mem_of_getElem? (i := 673) (by decide +kernel), List.mem_of_getElem? (i := 748) (by decide +kernel), List.mem_of_getElem? (i := 749) (by decide +kernel)⟩
theorem lw_p40 : lw_okq (⟨"DreamLedgerModel", "below", "(II)Z"⟩, 16) := ⟨⟨by decide +kernel, by decide +kernel⟩, List.mem_of_getElem? (i := 673) (by decide +kernel), List.mem_of_getElem? (i := 755) (by decide +kernel), List.mem_of_getElem? (i := 756) (by decide +kernel)⟩
theorem lw_p41 : lw_okq (⟨"DreamLedgerModel", "above", "(I)I"⟩, 16) := ⟨⟨by decide +kernel, by decide +kernel⟩, List.mem_of_getElem? (i := 673) (by decide +kernel), List.mem_of_getElem? (i := 759) (by decide +kernel), List.mem_of_getElem? (i := 760) (by decide +kernel)⟩
theorem lw_p42 : lw_okq (⟨"DreamLedgerModel", "isDream", "(I)Z"⟩, 16) := ⟨⟨by decide +kernel, by decide +kernel⟩, List.mem_of_getElem? (i := 673) (by decide +kernel), List.mem_of_getElem? (i := 781) (by decide +kernel), List.mem_of_getElem? (i := 782) (by decide +kernel)⟩
theorem lw_p43 : lw_okq (⟨"DreamLedgerModel", "changed", "(II)I"⟩, 16) := ⟨⟨by decide +kernel, by decide +kernel⟩, List.mem_of_getElem? (i := 673) (by decide +kernel), List.mem_of_getElem? (i := 785) (by decide +kernel), List.mem_of_getElem? (i := 786) (by decide +kernel)⟩
theorem lw_p44 : lw_okq (⟨"DreamLedgerModel", "later", "(II)I"⟩, 16) := ⟨⟨by decide +kernel, by decide +kernel⟩, List.mem_of_getElem? (i := 673) (by decide +kernel), List.mem_of_getElem? (i := 801) (by decide +kernel), List.mem_of_getElem? (i := 802) (by decide +kernel)⟩
theorem lw_p45 : lw_okq (⟨"DreamLedgerModel", "faded", "(I)I"⟩, 16) := ⟨⟨by decide +kernel, by decide +kernel⟩, List.mem_of_getElem? (i := 673) (by decide +kernel), List.mem_of_getElem? (i := 806) (by decide +kernel), List.mem_of_getElem? (i := 807) (by decide +kernel)⟩
theorem lw_p46 : lw_okq (⟨"DreamLedgerModel", "add", "(III)I"⟩, 16) := ⟨⟨by decide +kernel, by decide +kernel⟩, List.mem_of_getElem? (i := 673) (by decide +kernel), List.mem_of_getElem? (i := 814) (by decide +kernel), List.mem_of_getElem? (i := 815) (by decide +kernel)⟩
theorem lw_p47 : lw_okq (⟨"DreamLedgerModel", "isTerm", "(I)Z"⟩, 16) := ⟨⟨by decide +kernel, by decide +kernel⟩, List.mem_of_getElem? (i := 673) (by decide +kernel), List.mem_of_getElem? (i := 822) (by decide +kernel), List.mem_of_getElem? (i := 823) (by decide +kernel)⟩
def lw_privs_3 : List (MethodName × Nat) := [(⟨"DreamLedger", "addTerm", "(III)I"⟩, 9), (⟨"DreamLedger$TermList", "add", "(III)I"⟩, 5), (⟨"DreamLedger", "requireTerm", "(I)V"⟩, 9), (⟨"DreamLedger$TagTree", "lowestOf", "(I)I"⟩, 3), (⟨"DreamLedger", "countMatchedIfUnder", "(III)I"⟩, 9), (⟨"DreamLedgerModel", "fail", "(I)I"⟩, 16), (⟨"DreamLedgerModel", "canPut", "(II)Z"⟩, 16), (⟨"DreamLedgerModel", "isTag", "(I)Z"⟩, 16), (⟨"DreamLedgerModel", "below", "(II)Z"⟩, 16), (⟨"DreamLedgerModel", "above", "(I)I"⟩, 16), (⟨"DreamLedgerModel", "isDream", "(I)Z"⟩, 16), (⟨"DreamLedgerModel", "changed", "(II)I"⟩, 16), (⟨"DreamLedgerModel", "later", "(II)I"⟩, 16), (⟨"DreamLedgerModel", "faded", "(I)I"⟩, 16), (⟨"DreamLedgerModel", "add", "(III)I"⟩, 16), (⟨"DreamLedgerModel", "isTerm", "(I)Z"⟩, 16)]
theorem lw_r3 : ∀ q ∈ lw_privs_3, lw_okq q := List.forall_mem_cons.mpr ⟨lw_p32, List.forall_mem_cons.mpr ⟨lw_p33, List.forall_mem_cons.mpr ⟨lw_p34, List.forall_mem_cons.mpr ⟨lw_p35, List.forall_mem_cons.mpr ⟨lw_p36, List.forall_mem_cons.mpr ⟨lw_p37, List.forall_mem_cons.mpr ⟨lw_p38, List.forall_mem_cons.mpr ⟨lw_p39, List.forall_mem_cons.mpr ⟨lw_p40, List.forall_mem_cons.mpr ⟨lw_p41, List.forall_mem_cons.mpr ⟨lw_p42, List.forall_mem_cons.mpr ⟨lw_p43, List.forall_mem_cons.mpr ⟨lw_p44, List.forall_mem_cons.mpr ⟨lw_p45, List.forall_mem_cons.mpr ⟨lw_p46, List.forall_mem_cons.mpr ⟨lw_p47, fun _ h => absurd h List.not_mem_nil⟩⟩⟩⟩⟩⟩⟩⟩⟩⟩⟩⟩⟩⟩⟩⟩
theorem lw_p48 : lw_okq (⟨"DreamLedgerModel", "failed", "(I)Z"⟩, 16) := ⟨⟨by decide +kernel, by decide +kernel⟩, List.mem_of_getElem? (i := 673) (by decide +kernel), List.mem_of_getElem? (i := 842) (by decide +kernel), List.mem_of_getElem? (i := 843) (by decide +kernel)⟩
theorem lw_p49 : lw_okq (⟨"DreamLedgerModel", "tagsUnder", "(I)I"⟩, 16) := ⟨⟨by decide +kernel, by decide +kernel⟩, List.mem_of_getElem? (i := 673) (by decide +kernel), List.mem_of_getElem? (i := 858) (by decide +kernel), List.mem_of_getElem? (i := 859) (by decide +kernel)⟩
theorem lw_p50 : lw_okq (⟨"DreamLedgerModel", "reckon", "()V"⟩, 16) := ⟨⟨by decide +kernel, by decide +kernel⟩, List.mem_of_getElem? (i := 673) (by decide +kernel), List.mem_of_getElem? (i := 874) (by decide +kernel), List.mem_of_getElem? (i := 875) (by decide +kernel)⟩
theorem lw_p51 : lw_okq (⟨"DreamLedgerModel", "brightest", "(I)I"⟩, 16) := ⟨⟨by decide +kernel, by decide +kernel⟩, List.mem_of_getElem? (i := 673) (by decide +kernel), List.mem_of_getElem? (i := 910) (by decide +kernel), List.mem_of_getElem? (i := 911) (by decide +kernel)⟩
theorem lw_p52 : lw_okq (⟨"DreamLedgerModel", "common", "(I)I"⟩, 16) := ⟨⟨by decide +kernel, by decide +kernel⟩, List.mem_of_getElem? (i := 673) (by decide +kernel), List.mem_of_getElem? (i := 918) (by decide +kernel), List.mem_of_getElem? (i := 919) (by decide +kernel)⟩
theorem lw_p53 : lw_okq (⟨"DreamLedgerModel", "cover", "(I)I"⟩, 16) := ⟨⟨by decide +kernel, by decide +kernel⟩, List.mem_of_getElem? (i := 673) (by decide +kernel), List.mem_of_getElem? (i := 930) (by decide +kernel), List.mem_of_getElem? (i := 931) (by decide +kernel)⟩
theorem lw_p54 : lw_okq (⟨"DreamLedgerModel", "covers", "(III)Z"⟩, 16) := ⟨⟨by decide +kernel, by decide +kernel⟩, List.mem_of_getElem? (i := 673) (by decide +kernel), List.mem_of_getElem? (i := 934) (by decide +kernel), List.mem_of_getElem? (i := 935) (by decide +kernel)⟩
theorem lw_p55 : lw_okq (⟨"DreamLedgerModel", "apart", "(I)I"⟩, 16) := ⟨⟨by decide +kernel, by decide +kernel⟩, List.mem_of_getElem? (i := 673) (by decide +kernel), List.mem_of_getElem? (i := 938) (by decide +kernel), List.mem_of_getElem? (i := 939) (by decide +kernel)⟩
theorem lw_p56 : lw_okq (⟨"DreamLedgerModel", "matchesWith", "(III)I"⟩, 16) := ⟨⟨by decide +kernel, by decide +kernel⟩, List.mem_of_getElem? (i := 673) (by decide +kernel), List.mem_of_getElem? (i := 974) (by decide +kernel), List.mem_of_getElem? (i := 975) (by decide +kernel)⟩
def lw_privs_4 : List (MethodName × Nat) := [(⟨"DreamLedgerModel", "failed", "(I)Z"⟩, 16), (⟨"DreamLedgerModel", "tagsUnder", "(I)I"⟩, 16), (⟨"DreamLedgerModel", "reckon", "()V"⟩, 16), (⟨"DreamLedgerModel", "brightest", "(I)I"⟩, 16), (⟨"DreamLedgerModel", "common", "(I)I"⟩, 16), (⟨"DreamLedgerModel", "cover", "(I)I"⟩, 16), (⟨"DreamLedgerModel", "covers", "(III)Z"⟩, 16), (⟨"DreamLedgerModel", "apart", "(I)I"⟩, 16), (⟨"DreamLedgerModel", "matchesWith", "(III)I"⟩, 16)]
theorem lw_r4 : ∀ q ∈ lw_privs_4, lw_okq q := List.forall_mem_cons.mpr ⟨lw_p48, List.forall_mem_cons.mpr ⟨lw_p49, List.forall_mem_cons.mpr ⟨lw_p50, List.forall_mem_cons.mpr ⟨lw_p51, List.forall_mem_cons.mpr ⟨lw_p52, List.forall_mem_cons.mpr ⟨lw_p53, List.forall_mem_cons.mpr ⟨lw_p54, List.forall_mem_cons.mpr ⟨lw_p55, List.forall_mem_cons.mpr ⟨lw_p56, fun _ h => absurd h List.not_mem_nil⟩⟩⟩⟩⟩⟩⟩⟩⟩
def lw_privs : List (MethodName × Nat) := lw_privs_1 ++ (lw_privs_2 ++ (lw_privs_3 ++ (lw_privs_4)))
def lw_tbl : List Cond := k2_sels lw_privs ++ tables_1
theorem lw_privs_ok : ∀ q ∈ lw_privs, lw_okq q := by
  show ∀ q ∈ lw_privs_1 ++ (lw_privs_2 ++ (lw_privs_3 ++ (lw_privs_4))), lw_okq q
  exact List.forall_mem_append.mpr ⟨lw_r1, List.forall_mem_append.mpr ⟨lw_r2, List.forall_mem_append.mpr ⟨lw_r3, lw_r4⟩⟩⟩
/-- the streams that the claim lets the run draw from -/
abbrev lw_cs : List Choice := [Jvm.Choice.named "NaN.bits"]
theorem lw_bits : nanBits ∈ lw_cs := by first | decide | exact List.mem_cons_self | simp [lw_cs, nanBits]
-- ===== end of PART A; then your names; then what follows =====
end
section
/-! ===== BEGIN words of one list among another's, by their places ===== -/
theorem goodIn_r {big : List Cond} (ws : List Cond) (ps : List Nat) (hp : ws = ps.filterMap (fun i => big[i]?)) (h : ws.all goodWord = true) : GoodIn big ws := by
  intro w hw
  have h1 := List.all_eq_true.mp h w hw
  rw [hp] at hw
  obtain ⟨i, -, hi⟩ := List.mem_filterMap.mp hw
  have hm : w ∈ big := by first | exact List.mem_of_getElem? hi | exact List.getElem?_mem hi
  exact ⟨hm, good_of_word h1⟩
theorem goodIn_app {big a b : List Cond} (ha : GoodIn big a) (hb : GoodIn big b) : GoodIn big (a ++ b) := fun w h => (List.mem_append.mp h).elim (ha w) (hb w)
theorem goodIn_ca {big a b : List Cond} {c : Cond} (ha : GoodIn big (c :: a)) (hb : GoodIn big b) : GoodIn big (c :: (a ++ b)) := fun w h => (List.mem_cons.mp h).elim (fun e => ha w (List.mem_cons.mpr (Or.inl e))) (fun h => (List.mem_append.mp h).elim (fun h => ha w (List.mem_cons.mpr (Or.inr h))) (hb w))
theorem goodIn_sub {big ws : List Cond} (hm : ∀ w ∈ ws, w ∈ big) (h : ws.all goodWord = true) : GoodIn big ws := fun w hw => ⟨hm w hw, good_of_word (List.all_eq_true.mp h w hw)⟩
/-! ===== END ===== -/

/-! ===== BEGIN exceptions that leave a method, and their catching by the caller (launches without stack traces) ===== -/
section VXA
/-! The laws vx_back, vx_callV, vx_callS, vx_callSW, vx_throw0, vx_throwS follow proofs of the library, with one case more: JvmDerived/Free/Laws.lean (Back.of_free), Shelf42/LK1.lean (callV, callS), Shelf/KitTraced.lean (throwNew0V, throwNewS). -/
/-- where a method has thrown q: the class by its name, the cell, what was written, the world -/
def vx_T (XC : String → State → State → Prop) (st : State) (q : Addr) (t : State) (mc ms : Nat) (free : Addr → Prop) : Prop :=
  ∃ (E : String) (ce : Cell) (L : List Loc), XC E st t ∧ t.heap[q]? = some ce ∧ ce.vm = .none ∧ st.vm.findClass E = some ce.cls ∧ st.WarmedH t.vm ∧ st.sameButNew ({ t with vm := st.vm } : State) L mc ms ∧ ∀ z ∈ L, free z.base
def vx_Q (Qc : Array Value → State → Outcome → State → Prop) (XC : String → State → State → Prop) (mc ms : Nat) (free : Addr → Prop) : Array Value → State → Outcome → State → Prop := fun a st o t =>
  (Qc a st o t ∧ ∃ L, FrameEnd st o t L mc ms ∧ ∀ q ∈ L, free q.base) ∨ ∃ q, o = .threw q ∧ vx_T XC st q t mc ms free
/-- a callee that returns or throws -/
def vx_Met (l : Launch) (y : MethodName) (ws : List Cond) (rm : Room) (Pc : Array Value → State → Prop) (Qc : Array Value → State → Outcome → State → Prop) (XC : String → State → State → Prop) (mc ms : Nat) (free : Addr → Prop) : Prop :=
  MetFree l y (headSpec ws rm) Pc (fun _ _ _ _ _ => True) (vx_Q Qc XC mc ms free)
def vx_Post (XC : String → State → State → Prop) (mc ms : Nat) (free : Addr → Prop) : Pt → Array Value → Addr → Pt → Prop := fun A a q B =>
  ∃ (g : JFrame) (mk : MethodId) (t : State) (L : List Loc) (E : String) (ce : Cell), B.U.heap = t.heap ∧ B.U.vm = t.vm ∧ XC E (A.U.calling g mk a) t ∧ t.heap[q]? = some ce ∧ ce.vm = .none ∧ A.U.vm.findClass E = some ce.cls ∧ B.locs = A.locs ++ L ∧ (∀ z ∈ L, free z.base) ∧ B.cells = A.cells + mc ∧ B.slots = A.slots + ms
def vx_Back (l : Launch) (R : Room) (p : Program) (e : Env) (below : List Frame) (s : State) (sargs : Array Value) (y : MethodName) (len W9 : Nat)
    (Pre : Pt → Array Value → Prop) (Post : Pt → Array Value → Option Value → Pt → Prop) (PostX : Pt → Array Value → Addr → Pt → Prop) : Prop :=
  ∀ (m : MethodId) (meth : Method) (c : Code) (A : Pt) (g : JFrame) (ig : Instr) (mk : MethodId) (a : Array Value),
    Stand p l e R s m sargs below meth c A.U A.locs A.cells A.slots → g.method = m → g.locals.size = c.maxLocals → decode c.code g.pc = .ok (ig, len) →
    2 * g.monitorRoom + (g.stack.map fun v => v.category).sum ≤ W9 → A.U.methodNamed? y = some mk → Pre A a →
    (∃ (v : Option Value) (B : Pt), Stand p l e R s m sargs below meth c B.U B.locs B.cells B.slots ∧ Post A a v B ∧
      Steps p.tables e below (doInvoke e (A.U.setTop g) [] mk a).1 (B.U.setTop { g with pc := g.pc + len, stack := v.toList ++ g.stack })) ∨
    (∃ (q : Addr) (B : Pt), Stand p l e R s m sargs below meth c B.U B.locs B.cells B.slots ∧ PostX A a q B ∧
      Steps p.tables e below (doInvoke e (A.U.setTop g) [] mk a).1 ((B.U.setTop g).pushFrame (.throwing q)))
section Payer
variable {l : Launch} {R : Room} {p : Program} {e : Env} {below : List Frame} {s : State} {sargs : Array Value} {y : MethodName} {len W9 : Nat}
theorem vx_back {ws : List Cond} {rm : Room} {Pc : Array Value → State → Prop} {Qc : Array Value → State → Outcome → State → Prop} {XC : String → State → State → Prop} {mc ms : Nat} {free : Addr → Prop} {bytes : ByteArray} {maxL : Nat} {ret : Option FieldType}
    (hM : vx_Met l y ws rm Pc Qc XC mc ms free) (hblind : FrameBlind Pc) (hrc : rm.cells = mc) (hrs : rm.slots = ms)
    (hframes : rm.frames + 1 ≤ R.frames) (hlocals : W9 + (maxL + 11) + rm.locals ≤ R.locals)
    (hws : ∀ w ∈ ws, ∀ a' U, s.WarmedH U.vm → w.before a' U = true) (hcode : Cond.code y bytes maxL ret ∈ ws) (hinit : ∀ a' U, s.WarmedH U.vm → (Cond.initialized y.cls).before a' U = true) :
    vx_Back l R p e below s sargs y len W9 (PreOf R mc ms Pc) (PostOf Qc mc ms free) (vx_Post XC mc ms free) := by
  intro m meth c A g ig mk a X hg hsize hdg hW hn hp
  have h1 : (headSpec ws rm).pre.before a A.U = true := atoms_intro fun w hw => hws w hw _ _ X.warmed
  have h2 : (Cond.code y bytes maxL ret).before a A.U = true := hws _ hcode _ _ X.warmed
  have h3 : (Cond.initialized y.cls).before a A.U = true := hinit _ _ X.warmed
  have h4 : A.cells + (headSpec ws rm).room.cells ≤ R.cells := by rw [show (headSpec ws rm).room.cells = mc from hrc]; exact hp.1
  have h5 : A.slots + (headSpec ws rm).room.slots ≤ R.slots := by rw [show (headSpec ws rm).room.slots = ms from hrs]; exact hp.2.1
  have hPc : Pc a (A.U.calling g mk a) := hblind _ _ _ _ hp.2.2
  obtain ⟨U, Ls, c0, s0⟩ := A
  dsimp only [Pt.U, Pt.locs, Pt.cells, Pt.slots] at h1 h2 h3 h4 h5 X hn hPc ⊢
  obtain ⟨methY, cY, hmY, hcY, -, hlY, -, -, -, -⟩ := Cond.code_spec hn h2
  obtain ⟨kY, hkY, -⟩ := className_of_methodNamed hn
  have hinitY : kY.init = .initialized := Cond.initialized_spec (findClass_of_methodNamed hn) hkY h3
  have h : At U g.method c below := by rw [hg]; exact X.here
  have hlocals9 : W9 + (maxL + 11) + (headSpec ws rm).room.locals ≤ R.locals := hlocals
  have happ : (headSpec ws rm).appliesLoose y e.platform (U.calling g mk a) = true :=
    Spec.appliesLoose_calling (g := g) h hdg hn hkY hinitY
      (X.room_calling (g := g) (R' := (headSpec ws rm).room) hsize hmY hcY hframes (by rw [hlY]; omega) h4 h5) h1
  obtain ⟨mid, hmid⟩ := h.above
  have hfr : (U.setTop g).frames = (.java g :: mid) ++ below := by rw [State.frames_setTop' g h.top, hmid]; rfl
  obtain ⟨o, s₂, hsteps, -, hend, hq⟩ := Steps.callFree hM p X.admits X.cas X.clock (acts := []) hfr happ hPc trivial
  have hq' : vx_Q Qc XC mc ms free a (U.calling g mk a) o s₂ := hq
  rw [State.frames_setTop' g h.top] at hend
  obtain ⟨g₀, hg0⟩ := Option.isSome_iff_exists.mp h.top
  obtain ⟨r, hr⟩ := State.topJava?_eq_some.mp hg0
  have hr' : (({ U with heap := s₂.heap, slotsUsed := s₂.slotsUsed } : State).setVm s₂.vm).frames = .java g₀ :: r := hr
  rcases hq' with ⟨hqc, L, hfe, hL⟩ | ⟨q, rfl, E, ce, L, hx, hce, hcv, hcl, hW₂, hsm, hL⟩
  · obtain ⟨⟨v, rfl⟩, hW₂, e2, q2, q3, q4, q5, q6⟩ := id hfe
    have e3 : s₂ = ({ (U.calling g mk a).setFrames s₂.frames with heap := s₂.heap, slotsUsed := s₂.slotsUsed } : State).setVm s₂.vm := by
      have : s₂ = ({ s₂ with vm := (U.calling g mk a).vm } : State).setVm s₂.vm := rfl
      rw [e2] at this
      exact this
    obtain ⟨c₂, i₂, len₂, hc₂, hd₂, hf₂⟩ := hend
    have hW' : U.WarmedH s₂.vm := hW₂
    have hcc : c₂ = c := by
      have h1 : s₂.code? g.method = U.code? g.method := by
        rw [State.code?_eq, State.code?_eq, hW'.alike.method?]
      exact Option.some.inj (hc₂.symm.trans (h1.trans h.code))
    subst hcc
    have hlen : len₂ = len := by rw [hdg] at hd₂; cases hd₂; rfl
    subst hlen
    have hs₂ : s₂ = (({ U with heap := s₂.heap, slotsUsed := s₂.slotsUsed } : State).setVm s₂.vm).setTop { g with pc := g.pc + len₂, stack := v.toList ++ g.stack } := by
      refine e3.trans ?_
      rw [hf₂, State.calling_eq h.top, State.setFrames_setFrames, State.setTop_of_frames _ hr', hr]
      rfl
    have hsame : U.sameButNew ({ U with heap := s₂.heap, slotsUsed := s₂.slotsUsed } : State) L mc ms := by
      refine ⟨?_, q2, q3, q4, q5, q6⟩
      obtain ⟨t, ht, -⟩ := State.frames_cons hr
      show ({ U with heap := s₂.heap, slotsUsed := s₂.slotsUsed } : State) = { U.setFrames U.frames with heap := s₂.heap, slotsUsed := s₂.slotsUsed }
      rw [State.setFrames_self ht]
    subst hg
    refine Or.inl ⟨v, ⟨(({ U with heap := s₂.heap, slotsUsed := s₂.slotsUsed } : State).setVm s₂.vm), Ls ++ L, c0 + mc, s0 + ms⟩,
      ⟨X.admits, X.cas, X.clock, X.frames, X.room, X.hears, X.method, X.code, (X.here.setHeapUsed s₂.heap s₂.slotsUsed).setVm hW'.alike, X.tail, State.WarmedH.trans X.warmed hW', X.limits, X.bytes, X.same.trans (hsame.setVm s.vm)⟩,
      ⟨g, mk, s₂, L, rfl, rfl, hqc, rfl, hL, rfl, rfl⟩, ?_⟩
    show Steps p.tables e below _ ((({ U with heap := s₂.heap, slotsUsed := s₂.slotsUsed } : State).setVm s₂.vm).setTop { g with pc := g.pc + len₂, stack := v.toList ++ g.stack })
    rw [← hs₂]
    exact hsteps
  · obtain ⟨e2, q2, q3, q4, q5, q6⟩ := id hsm
    have e3 : s₂ = ({ (U.calling g mk a).setFrames s₂.frames with heap := s₂.heap, slotsUsed := s₂.slotsUsed } : State).setVm s₂.vm := by
      have : s₂ = ({ s₂ with vm := (U.calling g mk a).vm } : State).setVm s₂.vm := rfl
      rw [e2] at this
      exact this
    have hf₂ : s₂.frames = .throwing q :: .java g :: U.frames.tail := hend
    have hW' : U.WarmedH s₂.vm := hW₂
    have hs₂ : s₂ = ((({ U with heap := s₂.heap, slotsUsed := s₂.slotsUsed } : State).setVm s₂.vm).setTop g).pushFrame (.throwing q) := by
      refine e3.trans ?_
      rw [hf₂, State.calling_eq h.top, State.setFrames_setFrames, State.pushFrame, State.frames_setTop _ hr', State.setTop_of_frames _ hr', State.setFrames_setFrames, hr]
      rfl
    have hsame : U.sameButNew ({ U with heap := s₂.heap, slotsUsed := s₂.slotsUsed } : State) L mc ms := by
      refine ⟨?_, q2, q3, q4, q5, q6⟩
      obtain ⟨t, ht, -⟩ := State.frames_cons hr
      show ({ U with heap := s₂.heap, slotsUsed := s₂.slotsUsed } : State) = { U.setFrames U.frames with heap := s₂.heap, slotsUsed := s₂.slotsUsed }
      rw [State.setFrames_self ht]
    subst hg
    refine Or.inr ⟨q, ⟨(({ U with heap := s₂.heap, slotsUsed := s₂.slotsUsed } : State).setVm s₂.vm), Ls ++ L, c0 + mc, s0 + ms⟩,
      ⟨X.admits, X.cas, X.clock, X.frames, X.room, X.hears, X.method, X.code, (X.here.setHeapUsed s₂.heap s₂.slotsUsed).setVm hW'.alike, X.tail, State.WarmedH.trans X.warmed hW', X.limits, X.bytes, X.same.trans (hsame.setVm s.vm)⟩,
      ⟨g, mk, s₂, L, E, ce, rfl, rfl, hx, hce, hcv, hcl, rfl, hL, rfl, rfl⟩, ?_⟩
    show Steps p.tables e below _ (((({ U with heap := s₂.heap, slotsUsed := s₂.slotsUsed } : State).setVm s₂.vm).setTop g).pushFrame (.throwing q))
    rw [← hs₂]
    exact hsteps
end Payer
section Calls
variable {p : Program} {l : Launch} {e : Env} {R : Room} {s : State} {m : MethodId} {args : Array Value} {below : List Frame} {meth : Method} {c : Code} {T : State} {locs : List Loc} {cells slots : Nat}
theorem vx_callV (X : Stand p l e R s m args below meth c T locs cells slots) (hexec : p.tables.exec = Jvm.exec) {own C : String} {index : Nat} {y : MethodName} {bytes : ByteArray} {maxL : Nat} {ret : Option FieldType}
    (hown : s.vm.findClass own = some m.cls) (hlink : (Cond.methodLink own index y).before args s = true) (hinst : (Cond.instanceMethod y).before args s = true) (hsel : (Cond.selects C y y).before args s = true)
    (hcode : (Cond.code y bytes maxL ret).before args s = true) (hy : y.cls ≠ "java/lang/invoke/MethodHandle" ∧ y.cls ≠ "java/lang/invoke/VarHandle")
    {W9 : Nat} {Pre : Pt → Array Value → Prop} {Post : Pt → Array Value → Option Value → Pt → Prop} {PostX : Pt → Array Value → Addr → Pt → Prop} (hK : vx_Back l R p e below s args y 3 W9 Pre Post PostX)
    {b : Addr} {cellB : Cell} (hcell : T.heap[b]? = some cellB) (hobj : cellB.vm.isStatics = false) (hcls : s.vm.findClass C = some cellB.cls)
    {g : JFrame} (hg : g.method = m) (hsize : g.locals.size = c.maxLocals) {argsL rest : List Value} (hlen : ∀ sig, parseMethodDescriptor y.desc = some sig → argsL.length = sig.parameters.length)
    (hstack : g.stack = argsL.reverse ++ .ref b :: rest) (hW : 2 * g.monitorRoom + (rest.map fun v => v.category).sum ≤ W9) (hdg : decode c.code g.pc = .ok (.invokevirtual index, 3))
    (hpre : ∀ vm₁, s.WarmedH vm₁ → Pre ⟨T.setVm vm₁, locs, cells, slots⟩ (Value.ref b :: argsL).toArray) :
    (∃ (v : Option Value) (vm₁ : Vm) (B : Pt), s.WarmedH vm₁ ∧ Stand p l e R s m args below meth c B.U B.locs B.cells B.slots ∧ Post ⟨T.setVm vm₁, locs, cells, slots⟩ (Value.ref b :: argsL).toArray v B ∧
      ∀ target, Steps p.tables e below (B.U.setTop { g with pc := g.pc + 3, stack := v.toList ++ rest }) target → Steps p.tables e below (T.setTop g) target) ∨
    (∃ (q : Addr) (vm₁ : Vm) (B : Pt), s.WarmedH vm₁ ∧ Stand p l e R s m args below meth c B.U B.locs B.cells B.slots ∧ PostX ⟨T.setVm vm₁, locs, cells, slots⟩ (Value.ref b :: argsL).toArray q B ∧
      Steps p.tables e below (T.setTop g) ((B.U.setTop { g with stack := rest }).pushFrame (.throwing q))) := by
  obtain ⟨mk, methM, hnamed, hmethM, hstM, habM⟩ := Cond.instanceMethod_spec hinst
  obtain ⟨methM', cM, hmethM', -, -, -, -, -, -, hsigM⟩ := Cond.code_spec hnamed hcode
  cases hmethM.symm.trans hmethM'
  obtain ⟨c2, r2, m2, q1, q2, q3, q4, kP, hkP, hkPi⟩ := Cond.selects_spec hsel
  cases hcls.symm.trans q1
  cases (State.methodFound?_of_named hnamed hy).symm.trans q2
  cases hnamed.symm.trans q3
  have hselP : selectMethod e.platform s.vm cellB.cls mk = .method mk := by rw [Launch.admits_selectMethod X.admits]; exact q4
  obtain ⟨vm₁, X₁, hstep₁⟩ := X.invokevirtual hexec hown hlink hnamed hmethM hstM hkP hkPi hy (a := b) (cell := cellB) hcell
    (fun z h => by rw [h] at hobj; cases hobj) hselP hmethM habM hkP hkPi (g := g) hg (argsL := argsL) (rest := rest) (hlen _ hsigM) hstack hdg
  rcases hK m meth c ⟨T.setVm vm₁, locs, cells, slots⟩ { g with stack := rest } (.invokevirtual index) mk (Value.ref b :: argsL).toArray X₁ hg hsize hdg hW (X₁.named hnamed) (hpre vm₁ X₁.warmed) with ⟨v, B, X', hpost, hsteps⟩ | ⟨q, B, X', hpost, hsteps⟩
  · exact Or.inl ⟨v, vm₁, B, X₁.warmed, X', hpost, fun target h => hstep₁ _ fun acts => by rw [doInvoke_state]; exact hsteps.trans h⟩
  · exact Or.inr ⟨q, vm₁, B, X₁.warmed, X', hpost, hstep₁ _ fun acts => by rw [doInvoke_state]; exact hsteps⟩
theorem vx_callS (X : Stand p l e R s m args below meth c T locs cells slots) (hexec : p.tables.exec = Jvm.exec) {own : String} {index : Nat} {y : MethodName} {bytes : ByteArray} {maxL : Nat} {ret : Option FieldType}
    (hown : s.vm.findClass own = some m.cls) (hlink : (Cond.methodLink own index y).before args s = true) (hstat : (Cond.static y).before args s = true) (hinit : (Cond.initialized y.cls).before args s = true)
    (hcode : (Cond.code y bytes maxL ret).before args s = true) (hy : y.cls ≠ "java/lang/invoke/MethodHandle" ∧ y.cls ≠ "java/lang/invoke/VarHandle")
    {W9 : Nat} {Pre : Pt → Array Value → Prop} {Post : Pt → Array Value → Option Value → Pt → Prop} {PostX : Pt → Array Value → Addr → Pt → Prop} (hK : vx_Back l R p e below s args y 3 W9 Pre Post PostX)
    {g : JFrame} (hg : g.method = m) (hsize : g.locals.size = c.maxLocals) {argsL rest : List Value} (hlen : ∀ sig, parseMethodDescriptor y.desc = some sig → argsL.length = sig.parameters.length)
    (hstack : g.stack = argsL.reverse ++ rest) (hW : 2 * g.monitorRoom + (rest.map fun v => v.category).sum ≤ W9) (hdg : decode c.code g.pc = .ok (.invokestatic index, 3))
    (hpre : ∀ vm₁, s.WarmedH vm₁ → Pre ⟨T.setVm vm₁, locs, cells, slots⟩ argsL.toArray) :
    (∃ (v : Option Value) (vm₁ : Vm) (B : Pt), s.WarmedH vm₁ ∧ Stand p l e R s m args below meth c B.U B.locs B.cells B.slots ∧ Post ⟨T.setVm vm₁, locs, cells, slots⟩ argsL.toArray v B ∧
      ∀ target, Steps p.tables e below (B.U.setTop { g with pc := g.pc + 3, stack := v.toList ++ rest }) target → Steps p.tables e below (T.setTop g) target) ∨
    (∃ (q : Addr) (vm₁ : Vm) (B : Pt), s.WarmedH vm₁ ∧ Stand p l e R s m args below meth c B.U B.locs B.cells B.slots ∧ PostX ⟨T.setVm vm₁, locs, cells, slots⟩ argsL.toArray q B ∧
      Steps p.tables e below (T.setTop g) ((B.U.setTop { g with stack := rest }).pushFrame (.throwing q))) := by
  obtain ⟨mk, hnamed⟩ := Cond.code_named hcode
  obtain ⟨methM, cM, hmethM, -, -, -, -, -, -, hsigM⟩ := Cond.code_spec hnamed hcode
  have hstatic : methM.isStatic = true := Cond.static_spec hnamed hmethM hstat
  obtain ⟨kP, hkP, -⟩ := className_of_methodNamed hnamed
  have hinitP : kP.init = .initialized := Cond.initialized_spec (findClass_of_methodNamed hnamed) hkP hinit
  obtain ⟨vm₁, X₁, hstep₁⟩ := X.invokestatic hexec hown hlink hnamed hmethM hstatic hkP hinitP hy (g := g) hg (argsL := argsL) (rest := rest) (hlen _ hsigM) hstack hdg
  rcases hK m meth c ⟨T.setVm vm₁, locs, cells, slots⟩ { g with stack := rest } (.invokestatic index) mk argsL.toArray X₁ hg hsize hdg hW (X₁.named hnamed) (hpre vm₁ X₁.warmed) with ⟨v, B, X', hpost, hsteps⟩ | ⟨q, B, X', hpost, hsteps⟩
  · exact Or.inl ⟨v, vm₁, B, X₁.warmed, X', hpost, fun target h => hstep₁ _ fun acts => by rw [doInvoke_state]; exact hsteps.trans h⟩
  · exact Or.inr ⟨q, vm₁, B, X₁.warmed, X', hpost, hstep₁ _ fun acts => by rw [doInvoke_state]; exact hsteps⟩
end Calls
theorem vx_cls {s : State} {T : State} {vm₁ : Vm} {E : String} {k : ClassId} (hW : s.WarmedH vm₁) (h : (T.setVm vm₁).vm.findClass E = some k) : s.vm.findClass E = some k := by
  have h1 : vm₁.findClass E = some k := h
  rw [hW.alike.findClass] at h1
  exact h1
/-- the method's frame g, with q thrown over it -/
def vx_W (p : Program) (l : Launch) (e : Env) (R : Room) (s : State) (m : MethodId) (args : Array Value) (below : List Frame) (meth : Method) (c : Code) (H : Heap) (locs : List Loc) (cells slots : Nat) (Q : State → Prop) (g : JFrame) (q : Addr) : Prop :=
  ∀ T : State, T.heap = H → Stand p l e R s m args below meth c T locs cells slots → ∃ t, Steps p.tables e below ((T.setTop g).pushFrame (.throwing q)) t ∧ Q t
def vx_Run (p : Program) (l : Launch) (e : Env) (R : Room) (s : State) (m : MethodId) (args : Array Value) (below : List Frame) (meth : Method) (c : Code) (H : Heap) (locs : List Loc) (cells slots mc ms : Nat) (g : JFrame) (rest : List Value) (Qa : State → Outcome → State → Prop) (XC : String → State → State → Prop) (free : Addr → Prop) : Prop :=
  ∀ T : State, T.heap = H → Stand p l e R s m args below meth c T locs cells slots →
    (∃ (v : Option Value) (st₀ t T' : State) (L : List Loc), st₀.heap = H ∧ Stand p l e R s m args below meth c T' (locs ++ L) (cells + mc) (slots + ms) ∧ (∀ q ∈ L, free q.base) ∧ T'.heap = t.heap ∧ T'.vm = t.vm ∧ Qa st₀ (.returned v) t ∧
      Goes p e below T g T' { g with pc := g.pc + 3, stack := v.toList ++ rest }) ∨
    (∃ (q : Addr) (st₀ t T' : State) (L : List Loc) (E : String) (ce : Cell), st₀.heap = H ∧ Stand p l e R s m args below meth c T' (locs ++ L) (cells + mc) (slots + ms) ∧ (∀ z ∈ L, free z.base) ∧ T'.heap = t.heap ∧ T'.vm = t.vm ∧ XC E st₀ t ∧ t.heap[q]? = some ce ∧ ce.vm = .none ∧ s.vm.findClass E = some ce.cls ∧
      Steps p.tables e below (T.setTop g) ((T'.setTop { g with stack := rest }).pushFrame (.throwing q)))
def vx_X {S : Type} (px : S → Prop) (B : String → S → State → Prop) (A : Nat → Prop) : String → State → State → Prop := fun E st t => ∃ u : S, px u ∧ B E u t ∧ va_F A st t
section Runs
variable {p : Program} {l : Launch} {e : Env} {R : Room} {s : State} {m : MethodId} {args : Array Value} {below : List Frame} {meth : Method} {c : Code} {H : Heap} {locs : List Loc} {cells slots : Nat}
variable {y : MethodName} {bytes cc : ByteArray} {maxL nL mc ms n index : Nat} {ret : Option FieldType} {ws : List Cond} {rm : Room} {Pc : Array Value → State → Prop} {Qc : Array Value → State → Outcome → State → Prop} {XC : String → State → State → Prop} {free : Addr → Prop} {Ts : List Cond} {own C : String} {b : Addr} {As rest : List Value} {g : JFrame}
theorem vx_callBack (cb : CallB R s args own index y bytes maxL ret ws rm mc ms n) (hM : vx_Met l y ws rm Pc Qc XC mc ms free) (hbl : FrameBlind Pc) : vx_Back l R p e below s args y 3 8 (PreOf R mc ms Pc) (PostOf Qc mc ms free) (vx_Post XC mc ms free) := by
  obtain ⟨hrc, hrs, hfr, hlo, hws, hcw, -, hini, -⟩ := cb
  exact vx_back (bytes := bytes) (maxL := maxL) (ret := ret) hM hbl hrc hrs hfr hlo hws hcw (fun a' U hW => word_at hW (Or.inl (by first | rfl | simp [Cond.onTables, Cond.keeps, Cond.steady])) hini)
theorem vx_runV (S : CallFix p m c cc nL s args Ts own) (hM : vx_Met l y ws rm Pc Qc XC mc ms free) (cw : CallW R s args own C index y bytes maxL ret ws rm mc ms n) (hp : PreV s H C b Pc As)
    (hg : g.method = m) (hn : As.length = n) (hsize : g.locals.size = nL) (hstack : g.stack = As.reverse ++ .ref b :: rest) (hW : 2 * g.monitorRoom + (rest.map fun v => v.category).sum ≤ 8) (hdg : decode cc g.pc = .ok (.invokevirtual index, 3)) (hf : cells + mc ≤ R.cells ∧ slots + ms ≤ R.slots) :
    vx_Run p l e R s m args below meth c H locs cells slots mc ms g rest (Qc (Value.ref b :: As).toArray) XC free := by
  have hK : vx_Back l R p e below s args y 3 8 (PreOf R mc ms Pc) (PostOf Qc mc ms free) (vx_Post XC mc ms free) := vx_callBack cw.1 hM hp.1
  obtain ⟨⟨-, -, -, -, -, -, hcode, -, hy, hlen, hl⟩, hin, hse⟩ := cw
  obtain ⟨hx, hb, hml, ho, -⟩ := S
  obtain ⟨-, ⟨cellB, hcB, hoB, hclB⟩, hPc⟩ := hp
  intro T hT X
  rcases vx_callV X hx (C := C) (bytes := bytes) (maxL := maxL) (ret := ret) ho hl hin hse hcode hy hK (by rw [hT]; exact hcB) hoB hclB hg (hsize.trans hml.symm) (argsL := As) (rest := rest) (fun sig h => hn.trans (hlen sig h)) hstack hW (by rw [hb]; exact hdg)
    (fun vm₁ hW₁ => ⟨hf.1, hf.2, hPc (T.setVm vm₁) hT hW₁⟩) with ⟨v, vm₁, ⟨U', l2, c2, s2⟩, hW₁, X', ⟨g', mk, t, L, e1, e2, hq, h1, hL, h2, h3⟩, st⟩ | ⟨q, vm₁, ⟨U', l2, c2, s2⟩, hW₁, X', ⟨g', mk, t, L, E, ce, e1, e2, hq, hce, hcv, hcl, h1, hL, h2, h3⟩, st⟩
  · dsimp only [Pt.U, Pt.locs, Pt.cells, Pt.slots] at X' e1 e2 h1 h2 h3 st
    subst h1; subst h2; subst h3
    exact Or.inl ⟨v, (T.setVm vm₁).calling g' mk (Value.ref b :: As).toArray, t, U', L, hT, X', hL, e1, e2, hq, st⟩
  · dsimp only [Pt.U, Pt.locs, Pt.cells, Pt.slots] at X' e1 e2 h1 h2 h3 st hcl
    subst h1; subst h2; subst h3
    exact Or.inr ⟨q, (T.setVm vm₁).calling g' mk (Value.ref b :: As).toArray, t, U', L, E, ce, hT, X', hL, e1, e2, hq, hce, hcv, vx_cls hW₁ hcl, st⟩
theorem vx_runS (S : CallFix p m c cc nL s args Ts own) (hM : vx_Met l y ws rm Pc Qc XC mc ms free) (cw : CallB R s args own index y bytes maxL ret ws rm mc ms n ∧ (Cond.static y).before args s = true) (hp : PreS s H Pc As)
    (hg : g.method = m) (hn : As.length = n) (hsize : g.locals.size = nL) (hstack : g.stack = As.reverse ++ rest) (hW : 2 * g.monitorRoom + (rest.map fun v => v.category).sum ≤ 8) (hdg : decode cc g.pc = .ok (.invokestatic index, 3)) (hf : cells + mc ≤ R.cells ∧ slots + ms ≤ R.slots) :
    vx_Run p l e R s m args below meth c H locs cells slots mc ms g rest (Qc As.toArray) XC free := by
  have hK : vx_Back l R p e below s args y 3 8 (PreOf R mc ms Pc) (PostOf Qc mc ms free) (vx_Post XC mc ms free) := vx_callBack cw.1 hM hp.1
  obtain ⟨⟨-, -, -, -, -, -, hcode, hini, hy, hlen, hl⟩, hstt⟩ := cw
  obtain ⟨hx, hb, hml, ho, -⟩ := S
  intro T hT X
  rcases vx_callS X hx (bytes := bytes) (maxL := maxL) (ret := ret) ho hl hstt hini hcode hy hK hg (hsize.trans hml.symm) (argsL := As) (rest := rest) (fun sig h => hn.trans (hlen sig h)) hstack hW (by rw [hb]; exact hdg)
    (fun vm₁ hW₁ => ⟨hf.1, hf.2, hp.2 (T.setVm vm₁) hT hW₁⟩) with ⟨v, vm₁, ⟨U', l2, c2, s2⟩, hW₁, X', ⟨g', mk, t, L, e1, e2, hq, h1, hL, h2, h3⟩, st⟩ | ⟨q, vm₁, ⟨U', l2, c2, s2⟩, hW₁, X', ⟨g', mk, t, L, E, ce, e1, e2, hq, hce, hcv, hcl, h1, hL, h2, h3⟩, st⟩
  · dsimp only [Pt.U, Pt.locs, Pt.cells, Pt.slots] at X' e1 e2 h1 h2 h3 st
    subst h1; subst h2; subst h3
    exact Or.inl ⟨v, (T.setVm vm₁).calling g' mk As.toArray, t, U', L, hT, X', hL, e1, e2, hq, st⟩
  · dsimp only [Pt.U, Pt.locs, Pt.cells, Pt.slots] at X' e1 e2 h1 h2 h3 st hcl
    subst h1; subst h2; subst h3
    exact Or.inr ⟨q, (T.setVm vm₁).calling g' mk As.toArray, t, U', L, E, ce, hT, X', hL, e1, e2, hq, hce, hcv, vx_cls hW₁ hcl, st⟩
end Runs
section Rows
variable {p : Program} {l : Launch} {e : Env} {R : Room} {s : State} {m : MethodId} {args : Array Value} {below : List Frame} {meth : Method} {c : Code} {H : Heap} {locs : List Loc} {cells slots : Nat} {Q : State → Prop}
variable {mc ms : Nat} {free : Addr → Prop} {A0 A1 : Nat → Prop} {H0 : Heap} {a : Array Value} {pc : Nat} {ls : Array Slot} {st0 rest : List Value}
theorem vx_keep {st₀ t T' : State} {L : List Loc} (h0 : st₀.heap = H) (e1 : T'.heap = t.heap) (hS : va_S A0 H0 H locs) (hA : ∀ q, q < H.size → A1 q → A0 q) (hf : ∀ q, free q → A0 q) (hL : ∀ q ∈ L, free q.base) (hF : va_F A1 st₀ t) :
    H.size ≤ T'.heap.size ∧ (∀ q : Nat, q < H.size → ¬ A1 q → T'.heap[q]? = H[q]?) ∧ va_S A0 H0 T'.heap (locs ++ L) := by
  obtain ⟨hz, hk⟩ := hF
  rw [h0] at hz hk
  exact ⟨by rw [e1]; exact hz, fun q h1 h2 => by rw [e1]; exact hk q h1 h2,
    ⟨Nat.le_trans hS.1 (by rw [e1]; exact hz), fun q h1 h2 => by rw [e1, hk q (Nat.lt_of_lt_of_le h1 hS.1) (fun z => h2 (hA q (Nat.lt_of_lt_of_le h1 hS.1) z))]; exact hS.2.1 q h1 h2, fun q hq => by
      rcases List.mem_append.mp hq with h | h
      · exact hS.2.2 q h
      · exact hf _ (hL q h)⟩⟩
theorem vx_calli {S SX : Type} {post : Int32 → S → Prop} {px : SX → Prop} {B : S → State → Prop} {BX : String → SX → State → Prop} {AX : Nat → Prop} (hr : vx_Run p l e R s m args below meth c H locs cells slots mc ms (F0 m pc ls st0) rest (va_Qi post B A1 a) (vx_X px BX AX) free) (hS : va_S A0 H0 H locs) (hA : ∀ q, q < H.size → A1 q → A0 q) (hf : ∀ q, free q → A0 q) (hAX : ∀ q, q < H.size → AX q → A0 q)
    (kx : ∀ (E : String) (ce : Cell) (q9 : Addr) (u : SX) (t : State) (H1 : Heap) (locs1 : List Loc), t.heap = H1 → s.vm.Alike t.vm → px u → BX E u t → H.size ≤ H1.size → (∀ q : Nat, q < H.size → ¬ AX q → H1[q]? = H[q]?) → va_S A0 H0 H1 locs1 → H1[q9]? = some ce → ce.vm = .none → s.vm.findClass E = some ce.cls → vx_W p l e R s m args below meth c H1 locs1 (cells + mc) (slots + ms) Q (F0 m pc ls rest) q9)
    (kk : ∀ (r : Int32) (u : S) (t : State) (H1 : Heap) (locs1 : List Loc), t.heap = H1 → s.vm.Alike t.vm → post r u → B u t → H.size ≤ H1.size → (∀ q : Nat, q < H.size → ¬ A1 q → H1[q]? = H[q]?) → va_S A0 H0 H1 locs1 → W p l e R s m args below meth c H1 locs1 (cells + mc) (slots + ms) Q (F0 m (pc + 3) ls (.int r :: rest))) : W p l e R s m args below meth c H locs cells slots Q (F0 m pc ls st0) := by
  intro T hT X
  rcases hr T hT X with ⟨v, st₀, t, T', L, h0, X', hL, e1, e2, ⟨⟨r, u, hv, hp, hb⟩, hF⟩, st⟩ | ⟨q, st₀, t, T', L, E, ce, h0, X', hL, e1, e2, ⟨u, hp, hb, hF⟩, hce, hcv, hcl, st⟩
  · cases hv
    obtain ⟨k1, k2, k3⟩ := vx_keep h0 e1 hS hA hf hL hF
    obtain ⟨t2, a1, b1⟩ := kk r u t T'.heap (locs ++ L) e1.symm (by rw [← e2]; exact X'.warmed.alike) hp hb k1 k2 k3 T' rfl X'
    exact ⟨t2, st t2 a1, b1⟩
  · obtain ⟨k1, k2, k3⟩ := vx_keep h0 e1 hS hAX hf hL hF
    obtain ⟨t2, a1, b1⟩ := kx E ce q u t T'.heap (locs ++ L) e1.symm (by rw [← e2]; exact X'.warmed.alike) hp hb k1 k2 k3 (by rw [e1]; exact hce) hcv hcl T' rfl X'
    exact ⟨t2, st.trans a1, b1⟩
theorem vx_calll {S SX : Type} {post : Int64 → S → Prop} {px : SX → Prop} {B : S → State → Prop} {BX : String → SX → State → Prop} {AX : Nat → Prop} (hr : vx_Run p l e R s m args below meth c H locs cells slots mc ms (F0 m pc ls st0) rest (va_Ql post B A1 a) (vx_X px BX AX) free) (hS : va_S A0 H0 H locs) (hA : ∀ q, q < H.size → A1 q → A0 q) (hf : ∀ q, free q → A0 q) (hAX : ∀ q, q < H.size → AX q → A0 q)
    (kx : ∀ (E : String) (ce : Cell) (q9 : Addr) (u : SX) (t : State) (H1 : Heap) (locs1 : List Loc), t.heap = H1 → s.vm.Alike t.vm → px u → BX E u t → H.size ≤ H1.size → (∀ q : Nat, q < H.size → ¬ AX q → H1[q]? = H[q]?) → va_S A0 H0 H1 locs1 → H1[q9]? = some ce → ce.vm = .none → s.vm.findClass E = some ce.cls → vx_W p l e R s m args below meth c H1 locs1 (cells + mc) (slots + ms) Q (F0 m pc ls rest) q9)
    (kk : ∀ (r : Int64) (u : S) (t : State) (H1 : Heap) (locs1 : List Loc), t.heap = H1 → s.vm.Alike t.vm → post r u → B u t → H.size ≤ H1.size → (∀ q : Nat, q < H.size → ¬ A1 q → H1[q]? = H[q]?) → va_S A0 H0 H1 locs1 → W p l e R s m args below meth c H1 locs1 (cells + mc) (slots + ms) Q (F0 m (pc + 3) ls (.long r :: rest))) : W p l e R s m args below meth c H locs cells slots Q (F0 m pc ls st0) := by
  intro T hT X
  rcases hr T hT X with ⟨v, st₀, t, T', L, h0, X', hL, e1, e2, ⟨⟨r, u, hv, hp, hb⟩, hF⟩, st⟩ | ⟨q, st₀, t, T', L, E, ce, h0, X', hL, e1, e2, ⟨u, hp, hb, hF⟩, hce, hcv, hcl, st⟩
  · cases hv
    obtain ⟨k1, k2, k3⟩ := vx_keep h0 e1 hS hA hf hL hF
    obtain ⟨t2, a1, b1⟩ := kk r u t T'.heap (locs ++ L) e1.symm (by rw [← e2]; exact X'.warmed.alike) hp hb k1 k2 k3 T' rfl X'
    exact ⟨t2, st t2 a1, b1⟩
  · obtain ⟨k1, k2, k3⟩ := vx_keep h0 e1 hS hAX hf hL hF
    obtain ⟨t2, a1, b1⟩ := kx E ce q u t T'.heap (locs ++ L) e1.symm (by rw [← e2]; exact X'.warmed.alike) hp hb k1 k2 k3 (by rw [e1]; exact hce) hcv hcl T' rfl X'
    exact ⟨t2, st.trans a1, b1⟩
theorem vx_callf {S SX : Type} {post : UInt32 → S → Prop} {px : SX → Prop} {B : S → State → Prop} {BX : String → SX → State → Prop} {AX : Nat → Prop} (hr : vx_Run p l e R s m args below meth c H locs cells slots mc ms (F0 m pc ls st0) rest (va_Qf post B A1 a) (vx_X px BX AX) free) (hS : va_S A0 H0 H locs) (hA : ∀ q, q < H.size → A1 q → A0 q) (hf : ∀ q, free q → A0 q) (hAX : ∀ q, q < H.size → AX q → A0 q)
    (kx : ∀ (E : String) (ce : Cell) (q9 : Addr) (u : SX) (t : State) (H1 : Heap) (locs1 : List Loc), t.heap = H1 → s.vm.Alike t.vm → px u → BX E u t → H.size ≤ H1.size → (∀ q : Nat, q < H.size → ¬ AX q → H1[q]? = H[q]?) → va_S A0 H0 H1 locs1 → H1[q9]? = some ce → ce.vm = .none → s.vm.findClass E = some ce.cls → vx_W p l e R s m args below meth c H1 locs1 (cells + mc) (slots + ms) Q (F0 m pc ls rest) q9)
    (kk : ∀ (r : UInt32) (u : S) (t : State) (H1 : Heap) (locs1 : List Loc), t.heap = H1 → s.vm.Alike t.vm → post r u → B u t → H.size ≤ H1.size → (∀ q : Nat, q < H.size → ¬ A1 q → H1[q]? = H[q]?) → va_S A0 H0 H1 locs1 → W p l e R s m args below meth c H1 locs1 (cells + mc) (slots + ms) Q (F0 m (pc + 3) ls (.float r :: rest))) : W p l e R s m args below meth c H locs cells slots Q (F0 m pc ls st0) := by
  intro T hT X
  rcases hr T hT X with ⟨v, st₀, t, T', L, h0, X', hL, e1, e2, ⟨⟨r, u, hv, hp, hb⟩, hF⟩, st⟩ | ⟨q, st₀, t, T', L, E, ce, h0, X', hL, e1, e2, ⟨u, hp, hb, hF⟩, hce, hcv, hcl, st⟩
  · cases hv
    obtain ⟨k1, k2, k3⟩ := vx_keep h0 e1 hS hA hf hL hF
    obtain ⟨t2, a1, b1⟩ := kk r u t T'.heap (locs ++ L) e1.symm (by rw [← e2]; exact X'.warmed.alike) hp hb k1 k2 k3 T' rfl X'
    exact ⟨t2, st t2 a1, b1⟩
  · obtain ⟨k1, k2, k3⟩ := vx_keep h0 e1 hS hAX hf hL hF
    obtain ⟨t2, a1, b1⟩ := kx E ce q u t T'.heap (locs ++ L) e1.symm (by rw [← e2]; exact X'.warmed.alike) hp hb k1 k2 k3 (by rw [e1]; exact hce) hcv hcl T' rfl X'
    exact ⟨t2, st.trans a1, b1⟩
theorem vx_calld {S SX : Type} {post : UInt64 → S → Prop} {px : SX → Prop} {B : S → State → Prop} {BX : String → SX → State → Prop} {AX : Nat → Prop} (hr : vx_Run p l e R s m args below meth c H locs cells slots mc ms (F0 m pc ls st0) rest (va_Qd post B A1 a) (vx_X px BX AX) free) (hS : va_S A0 H0 H locs) (hA : ∀ q, q < H.size → A1 q → A0 q) (hf : ∀ q, free q → A0 q) (hAX : ∀ q, q < H.size → AX q → A0 q)
    (kx : ∀ (E : String) (ce : Cell) (q9 : Addr) (u : SX) (t : State) (H1 : Heap) (locs1 : List Loc), t.heap = H1 → s.vm.Alike t.vm → px u → BX E u t → H.size ≤ H1.size → (∀ q : Nat, q < H.size → ¬ AX q → H1[q]? = H[q]?) → va_S A0 H0 H1 locs1 → H1[q9]? = some ce → ce.vm = .none → s.vm.findClass E = some ce.cls → vx_W p l e R s m args below meth c H1 locs1 (cells + mc) (slots + ms) Q (F0 m pc ls rest) q9)
    (kk : ∀ (r : UInt64) (u : S) (t : State) (H1 : Heap) (locs1 : List Loc), t.heap = H1 → s.vm.Alike t.vm → post r u → B u t → H.size ≤ H1.size → (∀ q : Nat, q < H.size → ¬ A1 q → H1[q]? = H[q]?) → va_S A0 H0 H1 locs1 → W p l e R s m args below meth c H1 locs1 (cells + mc) (slots + ms) Q (F0 m (pc + 3) ls (.double r :: rest))) : W p l e R s m args below meth c H locs cells slots Q (F0 m pc ls st0) := by
  intro T hT X
  rcases hr T hT X with ⟨v, st₀, t, T', L, h0, X', hL, e1, e2, ⟨⟨r, u, hv, hp, hb⟩, hF⟩, st⟩ | ⟨q, st₀, t, T', L, E, ce, h0, X', hL, e1, e2, ⟨u, hp, hb, hF⟩, hce, hcv, hcl, st⟩
  · cases hv
    obtain ⟨k1, k2, k3⟩ := vx_keep h0 e1 hS hA hf hL hF
    obtain ⟨t2, a1, b1⟩ := kk r u t T'.heap (locs ++ L) e1.symm (by rw [← e2]; exact X'.warmed.alike) hp hb k1 k2 k3 T' rfl X'
    exact ⟨t2, st t2 a1, b1⟩
  · obtain ⟨k1, k2, k3⟩ := vx_keep h0 e1 hS hAX hf hL hF
    obtain ⟨t2, a1, b1⟩ := kx E ce q u t T'.heap (locs ++ L) e1.symm (by rw [← e2]; exact X'.warmed.alike) hp hb k1 k2 k3 (by rw [e1]; exact hce) hcv hcl T' rfl X'
    exact ⟨t2, st.trans a1, b1⟩
theorem vx_callv {S SX : Type} {post : S → Prop} {px : SX → Prop} {B : S → State → Prop} {BX : String → SX → State → Prop} {AX : Nat → Prop} (hr : vx_Run p l e R s m args below meth c H locs cells slots mc ms (F0 m pc ls st0) rest (va_Qv post B A1 a) (vx_X px BX AX) free) (hS : va_S A0 H0 H locs) (hA : ∀ q, q < H.size → A1 q → A0 q) (hf : ∀ q, free q → A0 q) (hAX : ∀ q, q < H.size → AX q → A0 q)
    (kx : ∀ (E : String) (ce : Cell) (q9 : Addr) (u : SX) (t : State) (H1 : Heap) (locs1 : List Loc), t.heap = H1 → s.vm.Alike t.vm → px u → BX E u t → H.size ≤ H1.size → (∀ q : Nat, q < H.size → ¬ AX q → H1[q]? = H[q]?) → va_S A0 H0 H1 locs1 → H1[q9]? = some ce → ce.vm = .none → s.vm.findClass E = some ce.cls → vx_W p l e R s m args below meth c H1 locs1 (cells + mc) (slots + ms) Q (F0 m pc ls rest) q9)
    (kk : ∀ (u : S) (t : State) (H1 : Heap) (locs1 : List Loc), t.heap = H1 → s.vm.Alike t.vm → post u → B u t → H.size ≤ H1.size → (∀ q : Nat, q < H.size → ¬ A1 q → H1[q]? = H[q]?) → va_S A0 H0 H1 locs1 → W p l e R s m args below meth c H1 locs1 (cells + mc) (slots + ms) Q (F0 m (pc + 3) ls (rest))) : W p l e R s m args below meth c H locs cells slots Q (F0 m pc ls st0) := by
  intro T hT X
  rcases hr T hT X with ⟨v, st₀, t, T', L, h0, X', hL, e1, e2, ⟨⟨u, hv, hp, hb⟩, hF⟩, st⟩ | ⟨q, st₀, t, T', L, E, ce, h0, X', hL, e1, e2, ⟨u, hp, hb, hF⟩, hce, hcv, hcl, st⟩
  · cases hv
    obtain ⟨k1, k2, k3⟩ := vx_keep h0 e1 hS hA hf hL hF
    obtain ⟨t2, a1, b1⟩ := kk u t T'.heap (locs ++ L) e1.symm (by rw [← e2]; exact X'.warmed.alike) hp hb k1 k2 k3 T' rfl X'
    exact ⟨t2, st t2 a1, b1⟩
  · obtain ⟨k1, k2, k3⟩ := vx_keep h0 e1 hS hAX hf hL hF
    obtain ⟨t2, a1, b1⟩ := kx E ce q u t T'.heap (locs ++ L) e1.symm (by rw [← e2]; exact X'.warmed.alike) hp hb k1 k2 k3 (by rw [e1]; exact hce) hcv hcl T' rfl X'
    exact ⟨t2, st.trans a1, b1⟩
/-- caught by the row x of this method's table; the rows ahead don't take it -/
theorem vx_catch {own name : String} {E : String} {ce : Cell} {q : Addr} (hown : s.vm.findClass own = some m.cls) (pre : List ExceptionTableEntry) (x : ExceptionTableEntry) (suf : List ExceptionTableEntry) (hsplit : c.exceptionTable.toList = pre ++ x :: suf)
    (hpass : ∀ z ∈ pre, covers z pc = false ∨ (z.catchType ≠ 0 ∧ ∃ nm : String, (Cond.classLink own z.catchType nm).before args s = true ∧ va_Nc E nm s)) (hx : covers x pc = true) (h0 : x.catchType ≠ 0)
    (hlink : (Cond.classLink own x.catchType name).before args s = true) (hcast : (Cond.castable E name).before args s = true) (hcell : H[q]? = some ce) (hv : ce.vm = .none) (hcl : s.vm.findClass E = some ce.cls)
    (kk : W p l e R s m args below meth c H locs cells slots Q (F0 m x.handlerPc ls [.ref q])) : vx_W p l e R s m args below meth c H locs cells slots Q (F0 m pc ls rest) q := by
  intro T hT X
  have hpl : e.platform.magicAccessors = ({} : Platform).magicAccessors := by rw [X.admits.platform]
  obtain ⟨c3, c4, hc3, hc4, hasg⟩ := Cond.castable_spec hcast
  cases Option.some.inj (hc3.symm.trans hcl)
  obtain ⟨c5, hc5, hcl5⟩ := Cond.classLink_spec hown hlink e.platform hpl
  cases Option.some.inj (hc4.symm.trans hc5)
  obtain ⟨vm', X', st⟩ := X.thenCaughtThrough q (g := F0 m pc ls rest) rfl (Steps.refl _) (by rw [hT]; exact hcell) (by rw [hv]; rfl) (by obtain ⟨k9, h9, -⟩ := Vm.findClass_spec hcl; exact ⟨k9, h9⟩) pre x suf hsplit
    (fun z hz => by
      rcases hpass z hz with h | ⟨hz0, nm, hl1, hn1⟩
      · exact Or.inl h
      · obtain ⟨c6, hc6, hcl6⟩ := Cond.classLink_spec hown hl1 e.platform hpl
        obtain ⟨a8, b8, h1, h2, h3⟩ := hn1
        cases Option.some.inj (h1.symm.trans hcl)
        cases Option.some.inj (h2.symm.trans hc6)
        exact Or.inr ⟨hz0, _, hcl6, h3⟩) hx (Or.inr ⟨h0, c4, hcl5, hasg⟩)
  obtain ⟨t, a1, b1⟩ := kk (T.setVm vm') hT X'
  exact ⟨t, st.trans a1, b1⟩
end Rows
section Ends
variable {p : Program} {l : Launch} {e : Env} {R : Room} {s : State} {m : MethodId} {args : Array Value} {below : List Frame} {meth : Method} {c : Code} {H : Heap} {locs : List Loc} {cells slots : Nat} {Q : State → Prop}
variable {mc ms : Nat} {free : Addr → Prop} {A0 A1 : Nat → Prop} {H0 : Heap} {a : Array Value} {ls : Array Slot} {st0 rest : List Value}
variable {Qc : Array Value → State → Outcome → State → Prop} {XC : String → State → State → Prop}
/-- what a body that may throw owes at its end -/
def vx_MQ (below : List Frame) (Qc : Array Value → State → Outcome → State → Prop) (XC : String → State → State → Prop) (a : Array Value) (s : State) (mc ms : Nat) (free : Addr → Prop) : State → Prop := fun t =>
  ∃ o, t.status = .running ∧ Ended t below o ∧ vx_Q Qc XC mc ms free a s o t
theorem vx_ret {g : JFrame} {mc ms : Nat} (k : W p l e R s m args below meth c H locs cells slots (MQ below Qc args s mc ms free) g) : W p l e R s m args below meth c H locs cells slots (vx_MQ below Qc XC args s mc ms free) g := by
  intro T hT X
  obtain ⟨t, a1, o, b1, b2, b3, b4⟩ := k T hT X
  exact ⟨t, a1, o, b1, b2, Or.inl ⟨b3, b4⟩⟩
/-- not caught here: it goes on to the caller -/
theorem vx_widen {g : JFrame} {q : Addr} {k n : Nat} (h1 : cells ≤ k) (h2 : slots ≤ n) (kk : vx_W p l e R s m args below meth c H locs k n Q g q) : vx_W p l e R s m args below meth c H locs cells slots Q g q := fun T hT X => kk T hT (stand_widen X h1 h2)
theorem vx_out {pc : Nat} {E : String} {ce : Cell} {q : Addr} {mc ms : Nat} (hout : ∀ x ∈ c.exceptionTable.toList, covers x pc = false) (hlocks : meth.locks = false) (hcell : H[q]? = some ce) (hv : ce.vm = .none) (hcl : s.vm.findClass E = some ce.cls)
    (hx : ∀ t : State, t.heap = H → s.vm.Alike t.vm → XC E s t) (hf : ∀ z ∈ locs, free z.base) (hc : cells ≤ mc) (hs : slots ≤ ms) :
    vx_W p l e R s m args below meth c H locs cells slots (vx_MQ below Qc XC args s mc ms free) (F0 m pc ls rest) q := by
  intro T hT X
  obtain ⟨st1, hrun, hend, hW, hsm⟩ := X.leaveThrown q (g := F0 m pc ls rest) rfl rfl rfl hout hlocks
  have hcell9 : (T.setFrames (.throwing q :: below)).heap[q]? = some ce := by
    show T.heap[q]? = some ce
    rw [hT]; exact hcell
  exact ⟨_, st1, .threw q, hrun, hend, Or.inr ⟨q, rfl, E, ce, locs, hx _ hT hW.alike, hcell9, hv, hcl, hW, hsm.mono hc hs, hf⟩⟩
theorem vx_frame {U : State} {k n : Nat} (h : s.sameButNew ({ U with vm := s.vm } : State) locs k n) : s.heap.size ≤ U.heap.size ∧ ∀ q : Nat, q < s.heap.size → (∀ z ∈ locs, z.base ≠ q) → U.heap[q]? = s.heap[q]? := by
  obtain ⟨-, h2, -, -, -, h6⟩ := h
  refine ⟨h2, fun q hq hz => ?_⟩
  obtain ⟨c9, e1, e2, e3, e4⟩ := h6 q _ (Array.getElem?_eq_getElem hq)
  have hs : c9.slots = (s.heap[q]).slots := Array.ext_getElem? fun i => e4 i fun hm => hz _ hm rfl
  have h9 : c9 = s.heap[q] := by
    rw [hs] at e2
    exact e2
  have e5 : U.heap[q]? = some c9 := e1
  rw [e5, h9, Array.getElem?_eq_getElem hq]
/-- the words of a throw but the four that speak of the heap -/
def vx_no (w : Cond) : Bool := decide (w ≠ .isRef (.static Bundle.tN "UNASSIGNED_STACK" Bundle.steD)) && decide (w ≠ .isRef (.static Bundle.tN "SUPPRESSED_SENTINEL" Bundle.listD)) && decide (w ≠ .laysStatic Bundle.tN "UNASSIGNED_STACK" Bundle.steD) && decide (w ≠ .laysStatic Bundle.tN "SUPPRESSED_SENTINEL" Bundle.listD)
def vx_at0 (own : String) (ic : Nat) (X : String) (names : List String) : List Cond := (Bundle.ownAtoms0 own ic X names).filter vx_no
def vx_atS (own : String) (ic : Nat) (X : String) (names : List String) : List Cond := (Bundle.ownAtoms own ic X names).filter vx_no
/-- a word that the tables alone decide, or a good one -/
def vx_ot (w : Cond) : Bool := w.onTables || goodWord w
theorem vx_ot_at {args a' : Array Value} {s U : State} {w : Cond} (hW : s.WarmedH U.vm) (hvm : s.vm = U.vm) (hg : vx_ot w = true) (h : w.before args s = true) : w.before a' U = true := by
  simp only [vx_ot, Bool.or_eq_true] at hg
  rcases hg with hg | hg
  · exact va_tabs hg hvm h
  · exact word_at hW (good_of_word hg) h
/-- a list's words: the good ones out of the method's own list, the others by premises of their own -/
theorem vx_hat {args : Array Value} {s : State} {L B : List Cond} (h1 : ∀ w ∈ L.filter goodWord, w.before args s = true) (h2 : ∀ w ∈ L.filter (fun w => !goodWord w), w ∈ B) (h3 : ∀ w ∈ B, w.before args s = true) : ∀ w ∈ L, w.before args s = true := by
  intro w hw
  by_cases g : goodWord w = true
  · exact h1 w (List.mem_filter.mpr ⟨hw, g⟩)
  · refine h3 w (h2 w (List.mem_filter.mpr ⟨hw, ?_⟩))
    show (!goodWord w) = true
    cases hgw : goodWord w
    · rfl
    · exact absurd hgw g
theorem vx_c {args : Array Value} {s : State} {w : Cond} {B : List Cond} (h : w.before args s = true) (t : ∀ w ∈ B, w.before args s = true) : ∀ w' ∈ w :: B, w'.before args s = true := fun w' h' => (List.mem_cons.mp h').elim (fun e => by rw [e]; exact h) (t w')
theorem vx_n {args : Array Value} {s : State} : ∀ w ∈ ([] : List Cond), w.before args s = true := fun _ h => nomatch h
theorem vx_own {args : Array Value} {s : State} {L : List Cond} (h1 : ∀ w ∈ L.filter vx_no, w.before args s = true)
    (hU : (Cond.isRef (.static Bundle.tN "UNASSIGNED_STACK" Bundle.steD)).before args s = true) (hN : (Cond.isRef (.static Bundle.tN "SUPPRESSED_SENTINEL" Bundle.listD)).before args s = true)
    (lU : (Cond.laysStatic Bundle.tN "UNASSIGNED_STACK" Bundle.steD).before args s = true) (lN : (Cond.laysStatic Bundle.tN "SUPPRESSED_SENTINEL" Bundle.listD).before args s = true) : ∀ w ∈ L, w.before args s = true := by
  intro w hw
  by_cases e1 : w = .isRef (.static Bundle.tN "UNASSIGNED_STACK" Bundle.steD)
  · rw [e1]; exact hU
  · by_cases e2 : w = .isRef (.static Bundle.tN "SUPPRESSED_SENTINEL" Bundle.listD)
    · rw [e2]; exact hN
    · by_cases e3 : w = .laysStatic Bundle.tN "UNASSIGNED_STACK" Bundle.steD
      · rw [e3]; exact lU
      · by_cases e4 : w = .laysStatic Bundle.tN "SUPPRESSED_SENTINEL" Bundle.listD
        · rw [e4]; exact lN
        · exact h1 w (List.mem_filter.mpr ⟨hw, by unfold vx_no; rw [decide_eq_true e1, decide_eq_true e2, decide_eq_true e3, decide_eq_true e4]; rfl⟩)
/-- where a static field lies, its class's statics cell in H -/
def vx_L (C n d : String) (A : Nat → Prop) (U : State) (H : Heap) : Prop := ∃ (c : ClassId) (k : Class) (i : Nat) (f : Field) (a : Nat) (cell : Cell), U.vm.findClass C = some c ∧ U.fieldFound? C n d = some (c, k, i, f) ∧ f.isStatic = true ∧ k.statics = some a ∧ H[a]? = some cell ∧ cell.vm.isStatics = true ∧ cell.cls = c ∧ f.slot < cell.slots.size ∧ k.staticTypes[f.slot]? = some f.type ∧ ¬ A a
theorem vx_L.moved {C n d : String} {A : Nat → Prop} {u U : State} {H : Heap} (hvm : u.vm.Alike U.vm) (h : vx_L C n d A u H) : vx_L C n d A U H := by
  obtain ⟨c, k, i, f, a, cell, h1, h2, h3, h4, h5, h6, h7, h8, h9, h10⟩ := h
  obtain ⟨k', hi', he⟩ := State.fieldFound?_setVm hvm h2
  exact ⟨c, k', i, f, a, cell, by rw [hvm.findClass]; exact h1, hi', h3, by rw [he]; exact h4, h5, h6, h7, h8, by rw [he]; exact h9, h10⟩
theorem vx_L.kept {C n d : String} {A : Nat → Prop} {U : State} {H H1 : Heap} (h : vx_L C n d A U H) (hq : ∀ a : Nat, a < H.size → ¬ A a → H1[a]? = H[a]?) : vx_L C n d A U H1 := by
  obtain ⟨c, k, i, f, a, cell, h1, h2, h3, h4, h5, h6, h7, h8, h9, h10⟩ := h
  exact ⟨c, k, i, f, a, cell, h1, h2, h3, h4, by rw [hq a (Array.getElem?_eq_some_iff.mp h5).1 h10]; exact h5, h6, h7, h8, h9, h10⟩
theorem vx_L.narrow {C n d : String} {A B : Nat → Prop} {U : State} {H : Heap} (h : vx_L C n d A U H) (hAB : ∀ q, B q → A q) : vx_L C n d B U H := by
  obtain ⟨c, k, i, f, a, cell, h1, h2, h3, h4, h5, h6, h7, h8, h9, h10⟩ := h
  exact ⟨c, k, i, f, a, cell, h1, h2, h3, h4, h5, h6, h7, h8, h9, fun z => h10 (hAB _ z)⟩
theorem vx_L.word {C n d : String} {A : Nat → Prop} {s : State} {args : Array Value} (h : vx_L C n d A s s.heap) : (Cond.laysStatic C n d).before args s = true := by
  obtain ⟨c, k, i, f, a, cell, h1, h2, h3, h4, h5, h6, h7, h8, h9, -⟩ := h
  show (Cond.laysStatic C n d).holds args s none s [] = true
  exact Cond.laysStatic_of h1 h2 h3 h4 h5 h6 h7 h8 h9
/-- .. and what it holds: null or some reference -/
def vx_Zq (C n d : String) (A : Nat → Prop) (U : State) (H : Heap) : Prop := va_Zq C n d A U H ∧ vx_L C n d A U H
theorem vx_Zq.moved {C n d : String} {A : Nat → Prop} {u U : State} {H : Heap} (hvm : u.vm.Alike U.vm) (h : vx_Zq C n d A u H) : vx_Zq C n d A U H := ⟨va_Zq.moved hvm h.1, vx_L.moved hvm h.2⟩
theorem vx_Zq.kept {C n d : String} {A : Nat → Prop} {U : State} {H H1 : Heap} (h : vx_Zq C n d A U H) (hq : ∀ a : Nat, a < H.size → ¬ A a → H1[a]? = H[a]?) : vx_Zq C n d A U H1 := ⟨va_Zq.kept h.1 hq, vx_L.kept h.2 hq⟩
theorem vx_Zq.narrow {C n d : String} {A B : Nat → Prop} {U : State} {H : Heap} (h : vx_Zq C n d A U H) (hAB : ∀ q, B q → A q) : vx_Zq C n d B U H := ⟨va_Zq.narrow h.1 hAB, vx_L.narrow h.2 hAB⟩
theorem vx_Zqof {args : Array Value} {s : State} {C n d : String} {A : Nat → Prop} (hl : (Cond.laysStatic C n d).before args s = true) (hini : (Cond.initialized C).before args s = true) (h : (Cond.isRef (.static C n d)).before args s = true) (hA : ∀ a : Nat, a < s.heap.size → ¬ A a) : vx_Zq C n d A s s.heap := by
  refine ⟨va_Zqof hl hini h hA, ?_⟩
  obtain ⟨c, k, i, f, a, cell, h1, h2, h3, h4, h5, h6, h7, h8, h9⟩ := Cond.laysStatic_spec hl
  exact ⟨c, k, i, f, a, cell, h1, h2, h3, h4, h5, h6, h7, h8, h9, hA a (Array.getElem?_eq_some_iff.mp h5).1⟩
theorem vx_isRef {C n d : String} {v : Value} {A : Nat → Prop} {s : State} {args : Array Value} (h : va_Z C n d v A s s.heap) (hv : v.isRef = true) : (Cond.isRef (.static C n d)).before args s = true := by
  obtain ⟨cf, kf, fi, f, a, cell, h1, h2, h3, h4, h5, h6, h7, -⟩ := h
  have he : (Term.static C n d).eval args s none [] s = some v := by
    simp [Term.eval, State.fieldNamed?, h1, h2, h4, h5, h6, h7]
  simp only [Cond.before, Cond.holds, Cond.value, he]
  cases v <;> simp_all [Value.isRef]
theorem vx_isRefq {C n d : String} {A : Nat → Prop} {s : State} {args : Array Value} (h : va_Zq C n d A s s.heap) : (Cond.isRef (.static C n d)).before args s = true := by
  rcases h with h | ⟨t, h⟩
  · exact vx_isRef h rfl
  · exact vx_isRef h rfl
/-- the same frame, seen from here: as if the method were called anew in this heap -/
theorem vx_rebase {T : State} (X : Stand p l e R s m args below meth c T locs cells slots) {R' : Room} (hf : R'.frames ≤ R.frames) (hl : R'.locals ≤ R.locals) (hc : cells + R'.cells ≤ R.cells) (hs : slots + R'.slots ≤ R.slots) :
    Stand p l e R' ((T.setVm s.vm).setFrames (.invoking m args :: below)) m args below meth c T [] 0 0 := by
  have htop : (T.setVm s.vm).topJava?.isSome := X.here.top
  have hF : ((T.setVm s.vm).setFrames (.invoking m args :: below)).frames = .invoking m args :: below := State.frames_setFrames _ (State.cur_lt_of_top htop)
  obtain ⟨g₀, hg0⟩ := Option.isSome_iff_exists.mp htop
  obtain ⟨r, hr⟩ := State.topJava?_eq_some.mp hg0
  have hl9 : e.platform.stackLimits (T.setVm s.vm).me = e.platform.stackLimits s.me := X.limits
  have hb9 : (T.setVm s.vm).me.stackBytes = s.me.stackBytes := X.bytes
  refine ⟨X.admits, X.cas, X.clock, hF, ?_, X.hears, X.method, X.code, X.here, X.tail, X.warmed, ?_, ?_, ?_⟩
  · have h := X.room
    have hU : ((T.setVm s.vm).setFrames (.invoking m args :: below)).localsInUse = s.localsInUse := by
      rw [State.localsInUse_invoking hF (meth := meth) (c := c) X.method X.code, State.localsInUse_invoking X.frames X.method X.code]
    simp only [State.hasRoom, Bool.and_eq_true, decide_eq_true_eq] at h ⊢
    obtain ⟨⟨⟨⟨h1, h2, h3, h4, h5, h6⟩, h7⟩, h8⟩, h9⟩ := h
    rw [X.frames, List.length_cons] at h2 h3
    have q1 := X.heapSize
    have q2 := X.used
    simp only [hF, hU, List.length_cons, State.stackLimits_setFrames, State.stackBytes_setFrames, hl9, hb9]
    refine ⟨⟨⟨⟨by omega, by omega, by omega, by omega, by omega, h6⟩, ?_⟩, ?_⟩, X.book⟩
    · show T.heap.size + R'.cells ≤ e.platform.maxCells
      omega
    · show T.slotsUsed + R'.slots ≤ e.platform.maxSlots
      omega
  · rw [State.stackLimits_setFrames]; rfl
  · rw [State.stackBytes_setFrames]; rfl
  · refine ⟨?_, Nat.le_refl _, Nat.le_refl _, ?_, ?_, fun a c9 h9 => ⟨c9, h9, rfl, rfl, fun _ _ => rfl⟩⟩
    · obtain ⟨t, ht, -⟩ := State.frames_cons hr
      show T.setVm s.vm = { ((T.setVm s.vm).setFrames (.invoking m args :: below)).setFrames (T.setVm s.vm).frames with heap := T.heap, slotsUsed := T.slotsUsed }
      rw [State.setFrames_setFrames, State.setFrames_self ht]
      rfl
    · show T.slotsUsed = T.slotsUsed + ((T.heap.toList.drop T.heap.size).map (·.slots.size)).sum
      rw [List.drop_eq_nil_of_le (Nat.le_of_eq Array.length_toList)]
      rfl
    · show ((T.heap.toList.drop T.heap.size).map (·.slots.size)).sum ≤ 0
      rw [List.drop_eq_nil_of_le (Nat.le_of_eq Array.length_toList)]
      exact Nat.le_refl _
/-- 'throw new E()': new; dup; invokespecial; athrow -/
theorem vx_throw0 {cc : ByteArray} {pc : Nat} (hexec : p.tables.exec = Jvm.exec) (hb : c.code = cc) (hl : l.stackTraces = false) {own cls : String} {names : List String} {ik ic mc ms : Nat} {A : Nat → Prop}
    (hown : s.vm.findClass own = some m.cls) (hcls : Bundle.fit cls = true) (hnames : ∀ n ∈ names, Bundle.fit n = true)
    (hk : (Cond.classLink own ik cls).before args s = true) (hini : (Cond.initialized cls).before args s = true) (hat : ∀ w ∈ vx_at0 own ic cls names, w.before args s = true)
    (hgood : ∀ w ∈ Cond.classLink own ik cls :: Cond.initialized cls :: vx_at0 own ic cls names, vx_ot w = true)
    (hU : vx_Zq Bundle.tN "UNASSIGNED_STACK" Bundle.steD A s s.heap) (hN : vx_Zq Bundle.tN "SUPPRESSED_SENTINEL" Bundle.listD A s s.heap) (hS : va_S A s.heap H locs) (hsize : ls.size = c.maxLocals)
    (d0 : decode cc pc = .ok (.new ik, 3)) (d3 : decode cc (pc + 3) = .ok (.dup, 1)) (d4 : decode cc (pc + 4) = .ok (.invokespecial ic, 3)) (d7 : decode cc (pc + 7) = .ok (.athrow, 1))
    (hout : ∀ x ∈ c.exceptionTable.toList, covers x (pc + 7) = false)
    (hRframes : names.length + 3 < R.frames) (hRlocals : (rest.map fun v => v.category).sum + (13 * (names.length + 1) + 42) ≤ R.locals) (hRcells : cells + 1 ≤ R.cells) (hRslots : slots + 6 ≤ R.slots) (hlocks : meth.locks = false)
    (hx : ∀ t : State, s.vm.Alike t.vm → H.size ≤ t.heap.size → (∀ q : Nat, q < H.size → t.heap[q]? = H[q]?) → XC cls s t)
    (hf : ∀ z ∈ locs, free z.base) (hc : cells + 1 ≤ mc) (hs : slots + 6 ≤ ms) :
    W p l e R s m args below meth c H locs cells slots (vx_MQ below Qc XC args s mc ms free) (F0 m pc ls rest) := by
  intro T hT X
  have htr : e.platform.stackTraces = false := (show e.platform.stackTraces = l.stackTraces by rw [X.admits.platform]).trans hl
  have Y := vx_rebase X (R' := { frames := R.frames, locals := R.locals, cells := 1, slots := 6 }) (Nat.le_refl _) (Nat.le_refl _) hRcells hRslots
  obtain ⟨s', hA⟩ : ∃ z, z = (T.setVm s.vm).setFrames (.invoking m args :: below) := ⟨_, rfl⟩
  rw [← hA] at Y
  have hvm : s'.vm = s.vm := by rw [hA]; rfl
  have hhp : s'.heap = H := by rw [hA]; exact hT
  have hW0 : s.WarmedH s'.vm := by rw [hvm]; exact State.WarmedH.refl s
  have hat' : ∀ w ∈ vx_at0 own ic cls names, w.before args s' = true := fun w hw => vx_ot_at hW0 hvm.symm (hgood w (List.mem_cons_of_mem _ (List.mem_cons_of_mem _ hw))) (hat w hw)
  have hk' : (Cond.classLink own ik cls).before args s' = true := vx_ot_at hW0 hvm.symm (hgood _ List.mem_cons_self) hk
  have hini' : (Cond.initialized cls).before args s' = true := vx_ot_at hW0 hvm.symm (hgood _ (List.mem_cons_of_mem _ List.mem_cons_self)) hini
  have hU' : vx_Zq Bundle.tN "UNASSIGNED_STACK" Bundle.steD A s' s'.heap := by rw [hhp]; exact vx_Zq.moved hW0.alike (hU.kept hS.2.1)
  have hN' : vx_Zq Bundle.tN "SUPPRESSED_SENTINEL" Bundle.listD A s' s'.heap := by rw [hhp]; exact vx_Zq.moved hW0.alike (hN.kept hS.2.1)
  have h : ∀ w ∈ Bundle.ownAtoms0 own ic cls names, w.before args s' = true := vx_own hat' (vx_isRefq hU'.1) (vx_isRefq hN'.1) hU'.2.word hN'.2.word
  have hown' : s'.vm.findClass own = some m.cls := by rw [hvm]; exact hown
  have hins : (Cond.instantiable cls 6).before args s' = true := h _ (by simp [Bundle.ownAtoms0])
  obtain ⟨vm₁, cX, kX, hfX, hkX, -, -, X₁, st1⟩ := Y.newCold hexec (own := own) (C := cls) (index := ik) (n := 6) hown' hk' hins hini'
    (g := F0 m pc ls rest) rfl (by rw [hb]; exact d0) (Nat.le_refl _) (Nat.le_refl _)
  generalize hT1 : (T.setVm vm₁).pushCell { cls := cX, slots := kX.instanceTypes.map defaultValue, vm := .none } = T1 at X₁ st1
  have hcat : (Value.ref T.heap.size).category = 1 := rfl
  have hcellA : T1.heap[T.heap.size]? = some (freshCell cX kX) := by rw [← hT1]; exact State.heap_pushCell_size _ _
  have d3' : decode c.code (pc + 3) = .ok (.dup, 1) := by rw [hb]; exact d3
  obtain ⟨U, hsteps, hrun, hend, hW, hsame, ce, hce, hO⟩ := X₁.ctorThrow0 hexec htr (own := own) (cls := cls) (names := names) (ic := ic) hown' hcls hnames h (fun x hx => nomatch hx) hfX hkX hcellA (by rw [hhp, hT]; exact Nat.le_refl _)
    (g := { method := m, pc := pc + 4, locals := ls, stack := .ref T.heap.size :: .ref T.heap.size :: rest, locked := none }) rfl hsize rfl rfl (rest := rest) rfl
    (by rw [hb]; exact d4) (by rw [hb]; exact d7) hout hRframes (by simp only [List.map_cons, List.sum_cons, hcat]; omega) hlocks
  obtain ⟨f1, f2⟩ := vx_frame hsame
  rw [hhp] at f1 f2
  have hWs : s.WarmedH U.vm := State.WarmedH.trans hW0 hW
  have hcl : s.vm.findClass cls = some ce.cls := by
    have h9 := hO.cls
    rw [hvm] at h9
    exact h9
  have hall : s.sameButNew ({ U with vm := s.vm } : State) locs mc ms := by
    subst hA
    obtain ⟨e1, e2⟩ := hsame
    rw [State.setFrames_setFrames] at e1
    have h2 : (T.setVm s.vm).sameButNew ({ U with vm := s.vm } : State) [] (0 + 1) (0 + 6) := ⟨e1, e2⟩
    have h3 := X.same.trans h2
    rw [List.append_nil] at h3
    exact h3.mono hc hs
  refine ⟨U, ?_, .threw T.heap.size, hrun, hend, Or.inr ⟨T.heap.size, rfl, cls, ce, locs, hx U hWs.alike f1 (fun q hq => f2 q hq (fun z hz => nomatch hz)), hce, hO.vm, hcl, hWs, hall, hf⟩⟩
  refine st1 _ ?_
  show Steps p.tables e below (T1.setTop { method := m, pc := pc + 3, locals := ls, stack := .ref T.heap.size :: rest, locked := none }) _
  jvm_step X₁.here [X₁.here.top, hexec, d3', Value.category]
  exact hsteps
/-- 'throw new E("text")': new; dup; ldc; invokespecial; athrow -/
theorem vx_throwS {cc : ByteArray} {pc : Nat} (hexec : p.tables.exec = Jvm.exec) (hb : c.code = cc) (hl : l.stackTraces = false) {own cls text : String} {names : List String} {ik is ic mc ms sa : Nat} {A : Nat → Prop}
    (hown : s.vm.findClass own = some m.cls) (hcls : Bundle.fit cls = true) (hnames : ∀ n ∈ names, Bundle.fit n = true)
    (hk : (Cond.classLink own ik cls).before args s = true) (hini : (Cond.initialized cls).before args s = true) (hstr : vk_R own is text sa s) (hat : ∀ w ∈ vx_atS own ic cls names, w.before args s = true)
    (hgood : ∀ w ∈ Cond.classLink own ik cls :: Cond.initialized cls :: vx_atS own ic cls names, vx_ot w = true)
    (hU : vx_Zq Bundle.tN "UNASSIGNED_STACK" Bundle.steD A s s.heap) (hN : vx_Zq Bundle.tN "SUPPRESSED_SENTINEL" Bundle.listD A s s.heap) (hS : va_S A s.heap H locs) (hsize : ls.size = c.maxLocals)
    (d0 : decode cc pc = .ok (.new ik, 3)) (d3 : decode cc (pc + 3) = .ok (.dup, 1)) (d4 : decode cc (pc + 4) = .ok (.ldc is, 2)) (d6 : decode cc (pc + 6) = .ok (.invokespecial ic, 3)) (d9 : decode cc (pc + 9) = .ok (.athrow, 1))
    (hout : ∀ x ∈ c.exceptionTable.toList, covers x (pc + 9) = false)
    (hRframes : names.length + 3 < R.frames) (hRlocals : (rest.map fun v => v.category).sum + (13 * (names.length + 1) + 43) ≤ R.locals) (hRcells : cells + 1 ≤ R.cells) (hRslots : slots + 6 ≤ R.slots) (hlocks : meth.locks = false)
    (hx : ∀ t : State, s.vm.Alike t.vm → H.size ≤ t.heap.size → (∀ q : Nat, q < H.size → t.heap[q]? = H[q]?) → XC cls s t)
    (hf : ∀ z ∈ locs, free z.base) (hc : cells + 1 ≤ mc) (hs : slots + 6 ≤ ms) :
    W p l e R s m args below meth c H locs cells slots (vx_MQ below Qc XC args s mc ms free) (F0 m pc ls rest) := by
  intro T hT X
  have htr : e.platform.stackTraces = false := (show e.platform.stackTraces = l.stackTraces by rw [X.admits.platform]).trans hl
  have Y := vx_rebase X (R' := { frames := R.frames, locals := R.locals, cells := 1, slots := 6 }) (Nat.le_refl _) (Nat.le_refl _) hRcells hRslots
  obtain ⟨s', hA⟩ : ∃ z, z = (T.setVm s.vm).setFrames (.invoking m args :: below) := ⟨_, rfl⟩
  rw [← hA] at Y
  have hvm : s'.vm = s.vm := by rw [hA]; rfl
  have hhp : s'.heap = H := by rw [hA]; exact hT
  have hW0 : s.WarmedH s'.vm := by rw [hvm]; exact State.WarmedH.refl s
  have hat' : ∀ w ∈ vx_atS own ic cls names, w.before args s' = true := fun w hw => vx_ot_at hW0 hvm.symm (hgood w (List.mem_cons_of_mem _ (List.mem_cons_of_mem _ hw))) (hat w hw)
  have hk' : (Cond.classLink own ik cls).before args s' = true := vx_ot_at hW0 hvm.symm (hgood _ List.mem_cons_self) hk
  have hini' : (Cond.initialized cls).before args s' = true := vx_ot_at hW0 hvm.symm (hgood _ (List.mem_cons_of_mem _ List.mem_cons_self)) hini
  have hU' : vx_Zq Bundle.tN "UNASSIGNED_STACK" Bundle.steD A s' s'.heap := by rw [hhp]; exact vx_Zq.moved hW0.alike (hU.kept hS.2.1)
  have hN' : vx_Zq Bundle.tN "SUPPRESSED_SENTINEL" Bundle.listD A s' s'.heap := by rw [hhp]; exact vx_Zq.moved hW0.alike (hN.kept hS.2.1)
  have h : ∀ w ∈ Bundle.ownAtoms own ic cls names, w.before args s' = true := vx_own hat' (vx_isRefq hU'.1) (vx_isRefq hN'.1) hU'.2.word hN'.2.word
  have hown' : s'.vm.findClass own = some m.cls := by rw [hvm]; exact hown
  have hins : (Cond.instantiable cls 6).before args s' = true := h _ (by simp [Bundle.ownAtoms])
  obtain ⟨vm₁, cX, kX, hfX, hkX, -, -, X₁, st1⟩ := Y.newCold hexec (own := own) (C := cls) (index := ik) (n := 6) hown' hk' hins hini'
    (g := F0 m pc ls rest) rfl (by rw [hb]; exact d0) (Nat.le_refl _) (Nat.le_refl _)
  generalize hT1 : (T.setVm vm₁).pushCell { cls := cX, slots := kX.instanceTypes.map defaultValue, vm := .none } = T1 at X₁ st1
  have hcat : (Value.ref T.heap.size).category = 1 := rfl
  have hcellA : T1.heap[T.heap.size]? = some (freshCell cX kX) := by rw [← hT1]; exact State.heap_pushCell_size _ _
  have d3' : decode c.code (pc + 3) = .ok (.dup, 1) := by rw [hb]; exact d3
  have d4' : decode c.code (pc + 4) = .ok (.ldc is, 2) := by rw [hb]; exact d4
  have hstr' : vk_R own is text sa s' := vk_R.warm hW0 hstr
  obtain ⟨U, hsteps, hrun, hend, hW, hsame, ce, hce, hO⟩ := X₁.ctorThrowS hexec htr (own := own) (cls := cls) (names := names) (ic := ic) hown' hcls hnames h (fun x hx => nomatch hx) hfX hkX hcellA (by rw [hhp, hT]; exact Nat.le_refl _) (msg := .ref sa) rfl
    (g := { method := m, pc := pc + 6, locals := ls, stack := .ref sa :: .ref T.heap.size :: .ref T.heap.size :: rest, locked := none }) rfl hsize rfl rfl (rest := rest) rfl
    (by rw [hb]; exact d6) (by rw [hb]; exact d9) hout hRframes (by simp only [List.map_cons, List.sum_cons, hcat]; omega) hlocks
  obtain ⟨f1, f2⟩ := vx_frame hsame
  rw [hhp] at f1 f2
  have hWs : s.WarmedH U.vm := State.WarmedH.trans hW0 hW
  have hcl : s.vm.findClass cls = some ce.cls := by
    have h9 := hO.cls
    rw [hvm] at h9
    exact h9
  have hall : s.sameButNew ({ U with vm := s.vm } : State) locs mc ms := by
    subst hA
    obtain ⟨e1, e2⟩ := hsame
    rw [State.setFrames_setFrames] at e1
    have h2 : (T.setVm s.vm).sameButNew ({ U with vm := s.vm } : State) [] (0 + 1) (0 + 6) := ⟨e1, e2⟩
    have h3 := X.same.trans h2
    rw [List.append_nil] at h3
    exact h3.mono hc hs
  refine ⟨U, ?_, .threw T.heap.size, hrun, hend, Or.inr ⟨T.heap.size, rfl, cls, ce, locs, hx U hWs.alike f1 (fun q hq => f2 q hq (fun z hz => nomatch hz)), hce, hO.vm, hcl, hWs, hall, hf⟩⟩
  refine st1 _ ?_
  show Steps p.tables e below (T1.setTop { method := m, pc := pc + 3, locals := ls, stack := .ref T.heap.size :: rest, locked := none }) _
  jvm_step X₁.here [X₁.here.top, hexec, d3', Value.category]
  exact X₁.ldcString hexec (own := own) (text := text) (index := is) (a := sa) hown' hstr'.1 hstr'.2
    (g := { method := m, pc := pc + 4, locals := ls, stack := .ref T.heap.size :: .ref T.heap.size :: rest, locked := none }) rfl d4' _ hsteps
/-- 'throw new E("text")', the text by a wide index -/
theorem vx_throwSW {cc : ByteArray} {pc : Nat} (hexec : p.tables.exec = Jvm.exec) (hb : c.code = cc) (hl : l.stackTraces = false) {own cls text : String} {names : List String} {ik is ic mc ms sa : Nat} {A : Nat → Prop}
    (hown : s.vm.findClass own = some m.cls) (hcls : Bundle.fit cls = true) (hnames : ∀ n ∈ names, Bundle.fit n = true)
    (hk : (Cond.classLink own ik cls).before args s = true) (hini : (Cond.initialized cls).before args s = true) (hstr : vk_R own is text sa s) (hat : ∀ w ∈ vx_atS own ic cls names, w.before args s = true)
    (hgood : ∀ w ∈ Cond.classLink own ik cls :: Cond.initialized cls :: vx_atS own ic cls names, vx_ot w = true)
    (hU : vx_Zq Bundle.tN "UNASSIGNED_STACK" Bundle.steD A s s.heap) (hN : vx_Zq Bundle.tN "SUPPRESSED_SENTINEL" Bundle.listD A s s.heap) (hS : va_S A s.heap H locs) (hsize : ls.size = c.maxLocals)
    (d0 : decode cc pc = .ok (.new ik, 3)) (d3 : decode cc (pc + 3) = .ok (.dup, 1)) (d4 : decode cc (pc + 4) = .ok (.ldc_w is, 3)) (d7 : decode cc (pc + 7) = .ok (.invokespecial ic, 3)) (d10 : decode cc (pc + 10) = .ok (.athrow, 1))
    (hout : ∀ x ∈ c.exceptionTable.toList, covers x (pc + 10) = false)
    (hRframes : names.length + 3 < R.frames) (hRlocals : (rest.map fun v => v.category).sum + (13 * (names.length + 1) + 43) ≤ R.locals) (hRcells : cells + 1 ≤ R.cells) (hRslots : slots + 6 ≤ R.slots) (hlocks : meth.locks = false)
    (hx : ∀ t : State, s.vm.Alike t.vm → H.size ≤ t.heap.size → (∀ q : Nat, q < H.size → t.heap[q]? = H[q]?) → XC cls s t)
    (hf : ∀ z ∈ locs, free z.base) (hc : cells + 1 ≤ mc) (hs : slots + 6 ≤ ms) :
    W p l e R s m args below meth c H locs cells slots (vx_MQ below Qc XC args s mc ms free) (F0 m pc ls rest) := by
  intro T hT X
  have htr : e.platform.stackTraces = false := (show e.platform.stackTraces = l.stackTraces by rw [X.admits.platform]).trans hl
  have Y := vx_rebase X (R' := { frames := R.frames, locals := R.locals, cells := 1, slots := 6 }) (Nat.le_refl _) (Nat.le_refl _) hRcells hRslots
  obtain ⟨s', hA⟩ : ∃ z, z = (T.setVm s.vm).setFrames (.invoking m args :: below) := ⟨_, rfl⟩
  rw [← hA] at Y
  have hvm : s'.vm = s.vm := by rw [hA]; rfl
  have hhp : s'.heap = H := by rw [hA]; exact hT
  have hW0 : s.WarmedH s'.vm := by rw [hvm]; exact State.WarmedH.refl s
  have hat' : ∀ w ∈ vx_atS own ic cls names, w.before args s' = true := fun w hw => vx_ot_at hW0 hvm.symm (hgood w (List.mem_cons_of_mem _ (List.mem_cons_of_mem _ hw))) (hat w hw)
  have hk' : (Cond.classLink own ik cls).before args s' = true := vx_ot_at hW0 hvm.symm (hgood _ List.mem_cons_self) hk
  have hini' : (Cond.initialized cls).before args s' = true := vx_ot_at hW0 hvm.symm (hgood _ (List.mem_cons_of_mem _ List.mem_cons_self)) hini
  have hU' : vx_Zq Bundle.tN "UNASSIGNED_STACK" Bundle.steD A s' s'.heap := by rw [hhp]; exact vx_Zq.moved hW0.alike (hU.kept hS.2.1)
  have hN' : vx_Zq Bundle.tN "SUPPRESSED_SENTINEL" Bundle.listD A s' s'.heap := by rw [hhp]; exact vx_Zq.moved hW0.alike (hN.kept hS.2.1)
  have h : ∀ w ∈ Bundle.ownAtoms own ic cls names, w.before args s' = true := vx_own hat' (vx_isRefq hU'.1) (vx_isRefq hN'.1) hU'.2.word hN'.2.word
  have hown' : s'.vm.findClass own = some m.cls := by rw [hvm]; exact hown
  have hins : (Cond.instantiable cls 6).before args s' = true := h _ (by simp [Bundle.ownAtoms])
  obtain ⟨vm₁, cX, kX, hfX, hkX, -, -, X₁, st1⟩ := Y.newCold hexec (own := own) (C := cls) (index := ik) (n := 6) hown' hk' hins hini'
    (g := F0 m pc ls rest) rfl (by rw [hb]; exact d0) (Nat.le_refl _) (Nat.le_refl _)
  generalize hT1 : (T.setVm vm₁).pushCell { cls := cX, slots := kX.instanceTypes.map defaultValue, vm := .none } = T1 at X₁ st1
  have hcat : (Value.ref T.heap.size).category = 1 := rfl
  have hcellA : T1.heap[T.heap.size]? = some (freshCell cX kX) := by rw [← hT1]; exact State.heap_pushCell_size _ _
  have d3' : decode c.code (pc + 3) = .ok (.dup, 1) := by rw [hb]; exact d3
  have d4' : decode c.code (pc + 4) = .ok (.ldc_w is, 3) := by rw [hb]; exact d4
  have hstr' : vk_R own is text sa s' := vk_R.warm hW0 hstr
  obtain ⟨U, hsteps, hrun, hend, hW, hsame, ce, hce, hO⟩ := X₁.ctorThrowS hexec htr (own := own) (cls := cls) (names := names) (ic := ic) hown' hcls hnames h (fun x hx => nomatch hx) hfX hkX hcellA (by rw [hhp, hT]; exact Nat.le_refl _) (msg := .ref sa) rfl
    (g := { method := m, pc := pc + 7, locals := ls, stack := .ref sa :: .ref T.heap.size :: .ref T.heap.size :: rest, locked := none }) rfl hsize rfl rfl (rest := rest) rfl
    (by rw [hb]; exact d7) (by rw [hb]; exact d10) hout hRframes (by simp only [List.map_cons, List.sum_cons, hcat]; omega) hlocks
  obtain ⟨f1, f2⟩ := vx_frame hsame
  rw [hhp] at f1 f2
  have hWs : s.WarmedH U.vm := State.WarmedH.trans hW0 hW
  have hcl : s.vm.findClass cls = some ce.cls := by
    have h9 := hO.cls
    rw [hvm] at h9
    exact h9
  have hall : s.sameButNew ({ U with vm := s.vm } : State) locs mc ms := by
    subst hA
    obtain ⟨e1, e2⟩ := hsame
    rw [State.setFrames_setFrames] at e1
    have h2 : (T.setVm s.vm).sameButNew ({ U with vm := s.vm } : State) [] (0 + 1) (0 + 6) := ⟨e1, e2⟩
    have h3 := X.same.trans h2
    rw [List.append_nil] at h3
    exact h3.mono hc hs
  refine ⟨U, ?_, .threw T.heap.size, hrun, hend, Or.inr ⟨T.heap.size, rfl, cls, ce, locs, hx U hWs.alike f1 (fun q hq => f2 q hq (fun z hz => nomatch hz)), hce, hO.vm, hcl, hWs, hall, hf⟩⟩
  refine st1 _ ?_
  show Steps p.tables e below (T1.setTop { method := m, pc := pc + 3, locals := ls, stack := .ref T.heap.size :: rest, locked := none }) _
  jvm_step X₁.here [X₁.here.top, hexec, d3', Value.category]
  exact X₁.ldcStringW hexec (own := own) (text := text) (index := is) (a := sa) hown' hstr'.1 hstr'.2
    (g := { method := m, pc := pc + 4, locals := ls, stack := .ref T.heap.size :: .ref T.heap.size :: rest, locked := none }) rfl d4' _ hsteps
end Ends
section Bodies
variable {l : Launch}
theorem vx_ofW {y : MethodName} {ws ws' : List Cond} {rm : Room} {Pc : Array Value → State → Prop} {Qc : Array Value → State → Outcome → State → Prop} {XC : String → State → State → Prop} {mc ms : Nat} {free : Addr → Prop} {cc : ByteArray} {maxL : Nat} {ret : Option FieldType}
    (hy : plainName y.cls = true) (hw : ws = Cond.code y cc maxL ret :: ws')
    (body : ∀ p e s m args below meth c s₁, BodyLoose p l y (headSpec ws rm) cc maxL ret e s m args below meth c s₁ → c.maxLocals = maxL → (∀ x ∈ c.exceptionTable.toList, False) → Pc args s →
      W p l e (headSpec ws rm).room s m args below meth c s.heap [] 0 0 (vx_MQ below Qc XC args s mc ms free) (entryFrame m args maxL)) : vx_Met l y ws rm Pc Qc XC mc ms free := by
  refine MetFree.of_bodyS (code := cc) (maxLocals := maxL) (ret := ret) hy ?_ ?_
  · intro args s m h hn
    obtain ⟨meth, c, h1, h2, h3, h4, h5, h6, -, -⟩ := Cond.code_spec hn (atoms_spec (ws := ws) h _ (by rw [hw]; exact List.mem_cons_self))
    exact ⟨meth, c, h1, h2, h3, h4, h5, h6⟩
  · intro p e s m args below meth c s₁ B hml hP _
    have hh0 : s₁.heap = s.heap := by rw [B.state]; rfl
    have ht : ∀ x ∈ c.exceptionTable.toList, False := by
      obtain ⟨meth9, c9, h1, h2, -, -, -, -, h7, -⟩ := Cond.code_spec B.named (atoms_spec (ws := ws) B.pre _ (by rw [hw]; exact List.mem_cons_self))
      cases Option.some.inj (h1.symm.trans B.method)
      cases Option.some.inj (h2.symm.trans (Stand.of_body B).code)
      intro x hx
      rw [Array.isEmpty_iff.mp h7] at hx
      cases hx
    obtain ⟨t, a1, o, b1, b2, b3⟩ := body p e s m args below meth c s₁ B hml ht hP s₁ hh0 (Stand.of_body B)
    exact ⟨t, o, a1, b1, b2, b3⟩
/-- the table of a body with handlers -/
theorem vx_table {p : Program} {x y : MethodName} {S : Spec} {cc bytes : ByteArray} {maxL maxL' : Nat} {ret ret' : Option FieldType} {e : Env} {s s₁ : State} {m : MethodId} {args : Array Value} {below : List Frame} {meth : Method} {c : Code} {hh : List (Nat × Nat × Nat × Nat)}
    (B : BodyLoose p l y S cc maxL ret e s m args below meth c s₁) (h : (Cond.codeWith y bytes maxL' ret' hh).before args s = true) : c.exceptionTable.toList = tableOf hh := by
  obtain ⟨m9, meth9, c9, hn9, h1, h2, -, -, h6, -⟩ := Cond.codeWith_spec h
  cases Option.some.inj (hn9.symm.trans B.named)
  cases Option.some.inj (h1.symm.trans B.method)
  cases Option.some.inj (h2.symm.trans (Stand.of_body B).code)
  rw [← h6, table_eq]
end Bodies
end VXA
/-! ===== END ===== -/
/-! ===== BEGIN a static call of a method with an exception table ===== -/
section VXS
variable {p : Program} {l : Launch} {e : Env} {R : Room} {s : State} {m : MethodId} {args : Array Value} {below : List Frame} {meth : Method} {c : Code} {T : State} {H : Heap} {locs : List Loc} {cells slots : Nat}
abbrev vx_CSW (R : Room) (s : State) (args : Array Value) (own : String) (index : Nat) (y : MethodName) (bytes : ByteArray) (maxL : Nat) (ret : Option FieldType) (hh : List (Nat × Nat × Nat × Nat)) (ws : List Cond) (rm : Room) (mc ms n : Nat) : Prop :=
  (rm.cells = mc ∧ rm.slots = ms ∧ rm.frames + 1 ≤ R.frames ∧ 8 + (maxL + 11) + rm.locals ≤ R.locals ∧ (∀ w ∈ ws, ∀ (a' : Array Value) (U : State), s.WarmedH U.vm → w.before a' U = true) ∧ Cond.codeWith y bytes maxL ret hh ∈ ws) ∧
  (Cond.codeWith y bytes maxL ret hh).before args s = true ∧ (Cond.initialized y.cls).before args s = true ∧ (y.cls ≠ "java/lang/invoke/MethodHandle" ∧ y.cls ≠ "java/lang/invoke/VarHandle") ∧
  (∀ sig, parseMethodDescriptor y.desc = some sig → n = sig.parameters.length) ∧ (Cond.methodLink own index y).before args s = true ∧ (Cond.static y).before args s = true
theorem vx_cwSW {own : String} {index maxL mc ms : Nat} {y : MethodName} {bytes : ByteArray} {ret : Option FieldType} {hh : List (Nat × Nat × Nat × Nat)} {Ts ws ws' : List Cond} {rm : Room} (n : Nat) (ht : ∀ w ∈ Ts, w.before args s = true) (hT : GoodIn Ts (va_wsS own index y ws)) (hw : ws = Cond.codeWith y bytes maxL ret hh :: ws') (hrc : rm.cells = mc) (hrs : rm.slots = ms)
    (hd : y.cls ≠ "java/lang/invoke/MethodHandle" ∧ y.cls ≠ "java/lang/invoke/VarHandle" ∧ (parseMethodDescriptor y.desc).map (fun d => d.parameters.length) = some n) (hR : rm.frames + 1 ≤ R.frames ∧ 8 + (maxL + 11) + rm.locals ≤ R.locals) :
    vx_CSW R s args own index y bytes maxL ret hh ws rm mc ms n := by
  have ok : ∀ w ∈ va_wsS own index y ws, w.before args s = true := fun w h => ht w (hT w h).1
  have hG : GoodIn Ts ws := fun w h => hT w (by unfold va_wsS; exact List.mem_append_right _ h)
  have hc : Cond.codeWith y bytes maxL ret hh ∈ ws := by rw [hw]; exact List.mem_cons_self
  refine ⟨⟨hrc, hrs, hR.1, hR.2, pay_in ht hG, hc⟩, ht _ (hG _ hc).1, ok _ (by simp [va_wsS]), ⟨hd.1, hd.2.1⟩, fun sig h => ?_, ok _ (by simp [va_wsS]), ok _ (by simp [va_wsS])⟩
  have h2 := hd.2.2
  rw [h] at h2
  exact (Option.some.inj h2).symm
theorem vx_callSW (X : Stand p l e R s m args below meth c T locs cells slots) (hexec : p.tables.exec = Jvm.exec) {own : String} {index : Nat} {y : MethodName} {bytes : ByteArray} {maxL : Nat} {ret : Option FieldType} {hh : List (Nat × Nat × Nat × Nat)}
    (hown : s.vm.findClass own = some m.cls) (hlink : (Cond.methodLink own index y).before args s = true) (hstat : (Cond.static y).before args s = true) (hinit : (Cond.initialized y.cls).before args s = true)
    (hcode : (Cond.codeWith y bytes maxL ret hh).before args s = true) (hy : y.cls ≠ "java/lang/invoke/MethodHandle" ∧ y.cls ≠ "java/lang/invoke/VarHandle")
    {W9 : Nat} {Pre : Pt → Array Value → Prop} {Post : Pt → Array Value → Option Value → Pt → Prop} (hK : Back l R p e below s args y 3 W9 Pre Post)
    {g : JFrame} (hg : g.method = m) (hsize : g.locals.size = c.maxLocals) {argsL rest : List Value} (hlen : ∀ sig, parseMethodDescriptor y.desc = some sig → argsL.length = sig.parameters.length)
    (hstack : g.stack = argsL.reverse ++ rest) (hW : 2 * g.monitorRoom + (rest.map fun v => v.category).sum ≤ W9) (hdg : decode c.code g.pc = .ok (.invokestatic index, 3))
    (hpre : ∀ vm₁, s.WarmedH vm₁ → Pre ⟨T.setVm vm₁, locs, cells, slots⟩ argsL.toArray) :
    ∃ (v : Option Value) (vm₁ : Vm) (B : Pt), s.WarmedH vm₁ ∧ Stand p l e R s m args below meth c B.U B.locs B.cells B.slots ∧ Post ⟨T.setVm vm₁, locs, cells, slots⟩ argsL.toArray v B ∧
      ∀ target, Steps p.tables e below (B.U.setTop { g with pc := g.pc + 3, stack := v.toList ++ rest }) target → Steps p.tables e below (T.setTop g) target := by
  obtain ⟨mk, methM, cM, hnamed, hmethM, -, -, -, -, -, -, hsigM⟩ := Cond.codeWith_spec hcode
  have hstatic : methM.isStatic = true := Cond.static_spec hnamed hmethM hstat
  obtain ⟨kP, hkP, -⟩ := className_of_methodNamed hnamed
  have hinitP : kP.init = .initialized := Cond.initialized_spec (findClass_of_methodNamed hnamed) hkP hinit
  obtain ⟨vm₁, X₁, hstep₁⟩ := X.invokestatic hexec hown hlink hnamed hmethM hstatic hkP hinitP hy (g := g) hg (argsL := argsL) (rest := rest) (hlen _ hsigM) hstack hdg
  obtain ⟨v, B, X', hpost, hsteps⟩ := hK m meth c ⟨T.setVm vm₁, locs, cells, slots⟩ { g with stack := rest } (.invokestatic index) mk argsL.toArray X₁ hg hsize hdg hW (X₁.named hnamed) (hpre vm₁ X₁.warmed)
  exact ⟨v, vm₁, B, X₁.warmed, X', hpost, fun target h => hstep₁ _ fun acts => by rw [doInvoke_state]; exact hsteps.trans h⟩
theorem vx_runSW {y : MethodName} {bytes cc : ByteArray} {maxL nL mc ms n index : Nat} {ret : Option FieldType} {hh : List (Nat × Nat × Nat × Nat)} {ws : List Cond} {rm : Room} {Pc : Array Value → State → Prop} {Qc : Array Value → State → Outcome → State → Prop} {free : Addr → Prop} {Ts : List Cond} {own : String} {As rest : List Value} {g : JFrame}
    (S : CallFix p m c cc nL s args Ts own) (hM : Met l y ws rm Pc Qc mc ms free) (cw : vx_CSW R s args own index y bytes maxL ret hh ws rm mc ms n) (hp : PreS s H Pc As)
    (hg : g.method = m) (hn : As.length = n) (hsize : g.locals.size = nL) (hstack : g.stack = As.reverse ++ rest) (hW : 2 * g.monitorRoom + (rest.map fun v => v.category).sum ≤ 8) (hdg : decode cc g.pc = .ok (.invokestatic index, 3)) (hf : cells + mc ≤ R.cells ∧ slots + ms ≤ R.slots) :
    va_Run p l e R s m args below meth c H locs cells slots mc ms g rest (Qc As.toArray) (free) := by
  obtain ⟨⟨hrc, hrs, hfr, hlo, hws, hcw⟩, hcode, hini, hy, hlen, hl, hstt⟩ := cw
  have hK : Back l R p e below s args y 3 8 (PreOf R mc ms Pc) (PostOf Qc mc ms free) := va_backW (hh := hh) (bytes := bytes) (maxL := maxL) (ret := ret) hM hp.1 hrc hrs hfr hlo hws hcw (fun a' U hW => word_at hW (Or.inl (by first | rfl | simp [Cond.onTables, Cond.keeps, Cond.steady])) hini)
  obtain ⟨hx, hb, hml, ho, -⟩ := S
  intro T hT X
  obtain ⟨v, vm₁, ⟨U', l2, c2, s2⟩, hW₁, X', ⟨g', mk, t, L, e1, e2, hq, h1, hL, h2, h3⟩, st⟩ := vx_callSW X hx (hh := hh) (bytes := bytes) (maxL := maxL) (ret := ret) ho hl hstt hini hcode hy hK hg (hsize.trans hml.symm) (argsL := As) (rest := rest) (fun sig h => hn.trans (hlen sig h)) hstack hW (by rw [hb]; exact hdg)
    (fun vm₁ hW₁ => ⟨hf.1, hf.2, hp.2 (T.setVm vm₁) hT hW₁⟩)
  dsimp only [Pt.U, Pt.locs, Pt.cells, Pt.slots] at X' e1 e2 h1 h2 h3 st
  subst h1; subst h2; subst h3
  exact ⟨v, (T.setVm vm₁).calling g' mk As.toArray, t, U', L, hT, X', hL, e1, e2, hq, st⟩
/-- not caught here, past rows that name other classes: it goes on to the caller -/
theorem vx_outP {p : Program} {l : Launch} {e : Env} {R : Room} {s : State} {m : MethodId} {args : Array Value} {below : List Frame} {meth : Method} {c : Code} {H : Heap} {locs : List Loc} {cells slots : Nat} {free : Addr → Prop} {ls : Array Slot} {rest : List Value} {Qc : Array Value → State → Outcome → State → Prop} {XC : String → State → State → Prop}
    {pc : Nat} {own E : String} {ce : Cell} {q : Addr} {mc ms : Nat} (hown : s.vm.findClass own = some m.cls) (hlocks : meth.locks = false)
    (hpass : ∀ z ∈ c.exceptionTable.toList, covers z pc = false ∨ (z.catchType ≠ 0 ∧ ∃ nm : String, (Cond.classLink own z.catchType nm).before args s = true ∧ va_Nc E nm s)) (hcell : H[q]? = some ce) (hv : ce.vm = .none) (hcl : s.vm.findClass E = some ce.cls)
    (hx : ∀ t : State, t.heap = H → s.vm.Alike t.vm → XC E s t) (hf : ∀ z ∈ locs, free z.base) (hc : cells ≤ mc) (hs : slots ≤ ms) :
    vx_W p l e R s m args below meth c H locs cells slots (vx_MQ below Qc XC args s mc ms free) (F0 m pc ls rest) q := by
  intro T hT X
  have hpl : e.platform.magicAccessors = ({} : Platform).magicAccessors := by rw [X.admits.platform]
  obtain ⟨vm', hW', X', st⟩ := X.outThrough hlocks q (g := F0 m pc ls rest) rfl rfl rfl (cell := ce) (by rw [hT]; exact hcell) (by rw [hv]; rfl)
    (by obtain ⟨k9, h9, -⟩ := Vm.findClass_spec hcl; exact ⟨k9, h9⟩) (fun z hz => by
      rcases hpass z hz with h | ⟨hz0, nm, hl1, hn1⟩
      · exact Or.inl h
      · obtain ⟨c6, hc6, hcl6⟩ := Cond.classLink_spec hown hl1 e.platform hpl
        obtain ⟨a8, b8, h1, h2, h3⟩ := hn1
        cases Option.some.inj (h1.symm.trans hcl)
        cases Option.some.inj (h2.symm.trans hc6)
        exact Or.inr ⟨hz0, _, hcl6, h3⟩)
  obtain ⟨g₀, hfr⟩ := X'.frames_eq
  have hcell9 : ((T.setVm vm').setFrames (.throwing q :: below)).heap[q]? = some ce := by
    show T.heap[q]? = some ce
    rw [hT]; exact hcell
  have hend : Ended ((T.setVm vm').setFrames (.throwing q :: below)) below (.threw q) := State.frames_setFrames _ (State.cur_lt_of_frames hfr)
  refine ⟨(T.setVm vm').setFrames (.throwing q :: below), ?_, .threw q, X'.here.running, hend, Or.inr ⟨q, rfl, E, ce, locs, hx _ hT (X'.ends _).1.alike, hcell9, hv, hcl, (X'.ends _).1, (X'.ends _).2.mono hc hs, hf⟩⟩
  rw [X.pushThrowing_eq]
  exact st
/-- a thing of a world lies in the heap -/
theorem vx_lt {D : va_G} {cl : List vw_C} {ws : va_W} {H1 : Heap} (h : va_P D cl ws H1) {k : Nat} {q : Nat × va_E} (hk : ws[k]? = some q) : q.1 < H1.size := (h k q hk).lt
end VXS
/-! ===== END ===== -/
/-! ===== BEGIN methods with a table of their own: called by a name, returning or throwing ===== -/
section VXH
/-! vx_backW, vx_callVX, vx_callSX, vx_callVW, vx_runVW, vx_runVX, vx_runSX, vx_ofWH follow the same proofs as their sisters above (Free/Laws.lean, Shelf42/LK1.lean); vx_outP calls Shelf42/NT130.lean (outThrough). -/
section
variable {l : Launch} {R : Room} {p : Program} {e : Env} {below : List Frame} {s : State} {sargs : Array Value} {y : MethodName} {len W9 : Nat}
theorem vx_backW {ws : List Cond} {rm : Room} {Pc : Array Value → State → Prop} {Qc : Array Value → State → Outcome → State → Prop} {XC : String → State → State → Prop} {mc ms : Nat} {free : Addr → Prop} {bytes : ByteArray} {maxL : Nat} {ret : Option FieldType} {hh : List (Nat × Nat × Nat × Nat)}
    (hM : vx_Met l y ws rm Pc Qc XC mc ms free) (hblind : FrameBlind Pc) (hrc : rm.cells = mc) (hrs : rm.slots = ms)
    (hframes : rm.frames + 1 ≤ R.frames) (hlocals : W9 + (maxL + 11) + rm.locals ≤ R.locals)
    (hws : ∀ w ∈ ws, ∀ a' U, s.WarmedH U.vm → w.before a' U = true) (hcode : Cond.codeWith y bytes maxL ret hh ∈ ws) (hinit : ∀ a' U, s.WarmedH U.vm → (Cond.initialized y.cls).before a' U = true) :
    vx_Back l R p e below s sargs y len W9 (PreOf R mc ms Pc) (PostOf Qc mc ms free) (vx_Post XC mc ms free) := by
  intro m meth c A g ig mk a X hg hsize hdg hW hn hp
  have h1 : (headSpec ws rm).pre.before a A.U = true := atoms_intro fun w hw => hws w hw _ _ X.warmed
  have h2 : (Cond.codeWith y bytes maxL ret hh).before a A.U = true := hws _ hcode _ _ X.warmed
  have h3 : (Cond.initialized y.cls).before a A.U = true := hinit _ _ X.warmed
  have h4 : A.cells + (headSpec ws rm).room.cells ≤ R.cells := by rw [show (headSpec ws rm).room.cells = mc from hrc]; exact hp.1
  have h5 : A.slots + (headSpec ws rm).room.slots ≤ R.slots := by rw [show (headSpec ws rm).room.slots = ms from hrs]; exact hp.2.1
  have hPc : Pc a (A.U.calling g mk a) := hblind _ _ _ _ hp.2.2
  obtain ⟨U, Ls, c0, s0⟩ := A
  dsimp only [Pt.U, Pt.locs, Pt.cells, Pt.slots] at h1 h2 h3 h4 h5 X hn hPc ⊢
  obtain ⟨m9, methY, cY, hn9, hmY, hcY, -, hlY, -⟩ := Cond.codeWith_spec h2
  cases Option.some.inj (hn9.symm.trans hn)
  obtain ⟨kY, hkY, -⟩ := className_of_methodNamed hn
  have hinitY : kY.init = .initialized := Cond.initialized_spec (findClass_of_methodNamed hn) hkY h3
  have h : At U g.method c below := by rw [hg]; exact X.here
  have hlocals9 : W9 + (maxL + 11) + (headSpec ws rm).room.locals ≤ R.locals := hlocals
  have happ : (headSpec ws rm).appliesLoose y e.platform (U.calling g mk a) = true :=
    Spec.appliesLoose_calling (g := g) h hdg hn hkY hinitY
      (X.room_calling (g := g) (R' := (headSpec ws rm).room) hsize hmY hcY hframes (by rw [hlY]; omega) h4 h5) h1
  obtain ⟨mid, hmid⟩ := h.above
  have hfr : (U.setTop g).frames = (.java g :: mid) ++ below := by rw [State.frames_setTop' g h.top, hmid]; rfl
  obtain ⟨o, s₂, hsteps, -, hend, hq⟩ := Steps.callFree hM p X.admits X.cas X.clock (acts := []) hfr happ hPc trivial
  have hq' : vx_Q Qc XC mc ms free a (U.calling g mk a) o s₂ := hq
  rw [State.frames_setTop' g h.top] at hend
  obtain ⟨g₀, hg0⟩ := Option.isSome_iff_exists.mp h.top
  obtain ⟨r, hr⟩ := State.topJava?_eq_some.mp hg0
  have hr' : (({ U with heap := s₂.heap, slotsUsed := s₂.slotsUsed } : State).setVm s₂.vm).frames = .java g₀ :: r := hr
  rcases hq' with ⟨hqc, L, hfe, hL⟩ | ⟨q, rfl, E, ce, L, hx, hce, hcv, hcl, hW₂, hsm, hL⟩
  · obtain ⟨⟨v, rfl⟩, hW₂, e2, q2, q3, q4, q5, q6⟩ := id hfe
    have e3 : s₂ = ({ (U.calling g mk a).setFrames s₂.frames with heap := s₂.heap, slotsUsed := s₂.slotsUsed } : State).setVm s₂.vm := by
      have : s₂ = ({ s₂ with vm := (U.calling g mk a).vm } : State).setVm s₂.vm := rfl
      rw [e2] at this
      exact this
    obtain ⟨c₂, i₂, len₂, hc₂, hd₂, hf₂⟩ := hend
    have hW' : U.WarmedH s₂.vm := hW₂
    have hcc : c₂ = c := by
      have h1 : s₂.code? g.method = U.code? g.method := by
        rw [State.code?_eq, State.code?_eq, hW'.alike.method?]
      exact Option.some.inj (hc₂.symm.trans (h1.trans h.code))
    subst hcc
    have hlen : len₂ = len := by rw [hdg] at hd₂; cases hd₂; rfl
    subst hlen
    have hs₂ : s₂ = (({ U with heap := s₂.heap, slotsUsed := s₂.slotsUsed } : State).setVm s₂.vm).setTop { g with pc := g.pc + len₂, stack := v.toList ++ g.stack } := by
      refine e3.trans ?_
      rw [hf₂, State.calling_eq h.top, State.setFrames_setFrames, State.setTop_of_frames _ hr', hr]
      rfl
    have hsame : U.sameButNew ({ U with heap := s₂.heap, slotsUsed := s₂.slotsUsed } : State) L mc ms := by
      refine ⟨?_, q2, q3, q4, q5, q6⟩
      obtain ⟨t, ht, -⟩ := State.frames_cons hr
      show ({ U with heap := s₂.heap, slotsUsed := s₂.slotsUsed } : State) = { U.setFrames U.frames with heap := s₂.heap, slotsUsed := s₂.slotsUsed }
      rw [State.setFrames_self ht]
    subst hg
    refine Or.inl ⟨v, ⟨(({ U with heap := s₂.heap, slotsUsed := s₂.slotsUsed } : State).setVm s₂.vm), Ls ++ L, c0 + mc, s0 + ms⟩,
      ⟨X.admits, X.cas, X.clock, X.frames, X.room, X.hears, X.method, X.code, (X.here.setHeapUsed s₂.heap s₂.slotsUsed).setVm hW'.alike, X.tail, State.WarmedH.trans X.warmed hW', X.limits, X.bytes, X.same.trans (hsame.setVm s.vm)⟩,
      ⟨g, mk, s₂, L, rfl, rfl, hqc, rfl, hL, rfl, rfl⟩, ?_⟩
    show Steps p.tables e below _ ((({ U with heap := s₂.heap, slotsUsed := s₂.slotsUsed } : State).setVm s₂.vm).setTop { g with pc := g.pc + len₂, stack := v.toList ++ g.stack })
    rw [← hs₂]
    exact hsteps
  · obtain ⟨e2, q2, q3, q4, q5, q6⟩ := id hsm
    have e3 : s₂ = ({ (U.calling g mk a).setFrames s₂.frames with heap := s₂.heap, slotsUsed := s₂.slotsUsed } : State).setVm s₂.vm := by
      have : s₂ = ({ s₂ with vm := (U.calling g mk a).vm } : State).setVm s₂.vm := rfl
      rw [e2] at this
      exact this
    have hf₂ : s₂.frames = .throwing q :: .java g :: U.frames.tail := hend
    have hW' : U.WarmedH s₂.vm := hW₂
    have hs₂ : s₂ = ((({ U with heap := s₂.heap, slotsUsed := s₂.slotsUsed } : State).setVm s₂.vm).setTop g).pushFrame (.throwing q) := by
      refine e3.trans ?_
      rw [hf₂, State.calling_eq h.top, State.setFrames_setFrames, State.pushFrame, State.frames_setTop _ hr', State.setTop_of_frames _ hr', State.setFrames_setFrames, hr]
      rfl
    have hsame : U.sameButNew ({ U with heap := s₂.heap, slotsUsed := s₂.slotsUsed } : State) L mc ms := by
      refine ⟨?_, q2, q3, q4, q5, q6⟩
      obtain ⟨t, ht, -⟩ := State.frames_cons hr
      show ({ U with heap := s₂.heap, slotsUsed := s₂.slotsUsed } : State) = { U.setFrames U.frames with heap := s₂.heap, slotsUsed := s₂.slotsUsed }
      rw [State.setFrames_self ht]
    subst hg
    refine Or.inr ⟨q, ⟨(({ U with heap := s₂.heap, slotsUsed := s₂.slotsUsed } : State).setVm s₂.vm), Ls ++ L, c0 + mc, s0 + ms⟩,
      ⟨X.admits, X.cas, X.clock, X.frames, X.room, X.hears, X.method, X.code, (X.here.setHeapUsed s₂.heap s₂.slotsUsed).setVm hW'.alike, X.tail, State.WarmedH.trans X.warmed hW', X.limits, X.bytes, X.same.trans (hsame.setVm s.vm)⟩,
      ⟨g, mk, s₂, L, E, ce, rfl, rfl, hx, hce, hcv, hcl, rfl, hL, rfl, rfl⟩, ?_⟩
    show Steps p.tables e below _ (((({ U with heap := s₂.heap, slotsUsed := s₂.slotsUsed } : State).setVm s₂.vm).setTop g).pushFrame (.throwing q))
    rw [← hs₂]
    exact hsteps
end
variable {p : Program} {l : Launch} {e : Env} {R : Room} {s : State} {m : MethodId} {args : Array Value} {below : List Frame} {meth : Method} {c : Code} {T : State} {H : Heap} {locs : List Loc} {cells slots : Nat}
theorem vx_callVX (X : Stand p l e R s m args below meth c T locs cells slots) (hexec : p.tables.exec = Jvm.exec) {own C : String} {index : Nat} {y : MethodName} {bytes : ByteArray} {maxL : Nat} {ret : Option FieldType} {hh : List (Nat × Nat × Nat × Nat)}
    (hown : s.vm.findClass own = some m.cls) (hlink : (Cond.methodLink own index y).before args s = true) (hinst : (Cond.instanceMethod y).before args s = true) (hsel : (Cond.selects C y y).before args s = true)
    (hcode : (Cond.codeWith y bytes maxL ret hh).before args s = true) (hy : y.cls ≠ "java/lang/invoke/MethodHandle" ∧ y.cls ≠ "java/lang/invoke/VarHandle")
    {W9 : Nat} {Pre : Pt → Array Value → Prop} {Post : Pt → Array Value → Option Value → Pt → Prop} {PostX : Pt → Array Value → Addr → Pt → Prop} (hK : vx_Back l R p e below s args y 3 W9 Pre Post PostX)
    {b : Addr} {cellB : Cell} (hcell : T.heap[b]? = some cellB) (hobj : cellB.vm.isStatics = false) (hcls : s.vm.findClass C = some cellB.cls)
    {g : JFrame} (hg : g.method = m) (hsize : g.locals.size = c.maxLocals) {argsL rest : List Value} (hlen : ∀ sig, parseMethodDescriptor y.desc = some sig → argsL.length = sig.parameters.length)
    (hstack : g.stack = argsL.reverse ++ .ref b :: rest) (hW : 2 * g.monitorRoom + (rest.map fun v => v.category).sum ≤ W9) (hdg : decode c.code g.pc = .ok (.invokevirtual index, 3))
    (hpre : ∀ vm₁, s.WarmedH vm₁ → Pre ⟨T.setVm vm₁, locs, cells, slots⟩ (Value.ref b :: argsL).toArray) :
    (∃ (v : Option Value) (vm₁ : Vm) (B : Pt), s.WarmedH vm₁ ∧ Stand p l e R s m args below meth c B.U B.locs B.cells B.slots ∧ Post ⟨T.setVm vm₁, locs, cells, slots⟩ (Value.ref b :: argsL).toArray v B ∧
      ∀ target, Steps p.tables e below (B.U.setTop { g with pc := g.pc + 3, stack := v.toList ++ rest }) target → Steps p.tables e below (T.setTop g) target) ∨
    (∃ (q : Addr) (vm₁ : Vm) (B : Pt), s.WarmedH vm₁ ∧ Stand p l e R s m args below meth c B.U B.locs B.cells B.slots ∧ PostX ⟨T.setVm vm₁, locs, cells, slots⟩ (Value.ref b :: argsL).toArray q B ∧
      Steps p.tables e below (T.setTop g) ((B.U.setTop { g with stack := rest }).pushFrame (.throwing q))) := by
  obtain ⟨mk, methM, hnamed, hmethM, hstM, habM⟩ := Cond.instanceMethod_spec hinst
  obtain ⟨m8, methM', cM, hn8, hmethM', -, -, -, -, -, -, hsigM⟩ := Cond.codeWith_spec hcode
  cases Option.some.inj (hn8.symm.trans hnamed)
  cases hmethM.symm.trans hmethM'
  obtain ⟨c2, r2, m2, q1, q2, q3, q4, kP, hkP, hkPi⟩ := Cond.selects_spec hsel
  cases hcls.symm.trans q1
  cases (State.methodFound?_of_named hnamed hy).symm.trans q2
  cases hnamed.symm.trans q3
  have hselP : selectMethod e.platform s.vm cellB.cls mk = .method mk := by rw [Launch.admits_selectMethod X.admits]; exact q4
  obtain ⟨vm₁, X₁, hstep₁⟩ := X.invokevirtual hexec hown hlink hnamed hmethM hstM hkP hkPi hy (a := b) (cell := cellB) hcell
    (fun z h => by rw [h] at hobj; cases hobj) hselP hmethM habM hkP hkPi (g := g) hg (argsL := argsL) (rest := rest) (hlen _ hsigM) hstack hdg
  rcases hK m meth c ⟨T.setVm vm₁, locs, cells, slots⟩ { g with stack := rest } (.invokevirtual index) mk (Value.ref b :: argsL).toArray X₁ hg hsize hdg hW (X₁.named hnamed) (hpre vm₁ X₁.warmed) with ⟨v, B, X', hpost, hsteps⟩ | ⟨q, B, X', hpost, hsteps⟩
  · exact Or.inl ⟨v, vm₁, B, X₁.warmed, X', hpost, fun target h => hstep₁ _ fun acts => by rw [doInvoke_state]; exact hsteps.trans h⟩
  · exact Or.inr ⟨q, vm₁, B, X₁.warmed, X', hpost, hstep₁ _ fun acts => by rw [doInvoke_state]; exact hsteps⟩
theorem vx_callSX (X : Stand p l e R s m args below meth c T locs cells slots) (hexec : p.tables.exec = Jvm.exec) {own : String} {index : Nat} {y : MethodName} {bytes : ByteArray} {maxL : Nat} {ret : Option FieldType} {hh : List (Nat × Nat × Nat × Nat)}
    (hown : s.vm.findClass own = some m.cls) (hlink : (Cond.methodLink own index y).before args s = true) (hstat : (Cond.static y).before args s = true) (hinit : (Cond.initialized y.cls).before args s = true)
    (hcode : (Cond.codeWith y bytes maxL ret hh).before args s = true) (hy : y.cls ≠ "java/lang/invoke/MethodHandle" ∧ y.cls ≠ "java/lang/invoke/VarHandle")
    {W9 : Nat} {Pre : Pt → Array Value → Prop} {Post : Pt → Array Value → Option Value → Pt → Prop} {PostX : Pt → Array Value → Addr → Pt → Prop} (hK : vx_Back l R p e below s args y 3 W9 Pre Post PostX)
    {g : JFrame} (hg : g.method = m) (hsize : g.locals.size = c.maxLocals) {argsL rest : List Value} (hlen : ∀ sig, parseMethodDescriptor y.desc = some sig → argsL.length = sig.parameters.length)
    (hstack : g.stack = argsL.reverse ++ rest) (hW : 2 * g.monitorRoom + (rest.map fun v => v.category).sum ≤ W9) (hdg : decode c.code g.pc = .ok (.invokestatic index, 3))
    (hpre : ∀ vm₁, s.WarmedH vm₁ → Pre ⟨T.setVm vm₁, locs, cells, slots⟩ argsL.toArray) :
    (∃ (v : Option Value) (vm₁ : Vm) (B : Pt), s.WarmedH vm₁ ∧ Stand p l e R s m args below meth c B.U B.locs B.cells B.slots ∧ Post ⟨T.setVm vm₁, locs, cells, slots⟩ argsL.toArray v B ∧
      ∀ target, Steps p.tables e below (B.U.setTop { g with pc := g.pc + 3, stack := v.toList ++ rest }) target → Steps p.tables e below (T.setTop g) target) ∨
    (∃ (q : Addr) (vm₁ : Vm) (B : Pt), s.WarmedH vm₁ ∧ Stand p l e R s m args below meth c B.U B.locs B.cells B.slots ∧ PostX ⟨T.setVm vm₁, locs, cells, slots⟩ argsL.toArray q B ∧
      Steps p.tables e below (T.setTop g) ((B.U.setTop { g with stack := rest }).pushFrame (.throwing q))) := by
  obtain ⟨mk, methM, cM, hnamed, hmethM, -, -, -, -, -, -, hsigM⟩ := Cond.codeWith_spec hcode
  have hstatic : methM.isStatic = true := Cond.static_spec hnamed hmethM hstat
  obtain ⟨kP, hkP, -⟩ := className_of_methodNamed hnamed
  have hinitP : kP.init = .initialized := Cond.initialized_spec (findClass_of_methodNamed hnamed) hkP hinit
  obtain ⟨vm₁, X₁, hstep₁⟩ := X.invokestatic hexec hown hlink hnamed hmethM hstatic hkP hinitP hy (g := g) hg (argsL := argsL) (rest := rest) (hlen _ hsigM) hstack hdg
  rcases hK m meth c ⟨T.setVm vm₁, locs, cells, slots⟩ { g with stack := rest } (.invokestatic index) mk argsL.toArray X₁ hg hsize hdg hW (X₁.named hnamed) (hpre vm₁ X₁.warmed) with ⟨v, B, X', hpost, hsteps⟩ | ⟨q, B, X', hpost, hsteps⟩
  · exact Or.inl ⟨v, vm₁, B, X₁.warmed, X', hpost, fun target h => hstep₁ _ fun acts => by rw [doInvoke_state]; exact hsteps.trans h⟩
  · exact Or.inr ⟨q, vm₁, B, X₁.warmed, X', hpost, hstep₁ _ fun acts => by rw [doInvoke_state]; exact hsteps⟩
theorem vx_callVW (X : Stand p l e R s m args below meth c T locs cells slots) (hexec : p.tables.exec = Jvm.exec) {own C : String} {index : Nat} {y : MethodName} {bytes : ByteArray} {maxL : Nat} {ret : Option FieldType} {hh : List (Nat × Nat × Nat × Nat)}
    (hown : s.vm.findClass own = some m.cls) (hlink : (Cond.methodLink own index y).before args s = true) (hinst : (Cond.instanceMethod y).before args s = true) (hsel : (Cond.selects C y y).before args s = true)
    (hcode : (Cond.codeWith y bytes maxL ret hh).before args s = true) (hy : y.cls ≠ "java/lang/invoke/MethodHandle" ∧ y.cls ≠ "java/lang/invoke/VarHandle")
    {W9 : Nat} {Pre : Pt → Array Value → Prop} {Post : Pt → Array Value → Option Value → Pt → Prop} (hK : Back l R p e below s args y 3 W9 Pre Post)
    {b : Addr} {cellB : Cell} (hcell : T.heap[b]? = some cellB) (hobj : cellB.vm.isStatics = false) (hcls : s.vm.findClass C = some cellB.cls)
    {g : JFrame} (hg : g.method = m) (hsize : g.locals.size = c.maxLocals) {argsL rest : List Value} (hlen : ∀ sig, parseMethodDescriptor y.desc = some sig → argsL.length = sig.parameters.length)
    (hstack : g.stack = argsL.reverse ++ .ref b :: rest) (hW : 2 * g.monitorRoom + (rest.map fun v => v.category).sum ≤ W9) (hdg : decode c.code g.pc = .ok (.invokevirtual index, 3))
    (hpre : ∀ vm₁, s.WarmedH vm₁ → Pre ⟨T.setVm vm₁, locs, cells, slots⟩ (Value.ref b :: argsL).toArray) :
    ∃ (v : Option Value) (vm₁ : Vm) (B : Pt), s.WarmedH vm₁ ∧ Stand p l e R s m args below meth c B.U B.locs B.cells B.slots ∧ Post ⟨T.setVm vm₁, locs, cells, slots⟩ (Value.ref b :: argsL).toArray v B ∧
      ∀ target, Steps p.tables e below (B.U.setTop { g with pc := g.pc + 3, stack := v.toList ++ rest }) target → Steps p.tables e below (T.setTop g) target := by
  obtain ⟨mk, methM, hnamed, hmethM, hstM, habM⟩ := Cond.instanceMethod_spec hinst
  obtain ⟨m8, methM', cM, hn8, hmethM', -, -, -, -, -, -, hsigM⟩ := Cond.codeWith_spec hcode
  cases Option.some.inj (hn8.symm.trans hnamed)
  cases hmethM.symm.trans hmethM'
  obtain ⟨c2, r2, m2, q1, q2, q3, q4, kP, hkP, hkPi⟩ := Cond.selects_spec hsel
  cases hcls.symm.trans q1
  cases (State.methodFound?_of_named hnamed hy).symm.trans q2
  cases hnamed.symm.trans q3
  have hselP : selectMethod e.platform s.vm cellB.cls mk = .method mk := by rw [Launch.admits_selectMethod X.admits]; exact q4
  obtain ⟨vm₁, X₁, hstep₁⟩ := X.invokevirtual hexec hown hlink hnamed hmethM hstM hkP hkPi hy (a := b) (cell := cellB) hcell
    (fun z h => by rw [h] at hobj; cases hobj) hselP hmethM habM hkP hkPi (g := g) hg (argsL := argsL) (rest := rest) (hlen _ hsigM) hstack hdg
  obtain ⟨v, B, X', hpost, hsteps⟩ := hK m meth c ⟨T.setVm vm₁, locs, cells, slots⟩ { g with stack := rest } (.invokevirtual index) mk (Value.ref b :: argsL).toArray X₁ hg hsize hdg hW (X₁.named hnamed) (hpre vm₁ X₁.warmed)
  exact ⟨v, vm₁, B, X₁.warmed, X', hpost, fun target h => hstep₁ _ fun acts => by rw [doInvoke_state]; exact hsteps.trans h⟩
abbrev vx_CVW (R : Room) (s : State) (args : Array Value) (own C : String) (index : Nat) (y : MethodName) (bytes : ByteArray) (maxL : Nat) (ret : Option FieldType) (hh : List (Nat × Nat × Nat × Nat)) (ws : List Cond) (rm : Room) (mc ms n : Nat) : Prop :=
  (rm.cells = mc ∧ rm.slots = ms ∧ rm.frames + 1 ≤ R.frames ∧ 8 + (maxL + 11) + rm.locals ≤ R.locals ∧ (∀ w ∈ ws, ∀ (a' : Array Value) (U : State), s.WarmedH U.vm → w.before a' U = true) ∧ Cond.codeWith y bytes maxL ret hh ∈ ws) ∧
  (Cond.codeWith y bytes maxL ret hh).before args s = true ∧ (Cond.initialized y.cls).before args s = true ∧ (y.cls ≠ "java/lang/invoke/MethodHandle" ∧ y.cls ≠ "java/lang/invoke/VarHandle") ∧
  (∀ sig, parseMethodDescriptor y.desc = some sig → n = sig.parameters.length) ∧ (Cond.methodLink own index y).before args s = true ∧ (Cond.instanceMethod y).before args s = true ∧ (Cond.selects C y y).before args s = true
theorem vx_cwVW {own C : String} {index maxL mc ms : Nat} {y : MethodName} {bytes : ByteArray} {ret : Option FieldType} {hh : List (Nat × Nat × Nat × Nat)} {Ts ws ws' : List Cond} {rm : Room} (n : Nat) (ht : ∀ w ∈ Ts, w.before args s = true) (hT : GoodIn Ts (wsV own index C y ws)) (hw : ws = Cond.codeWith y bytes maxL ret hh :: ws') (hrc : rm.cells = mc) (hrs : rm.slots = ms)
    (hd : y.cls = C ∧ y.cls ≠ "java/lang/invoke/MethodHandle" ∧ y.cls ≠ "java/lang/invoke/VarHandle" ∧ (parseMethodDescriptor y.desc).map (fun d => d.parameters.length) = some n) (hR : rm.frames + 1 ≤ R.frames ∧ 8 + (maxL + 11) + rm.locals ≤ R.locals) :
    vx_CVW R s args own C index y bytes maxL ret hh ws rm mc ms n := by
  obtain ⟨hC, hd⟩ := hd
  subst hC
  have ok : ∀ w ∈ wsV own index y.cls y ws, w.before args s = true := fun w h => ht w (hT w h).1
  have hG : GoodIn Ts ws := fun w h => hT w (by unfold wsV; exact List.mem_append_right _ h)
  have hc : Cond.codeWith y bytes maxL ret hh ∈ ws := by rw [hw]; exact List.mem_cons_self
  refine ⟨⟨hrc, hrs, hR.1, hR.2, pay_in ht hG, hc⟩, ht _ (hG _ hc).1, ok _ (by simp [wsV]), ⟨hd.1, hd.2.1⟩, fun sig h => ?_, ok _ (by simp [wsV]), ok _ (by simp [wsV]), ok _ (by simp [wsV])⟩
  have h2 := hd.2.2
  rw [h] at h2
  exact (Option.some.inj h2).symm
theorem vx_runVW {y : MethodName} {bytes cc : ByteArray} {maxL nL mc ms n index : Nat} {ret : Option FieldType} {hh : List (Nat × Nat × Nat × Nat)} {ws : List Cond} {rm : Room} {Pc : Array Value → State → Prop} {Qc : Array Value → State → Outcome → State → Prop} {free : Addr → Prop} {Ts : List Cond} {own C : String} {b : Addr} {As rest : List Value} {g : JFrame}
    (S : CallFix p m c cc nL s args Ts own) (hM : Met l y ws rm Pc Qc mc ms free) (cw : vx_CVW R s args own C index y bytes maxL ret hh ws rm mc ms n) (hp : PreV s H C b Pc As)
    (hg : g.method = m) (hn : As.length = n) (hsize : g.locals.size = nL) (hstack : g.stack = As.reverse ++ .ref b :: rest) (hW : 2 * g.monitorRoom + (rest.map fun v => v.category).sum ≤ 8) (hdg : decode cc g.pc = .ok (.invokevirtual index, 3)) (hf : cells + mc ≤ R.cells ∧ slots + ms ≤ R.slots) :
    va_Run p l e R s m args below meth c H locs cells slots mc ms g rest (Qc (Value.ref b :: As).toArray) free := by
  obtain ⟨⟨hrc, hrs, hfr, hlo, hws, hcw⟩, hcode, hini, hy, hlen, hl, hin, hse⟩ := cw
  have hK : Back l R p e below s args y 3 8 (PreOf R mc ms Pc) (PostOf Qc mc ms free) := va_backW (hh := hh) (bytes := bytes) (maxL := maxL) (ret := ret) hM hp.1 hrc hrs hfr hlo hws hcw (fun a' U hW => word_at hW (Or.inl (by first | rfl | simp [Cond.onTables, Cond.keeps, Cond.steady])) hini)
  obtain ⟨hx, hb, hml, ho, -⟩ := S
  obtain ⟨-, ⟨cellB, hcB, hoB, hclB⟩, hPc⟩ := hp
  intro T hT X
  obtain ⟨v, vm₁, ⟨U', l2, c2, s2⟩, hW₁, X', ⟨g', mk, t, L, e1, e2, hq, h1, hL, h2, h3⟩, st⟩ := vx_callVW X hx (C := C) (hh := hh) (bytes := bytes) (maxL := maxL) (ret := ret) ho hl hin hse hcode hy hK (by rw [hT]; exact hcB) hoB hclB hg (hsize.trans hml.symm) (argsL := As) (rest := rest) (fun sig h => hn.trans (hlen sig h)) hstack hW (by rw [hb]; exact hdg)
    (fun vm₁ hW₁ => ⟨hf.1, hf.2, hPc (T.setVm vm₁) hT hW₁⟩)
  dsimp only [Pt.U, Pt.locs, Pt.cells, Pt.slots] at X' e1 e2 h1 h2 h3 st
  subst h1; subst h2; subst h3
  exact ⟨v, (T.setVm vm₁).calling g' mk (Value.ref b :: As).toArray, t, U', L, hT, X', hL, e1, e2, hq, st⟩
section
variable {y : MethodName} {bytes cc : ByteArray} {maxL nL mc ms n index : Nat} {ret : Option FieldType} {ws : List Cond} {rm : Room} {Pc : Array Value → State → Prop} {Qc : Array Value → State → Outcome → State → Prop} {XC : String → State → State → Prop} {free : Addr → Prop} {Ts : List Cond} {own C : String} {b : Addr} {As rest : List Value} {g : JFrame}
theorem vx_runVX {hh : List (Nat × Nat × Nat × Nat)} (S : CallFix p m c cc nL s args Ts own) (hM : vx_Met l y ws rm Pc Qc XC mc ms free) (cw : vx_CVW R s args own C index y bytes maxL ret hh ws rm mc ms n) (hp : PreV s H C b Pc As)
    (hg : g.method = m) (hn : As.length = n) (hsize : g.locals.size = nL) (hstack : g.stack = As.reverse ++ .ref b :: rest) (hW : 2 * g.monitorRoom + (rest.map fun v => v.category).sum ≤ 8) (hdg : decode cc g.pc = .ok (.invokevirtual index, 3)) (hf : cells + mc ≤ R.cells ∧ slots + ms ≤ R.slots) :
    vx_Run p l e R s m args below meth c H locs cells slots mc ms g rest (Qc (Value.ref b :: As).toArray) XC free := by
  obtain ⟨⟨hrc, hrs, hfr, hlo, hws, hcw⟩, hcode, hini, hy, hlen, hl, hin, hse⟩ := cw
  have hK : vx_Back l R p e below s args y 3 8 (PreOf R mc ms Pc) (PostOf Qc mc ms free) (vx_Post XC mc ms free) := vx_backW (hh := hh) (bytes := bytes) (maxL := maxL) (ret := ret) hM hp.1 hrc hrs hfr hlo hws hcw (fun a' U hW => word_at hW (Or.inl (by first | rfl | simp [Cond.onTables, Cond.keeps, Cond.steady])) hini)
  obtain ⟨hx, hb, hml, ho, -⟩ := S
  obtain ⟨-, ⟨cellB, hcB, hoB, hclB⟩, hPc⟩ := hp
  intro T hT X
  rcases vx_callVX X hx (C := C) (hh := hh) (bytes := bytes) (maxL := maxL) (ret := ret) ho hl hin hse hcode hy hK (by rw [hT]; exact hcB) hoB hclB hg (hsize.trans hml.symm) (argsL := As) (rest := rest) (fun sig h => hn.trans (hlen sig h)) hstack hW (by rw [hb]; exact hdg)
    (fun vm₁ hW₁ => ⟨hf.1, hf.2, hPc (T.setVm vm₁) hT hW₁⟩) with ⟨v, vm₁, ⟨U', l2, c2, s2⟩, hW₁, X', ⟨g', mk, t, L, e1, e2, hq, h1, hL, h2, h3⟩, st⟩ | ⟨q, vm₁, ⟨U', l2, c2, s2⟩, hW₁, X', ⟨g', mk, t, L, E, ce, e1, e2, hq, hce, hcv, hcl, h1, hL, h2, h3⟩, st⟩
  · dsimp only [Pt.U, Pt.locs, Pt.cells, Pt.slots] at X' e1 e2 h1 h2 h3 st
    subst h1; subst h2; subst h3
    exact Or.inl ⟨v, (T.setVm vm₁).calling g' mk (Value.ref b :: As).toArray, t, U', L, hT, X', hL, e1, e2, hq, st⟩
  · dsimp only [Pt.U, Pt.locs, Pt.cells, Pt.slots] at X' e1 e2 h1 h2 h3 st hcl
    subst h1; subst h2; subst h3
    exact Or.inr ⟨q, (T.setVm vm₁).calling g' mk (Value.ref b :: As).toArray, t, U', L, E, ce, hT, X', hL, e1, e2, hq, hce, hcv, vx_cls hW₁ hcl, st⟩
theorem vx_runSX {hh : List (Nat × Nat × Nat × Nat)} (S : CallFix p m c cc nL s args Ts own) (hM : vx_Met l y ws rm Pc Qc XC mc ms free) (cw : vx_CSW R s args own index y bytes maxL ret hh ws rm mc ms n) (hp : PreS s H Pc As)
    (hg : g.method = m) (hn : As.length = n) (hsize : g.locals.size = nL) (hstack : g.stack = As.reverse ++ rest) (hW : 2 * g.monitorRoom + (rest.map fun v => v.category).sum ≤ 8) (hdg : decode cc g.pc = .ok (.invokestatic index, 3)) (hf : cells + mc ≤ R.cells ∧ slots + ms ≤ R.slots) :
    vx_Run p l e R s m args below meth c H locs cells slots mc ms g rest (Qc As.toArray) XC free := by
  obtain ⟨⟨hrc, hrs, hfr, hlo, hws, hcw⟩, hcode, hini, hy, hlen, hl, hstt⟩ := cw
  have hK : vx_Back l R p e below s args y 3 8 (PreOf R mc ms Pc) (PostOf Qc mc ms free) (vx_Post XC mc ms free) := vx_backW (hh := hh) (bytes := bytes) (maxL := maxL) (ret := ret) hM hp.1 hrc hrs hfr hlo hws hcw (fun a' U hW => word_at hW (Or.inl (by first | rfl | simp [Cond.onTables, Cond.keeps, Cond.steady])) hini)
  obtain ⟨hx, hb, hml, ho, -⟩ := S
  intro T hT X
  rcases vx_callSX X hx (hh := hh) (bytes := bytes) (maxL := maxL) (ret := ret) ho hl hstt hini hcode hy hK hg (hsize.trans hml.symm) (argsL := As) (rest := rest) (fun sig h => hn.trans (hlen sig h)) hstack hW (by rw [hb]; exact hdg)
    (fun vm₁ hW₁ => ⟨hf.1, hf.2, hp.2 (T.setVm vm₁) hT hW₁⟩) with ⟨v, vm₁, ⟨U', l2, c2, s2⟩, hW₁, X', ⟨g', mk, t, L, e1, e2, hq, h1, hL, h2, h3⟩, st⟩ | ⟨q, vm₁, ⟨U', l2, c2, s2⟩, hW₁, X', ⟨g', mk, t, L, E, ce, e1, e2, hq, hce, hcv, hcl, h1, hL, h2, h3⟩, st⟩
  · dsimp only [Pt.U, Pt.locs, Pt.cells, Pt.slots] at X' e1 e2 h1 h2 h3 st
    subst h1; subst h2; subst h3
    exact Or.inl ⟨v, (T.setVm vm₁).calling g' mk As.toArray, t, U', L, hT, X', hL, e1, e2, hq, st⟩
  · dsimp only [Pt.U, Pt.locs, Pt.cells, Pt.slots] at X' e1 e2 h1 h2 h3 st hcl
    subst h1; subst h2; subst h3
    exact Or.inr ⟨q, (T.setVm vm₁).calling g' mk As.toArray, t, U', L, E, ce, hT, X', hL, e1, e2, hq, hce, hcv, vx_cls hW₁ hcl, st⟩
end
end VXH
theorem vx_ofWH {l : Launch} {y : MethodName} {ws ws' : List Cond} {rm : Room} {Pc : Array Value → State → Prop} {Qc : Array Value → State → Outcome → State → Prop} {XC : String → State → State → Prop} {mc ms : Nat} {free : Addr → Prop} {cc : ByteArray} {maxL : Nat} {ret : Option FieldType} {hh : List (Nat × Nat × Nat × Nat)}
    (hy : plainName y.cls = true) (hw : ws = Cond.codeWith y cc maxL ret hh :: ws')
    (body : ∀ p e s m args below meth c s₁, BodyLoose p l y (headSpec ws rm) cc maxL ret e s m args below meth c s₁ → c.maxLocals = maxL → Pc args s →
      W p l e (headSpec ws rm).room s m args below meth c s.heap [] 0 0 (vx_MQ below Qc XC args s mc ms free) (entryFrame m args maxL)) : vx_Met l y ws rm Pc Qc XC mc ms free := by
  refine MetFree.of_bodyS (code := cc) (maxLocals := maxL) (ret := ret) hy ?_ ?_
  · intro args s m h hn
    obtain ⟨m9, meth, c, hn9, h1, h2, h3, h4, -, h5, h6, -⟩ := Cond.codeWith_spec (atoms_spec (ws := ws) h _ (by rw [hw]; exact List.mem_cons_self))
    cases hn.symm.trans hn9
    exact ⟨meth, c, h1, h2, h3, h4, h5, h6⟩
  · intro p e s m args below meth c s₁ B hml hP _
    have hh0 : s₁.heap = s.heap := by rw [B.state]; rfl
    obtain ⟨t, a1, o, b1, b2, b3⟩ := body p e s m args below meth c s₁ B hml hP s₁ hh0 (Stand.of_body B)
    exact ⟨t, o, a1, b1, b2, b3⟩
/-! ===== END ===== -/
end
section
def RX0 : String := "DreamLedger$CoverSearch"
def TX0 : u_T := fun k => match k with
  | 0 => ("DreamLedger$CoverSearch", "dreamsWithTag", "[I", true)
  | _ => ("DreamLedger$CoverSearch", "coverable", "[I", true)
def tyX0 : Nat → FieldType := fun k => match k with
  | 0 => .array .int
  | _ => .array .int
abbrev wsX00 : List Cond := u_ws RX0 TX0 2
theorem nmX0 : ∀ a, a < 2 → ∀ b, b < 2 → a ≠ b → (TX0 a).2.1 ≠ (TX0 b).2.1 := by decide +kernel
theorem tyX0_ok : ∀ k, k < 2 → parseFieldDescriptor (TX0 k).2.2.1 = some (tyX0 k) := by decide +kernel
abbrev cX0_init : ByteArray := prog_2_method_1_code
def yX0_init : MethodName := ⟨RX0, "<init>", "()V"⟩
abbrev cX0_smallestOf : ByteArray := prog_2_method_2_code
def yX0_smallestOf : MethodName := ⟨RX0, "smallestOf", "(I)I"⟩
abbrev cX0_coverFrom : ByteArray := prog_2_method_3_code
def yX0_coverFrom : MethodName := ⟨RX0, "coverFrom", "([I[IIII)I"⟩
def RX1 : String := "DreamLedger$TagTree"
def TX1 : u_T := fun k => match k with
  | 0 => ("DreamLedger$TagTree", "parents", "[I", true)
  | 1 => ("DreamLedger$TagTree", "lines", "[I", true)
  | _ => ("DreamLedger$TagTree", "count", "I", false)
def tyX1 : Nat → FieldType := fun k => match k with
  | 0 => .array .int
  | 1 => .array .int
  | _ => .int
abbrev wsX10 : List Cond := u_ws RX1 TX1 3
theorem nmX1 : ∀ a, a < 3 → ∀ b, b < 3 → a ≠ b → (TX1 a).2.1 ≠ (TX1 b).2.1 := by decide +kernel
theorem tyX1_ok : ∀ k, k < 3 → parseFieldDescriptor (TX1 k).2.2.1 = some (tyX1 k) := by decide +kernel
abbrev cX1_init : ByteArray := prog_3_method_1_code
def yX1_init : MethodName := ⟨RX1, "<init>", "()V"⟩
abbrev cX1_grow : ByteArray := prog_3_method_2_code
def yX1_grow : MethodName := ⟨RX1, "grow", "()I"⟩
abbrev cX1_hang : ByteArray := prog_3_method_3_code
def yX1_hang : MethodName := ⟨RX1, "hang", "(II)V"⟩
abbrev cX1_lineFrom : ByteArray := prog_3_method_4_code
def yX1_lineFrom : MethodName := ⟨RX1, "lineFrom", "(I)I"⟩
abbrev cX1_linesOf : ByteArray := prog_3_method_5_code
def yX1_linesOf : MethodName := ⟨RX1, "linesOf", "(I)I"⟩
abbrev cX1_standsBelow : ByteArray := prog_3_method_6_code
def yX1_standsBelow : MethodName := ⟨RX1, "standsBelow", "(II)Z"⟩
abbrev cX1_canHang : ByteArray := prog_3_method_7_code
def yX1_canHang : MethodName := ⟨RX1, "canHang", "(II)Z"⟩
abbrev cX1_countAbove : ByteArray := prog_3_method_8_code
def yX1_countAbove : MethodName := ⟨RX1, "countAbove", "(I)I"⟩
abbrev cX1_countBelow : ByteArray := prog_3_method_9_code
def yX1_countBelow : MethodName := ⟨RX1, "countBelow", "(I)I"⟩
abbrev cX1_lowestOf : ByteArray := prog_3_method_10_code
def yX1_lowestOf : MethodName := ⟨RX1, "lowestOf", "(I)I"⟩
def RX2 : String := "DreamLedger$TermList"
def TX2 : u_T := fun k => match k with
  | 0 => ("DreamLedger$TermList", "kinds", "[I", true)
  | 1 => ("DreamLedger$TermList", "firsts", "[I", true)
  | 2 => ("DreamLedger$TermList", "seconds", "[I", true)
  | 3 => ("DreamLedger$TermList", "matched", "[I", true)
  | _ => ("DreamLedger$TermList", "count", "I", false)
def tyX2 : Nat → FieldType := fun k => match k with
  | 0 => .array .int
  | 1 => .array .int
  | 2 => .array .int
  | 3 => .array .int
  | _ => .int
abbrev wsX20 : List Cond := u_ws RX2 TX2 5
theorem nmX2 : ∀ a, a < 5 → ∀ b, b < 5 → a ≠ b → (TX2 a).2.1 ≠ (TX2 b).2.1 := by decide +kernel
theorem tyX2_ok : ∀ k, k < 5 → parseFieldDescriptor (TX2 k).2.2.1 = some (tyX2 k) := by decide +kernel
abbrev cX2_init : ByteArray := prog_4_method_1_code
def yX2_init : MethodName := ⟨RX2, "<init>", "()V"⟩
abbrev cX2_add : ByteArray := prog_4_method_2_code
def yX2_add : MethodName := ⟨RX2, "add", "(III)I"⟩
abbrev cX2_combine : ByteArray := prog_4_method_3_code
def yX2_combine : MethodName := ⟨RX2, "combine", "(II)V"⟩
abbrev cX2_matchedAhead : ByteArray := prog_4_method_4_code
def yX2_matchedAhead : MethodName := ⟨RX2, "matchedAhead", "(II)I"⟩
def RX3 : String := "DreamLedger"
def TX3 : u_T := fun k => match k with
  | 0 => ("DreamLedger", "tagTree", "LDreamLedger$TagTree;", true)
  | 1 => ("DreamLedger", "termList", "LDreamLedger$TermList;", true)
  | 2 => ("DreamLedger", "coverSearch", "LDreamLedger$CoverSearch;", true)
  | 3 => ("DreamLedger", "ownTags", "[I", true)
  | 4 => ("DreamLedger", "tagSets", "[I", true)
  | 5 => ("DreamLedger", "vividnesses", "[I", true)
  | 6 => ("DreamLedger", "writtenIn", "[I", true)
  | 7 => ("DreamLedger", "dreamCount", "I", false)
  | _ => ("DreamLedger", "nightCount", "I", false)
def tyX3 : Nat → FieldType := fun k => match k with
  | 0 => .object "DreamLedger$TagTree"
  | 1 => .object "DreamLedger$TermList"
  | 2 => .object "DreamLedger$CoverSearch"
  | 3 => .array .int
  | 4 => .array .int
  | 5 => .array .int
  | 6 => .array .int
  | 7 => .int
  | _ => .int
abbrev wsX30 : List Cond := u_ws RX3 TX3 9
theorem nmX3 : ∀ a, a < 9 → ∀ b, b < 9 → a ≠ b → (TX3 a).2.1 ≠ (TX3 b).2.1 := by decide +kernel
theorem tyX3_ok : ∀ k, k < 9 → parseFieldDescriptor (TX3 k).2.2.1 = some (tyX3 k) := by decide +kernel
abbrev cX3_init : ByteArray := prog_1_method_1_code
def yX3_init : MethodName := ⟨RX3, "<init>", "()V"⟩
abbrev cX3_addTag : ByteArray := prog_1_method_2_code
def yX3_addTag : MethodName := ⟨RX3, "addTag", "()I"⟩
abbrev cX3_putUnder : ByteArray := prog_1_method_3_code
def yX3_putUnder : MethodName := ⟨RX3, "putUnder", "(II)I"⟩
abbrev cX3_freeTag : ByteArray := prog_1_method_4_code
def yX3_freeTag : MethodName := ⟨RX3, "freeTag", "(I)I"⟩
abbrev cX3_addDream : ByteArray := prog_1_method_5_code
def yX3_addDream : MethodName := ⟨RX3, "addDream", "(II)I"⟩
abbrev cX3_tagDream : ByteArray := prog_1_method_6_code
def yX3_tagDream : MethodName := ⟨RX3, "tagDream", "(II)I"⟩
abbrev cX3_untagDream : ByteArray := prog_1_method_7_code
def yX3_untagDream : MethodName := ⟨RX3, "untagDream", "(II)I"⟩
abbrev cX3_recall : ByteArray := prog_1_method_8_code
def yX3_recall : MethodName := ⟨RX3, "recall", "(II)I"⟩
abbrev cX3_passNights : ByteArray := prog_1_method_9_code
def yX3_passNights : MethodName := ⟨RX3, "passNights", "(I)I"⟩
abbrev cX3_addTagTerm : ByteArray := prog_1_method_10_code
def yX3_addTagTerm : MethodName := ⟨RX3, "addTagTerm", "(I)I"⟩
abbrev cX3_addBothTerm : ByteArray := prog_1_method_11_code
def yX3_addBothTerm : MethodName := ⟨RX3, "addBothTerm", "(II)I"⟩
abbrev cX3_addEitherTerm : ByteArray := prog_1_method_12_code
def yX3_addEitherTerm : MethodName := ⟨RX3, "addEitherTerm", "(II)I"⟩
abbrev cX3_addWithoutTerm : ByteArray := prog_1_method_13_code
def yX3_addWithoutTerm : MethodName := ⟨RX3, "addWithoutTerm", "(I)I"⟩
abbrev cX3_clearTerms : ByteArray := prog_1_method_14_code
def yX3_clearTerms : MethodName := ⟨RX3, "clearTerms", "()I"⟩
abbrev cX3_hasParent : ByteArray := prog_1_method_15_code
def yX3_hasParent : MethodName := ⟨RX3, "hasParent", "(I)Z"⟩
abbrev cX3_parentOf : ByteArray := prog_1_method_16_code
def yX3_parentOf : MethodName := ⟨RX3, "parentOf", "(I)I"⟩
abbrev cX3_tagsAbove : ByteArray := prog_1_method_17_code
def yX3_tagsAbove : MethodName := ⟨RX3, "tagsAbove", "(I)I"⟩
abbrev cX3_tagsBelow : ByteArray := prog_1_method_18_code
def yX3_tagsBelow : MethodName := ⟨RX3, "tagsBelow", "(I)I"⟩
abbrev cX3_isBelow : ByteArray := prog_1_method_19_code
def yX3_isBelow : MethodName := ⟨RX3, "isBelow", "(II)Z"⟩
abbrev cX3_nearestAbove : ByteArray := prog_1_method_20_code
def yX3_nearestAbove : MethodName := ⟨RX3, "nearestAbove", "(II)I"⟩
abbrev cX3_dreamsWith : ByteArray := prog_1_method_21_code
def yX3_dreamsWith : MethodName := ⟨RX3, "dreamsWith", "(I)I"⟩
abbrev cX3_hasOwnTag : ByteArray := prog_1_method_22_code
def yX3_hasOwnTag : MethodName := ⟨RX3, "hasOwnTag", "(II)Z"⟩
abbrev cX3_hasTag : ByteArray := prog_1_method_23_code
def yX3_hasTag : MethodName := ⟨RX3, "hasTag", "(II)Z"⟩
abbrev cX3_tagsOf : ByteArray := prog_1_method_24_code
def yX3_tagsOf : MethodName := ⟨RX3, "tagsOf", "(I)I"⟩
abbrev cX3_vividnessOf : ByteArray := prog_1_method_25_code
def yX3_vividnessOf : MethodName := ⟨RX3, "vividnessOf", "(I)I"⟩
abbrev cX3_nightOf : ByteArray := prog_1_method_26_code
def yX3_nightOf : MethodName := ⟨RX3, "nightOf", "(I)I"⟩
abbrev cX3_matches : ByteArray := prog_1_method_27_code
def yX3_matches : MethodName := ⟨RX3, "matches", "(II)Z"⟩
abbrev cX3_matchesOf : ByteArray := prog_1_method_28_code
def yX3_matchesOf : MethodName := ⟨RX3, "matchesOf", "(I)I"⟩
abbrev cX3_mostVivid : ByteArray := prog_1_method_29_code
def yX3_mostVivid : MethodName := ⟨RX3, "mostVivid", "(I)I"⟩
abbrev cX3_commonTags : ByteArray := prog_1_method_30_code
def yX3_commonTags : MethodName := ⟨RX3, "commonTags", "(I)I"⟩
abbrev cX3_matchSame : ByteArray := prog_1_method_31_code
def yX3_matchSame : MethodName := ⟨RX3, "matchSame", "(II)Z"⟩
abbrev cX3_coverSize : ByteArray := prog_1_method_32_code
def yX3_coverSize : MethodName := ⟨RX3, "coverSize", "(I)I"⟩
abbrev cX3_coverTag : ByteArray := prog_1_method_33_code
def yX3_coverTag : MethodName := ⟨RX3, "coverTag", "(II)I"⟩
abbrev cX3_tags : ByteArray := prog_1_method_34_code
def yX3_tags : MethodName := ⟨RX3, "tags", "()I"⟩
abbrev cX3_dreams : ByteArray := prog_1_method_35_code
def yX3_dreams : MethodName := ⟨RX3, "dreams", "()I"⟩
abbrev cX3_terms : ByteArray := prog_1_method_36_code
def yX3_terms : MethodName := ⟨RX3, "terms", "()I"⟩
abbrev cX3_nights : ByteArray := prog_1_method_37_code
def yX3_nights : MethodName := ⟨RX3, "nights", "()I"⟩
abbrev cX3_fadedDreams : ByteArray := prog_1_method_38_code
def yX3_fadedDreams : MethodName := ⟨RX3, "fadedDreams", "()I"⟩
abbrev cX3_fadedAfter : ByteArray := prog_1_method_39_code
def yX3_fadedAfter : MethodName := ⟨RX3, "fadedAfter", "(I)I"⟩
abbrev cX3_matchesIfUnder : ByteArray := prog_1_method_40_code
def yX3_matchesIfUnder : MethodName := ⟨RX3, "matchesIfUnder", "(III)I"⟩
abbrev cX3_bestParent : ByteArray := prog_1_method_41_code
def yX3_bestParent : MethodName := ⟨RX3, "bestParent", "(II)I"⟩
abbrev cX3_meanVividness : ByteArray := prog_1_method_42_code
def yX3_meanVividness : MethodName := ⟨RX3, "meanVividness", "()D"⟩
abbrev cX3_digest : ByteArray := prog_1_method_43_code
def yX3_digest : MethodName := ⟨RX3, "digest", "()J"⟩
abbrev cX3_requireTag : ByteArray := prog_1_method_44_code
def yX3_requireTag : MethodName := ⟨RX3, "requireTag", "(I)V"⟩
abbrev cX3_requireDream : ByteArray := prog_1_method_45_code
def yX3_requireDream : MethodName := ⟨RX3, "requireDream", "(I)V"⟩
abbrev cX3_requireTerm : ByteArray := prog_1_method_46_code
def yX3_requireTerm : MethodName := ⟨RX3, "requireTerm", "(I)V"⟩
abbrev cX3_requireParent : ByteArray := prog_1_method_47_code
def yX3_requireParent : MethodName := ⟨RX3, "requireParent", "(I)V"⟩
abbrev cX3_requirePlaceUnder : ByteArray := prog_1_method_48_code
def yX3_requirePlaceUnder : MethodName := ⟨RX3, "requirePlaceUnder", "(II)V"⟩
abbrev cX3_requireNights : ByteArray := prog_1_method_49_code
def yX3_requireNights : MethodName := ⟨RX3, "requireNights", "(I)V"⟩
abbrev cX3_requireRoomForTerm : ByteArray := prog_1_method_50_code
def yX3_requireRoomForTerm : MethodName := ⟨RX3, "requireRoomForTerm", "()V"⟩
abbrev cX3_moveTag : ByteArray := prog_1_method_51_code
def yX3_moveTag : MethodName := ⟨RX3, "moveTag", "(II)V"⟩
abbrev cX3_setOwnTags : ByteArray := prog_1_method_52_code
def yX3_setOwnTags : MethodName := ⟨RX3, "setOwnTags", "(II)V"⟩
abbrev cX3_addTerm : ByteArray := prog_1_method_53_code
def yX3_addTerm : MethodName := ⟨RX3, "addTerm", "(III)I"⟩
abbrev cX3_rematchTerms : ByteArray := prog_1_method_54_code
def yX3_rematchTerms : MethodName := ⟨RX3, "rematchTerms", "()V"⟩
abbrev cX3_allDreams : ByteArray := prog_1_method_55_code
def yX3_allDreams : MethodName := ⟨RX3, "allDreams", "()I"⟩
abbrev cX3_dreamsHaving : ByteArray := prog_1_method_56_code
def yX3_dreamsHaving : MethodName := ⟨RX3, "dreamsHaving", "(I)I"⟩
abbrev cX3_vividnessAfter : ByteArray := prog_1_method_57_code
def yX3_vividnessAfter : MethodName := ⟨RX3, "vividnessAfter", "(II)I"⟩
abbrev cX3_ownTagsOfLatest : ByteArray := prog_1_method_58_code
def yX3_ownTagsOfLatest : MethodName := ⟨RX3, "ownTagsOfLatest", "()I"⟩
abbrev cX3_countFadedAfter : ByteArray := prog_1_method_59_code
def yX3_countFadedAfter : MethodName := ⟨RX3, "countFadedAfter", "(I)I"⟩
abbrev cX3_mostVividOf : ByteArray := prog_1_method_60_code
def yX3_mostVividOf : MethodName := ⟨RX3, "mostVividOf", "(I)I"⟩
abbrev cX3_tagsSharedBy : ByteArray := prog_1_method_61_code
def yX3_tagsSharedBy : MethodName := ⟨RX3, "tagsSharedBy", "(I)I"⟩
abbrev cX3_smallestCover : ByteArray := prog_1_method_62_code
def yX3_smallestCover : MethodName := ⟨RX3, "smallestCover", "(I)I"⟩
abbrev cX3_countMatchedIfUnder : ByteArray := prog_1_method_63_code
def yX3_countMatchedIfUnder : MethodName := ⟨RX3, "countMatchedIfUnder", "(III)I"⟩
abbrev cX3_digestedTag : ByteArray := prog_1_method_64_code
def yX3_digestedTag : MethodName := ⟨RX3, "digestedTag", "(JI)J"⟩
abbrev cX3_digestedDream : ByteArray := prog_1_method_65_code
def yX3_digestedDream : MethodName := ⟨RX3, "digestedDream", "(JI)J"⟩
abbrev cX3_digestedTerm : ByteArray := prog_1_method_66_code
def yX3_digestedTerm : MethodName := ⟨RX3, "digestedTerm", "(JI)J"⟩
abbrev cX3_digestedSet : ByteArray := prog_1_method_67_code
def yX3_digestedSet : MethodName := ⟨RX3, "digestedSet", "(JII)J"⟩
abbrev cX3_digested : ByteArray := prog_1_method_68_code
def yX3_digested : MethodName := ⟨RX3, "digested", "(JJ)J"⟩
abbrev cX3_isIn : ByteArray := prog_1_method_69_code
def yX3_isIn : MethodName := ⟨RX3, "isIn", "(II)Z"⟩
abbrev cX3_memberAt : ByteArray := prog_1_method_70_code
def yX3_memberAt : MethodName := ⟨RX3, "memberAt", "(II)I"⟩
def RX4 : String := "DreamLedgerModel"
def TX4 : u_T := fun k => match k with
  | 0 => ("DreamLedgerModel", "thrown", "I", false)
  | 1 => ("DreamLedgerModel", "tags", "I", false)
  | 2 => ("DreamLedgerModel", "dreams", "I", false)
  | 3 => ("DreamLedgerModel", "terms", "I", false)
  | 4 => ("DreamLedgerModel", "nights", "I", false)
  | 5 => ("DreamLedgerModel", "parent", "[I", true)
  | 6 => ("DreamLedgerModel", "own", "[I", true)
  | 7 => ("DreamLedgerModel", "vivid", "[I", true)
  | 8 => ("DreamLedgerModel", "night", "[I", true)
  | 9 => ("DreamLedgerModel", "kind", "[I", true)
  | 10 => ("DreamLedgerModel", "first", "[I", true)
  | 11 => ("DreamLedgerModel", "second", "[I", true)
  | 12 => ("DreamLedgerModel", "has", "[I", true)
  | 13 => ("DreamLedgerModel", "with", "[I", true)
  | 14 => ("DreamLedgerModel", "match", "[I", true)
  | _ => ("DreamLedgerModel", "chosen", "I", false)
def tyX4 : Nat → FieldType := fun k => match k with
  | 0 => .int
  | 1 => .int
  | 2 => .int
  | 3 => .int
  | 4 => .int
  | 5 => .array .int
  | 6 => .array .int
  | 7 => .array .int
  | 8 => .array .int
  | 9 => .array .int
  | 10 => .array .int
  | 11 => .array .int
  | 12 => .array .int
  | 13 => .array .int
  | 14 => .array .int
  | _ => .int
abbrev wsX40 : List Cond := u_ws RX4 TX4 16
theorem nmX4 : ∀ a, a < 16 → ∀ b, b < 16 → a ≠ b → (TX4 a).2.1 ≠ (TX4 b).2.1 := by decide +kernel
theorem tyX4_ok : ∀ k, k < 16 → parseFieldDescriptor (TX4 k).2.2.1 = some (tyX4 k) := by decide +kernel
abbrev cX4_init : ByteArray := prog_6_method_1_code
def yX4_init : MethodName := ⟨RX4, "<init>", "()V"⟩
abbrev cX4_thrown : ByteArray := prog_6_method_2_code
def yX4_thrown : MethodName := ⟨RX4, "thrown", "()I"⟩
abbrev cX4_fail : ByteArray := prog_6_method_3_code
def yX4_fail : MethodName := ⟨RX4, "fail", "(I)I"⟩
abbrev cX4_failed : ByteArray := prog_6_method_4_code
def yX4_failed : MethodName := ⟨RX4, "failed", "(I)Z"⟩
abbrev cX4_isIn : ByteArray := prog_6_method_5_code
def yX4_isIn : MethodName := ⟨RX4, "isIn", "(III)Z"⟩
abbrev cX4_isTag : ByteArray := prog_6_method_6_code
def yX4_isTag : MethodName := ⟨RX4, "isTag", "(I)Z"⟩
abbrev cX4_isDream : ByteArray := prog_6_method_7_code
def yX4_isDream : MethodName := ⟨RX4, "isDream", "(I)Z"⟩
abbrev cX4_isTerm : ByteArray := prog_6_method_8_code
def yX4_isTerm : MethodName := ⟨RX4, "isTerm", "(I)Z"⟩
abbrev cX4_is : ByteArray := prog_6_method_9_code
def yX4_is : MethodName := ⟨RX4, "is", "(II)Z"⟩
abbrev cX4_many : ByteArray := prog_6_method_10_code
def yX4_many : MethodName := ⟨RX4, "many", "(I)I"⟩
abbrev cX4_above : ByteArray := prog_6_method_11_code
def yX4_above : MethodName := ⟨RX4, "above", "(I)I"⟩
abbrev cX4_below : ByteArray := prog_6_method_12_code
def yX4_below : MethodName := ⟨RX4, "below", "(II)Z"⟩
abbrev cX4_tagsUnder : ByteArray := prog_6_method_13_code
def yX4_tagsUnder : MethodName := ⟨RX4, "tagsUnder", "(I)I"⟩
abbrev cX4_reckon : ByteArray := prog_6_method_14_code
def yX4_reckon : MethodName := ⟨RX4, "reckon", "()V"⟩
abbrev cX4_addTag : ByteArray := prog_6_method_15_code
def yX4_addTag : MethodName := ⟨RX4, "addTag", "()I"⟩
abbrev cX4_canPut : ByteArray := prog_6_method_16_code
def yX4_canPut : MethodName := ⟨RX4, "canPut", "(II)Z"⟩
abbrev cX4_putUnder : ByteArray := prog_6_method_17_code
def yX4_putUnder : MethodName := ⟨RX4, "putUnder", "(II)I"⟩
abbrev cX4_freeTag : ByteArray := prog_6_method_18_code
def yX4_freeTag : MethodName := ⟨RX4, "freeTag", "(I)I"⟩
abbrev cX4_addDream : ByteArray := prog_6_method_19_code
def yX4_addDream : MethodName := ⟨RX4, "addDream", "(II)I"⟩
abbrev cX4_changed : ByteArray := prog_6_method_20_code
def yX4_changed : MethodName := ⟨RX4, "changed", "(II)I"⟩
abbrev cX4_tagDream : ByteArray := prog_6_method_21_code
def yX4_tagDream : MethodName := ⟨RX4, "tagDream", "(II)I"⟩
abbrev cX4_untagDream : ByteArray := prog_6_method_22_code
def yX4_untagDream : MethodName := ⟨RX4, "untagDream", "(II)I"⟩
abbrev cX4_recall : ByteArray := prog_6_method_23_code
def yX4_recall : MethodName := ⟨RX4, "recall", "(II)I"⟩
abbrev cX4_later : ByteArray := prog_6_method_24_code
def yX4_later : MethodName := ⟨RX4, "later", "(II)I"⟩
abbrev cX4_faded : ByteArray := prog_6_method_25_code
def yX4_faded : MethodName := ⟨RX4, "faded", "(I)I"⟩
abbrev cX4_passNights : ByteArray := prog_6_method_26_code
def yX4_passNights : MethodName := ⟨RX4, "passNights", "(I)I"⟩
abbrev cX4_add : ByteArray := prog_6_method_27_code
def yX4_add : MethodName := ⟨RX4, "add", "(III)I"⟩
abbrev cX4_addTagTerm : ByteArray := prog_6_method_28_code
def yX4_addTagTerm : MethodName := ⟨RX4, "addTagTerm", "(I)I"⟩
abbrev cX4_addBothTerm : ByteArray := prog_6_method_29_code
def yX4_addBothTerm : MethodName := ⟨RX4, "addBothTerm", "(II)I"⟩
abbrev cX4_addEitherTerm : ByteArray := prog_6_method_30_code
def yX4_addEitherTerm : MethodName := ⟨RX4, "addEitherTerm", "(II)I"⟩
abbrev cX4_addWithoutTerm : ByteArray := prog_6_method_31_code
def yX4_addWithoutTerm : MethodName := ⟨RX4, "addWithoutTerm", "(I)I"⟩
abbrev cX4_clearTerms : ByteArray := prog_6_method_32_code
def yX4_clearTerms : MethodName := ⟨RX4, "clearTerms", "()I"⟩
abbrev cX4_hasParent : ByteArray := prog_6_method_33_code
def yX4_hasParent : MethodName := ⟨RX4, "hasParent", "(I)Z"⟩
abbrev cX4_parentOf : ByteArray := prog_6_method_34_code
def yX4_parentOf : MethodName := ⟨RX4, "parentOf", "(I)I"⟩
abbrev cX4_tagsAbove : ByteArray := prog_6_method_35_code
def yX4_tagsAbove : MethodName := ⟨RX4, "tagsAbove", "(I)I"⟩
abbrev cX4_tagsBelow : ByteArray := prog_6_method_36_code
def yX4_tagsBelow : MethodName := ⟨RX4, "tagsBelow", "(I)I"⟩
abbrev cX4_isBelow : ByteArray := prog_6_method_37_code
def yX4_isBelow : MethodName := ⟨RX4, "isBelow", "(II)Z"⟩
abbrev cX4_nearestAbove : ByteArray := prog_6_method_38_code
def yX4_nearestAbove : MethodName := ⟨RX4, "nearestAbove", "(II)I"⟩
abbrev cX4_dreamsWith : ByteArray := prog_6_method_39_code
def yX4_dreamsWith : MethodName := ⟨RX4, "dreamsWith", "(I)I"⟩
abbrev cX4_hasOwnTag : ByteArray := prog_6_method_40_code
def yX4_hasOwnTag : MethodName := ⟨RX4, "hasOwnTag", "(II)Z"⟩
abbrev cX4_hasTag : ByteArray := prog_6_method_41_code
def yX4_hasTag : MethodName := ⟨RX4, "hasTag", "(II)Z"⟩
abbrev cX4_tagsOf : ByteArray := prog_6_method_42_code
def yX4_tagsOf : MethodName := ⟨RX4, "tagsOf", "(I)I"⟩
abbrev cX4_vividnessOf : ByteArray := prog_6_method_43_code
def yX4_vividnessOf : MethodName := ⟨RX4, "vividnessOf", "(I)I"⟩
abbrev cX4_nightOf : ByteArray := prog_6_method_44_code
def yX4_nightOf : MethodName := ⟨RX4, "nightOf", "(I)I"⟩
abbrev cX4_matches : ByteArray := prog_6_method_45_code
def yX4_matches : MethodName := ⟨RX4, "matches", "(II)Z"⟩
abbrev cX4_matchesOf : ByteArray := prog_6_method_46_code
def yX4_matchesOf : MethodName := ⟨RX4, "matchesOf", "(I)I"⟩
abbrev cX4_brightest : ByteArray := prog_6_method_47_code
def yX4_brightest : MethodName := ⟨RX4, "brightest", "(I)I"⟩
abbrev cX4_mostVivid : ByteArray := prog_6_method_48_code
def yX4_mostVivid : MethodName := ⟨RX4, "mostVivid", "(I)I"⟩
abbrev cX4_common : ByteArray := prog_6_method_49_code
def yX4_common : MethodName := ⟨RX4, "common", "(I)I"⟩
abbrev cX4_commonTags : ByteArray := prog_6_method_50_code
def yX4_commonTags : MethodName := ⟨RX4, "commonTags", "(I)I"⟩
abbrev cX4_matchSame : ByteArray := prog_6_method_51_code
def yX4_matchSame : MethodName := ⟨RX4, "matchSame", "(II)Z"⟩
abbrev cX4_apart : ByteArray := prog_6_method_52_code
def yX4_apart : MethodName := ⟨RX4, "apart", "(I)I"⟩
abbrev cX4_covers : ByteArray := prog_6_method_53_code
def yX4_covers : MethodName := ⟨RX4, "covers", "(III)Z"⟩
abbrev cX4_cover : ByteArray := prog_6_method_54_code
def yX4_cover : MethodName := ⟨RX4, "cover", "(I)I"⟩
abbrev cX4_coverSize : ByteArray := prog_6_method_55_code
def yX4_coverSize : MethodName := ⟨RX4, "coverSize", "(I)I"⟩
abbrev cX4_coverTag : ByteArray := prog_6_method_56_code
def yX4_coverTag : MethodName := ⟨RX4, "coverTag", "(II)I"⟩
abbrev cX4_tags : ByteArray := prog_6_method_57_code
def yX4_tags : MethodName := ⟨RX4, "tags", "()I"⟩
abbrev cX4_dreams : ByteArray := prog_6_method_58_code
def yX4_dreams : MethodName := ⟨RX4, "dreams", "()I"⟩
abbrev cX4_terms : ByteArray := prog_6_method_59_code
def yX4_terms : MethodName := ⟨RX4, "terms", "()I"⟩
abbrev cX4_nights : ByteArray := prog_6_method_60_code
def yX4_nights : MethodName := ⟨RX4, "nights", "()I"⟩
abbrev cX4_fadedDreams : ByteArray := prog_6_method_61_code
def yX4_fadedDreams : MethodName := ⟨RX4, "fadedDreams", "()I"⟩
abbrev cX4_fadedAfter : ByteArray := prog_6_method_62_code
def yX4_fadedAfter : MethodName := ⟨RX4, "fadedAfter", "(I)I"⟩
abbrev cX4_matchesWith : ByteArray := prog_6_method_63_code
def yX4_matchesWith : MethodName := ⟨RX4, "matchesWith", "(III)I"⟩
abbrev cX4_matchesIfUnder : ByteArray := prog_6_method_64_code
def yX4_matchesIfUnder : MethodName := ⟨RX4, "matchesIfUnder", "(III)I"⟩
abbrev cX4_bestParent : ByteArray := prog_6_method_65_code
def yX4_bestParent : MethodName := ⟨RX4, "bestParent", "(II)I"⟩
abbrev cX4_meanVividness : ByteArray := prog_6_method_66_code
def yX4_meanVividness : MethodName := ⟨RX4, "meanVividness", "()D"⟩
abbrev cX4_digest : ByteArray := prog_6_method_67_code
def yX4_digest : MethodName := ⟨RX4, "digest", "()J"⟩
def RJ6 : String := "java/lang/Integer"
def TJ6 : u_T := fun k => match k with
  | _ => ("", "", "", false)
def tyJ6 : Nat → FieldType := fun k => match k with
  | _ => .int
abbrev wsJ60 : List Cond := u_ws RJ6 TJ6 0
theorem nmJ6 : ∀ a, a < 0 → ∀ b, b < 0 → a ≠ b → (TJ6 a).2.1 ≠ (TJ6 b).2.1 := by decide +kernel
theorem tyJ6_ok : ∀ k, k < 0 → parseFieldDescriptor (TJ6 k).2.2.1 = some (tyJ6 k) := by decide +kernel
abbrev cJ6_bitCount_0f7a4 : ByteArray := prog_11_method_49_code
def yJ6_bitCount_0f7a4 : MethodName := ⟨RJ6, "bitCount", "(I)I"⟩
def RJ9 : String := "java/lang/Math"
def TJ9 : u_T := fun k => match k with
  | _ => ("", "", "", false)
def tyJ9 : Nat → FieldType := fun k => match k with
  | _ => .int
abbrev wsJ90 : List Cond := u_ws RJ9 TJ9 0
theorem nmJ9 : ∀ a, a < 0 → ∀ b, b < 0 → a ≠ b → (TJ9 a).2.1 ≠ (TJ9 b).2.1 := by decide +kernel
theorem tyJ9_ok : ∀ k, k < 0 → parseFieldDescriptor (TJ9 k).2.2.1 = some (tyJ9 k) := by decide +kernel
abbrev cJ9_max_7cf53 : ByteArray := prog_12_method_65_code
def yJ9_max_7cf53 : MethodName := ⟨RJ9, "max", "(II)I"⟩
def RJ0 : String := "java/lang/String"
def TJ0 : u_T := fun k => match k with
  | _ => ("", "", "", false)
def tyJ0 : Nat → FieldType := fun k => match k with
  | _ => .int
abbrev wsJ00 : List Cond := u_ws RJ0 TJ0 0
theorem nmJ0 : ∀ a, a < 0 → ∀ b, b < 0 → a ≠ b → (TJ0 a).2.1 ≠ (TJ0 b).2.1 := by decide +kernel
theorem tyJ0_ok : ∀ k, k < 0 → parseFieldDescriptor (TJ0 k).2.2.1 = some (tyJ0 k) := by decide +kernel
def RL : String := "DreamLedgerLaw"
abbrev cL_addTag : ByteArray := method_3_code
def yL_addTag : MethodName := ⟨RL, "addTag", "(LDreamLedger;[J)I"⟩
abbrev cL_putUnder : ByteArray := method_4_code
def yL_putUnder : MethodName := ⟨RL, "putUnder", "(LDreamLedger;II[J)I"⟩
abbrev cL_freeTag : ByteArray := method_5_code
def yL_freeTag : MethodName := ⟨RL, "freeTag", "(LDreamLedger;I[J)I"⟩
abbrev cL_addDream : ByteArray := method_6_code
def yL_addDream : MethodName := ⟨RL, "addDream", "(LDreamLedger;II[J)I"⟩
abbrev cL_tagDream : ByteArray := method_7_code
def yL_tagDream : MethodName := ⟨RL, "tagDream", "(LDreamLedger;II[J)I"⟩
abbrev cL_untagDream : ByteArray := method_8_code
def yL_untagDream : MethodName := ⟨RL, "untagDream", "(LDreamLedger;II[J)I"⟩
abbrev cL_recall : ByteArray := method_9_code
def yL_recall : MethodName := ⟨RL, "recall", "(LDreamLedger;II[J)I"⟩
abbrev cL_passNights : ByteArray := method_10_code
def yL_passNights : MethodName := ⟨RL, "passNights", "(LDreamLedger;I[J)I"⟩
abbrev cL_addTagTerm : ByteArray := method_11_code
def yL_addTagTerm : MethodName := ⟨RL, "addTagTerm", "(LDreamLedger;I[J)I"⟩
abbrev cL_addBothTerm : ByteArray := method_12_code
def yL_addBothTerm : MethodName := ⟨RL, "addBothTerm", "(LDreamLedger;II[J)I"⟩
abbrev cL_addEitherTerm : ByteArray := method_13_code
def yL_addEitherTerm : MethodName := ⟨RL, "addEitherTerm", "(LDreamLedger;II[J)I"⟩
abbrev cL_addWithoutTerm : ByteArray := method_14_code
def yL_addWithoutTerm : MethodName := ⟨RL, "addWithoutTerm", "(LDreamLedger;I[J)I"⟩
abbrev cL_hasParent : ByteArray := method_15_code
def yL_hasParent : MethodName := ⟨RL, "hasParent", "(LDreamLedger;I[J)I"⟩
abbrev cL_parentOf : ByteArray := method_16_code
def yL_parentOf : MethodName := ⟨RL, "parentOf", "(LDreamLedger;I[J)I"⟩
abbrev cL_tagsAbove : ByteArray := method_17_code
def yL_tagsAbove : MethodName := ⟨RL, "tagsAbove", "(LDreamLedger;I[J)I"⟩
abbrev cL_tagsBelow : ByteArray := method_18_code
def yL_tagsBelow : MethodName := ⟨RL, "tagsBelow", "(LDreamLedger;I[J)I"⟩
abbrev cL_isBelow : ByteArray := method_19_code
def yL_isBelow : MethodName := ⟨RL, "isBelow", "(LDreamLedger;II[J)I"⟩
abbrev cL_nearestAbove : ByteArray := method_20_code
def yL_nearestAbove : MethodName := ⟨RL, "nearestAbove", "(LDreamLedger;II[J)I"⟩
abbrev cL_dreamsWith : ByteArray := method_21_code
def yL_dreamsWith : MethodName := ⟨RL, "dreamsWith", "(LDreamLedger;I[J)I"⟩
abbrev cL_hasOwnTag : ByteArray := method_22_code
def yL_hasOwnTag : MethodName := ⟨RL, "hasOwnTag", "(LDreamLedger;II[J)I"⟩
abbrev cL_hasTag : ByteArray := method_23_code
def yL_hasTag : MethodName := ⟨RL, "hasTag", "(LDreamLedger;II[J)I"⟩
abbrev cL_tagsOf : ByteArray := method_24_code
def yL_tagsOf : MethodName := ⟨RL, "tagsOf", "(LDreamLedger;I[J)I"⟩
abbrev cL_vividnessOf : ByteArray := method_25_code
def yL_vividnessOf : MethodName := ⟨RL, "vividnessOf", "(LDreamLedger;I[J)I"⟩
abbrev cL_nightOf : ByteArray := method_26_code
def yL_nightOf : MethodName := ⟨RL, "nightOf", "(LDreamLedger;I[J)I"⟩
abbrev cL_matches : ByteArray := method_27_code
def yL_matches : MethodName := ⟨RL, "matches", "(LDreamLedger;II[J)I"⟩
abbrev cL_matchesOf : ByteArray := method_28_code
def yL_matchesOf : MethodName := ⟨RL, "matchesOf", "(LDreamLedger;I[J)I"⟩
abbrev cL_mostVivid : ByteArray := method_29_code
def yL_mostVivid : MethodName := ⟨RL, "mostVivid", "(LDreamLedger;I[J)I"⟩
abbrev cL_commonTags : ByteArray := method_30_code
def yL_commonTags : MethodName := ⟨RL, "commonTags", "(LDreamLedger;I[J)I"⟩
abbrev cL_matchSame : ByteArray := method_31_code
def yL_matchSame : MethodName := ⟨RL, "matchSame", "(LDreamLedger;II[J)I"⟩
abbrev cL_coverSize : ByteArray := method_32_code
def yL_coverSize : MethodName := ⟨RL, "coverSize", "(LDreamLedger;I[J)I"⟩
abbrev cL_coverTag : ByteArray := method_33_code
def yL_coverTag : MethodName := ⟨RL, "coverTag", "(LDreamLedger;II[J)I"⟩
abbrev cL_fadedAfter : ByteArray := method_34_code
def yL_fadedAfter : MethodName := ⟨RL, "fadedAfter", "(LDreamLedger;I[J)I"⟩
abbrev cL_matchesIfUnder : ByteArray := method_35_code
def yL_matchesIfUnder : MethodName := ⟨RL, "matchesIfUnder", "(LDreamLedger;III[J)I"⟩
abbrev cL_bestParent : ByteArray := method_36_code
def yL_bestParent : MethodName := ⟨RL, "bestParent", "(LDreamLedger;II[J)I"⟩
abbrev cL_law : ByteArray := code
def yL_law : MethodName := ⟨RL, "law", "([I)Z"⟩
abbrev vwCl : List vw_C := [(RX0, TX0, 2), (RX1, TX1, 3), (RX2, TX2, 5), (RX3, TX3, 9), (RX4, TX4, 16)]
end
section
theorem dX0_init_0 : decode cX0_init 0 = .ok (.aload_n 0, 1) := by decide +kernel
theorem dX0_init_1 : decode cX0_init 1 = .ok (.invokespecial 3, 3) := by decide +kernel
theorem dX0_init_4 : decode cX0_init 4 = .ok (.aload_n 0, 1) := by decide +kernel
theorem dX0_init_5 : decode cX0_init 5 = .ok (.bipush 16, 2) := by decide +kernel
theorem dX0_init_7 : decode cX0_init 7 = .ok (.newarray .int, 2) := by decide +kernel
theorem dX0_init_9 : decode cX0_init 9 = .ok (.putfield 9, 3) := by decide +kernel
theorem dX0_init_12 : decode cX0_init 12 = .ok (.aload_n 0, 1) := by decide +kernel
theorem dX0_init_13 : decode cX0_init 13 = .ok (.bipush 17, 2) := by decide +kernel
theorem dX0_init_15 : decode cX0_init 15 = .ok (.newarray .int, 2) := by decide +kernel
theorem dX0_init_17 : decode cX0_init 17 = .ok (.putfield 15, 3) := by decide +kernel
theorem dX0_init_20 : decode cX0_init 20 = .ok (.return_, 1) := by decide +kernel
theorem dX0_smallestOf_0 : decode cX0_smallestOf 0 = .ok (.bipush 15, 2) := by decide +kernel
theorem dX0_smallestOf_2 : decode cX0_smallestOf 2 = .ok (.istore_n 2, 1) := by decide +kernel
theorem dX0_smallestOf_3 : decode cX0_smallestOf 3 = .ok (.iload_n 2, 1) := by decide +kernel
theorem dX0_smallestOf_4 : decode cX0_smallestOf 4 = .ok (.ifCond .lt 30, 3) := by decide +kernel
theorem dX0_smallestOf_7 : decode cX0_smallestOf 7 = .ok (.aload_n 0, 1) := by decide +kernel
theorem dX0_smallestOf_8 : decode cX0_smallestOf 8 = .ok (.getfield 15, 3) := by decide +kernel
theorem dX0_smallestOf_11 : decode cX0_smallestOf 11 = .ok (.iload_n 2, 1) := by decide +kernel
theorem dX0_smallestOf_12 : decode cX0_smallestOf 12 = .ok (.aload_n 0, 1) := by decide +kernel
theorem dX0_smallestOf_13 : decode cX0_smallestOf 13 = .ok (.getfield 15, 3) := by decide +kernel
theorem dX0_smallestOf_16 : decode cX0_smallestOf 16 = .ok (.iload_n 2, 1) := by decide +kernel
theorem dX0_smallestOf_17 : decode cX0_smallestOf 17 = .ok (.iconst 1, 1) := by decide +kernel
theorem dX0_smallestOf_18 : decode cX0_smallestOf 18 = .ok (.iadd, 1) := by decide +kernel
theorem dX0_smallestOf_19 : decode cX0_smallestOf 19 = .ok (.iaload, 1) := by decide +kernel
theorem dX0_smallestOf_20 : decode cX0_smallestOf 20 = .ok (.aload_n 0, 1) := by decide +kernel
theorem dX0_smallestOf_21 : decode cX0_smallestOf 21 = .ok (.getfield 9, 3) := by decide +kernel
theorem dX0_smallestOf_24 : decode cX0_smallestOf 24 = .ok (.iload_n 2, 1) := by decide +kernel
theorem dX0_smallestOf_25 : decode cX0_smallestOf 25 = .ok (.iaload, 1) := by decide +kernel
theorem dX0_smallestOf_26 : decode cX0_smallestOf 26 = .ok (.ior, 1) := by decide +kernel
theorem dX0_smallestOf_27 : decode cX0_smallestOf 27 = .ok (.iastore, 1) := by decide +kernel
theorem dX0_smallestOf_28 : decode cX0_smallestOf 28 = .ok (.iinc 2 (-1), 3) := by decide +kernel
theorem dX0_smallestOf_31 : decode cX0_smallestOf 31 = .ok (.goto (-28), 3) := by decide +kernel
theorem dX0_smallestOf_34 : decode cX0_smallestOf 34 = .ok (.iconst 0, 1) := by decide +kernel
theorem dX0_smallestOf_35 : decode cX0_smallestOf 35 = .ok (.istore_n 2, 1) := by decide +kernel
theorem dX0_smallestOf_36 : decode cX0_smallestOf 36 = .ok (.iload_n 2, 1) := by decide +kernel
theorem dX0_smallestOf_37 : decode cX0_smallestOf 37 = .ok (.bipush 16, 2) := by decide +kernel
theorem dX0_smallestOf_39 : decode cX0_smallestOf 39 = .ok (.if_icmp .gt 31, 3) := by decide +kernel
theorem dX0_smallestOf_42 : decode cX0_smallestOf 42 = .ok (.aload_n 0, 1) := by decide +kernel
theorem dX0_smallestOf_43 : decode cX0_smallestOf 43 = .ok (.getfield 9, 3) := by decide +kernel
theorem dX0_smallestOf_46 : decode cX0_smallestOf 46 = .ok (.aload_n 0, 1) := by decide +kernel
theorem dX0_smallestOf_47 : decode cX0_smallestOf 47 = .ok (.getfield 15, 3) := by decide +kernel
theorem dX0_smallestOf_50 : decode cX0_smallestOf 50 = .ok (.iconst 0, 1) := by decide +kernel
theorem dX0_smallestOf_51 : decode cX0_smallestOf 51 = .ok (.iload_n 2, 1) := by decide +kernel
theorem dX0_smallestOf_52 : decode cX0_smallestOf 52 = .ok (.iload_n 1, 1) := by decide +kernel
theorem dX0_smallestOf_53 : decode cX0_smallestOf 53 = .ok (.invokestatic 18, 3) := by decide +kernel
theorem dX0_smallestOf_56 : decode cX0_smallestOf 56 = .ok (.istore_n 3, 1) := by decide +kernel
theorem dX0_smallestOf_57 : decode cX0_smallestOf 57 = .ok (.iload_n 3, 1) := by decide +kernel
theorem dX0_smallestOf_58 : decode cX0_smallestOf 58 = .ok (.iconst (-1), 1) := by decide +kernel
theorem dX0_smallestOf_59 : decode cX0_smallestOf 59 = .ok (.if_icmp .eq 5, 3) := by decide +kernel
theorem dX0_smallestOf_62 : decode cX0_smallestOf 62 = .ok (.iload_n 3, 1) := by decide +kernel
theorem dX0_smallestOf_63 : decode cX0_smallestOf 63 = .ok (.ireturn, 1) := by decide +kernel
theorem dX0_smallestOf_64 : decode cX0_smallestOf 64 = .ok (.iinc 2 1, 3) := by decide +kernel
theorem dX0_smallestOf_67 : decode cX0_smallestOf 67 = .ok (.goto (-31), 3) := by decide +kernel
theorem dX0_smallestOf_70 : decode cX0_smallestOf 70 = .ok (.iconst 0, 1) := by decide +kernel
theorem dX0_smallestOf_71 : decode cX0_smallestOf 71 = .ok (.ireturn, 1) := by decide +kernel
theorem dX0_coverFrom_0 : decode cX0_coverFrom 0 = .ok (.iload 4, 2) := by decide +kernel
theorem dX0_coverFrom_2 : decode cX0_coverFrom 2 = .ok (.ifCond .ne 5, 3) := by decide +kernel
theorem dX0_coverFrom_5 : decode cX0_coverFrom 5 = .ok (.iconst 0, 1) := by decide +kernel
theorem dX0_coverFrom_6 : decode cX0_coverFrom 6 = .ok (.ireturn, 1) := by decide +kernel
theorem dX0_coverFrom_7 : decode cX0_coverFrom 7 = .ok (.iload_n 3, 1) := by decide +kernel
theorem dX0_coverFrom_8 : decode cX0_coverFrom 8 = .ok (.ifCond .le 24, 3) := by decide +kernel
theorem dX0_coverFrom_11 : decode cX0_coverFrom 11 = .ok (.iload_n 2, 1) := by decide +kernel
theorem dX0_coverFrom_12 : decode cX0_coverFrom 12 = .ok (.ifCond .lt 20, 3) := by decide +kernel
theorem dX0_coverFrom_15 : decode cX0_coverFrom 15 = .ok (.iload_n 2, 1) := by decide +kernel
theorem dX0_coverFrom_16 : decode cX0_coverFrom 16 = .ok (.bipush 16, 2) := by decide +kernel
theorem dX0_coverFrom_18 : decode cX0_coverFrom 18 = .ok (.if_icmp .ge 14, 3) := by decide +kernel
theorem dX0_coverFrom_21 : decode cX0_coverFrom 21 = .ok (.iload 4, 2) := by decide +kernel
theorem dX0_coverFrom_23 : decode cX0_coverFrom 23 = .ok (.aload_n 1, 1) := by decide +kernel
theorem dX0_coverFrom_24 : decode cX0_coverFrom 24 = .ok (.iload_n 2, 1) := by decide +kernel
theorem dX0_coverFrom_25 : decode cX0_coverFrom 25 = .ok (.iaload, 1) := by decide +kernel
theorem dX0_coverFrom_26 : decode cX0_coverFrom 26 = .ok (.iconst (-1), 1) := by decide +kernel
theorem dX0_coverFrom_27 : decode cX0_coverFrom 27 = .ok (.ixor, 1) := by decide +kernel
theorem dX0_coverFrom_28 : decode cX0_coverFrom 28 = .ok (.iand, 1) := by decide +kernel
theorem dX0_coverFrom_29 : decode cX0_coverFrom 29 = .ok (.ifCond .eq 5, 3) := by decide +kernel
theorem dX0_coverFrom_32 : decode cX0_coverFrom 32 = .ok (.iconst (-1), 1) := by decide +kernel
theorem dX0_coverFrom_33 : decode cX0_coverFrom 33 = .ok (.ireturn, 1) := by decide +kernel
theorem dX0_coverFrom_34 : decode cX0_coverFrom 34 = .ok (.iload 4, 2) := by decide +kernel
theorem dX0_coverFrom_36 : decode cX0_coverFrom 36 = .ok (.aload_n 0, 1) := by decide +kernel
theorem dX0_coverFrom_37 : decode cX0_coverFrom 37 = .ok (.iload_n 2, 1) := by decide +kernel
theorem dX0_coverFrom_38 : decode cX0_coverFrom 38 = .ok (.iaload, 1) := by decide +kernel
theorem dX0_coverFrom_39 : decode cX0_coverFrom 39 = .ok (.iand, 1) := by decide +kernel
theorem dX0_coverFrom_40 : decode cX0_coverFrom 40 = .ok (.ifCond .eq 41, 3) := by decide +kernel
theorem dX0_coverFrom_43 : decode cX0_coverFrom 43 = .ok (.iload 4, 2) := by decide +kernel
theorem dX0_coverFrom_45 : decode cX0_coverFrom 45 = .ok (.aload_n 0, 1) := by decide +kernel
theorem dX0_coverFrom_46 : decode cX0_coverFrom 46 = .ok (.iload_n 2, 1) := by decide +kernel
theorem dX0_coverFrom_47 : decode cX0_coverFrom 47 = .ok (.iaload, 1) := by decide +kernel
theorem dX0_coverFrom_48 : decode cX0_coverFrom 48 = .ok (.iconst (-1), 1) := by decide +kernel
theorem dX0_coverFrom_49 : decode cX0_coverFrom 49 = .ok (.ixor, 1) := by decide +kernel
theorem dX0_coverFrom_50 : decode cX0_coverFrom 50 = .ok (.iand, 1) := by decide +kernel
theorem dX0_coverFrom_51 : decode cX0_coverFrom 51 = .ok (.istore 5, 2) := by decide +kernel
theorem dX0_coverFrom_53 : decode cX0_coverFrom 53 = .ok (.aload_n 0, 1) := by decide +kernel
theorem dX0_coverFrom_54 : decode cX0_coverFrom 54 = .ok (.aload_n 1, 1) := by decide +kernel
theorem dX0_coverFrom_55 : decode cX0_coverFrom 55 = .ok (.iload_n 2, 1) := by decide +kernel
theorem dX0_coverFrom_56 : decode cX0_coverFrom 56 = .ok (.iconst 1, 1) := by decide +kernel
theorem dX0_coverFrom_57 : decode cX0_coverFrom 57 = .ok (.iadd, 1) := by decide +kernel
theorem dX0_coverFrom_58 : decode cX0_coverFrom 58 = .ok (.iload_n 3, 1) := by decide +kernel
theorem dX0_coverFrom_59 : decode cX0_coverFrom 59 = .ok (.iconst 1, 1) := by decide +kernel
theorem dX0_coverFrom_60 : decode cX0_coverFrom 60 = .ok (.isub, 1) := by decide +kernel
theorem dX0_coverFrom_61 : decode cX0_coverFrom 61 = .ok (.iload 5, 2) := by decide +kernel
theorem dX0_coverFrom_63 : decode cX0_coverFrom 63 = .ok (.invokestatic 18, 3) := by decide +kernel
theorem dX0_coverFrom_66 : decode cX0_coverFrom 66 = .ok (.istore 6, 2) := by decide +kernel
theorem dX0_coverFrom_68 : decode cX0_coverFrom 68 = .ok (.iload 6, 2) := by decide +kernel
theorem dX0_coverFrom_70 : decode cX0_coverFrom 70 = .ok (.iconst (-1), 1) := by decide +kernel
theorem dX0_coverFrom_71 : decode cX0_coverFrom 71 = .ok (.if_icmp .eq 10, 3) := by decide +kernel
theorem dX0_coverFrom_74 : decode cX0_coverFrom 74 = .ok (.iload 6, 2) := by decide +kernel
theorem dX0_coverFrom_76 : decode cX0_coverFrom 76 = .ok (.iconst 1, 1) := by decide +kernel
theorem dX0_coverFrom_77 : decode cX0_coverFrom 77 = .ok (.iload_n 2, 1) := by decide +kernel
theorem dX0_coverFrom_78 : decode cX0_coverFrom 78 = .ok (.ishl, 1) := by decide +kernel
theorem dX0_coverFrom_79 : decode cX0_coverFrom 79 = .ok (.ior, 1) := by decide +kernel
theorem dX0_coverFrom_80 : decode cX0_coverFrom 80 = .ok (.ireturn, 1) := by decide +kernel
theorem dX0_coverFrom_81 : decode cX0_coverFrom 81 = .ok (.aload_n 0, 1) := by decide +kernel
theorem dX0_coverFrom_82 : decode cX0_coverFrom 82 = .ok (.aload_n 1, 1) := by decide +kernel
theorem dX0_coverFrom_83 : decode cX0_coverFrom 83 = .ok (.iload_n 2, 1) := by decide +kernel
theorem dX0_coverFrom_84 : decode cX0_coverFrom 84 = .ok (.iconst 1, 1) := by decide +kernel
theorem dX0_coverFrom_85 : decode cX0_coverFrom 85 = .ok (.iadd, 1) := by decide +kernel
theorem dX0_coverFrom_86 : decode cX0_coverFrom 86 = .ok (.iload_n 3, 1) := by decide +kernel
theorem dX0_coverFrom_87 : decode cX0_coverFrom 87 = .ok (.iload 4, 2) := by decide +kernel
theorem dX0_coverFrom_89 : decode cX0_coverFrom 89 = .ok (.invokestatic 18, 3) := by decide +kernel
theorem dX0_coverFrom_92 : decode cX0_coverFrom 92 = .ok (.ireturn, 1) := by decide +kernel
theorem dX1_init_0 : decode cX1_init 0 = .ok (.aload_n 0, 1) := by decide +kernel
theorem dX1_init_1 : decode cX1_init 1 = .ok (.invokespecial 3, 3) := by decide +kernel
theorem dX1_init_4 : decode cX1_init 4 = .ok (.aload_n 0, 1) := by decide +kernel
theorem dX1_init_5 : decode cX1_init 5 = .ok (.bipush 16, 2) := by decide +kernel
theorem dX1_init_7 : decode cX1_init 7 = .ok (.newarray .int, 2) := by decide +kernel
theorem dX1_init_9 : decode cX1_init 9 = .ok (.putfield 9, 3) := by decide +kernel
theorem dX1_init_12 : decode cX1_init 12 = .ok (.aload_n 0, 1) := by decide +kernel
theorem dX1_init_13 : decode cX1_init 13 = .ok (.bipush 16, 2) := by decide +kernel
theorem dX1_init_15 : decode cX1_init 15 = .ok (.newarray .int, 2) := by decide +kernel
theorem dX1_init_17 : decode cX1_init 17 = .ok (.putfield 15, 3) := by decide +kernel
theorem dX1_init_20 : decode cX1_init 20 = .ok (.return_, 1) := by decide +kernel
theorem dX1_grow_0 : decode cX1_grow 0 = .ok (.aload_n 0, 1) := by decide +kernel
theorem dX1_grow_1 : decode cX1_grow 1 = .ok (.getfield 18, 3) := by decide +kernel
theorem dX1_grow_4 : decode cX1_grow 4 = .ok (.istore_n 1, 1) := by decide +kernel
theorem dX1_grow_5 : decode cX1_grow 5 = .ok (.aload_n 0, 1) := by decide +kernel
theorem dX1_grow_6 : decode cX1_grow 6 = .ok (.dup, 1) := by decide +kernel
theorem dX1_grow_7 : decode cX1_grow 7 = .ok (.getfield 18, 3) := by decide +kernel
theorem dX1_grow_10 : decode cX1_grow 10 = .ok (.iconst 1, 1) := by decide +kernel
theorem dX1_grow_11 : decode cX1_grow 11 = .ok (.iadd, 1) := by decide +kernel
theorem dX1_grow_12 : decode cX1_grow 12 = .ok (.putfield 18, 3) := by decide +kernel
theorem dX1_grow_15 : decode cX1_grow 15 = .ok (.aload_n 0, 1) := by decide +kernel
theorem dX1_grow_16 : decode cX1_grow 16 = .ok (.iload_n 1, 1) := by decide +kernel
theorem dX1_grow_17 : decode cX1_grow 17 = .ok (.iconst (-1), 1) := by decide +kernel
theorem dX1_grow_18 : decode cX1_grow 18 = .ok (.invokevirtual 22, 3) := by decide +kernel
theorem dX1_grow_21 : decode cX1_grow 21 = .ok (.iload_n 1, 1) := by decide +kernel
theorem dX1_grow_22 : decode cX1_grow 22 = .ok (.ireturn, 1) := by decide +kernel
theorem dX1_hang_0 : decode cX1_hang 0 = .ok (.aload_n 0, 1) := by decide +kernel
theorem dX1_hang_1 : decode cX1_hang 1 = .ok (.getfield 9, 3) := by decide +kernel
theorem dX1_hang_4 : decode cX1_hang 4 = .ok (.iload_n 1, 1) := by decide +kernel
theorem dX1_hang_5 : decode cX1_hang 5 = .ok (.iload_n 2, 1) := by decide +kernel
theorem dX1_hang_6 : decode cX1_hang 6 = .ok (.iastore, 1) := by decide +kernel
theorem dX1_hang_7 : decode cX1_hang 7 = .ok (.iconst 0, 1) := by decide +kernel
theorem dX1_hang_8 : decode cX1_hang 8 = .ok (.istore_n 3, 1) := by decide +kernel
theorem dX1_hang_9 : decode cX1_hang 9 = .ok (.iload_n 3, 1) := by decide +kernel
theorem dX1_hang_10 : decode cX1_hang 10 = .ok (.aload_n 0, 1) := by decide +kernel
theorem dX1_hang_11 : decode cX1_hang 11 = .ok (.getfield 18, 3) := by decide +kernel
theorem dX1_hang_14 : decode cX1_hang 14 = .ok (.if_icmp .ge 20, 3) := by decide +kernel
theorem dX1_hang_17 : decode cX1_hang 17 = .ok (.aload_n 0, 1) := by decide +kernel
theorem dX1_hang_18 : decode cX1_hang 18 = .ok (.getfield 15, 3) := by decide +kernel
theorem dX1_hang_21 : decode cX1_hang 21 = .ok (.iload_n 3, 1) := by decide +kernel
theorem dX1_hang_22 : decode cX1_hang 22 = .ok (.aload_n 0, 1) := by decide +kernel
theorem dX1_hang_23 : decode cX1_hang 23 = .ok (.iload_n 3, 1) := by decide +kernel
theorem dX1_hang_24 : decode cX1_hang 24 = .ok (.invokevirtual 26, 3) := by decide +kernel
theorem dX1_hang_27 : decode cX1_hang 27 = .ok (.iastore, 1) := by decide +kernel
theorem dX1_hang_28 : decode cX1_hang 28 = .ok (.iinc 3 1, 3) := by decide +kernel
theorem dX1_hang_31 : decode cX1_hang 31 = .ok (.goto (-22), 3) := by decide +kernel
theorem dX1_hang_34 : decode cX1_hang 34 = .ok (.return_, 1) := by decide +kernel
theorem dX1_lineFrom_0 : decode cX1_lineFrom 0 = .ok (.iconst 0, 1) := by decide +kernel
theorem dX1_lineFrom_1 : decode cX1_lineFrom 1 = .ok (.istore_n 2, 1) := by decide +kernel
theorem dX1_lineFrom_2 : decode cX1_lineFrom 2 = .ok (.iload_n 1, 1) := by decide +kernel
theorem dX1_lineFrom_3 : decode cX1_lineFrom 3 = .ok (.istore_n 3, 1) := by decide +kernel
theorem dX1_lineFrom_4 : decode cX1_lineFrom 4 = .ok (.iconst 0, 1) := by decide +kernel
theorem dX1_lineFrom_5 : decode cX1_lineFrom 5 = .ok (.istore 4, 2) := by decide +kernel
theorem dX1_lineFrom_7 : decode cX1_lineFrom 7 = .ok (.iload 4, 2) := by decide +kernel
theorem dX1_lineFrom_9 : decode cX1_lineFrom 9 = .ok (.bipush 16, 2) := by decide +kernel
theorem dX1_lineFrom_11 : decode cX1_lineFrom 11 = .ok (.if_icmp .ge 34, 3) := by decide +kernel
theorem dX1_lineFrom_14 : decode cX1_lineFrom 14 = .ok (.iload_n 3, 1) := by decide +kernel
theorem dX1_lineFrom_15 : decode cX1_lineFrom 15 = .ok (.ifCond .lt 30, 3) := by decide +kernel
theorem dX1_lineFrom_18 : decode cX1_lineFrom 18 = .ok (.iload_n 3, 1) := by decide +kernel
theorem dX1_lineFrom_19 : decode cX1_lineFrom 19 = .ok (.aload_n 0, 1) := by decide +kernel
theorem dX1_lineFrom_20 : decode cX1_lineFrom 20 = .ok (.getfield 18, 3) := by decide +kernel
theorem dX1_lineFrom_23 : decode cX1_lineFrom 23 = .ok (.if_icmp .ge 22, 3) := by decide +kernel
theorem dX1_lineFrom_26 : decode cX1_lineFrom 26 = .ok (.iload_n 2, 1) := by decide +kernel
theorem dX1_lineFrom_27 : decode cX1_lineFrom 27 = .ok (.iconst 1, 1) := by decide +kernel
theorem dX1_lineFrom_28 : decode cX1_lineFrom 28 = .ok (.iload_n 3, 1) := by decide +kernel
theorem dX1_lineFrom_29 : decode cX1_lineFrom 29 = .ok (.ishl, 1) := by decide +kernel
theorem dX1_lineFrom_30 : decode cX1_lineFrom 30 = .ok (.ior, 1) := by decide +kernel
theorem dX1_lineFrom_31 : decode cX1_lineFrom 31 = .ok (.istore_n 2, 1) := by decide +kernel
theorem dX1_lineFrom_32 : decode cX1_lineFrom 32 = .ok (.aload_n 0, 1) := by decide +kernel
theorem dX1_lineFrom_33 : decode cX1_lineFrom 33 = .ok (.getfield 9, 3) := by decide +kernel
theorem dX1_lineFrom_36 : decode cX1_lineFrom 36 = .ok (.iload_n 3, 1) := by decide +kernel
theorem dX1_lineFrom_37 : decode cX1_lineFrom 37 = .ok (.iaload, 1) := by decide +kernel
theorem dX1_lineFrom_38 : decode cX1_lineFrom 38 = .ok (.istore_n 3, 1) := by decide +kernel
theorem dX1_lineFrom_39 : decode cX1_lineFrom 39 = .ok (.iinc 4 1, 3) := by decide +kernel
theorem dX1_lineFrom_42 : decode cX1_lineFrom 42 = .ok (.goto (-35), 3) := by decide +kernel
theorem dX1_lineFrom_45 : decode cX1_lineFrom 45 = .ok (.iload_n 2, 1) := by decide +kernel
theorem dX1_lineFrom_46 : decode cX1_lineFrom 46 = .ok (.ireturn, 1) := by decide +kernel
theorem dX1_linesOf_0 : decode cX1_linesOf 0 = .ok (.iconst 0, 1) := by decide +kernel
theorem dX1_linesOf_1 : decode cX1_linesOf 1 = .ok (.istore_n 2, 1) := by decide +kernel
theorem dX1_linesOf_2 : decode cX1_linesOf 2 = .ok (.iconst 0, 1) := by decide +kernel
theorem dX1_linesOf_3 : decode cX1_linesOf 3 = .ok (.istore_n 3, 1) := by decide +kernel
theorem dX1_linesOf_4 : decode cX1_linesOf 4 = .ok (.iload_n 3, 1) := by decide +kernel
theorem dX1_linesOf_5 : decode cX1_linesOf 5 = .ok (.aload_n 0, 1) := by decide +kernel
theorem dX1_linesOf_6 : decode cX1_linesOf 6 = .ok (.getfield 18, 3) := by decide +kernel
theorem dX1_linesOf_9 : decode cX1_linesOf 9 = .ok (.if_icmp .ge 26, 3) := by decide +kernel
theorem dX1_linesOf_12 : decode cX1_linesOf 12 = .ok (.iload_n 3, 1) := by decide +kernel
theorem dX1_linesOf_13 : decode cX1_linesOf 13 = .ok (.iload_n 1, 1) := by decide +kernel
theorem dX1_linesOf_14 : decode cX1_linesOf 14 = .ok (.invokestatic 30, 3) := by decide +kernel
theorem dX1_linesOf_17 : decode cX1_linesOf 17 = .ok (.ifCond .eq 12, 3) := by decide +kernel
theorem dX1_linesOf_20 : decode cX1_linesOf 20 = .ok (.iload_n 2, 1) := by decide +kernel
theorem dX1_linesOf_21 : decode cX1_linesOf 21 = .ok (.aload_n 0, 1) := by decide +kernel
theorem dX1_linesOf_22 : decode cX1_linesOf 22 = .ok (.getfield 15, 3) := by decide +kernel
theorem dX1_linesOf_25 : decode cX1_linesOf 25 = .ok (.iload_n 3, 1) := by decide +kernel
theorem dX1_linesOf_26 : decode cX1_linesOf 26 = .ok (.iaload, 1) := by decide +kernel
theorem dX1_linesOf_27 : decode cX1_linesOf 27 = .ok (.ior, 1) := by decide +kernel
theorem dX1_linesOf_28 : decode cX1_linesOf 28 = .ok (.istore_n 2, 1) := by decide +kernel
theorem dX1_linesOf_29 : decode cX1_linesOf 29 = .ok (.iinc 3 1, 3) := by decide +kernel
theorem dX1_linesOf_32 : decode cX1_linesOf 32 = .ok (.goto (-28), 3) := by decide +kernel
theorem dX1_linesOf_35 : decode cX1_linesOf 35 = .ok (.iload_n 2, 1) := by decide +kernel
theorem dX1_linesOf_36 : decode cX1_linesOf 36 = .ok (.ireturn, 1) := by decide +kernel
theorem dX1_standsBelow_0 : decode cX1_standsBelow 0 = .ok (.iload_n 1, 1) := by decide +kernel
theorem dX1_standsBelow_1 : decode cX1_standsBelow 1 = .ok (.iload_n 2, 1) := by decide +kernel
theorem dX1_standsBelow_2 : decode cX1_standsBelow 2 = .ok (.if_icmp .eq 20, 3) := by decide +kernel
theorem dX1_standsBelow_5 : decode cX1_standsBelow 5 = .ok (.iload_n 2, 1) := by decide +kernel
theorem dX1_standsBelow_6 : decode cX1_standsBelow 6 = .ok (.aload_n 0, 1) := by decide +kernel
theorem dX1_standsBelow_7 : decode cX1_standsBelow 7 = .ok (.getfield 15, 3) := by decide +kernel
theorem dX1_standsBelow_10 : decode cX1_standsBelow 10 = .ok (.iload_n 1, 1) := by decide +kernel
theorem dX1_standsBelow_11 : decode cX1_standsBelow 11 = .ok (.iaload, 1) := by decide +kernel
theorem dX1_standsBelow_12 : decode cX1_standsBelow 12 = .ok (.invokestatic 30, 3) := by decide +kernel
theorem dX1_standsBelow_15 : decode cX1_standsBelow 15 = .ok (.ifCond .eq 7, 3) := by decide +kernel
theorem dX1_standsBelow_18 : decode cX1_standsBelow 18 = .ok (.iconst 1, 1) := by decide +kernel
theorem dX1_standsBelow_19 : decode cX1_standsBelow 19 = .ok (.goto 4, 3) := by decide +kernel
theorem dX1_standsBelow_22 : decode cX1_standsBelow 22 = .ok (.iconst 0, 1) := by decide +kernel
theorem dX1_standsBelow_23 : decode cX1_standsBelow 23 = .ok (.ireturn, 1) := by decide +kernel
theorem dX1_canHang_0 : decode cX1_canHang 0 = .ok (.iload_n 1, 1) := by decide +kernel
theorem dX1_canHang_1 : decode cX1_canHang 1 = .ok (.iload_n 2, 1) := by decide +kernel
theorem dX1_canHang_2 : decode cX1_canHang 2 = .ok (.if_icmp .eq 16, 3) := by decide +kernel
theorem dX1_canHang_5 : decode cX1_canHang 5 = .ok (.aload_n 0, 1) := by decide +kernel
theorem dX1_canHang_6 : decode cX1_canHang 6 = .ok (.iload_n 2, 1) := by decide +kernel
theorem dX1_canHang_7 : decode cX1_canHang 7 = .ok (.iload_n 1, 1) := by decide +kernel
theorem dX1_canHang_8 : decode cX1_canHang 8 = .ok (.invokevirtual 34, 3) := by decide +kernel
theorem dX1_canHang_11 : decode cX1_canHang 11 = .ok (.ifCond .ne 7, 3) := by decide +kernel
theorem dX1_canHang_14 : decode cX1_canHang 14 = .ok (.iconst 1, 1) := by decide +kernel
theorem dX1_canHang_15 : decode cX1_canHang 15 = .ok (.goto 4, 3) := by decide +kernel
theorem dX1_canHang_18 : decode cX1_canHang 18 = .ok (.iconst 0, 1) := by decide +kernel
theorem dX1_canHang_19 : decode cX1_canHang 19 = .ok (.ireturn, 1) := by decide +kernel
theorem dX1_countAbove_0 : decode cX1_countAbove 0 = .ok (.aload_n 0, 1) := by decide +kernel
theorem dX1_countAbove_1 : decode cX1_countAbove 1 = .ok (.getfield 15, 3) := by decide +kernel
theorem dX1_countAbove_4 : decode cX1_countAbove 4 = .ok (.iload_n 1, 1) := by decide +kernel
theorem dX1_countAbove_5 : decode cX1_countAbove 5 = .ok (.iaload, 1) := by decide +kernel
theorem dX1_countAbove_6 : decode cX1_countAbove 6 = .ok (.invokestatic 37, 3) := by decide +kernel
theorem dX1_countAbove_9 : decode cX1_countAbove 9 = .ok (.iconst 1, 1) := by decide +kernel
theorem dX1_countAbove_10 : decode cX1_countAbove 10 = .ok (.isub, 1) := by decide +kernel
theorem dX1_countAbove_11 : decode cX1_countAbove 11 = .ok (.ireturn, 1) := by decide +kernel
theorem dX1_countBelow_0 : decode cX1_countBelow 0 = .ok (.iconst 0, 1) := by decide +kernel
theorem dX1_countBelow_1 : decode cX1_countBelow 1 = .ok (.istore_n 2, 1) := by decide +kernel
theorem dX1_countBelow_2 : decode cX1_countBelow 2 = .ok (.iconst 0, 1) := by decide +kernel
theorem dX1_countBelow_3 : decode cX1_countBelow 3 = .ok (.istore_n 3, 1) := by decide +kernel
theorem dX1_countBelow_4 : decode cX1_countBelow 4 = .ok (.iload_n 3, 1) := by decide +kernel
theorem dX1_countBelow_5 : decode cX1_countBelow 5 = .ok (.aload_n 0, 1) := by decide +kernel
theorem dX1_countBelow_6 : decode cX1_countBelow 6 = .ok (.getfield 18, 3) := by decide +kernel
theorem dX1_countBelow_9 : decode cX1_countBelow 9 = .ok (.if_icmp .ge 21, 3) := by decide +kernel
theorem dX1_countBelow_12 : decode cX1_countBelow 12 = .ok (.aload_n 0, 1) := by decide +kernel
theorem dX1_countBelow_13 : decode cX1_countBelow 13 = .ok (.iload_n 3, 1) := by decide +kernel
theorem dX1_countBelow_14 : decode cX1_countBelow 14 = .ok (.iload_n 1, 1) := by decide +kernel
theorem dX1_countBelow_15 : decode cX1_countBelow 15 = .ok (.invokevirtual 34, 3) := by decide +kernel
theorem dX1_countBelow_18 : decode cX1_countBelow 18 = .ok (.ifCond .eq 6, 3) := by decide +kernel
theorem dX1_countBelow_21 : decode cX1_countBelow 21 = .ok (.iinc 2 1, 3) := by decide +kernel
theorem dX1_countBelow_24 : decode cX1_countBelow 24 = .ok (.iinc 3 1, 3) := by decide +kernel
theorem dX1_countBelow_27 : decode cX1_countBelow 27 = .ok (.goto (-23), 3) := by decide +kernel
theorem dX1_countBelow_30 : decode cX1_countBelow 30 = .ok (.iload_n 2, 1) := by decide +kernel
theorem dX1_countBelow_31 : decode cX1_countBelow 31 = .ok (.ireturn, 1) := by decide +kernel
theorem dX1_lowestOf_0 : decode cX1_lowestOf 0 = .ok (.iconst (-1), 1) := by decide +kernel
theorem dX1_lowestOf_1 : decode cX1_lowestOf 1 = .ok (.istore_n 2, 1) := by decide +kernel
theorem dX1_lowestOf_2 : decode cX1_lowestOf 2 = .ok (.iconst (-1), 1) := by decide +kernel
theorem dX1_lowestOf_3 : decode cX1_lowestOf 3 = .ok (.istore_n 3, 1) := by decide +kernel
theorem dX1_lowestOf_4 : decode cX1_lowestOf 4 = .ok (.iconst 0, 1) := by decide +kernel
theorem dX1_lowestOf_5 : decode cX1_lowestOf 5 = .ok (.istore 4, 2) := by decide +kernel
theorem dX1_lowestOf_7 : decode cX1_lowestOf 7 = .ok (.iload 4, 2) := by decide +kernel
theorem dX1_lowestOf_9 : decode cX1_lowestOf 9 = .ok (.aload_n 0, 1) := by decide +kernel
theorem dX1_lowestOf_10 : decode cX1_lowestOf 10 = .ok (.getfield 18, 3) := by decide +kernel
theorem dX1_lowestOf_13 : decode cX1_lowestOf 13 = .ok (.if_icmp .ge 38, 3) := by decide +kernel
theorem dX1_lowestOf_16 : decode cX1_lowestOf 16 = .ok (.iload 4, 2) := by decide +kernel
theorem dX1_lowestOf_18 : decode cX1_lowestOf 18 = .ok (.iload_n 1, 1) := by decide +kernel
theorem dX1_lowestOf_19 : decode cX1_lowestOf 19 = .ok (.invokestatic 30, 3) := by decide +kernel
theorem dX1_lowestOf_22 : decode cX1_lowestOf 22 = .ok (.ifCond .eq 23, 3) := by decide +kernel
theorem dX1_lowestOf_25 : decode cX1_lowestOf 25 = .ok (.aload_n 0, 1) := by decide +kernel
theorem dX1_lowestOf_26 : decode cX1_lowestOf 26 = .ok (.iload 4, 2) := by decide +kernel
theorem dX1_lowestOf_28 : decode cX1_lowestOf 28 = .ok (.invokevirtual 42, 3) := by decide +kernel
theorem dX1_lowestOf_31 : decode cX1_lowestOf 31 = .ok (.iload_n 3, 1) := by decide +kernel
theorem dX1_lowestOf_32 : decode cX1_lowestOf 32 = .ok (.if_icmp .le 13, 3) := by decide +kernel
theorem dX1_lowestOf_35 : decode cX1_lowestOf 35 = .ok (.aload_n 0, 1) := by decide +kernel
theorem dX1_lowestOf_36 : decode cX1_lowestOf 36 = .ok (.iload 4, 2) := by decide +kernel
theorem dX1_lowestOf_38 : decode cX1_lowestOf 38 = .ok (.invokevirtual 42, 3) := by decide +kernel
theorem dX1_lowestOf_41 : decode cX1_lowestOf 41 = .ok (.istore_n 3, 1) := by decide +kernel
theorem dX1_lowestOf_42 : decode cX1_lowestOf 42 = .ok (.iload 4, 2) := by decide +kernel
theorem dX1_lowestOf_44 : decode cX1_lowestOf 44 = .ok (.istore_n 2, 1) := by decide +kernel
theorem dX1_lowestOf_45 : decode cX1_lowestOf 45 = .ok (.iinc 4 1, 3) := by decide +kernel
theorem dX1_lowestOf_48 : decode cX1_lowestOf 48 = .ok (.goto (-41), 3) := by decide +kernel
theorem dX1_lowestOf_51 : decode cX1_lowestOf 51 = .ok (.iload_n 2, 1) := by decide +kernel
theorem dX1_lowestOf_52 : decode cX1_lowestOf 52 = .ok (.ireturn, 1) := by decide +kernel
theorem dX2_init_0 : decode cX2_init 0 = .ok (.aload_n 0, 1) := by decide +kernel
theorem dX2_init_1 : decode cX2_init 1 = .ok (.invokespecial 3, 3) := by decide +kernel
theorem dX2_init_4 : decode cX2_init 4 = .ok (.aload_n 0, 1) := by decide +kernel
theorem dX2_init_5 : decode cX2_init 5 = .ok (.bipush 20, 2) := by decide +kernel
theorem dX2_init_7 : decode cX2_init 7 = .ok (.newarray .int, 2) := by decide +kernel
theorem dX2_init_9 : decode cX2_init 9 = .ok (.putfield 9, 3) := by decide +kernel
theorem dX2_init_12 : decode cX2_init 12 = .ok (.aload_n 0, 1) := by decide +kernel
theorem dX2_init_13 : decode cX2_init 13 = .ok (.bipush 20, 2) := by decide +kernel
theorem dX2_init_15 : decode cX2_init 15 = .ok (.newarray .int, 2) := by decide +kernel
theorem dX2_init_17 : decode cX2_init 17 = .ok (.putfield 15, 3) := by decide +kernel
theorem dX2_init_20 : decode cX2_init 20 = .ok (.aload_n 0, 1) := by decide +kernel
theorem dX2_init_21 : decode cX2_init 21 = .ok (.bipush 20, 2) := by decide +kernel
theorem dX2_init_23 : decode cX2_init 23 = .ok (.newarray .int, 2) := by decide +kernel
theorem dX2_init_25 : decode cX2_init 25 = .ok (.putfield 18, 3) := by decide +kernel
theorem dX2_init_28 : decode cX2_init 28 = .ok (.aload_n 0, 1) := by decide +kernel
theorem dX2_init_29 : decode cX2_init 29 = .ok (.bipush 20, 2) := by decide +kernel
theorem dX2_init_31 : decode cX2_init 31 = .ok (.newarray .int, 2) := by decide +kernel
theorem dX2_init_33 : decode cX2_init 33 = .ok (.putfield 21, 3) := by decide +kernel
theorem dX2_init_36 : decode cX2_init 36 = .ok (.return_, 1) := by decide +kernel
theorem dX2_add_0 : decode cX2_add 0 = .ok (.aload_n 0, 1) := by decide +kernel
theorem dX2_add_1 : decode cX2_add 1 = .ok (.getfield 24, 3) := by decide +kernel
theorem dX2_add_4 : decode cX2_add 4 = .ok (.istore 4, 2) := by decide +kernel
theorem dX2_add_6 : decode cX2_add 6 = .ok (.aload_n 0, 1) := by decide +kernel
theorem dX2_add_7 : decode cX2_add 7 = .ok (.dup, 1) := by decide +kernel
theorem dX2_add_8 : decode cX2_add 8 = .ok (.getfield 24, 3) := by decide +kernel
theorem dX2_add_11 : decode cX2_add 11 = .ok (.iconst 1, 1) := by decide +kernel
theorem dX2_add_12 : decode cX2_add 12 = .ok (.iadd, 1) := by decide +kernel
theorem dX2_add_13 : decode cX2_add 13 = .ok (.putfield 24, 3) := by decide +kernel
theorem dX2_add_16 : decode cX2_add 16 = .ok (.aload_n 0, 1) := by decide +kernel
theorem dX2_add_17 : decode cX2_add 17 = .ok (.getfield 9, 3) := by decide +kernel
theorem dX2_add_20 : decode cX2_add 20 = .ok (.iload 4, 2) := by decide +kernel
theorem dX2_add_22 : decode cX2_add 22 = .ok (.iload_n 1, 1) := by decide +kernel
theorem dX2_add_23 : decode cX2_add 23 = .ok (.iastore, 1) := by decide +kernel
theorem dX2_add_24 : decode cX2_add 24 = .ok (.aload_n 0, 1) := by decide +kernel
theorem dX2_add_25 : decode cX2_add 25 = .ok (.getfield 15, 3) := by decide +kernel
theorem dX2_add_28 : decode cX2_add 28 = .ok (.iload 4, 2) := by decide +kernel
theorem dX2_add_30 : decode cX2_add 30 = .ok (.iload_n 2, 1) := by decide +kernel
theorem dX2_add_31 : decode cX2_add 31 = .ok (.iastore, 1) := by decide +kernel
theorem dX2_add_32 : decode cX2_add 32 = .ok (.aload_n 0, 1) := by decide +kernel
theorem dX2_add_33 : decode cX2_add 33 = .ok (.getfield 18, 3) := by decide +kernel
theorem dX2_add_36 : decode cX2_add 36 = .ok (.iload 4, 2) := by decide +kernel
theorem dX2_add_38 : decode cX2_add 38 = .ok (.iload_n 3, 1) := by decide +kernel
theorem dX2_add_39 : decode cX2_add 39 = .ok (.iastore, 1) := by decide +kernel
theorem dX2_add_40 : decode cX2_add 40 = .ok (.iload 4, 2) := by decide +kernel
theorem dX2_add_42 : decode cX2_add 42 = .ok (.ireturn, 1) := by decide +kernel
theorem dX2_combine_0 : decode cX2_combine 0 = .ok (.aload_n 0, 1) := by decide +kernel
theorem dX2_combine_1 : decode cX2_combine 1 = .ok (.aload_n 0, 1) := by decide +kernel
theorem dX2_combine_2 : decode cX2_combine 2 = .ok (.getfield 15, 3) := by decide +kernel
theorem dX2_combine_5 : decode cX2_combine 5 = .ok (.iload_n 1, 1) := by decide +kernel
theorem dX2_combine_6 : decode cX2_combine 6 = .ok (.iaload, 1) := by decide +kernel
theorem dX2_combine_7 : decode cX2_combine 7 = .ok (.iload_n 1, 1) := by decide +kernel
theorem dX2_combine_8 : decode cX2_combine 8 = .ok (.invokevirtual 28, 3) := by decide +kernel
theorem dX2_combine_11 : decode cX2_combine 11 = .ok (.istore_n 3, 1) := by decide +kernel
theorem dX2_combine_12 : decode cX2_combine 12 = .ok (.aload_n 0, 1) := by decide +kernel
theorem dX2_combine_13 : decode cX2_combine 13 = .ok (.aload_n 0, 1) := by decide +kernel
theorem dX2_combine_14 : decode cX2_combine 14 = .ok (.getfield 18, 3) := by decide +kernel
theorem dX2_combine_17 : decode cX2_combine 17 = .ok (.iload_n 1, 1) := by decide +kernel
theorem dX2_combine_18 : decode cX2_combine 18 = .ok (.iaload, 1) := by decide +kernel
theorem dX2_combine_19 : decode cX2_combine 19 = .ok (.iload_n 1, 1) := by decide +kernel
theorem dX2_combine_20 : decode cX2_combine 20 = .ok (.invokevirtual 28, 3) := by decide +kernel
theorem dX2_combine_23 : decode cX2_combine 23 = .ok (.istore 4, 2) := by decide +kernel
theorem dX2_combine_25 : decode cX2_combine 25 = .ok (.aload_n 0, 1) := by decide +kernel
theorem dX2_combine_26 : decode cX2_combine 26 = .ok (.getfield 9, 3) := by decide +kernel
theorem dX2_combine_29 : decode cX2_combine 29 = .ok (.iload_n 1, 1) := by decide +kernel
theorem dX2_combine_30 : decode cX2_combine 30 = .ok (.iaload, 1) := by decide +kernel
theorem dX2_combine_31 : decode cX2_combine 31 = .ok (.iconst 1, 1) := by decide +kernel
theorem dX2_combine_32 : decode cX2_combine 32 = .ok (.if_icmp .ne 16, 3) := by decide +kernel
theorem dX2_combine_35 : decode cX2_combine 35 = .ok (.aload_n 0, 1) := by decide +kernel
theorem dX2_combine_36 : decode cX2_combine 36 = .ok (.getfield 21, 3) := by decide +kernel
theorem dX2_combine_39 : decode cX2_combine 39 = .ok (.iload_n 1, 1) := by decide +kernel
theorem dX2_combine_40 : decode cX2_combine 40 = .ok (.iload_n 3, 1) := by decide +kernel
theorem dX2_combine_41 : decode cX2_combine 41 = .ok (.iload 4, 2) := by decide +kernel
theorem dX2_combine_43 : decode cX2_combine 43 = .ok (.iand, 1) := by decide +kernel
theorem dX2_combine_44 : decode cX2_combine 44 = .ok (.iastore, 1) := by decide +kernel
theorem dX2_combine_45 : decode cX2_combine 45 = .ok (.goto 37, 3) := by decide +kernel
theorem dX2_combine_48 : decode cX2_combine 48 = .ok (.aload_n 0, 1) := by decide +kernel
theorem dX2_combine_49 : decode cX2_combine 49 = .ok (.getfield 9, 3) := by decide +kernel
theorem dX2_combine_52 : decode cX2_combine 52 = .ok (.iload_n 1, 1) := by decide +kernel
theorem dX2_combine_53 : decode cX2_combine 53 = .ok (.iaload, 1) := by decide +kernel
theorem dX2_combine_54 : decode cX2_combine 54 = .ok (.iconst 2, 1) := by decide +kernel
theorem dX2_combine_55 : decode cX2_combine 55 = .ok (.if_icmp .ne 16, 3) := by decide +kernel
theorem dX2_combine_58 : decode cX2_combine 58 = .ok (.aload_n 0, 1) := by decide +kernel
theorem dX2_combine_59 : decode cX2_combine 59 = .ok (.getfield 21, 3) := by decide +kernel
theorem dX2_combine_62 : decode cX2_combine 62 = .ok (.iload_n 1, 1) := by decide +kernel
theorem dX2_combine_63 : decode cX2_combine 63 = .ok (.iload_n 3, 1) := by decide +kernel
theorem dX2_combine_64 : decode cX2_combine 64 = .ok (.iload 4, 2) := by decide +kernel
theorem dX2_combine_66 : decode cX2_combine 66 = .ok (.ior, 1) := by decide +kernel
theorem dX2_combine_67 : decode cX2_combine 67 = .ok (.iastore, 1) := by decide +kernel
theorem dX2_combine_68 : decode cX2_combine 68 = .ok (.goto 14, 3) := by decide +kernel
theorem dX2_combine_71 : decode cX2_combine 71 = .ok (.aload_n 0, 1) := by decide +kernel
theorem dX2_combine_72 : decode cX2_combine 72 = .ok (.getfield 21, 3) := by decide +kernel
theorem dX2_combine_75 : decode cX2_combine 75 = .ok (.iload_n 1, 1) := by decide +kernel
theorem dX2_combine_76 : decode cX2_combine 76 = .ok (.iload_n 2, 1) := by decide +kernel
theorem dX2_combine_77 : decode cX2_combine 77 = .ok (.iload_n 3, 1) := by decide +kernel
theorem dX2_combine_78 : decode cX2_combine 78 = .ok (.iconst (-1), 1) := by decide +kernel
theorem dX2_combine_79 : decode cX2_combine 79 = .ok (.ixor, 1) := by decide +kernel
theorem dX2_combine_80 : decode cX2_combine 80 = .ok (.iand, 1) := by decide +kernel
theorem dX2_combine_81 : decode cX2_combine 81 = .ok (.iastore, 1) := by decide +kernel
theorem dX2_combine_82 : decode cX2_combine 82 = .ok (.return_, 1) := by decide +kernel
theorem dX2_matchedAhead_0 : decode cX2_matchedAhead 0 = .ok (.iload_n 1, 1) := by decide +kernel
theorem dX2_matchedAhead_1 : decode cX2_matchedAhead 1 = .ok (.ifCond .lt 17, 3) := by decide +kernel
theorem dX2_matchedAhead_4 : decode cX2_matchedAhead 4 = .ok (.iload_n 1, 1) := by decide +kernel
theorem dX2_matchedAhead_5 : decode cX2_matchedAhead 5 = .ok (.iload_n 2, 1) := by decide +kernel
theorem dX2_matchedAhead_6 : decode cX2_matchedAhead 6 = .ok (.if_icmp .ge 12, 3) := by decide +kernel
theorem dX2_matchedAhead_9 : decode cX2_matchedAhead 9 = .ok (.aload_n 0, 1) := by decide +kernel
theorem dX2_matchedAhead_10 : decode cX2_matchedAhead 10 = .ok (.getfield 21, 3) := by decide +kernel
theorem dX2_matchedAhead_13 : decode cX2_matchedAhead 13 = .ok (.iload_n 1, 1) := by decide +kernel
theorem dX2_matchedAhead_14 : decode cX2_matchedAhead 14 = .ok (.iaload, 1) := by decide +kernel
theorem dX2_matchedAhead_15 : decode cX2_matchedAhead 15 = .ok (.goto 4, 3) := by decide +kernel
theorem dX2_matchedAhead_18 : decode cX2_matchedAhead 18 = .ok (.iconst 0, 1) := by decide +kernel
theorem dX2_matchedAhead_19 : decode cX2_matchedAhead 19 = .ok (.ireturn, 1) := by decide +kernel
theorem dX3_init_0 : decode cX3_init 0 = .ok (.aload_n 0, 1) := by decide +kernel
theorem dX3_init_1 : decode cX3_init 1 = .ok (.invokespecial 1, 3) := by decide +kernel
theorem dX3_init_4 : decode cX3_init 4 = .ok (.aload_n 0, 1) := by decide +kernel
theorem dX3_init_5 : decode cX3_init 5 = .ok (.new 7, 3) := by decide +kernel
theorem dX3_init_8 : decode cX3_init 8 = .ok (.dup, 1) := by decide +kernel
theorem dX3_init_9 : decode cX3_init 9 = .ok (.invokespecial 9, 3) := by decide +kernel
theorem dX3_init_12 : decode cX3_init 12 = .ok (.putfield 10, 3) := by decide +kernel
theorem dX3_init_15 : decode cX3_init 15 = .ok (.aload_n 0, 1) := by decide +kernel
theorem dX3_init_16 : decode cX3_init 16 = .ok (.new 16, 3) := by decide +kernel
theorem dX3_init_19 : decode cX3_init 19 = .ok (.dup, 1) := by decide +kernel
theorem dX3_init_20 : decode cX3_init 20 = .ok (.invokespecial 18, 3) := by decide +kernel
theorem dX3_init_23 : decode cX3_init 23 = .ok (.putfield 19, 3) := by decide +kernel
theorem dX3_init_26 : decode cX3_init 26 = .ok (.aload_n 0, 1) := by decide +kernel
theorem dX3_init_27 : decode cX3_init 27 = .ok (.new 23, 3) := by decide +kernel
theorem dX3_init_30 : decode cX3_init 30 = .ok (.dup, 1) := by decide +kernel
theorem dX3_init_31 : decode cX3_init 31 = .ok (.invokespecial 25, 3) := by decide +kernel
theorem dX3_init_34 : decode cX3_init 34 = .ok (.putfield 26, 3) := by decide +kernel
theorem dX3_init_37 : decode cX3_init 37 = .ok (.aload_n 0, 1) := by decide +kernel
theorem dX3_init_38 : decode cX3_init 38 = .ok (.bipush 24, 2) := by decide +kernel
theorem dX3_init_40 : decode cX3_init 40 = .ok (.newarray .int, 2) := by decide +kernel
theorem dX3_init_42 : decode cX3_init 42 = .ok (.putfield 30, 3) := by decide +kernel
theorem dX3_init_45 : decode cX3_init 45 = .ok (.aload_n 0, 1) := by decide +kernel
theorem dX3_init_46 : decode cX3_init 46 = .ok (.bipush 24, 2) := by decide +kernel
theorem dX3_init_48 : decode cX3_init 48 = .ok (.newarray .int, 2) := by decide +kernel
theorem dX3_init_50 : decode cX3_init 50 = .ok (.putfield 34, 3) := by decide +kernel
theorem dX3_init_53 : decode cX3_init 53 = .ok (.aload_n 0, 1) := by decide +kernel
theorem dX3_init_54 : decode cX3_init 54 = .ok (.bipush 24, 2) := by decide +kernel
theorem dX3_init_56 : decode cX3_init 56 = .ok (.newarray .int, 2) := by decide +kernel
theorem dX3_init_58 : decode cX3_init 58 = .ok (.putfield 37, 3) := by decide +kernel
theorem dX3_init_61 : decode cX3_init 61 = .ok (.aload_n 0, 1) := by decide +kernel
theorem dX3_init_62 : decode cX3_init 62 = .ok (.bipush 24, 2) := by decide +kernel
theorem dX3_init_64 : decode cX3_init 64 = .ok (.newarray .int, 2) := by decide +kernel
theorem dX3_init_66 : decode cX3_init 66 = .ok (.putfield 40, 3) := by decide +kernel
theorem dX3_init_69 : decode cX3_init 69 = .ok (.return_, 1) := by decide +kernel
theorem dX3_addTag_0 : decode cX3_addTag 0 = .ok (.aload_n 0, 1) := by decide +kernel
theorem dX3_addTag_1 : decode cX3_addTag 1 = .ok (.getfield 10, 3) := by decide +kernel
theorem dX3_addTag_4 : decode cX3_addTag 4 = .ok (.getfield 43, 3) := by decide +kernel
theorem dX3_addTag_7 : decode cX3_addTag 7 = .ok (.bipush 16, 2) := by decide +kernel
theorem dX3_addTag_9 : decode cX3_addTag 9 = .ok (.if_icmp .lt 13, 3) := by decide +kernel
theorem dX3_addTag_12 : decode cX3_addTag 12 = .ok (.new 47, 3) := by decide +kernel
theorem dX3_addTag_15 : decode cX3_addTag 15 = .ok (.dup, 1) := by decide +kernel
theorem dX3_addTag_16 : decode cX3_addTag 16 = .ok (.ldc 49, 2) := by decide +kernel
theorem dX3_addTag_18 : decode cX3_addTag 18 = .ok (.invokespecial 51, 3) := by decide +kernel
theorem dX3_addTag_21 : decode cX3_addTag 21 = .ok (.athrow, 1) := by decide +kernel
theorem dX3_addTag_22 : decode cX3_addTag 22 = .ok (.aload_n 0, 1) := by decide +kernel
theorem dX3_addTag_23 : decode cX3_addTag 23 = .ok (.getfield 10, 3) := by decide +kernel
theorem dX3_addTag_26 : decode cX3_addTag 26 = .ok (.invokevirtual 54, 3) := by decide +kernel
theorem dX3_addTag_29 : decode cX3_addTag 29 = .ok (.ireturn, 1) := by decide +kernel
theorem dX3_putUnder_0 : decode cX3_putUnder 0 = .ok (.aload_n 0, 1) := by decide +kernel
theorem dX3_putUnder_1 : decode cX3_putUnder 1 = .ok (.iload_n 1, 1) := by decide +kernel
theorem dX3_putUnder_2 : decode cX3_putUnder 2 = .ok (.iload_n 2, 1) := by decide +kernel
theorem dX3_putUnder_3 : decode cX3_putUnder 3 = .ok (.invokevirtual 58, 3) := by decide +kernel
theorem dX3_putUnder_6 : decode cX3_putUnder 6 = .ok (.aload_n 0, 1) := by decide +kernel
theorem dX3_putUnder_7 : decode cX3_putUnder 7 = .ok (.iload_n 1, 1) := by decide +kernel
theorem dX3_putUnder_8 : decode cX3_putUnder 8 = .ok (.iload_n 2, 1) := by decide +kernel
theorem dX3_putUnder_9 : decode cX3_putUnder 9 = .ok (.invokevirtual 62, 3) := by decide +kernel
theorem dX3_putUnder_12 : decode cX3_putUnder 12 = .ok (.aload_n 0, 1) := by decide +kernel
theorem dX3_putUnder_13 : decode cX3_putUnder 13 = .ok (.getfield 10, 3) := by decide +kernel
theorem dX3_putUnder_16 : decode cX3_putUnder 16 = .ok (.iload_n 1, 1) := by decide +kernel
theorem dX3_putUnder_17 : decode cX3_putUnder 17 = .ok (.invokevirtual 65, 3) := by decide +kernel
theorem dX3_putUnder_20 : decode cX3_putUnder 20 = .ok (.ireturn, 1) := by decide +kernel
theorem dX3_freeTag_0 : decode cX3_freeTag 0 = .ok (.aload_n 0, 1) := by decide +kernel
theorem dX3_freeTag_1 : decode cX3_freeTag 1 = .ok (.iload_n 1, 1) := by decide +kernel
theorem dX3_freeTag_2 : decode cX3_freeTag 2 = .ok (.invokevirtual 69, 3) := by decide +kernel
theorem dX3_freeTag_5 : decode cX3_freeTag 5 = .ok (.aload_n 0, 1) := by decide +kernel
theorem dX3_freeTag_6 : decode cX3_freeTag 6 = .ok (.getfield 10, 3) := by decide +kernel
theorem dX3_freeTag_9 : decode cX3_freeTag 9 = .ok (.getfield 73, 3) := by decide +kernel
theorem dX3_freeTag_12 : decode cX3_freeTag 12 = .ok (.iload_n 1, 1) := by decide +kernel
theorem dX3_freeTag_13 : decode cX3_freeTag 13 = .ok (.iaload, 1) := by decide +kernel
theorem dX3_freeTag_14 : decode cX3_freeTag 14 = .ok (.istore_n 2, 1) := by decide +kernel
theorem dX3_freeTag_15 : decode cX3_freeTag 15 = .ok (.aload_n 0, 1) := by decide +kernel
theorem dX3_freeTag_16 : decode cX3_freeTag 16 = .ok (.iload_n 1, 1) := by decide +kernel
theorem dX3_freeTag_17 : decode cX3_freeTag 17 = .ok (.iconst (-1), 1) := by decide +kernel
theorem dX3_freeTag_18 : decode cX3_freeTag 18 = .ok (.invokevirtual 62, 3) := by decide +kernel
theorem dX3_freeTag_21 : decode cX3_freeTag 21 = .ok (.iload_n 2, 1) := by decide +kernel
theorem dX3_freeTag_22 : decode cX3_freeTag 22 = .ok (.ireturn, 1) := by decide +kernel
theorem dX3_addDream_0 : decode cX3_addDream 0 = .ok (.aload_n 0, 1) := by decide +kernel
theorem dX3_addDream_1 : decode cX3_addDream 1 = .ok (.iload_n 1, 1) := by decide +kernel
theorem dX3_addDream_2 : decode cX3_addDream 2 = .ok (.invokevirtual 76, 3) := by decide +kernel
theorem dX3_addDream_5 : decode cX3_addDream 5 = .ok (.iload_n 2, 1) := by decide +kernel
theorem dX3_addDream_6 : decode cX3_addDream 6 = .ok (.iconst 1, 1) := by decide +kernel
theorem dX3_addDream_7 : decode cX3_addDream 7 = .ok (.if_icmp .lt 9, 3) := by decide +kernel
theorem dX3_addDream_10 : decode cX3_addDream 10 = .ok (.iload_n 2, 1) := by decide +kernel
theorem dX3_addDream_11 : decode cX3_addDream 11 = .ok (.bipush 9, 2) := by decide +kernel
theorem dX3_addDream_13 : decode cX3_addDream 13 = .ok (.if_icmp .le 13, 3) := by decide +kernel
theorem dX3_addDream_16 : decode cX3_addDream 16 = .ok (.new 79, 3) := by decide +kernel
theorem dX3_addDream_19 : decode cX3_addDream 19 = .ok (.dup, 1) := by decide +kernel
theorem dX3_addDream_20 : decode cX3_addDream 20 = .ok (.ldc 81, 2) := by decide +kernel
theorem dX3_addDream_22 : decode cX3_addDream 22 = .ok (.invokespecial 83, 3) := by decide +kernel
theorem dX3_addDream_25 : decode cX3_addDream 25 = .ok (.athrow, 1) := by decide +kernel
theorem dX3_addDream_26 : decode cX3_addDream 26 = .ok (.aload_n 0, 1) := by decide +kernel
theorem dX3_addDream_27 : decode cX3_addDream 27 = .ok (.getfield 84, 3) := by decide +kernel
theorem dX3_addDream_30 : decode cX3_addDream 30 = .ok (.bipush 24, 2) := by decide +kernel
theorem dX3_addDream_32 : decode cX3_addDream 32 = .ok (.if_icmp .lt 13, 3) := by decide +kernel
theorem dX3_addDream_35 : decode cX3_addDream 35 = .ok (.new 47, 3) := by decide +kernel
theorem dX3_addDream_38 : decode cX3_addDream 38 = .ok (.dup, 1) := by decide +kernel
theorem dX3_addDream_39 : decode cX3_addDream 39 = .ok (.ldc 87, 2) := by decide +kernel
theorem dX3_addDream_41 : decode cX3_addDream 41 = .ok (.invokespecial 51, 3) := by decide +kernel
theorem dX3_addDream_44 : decode cX3_addDream 44 = .ok (.athrow, 1) := by decide +kernel
theorem dX3_addDream_45 : decode cX3_addDream 45 = .ok (.aload_n 0, 1) := by decide +kernel
theorem dX3_addDream_46 : decode cX3_addDream 46 = .ok (.getfield 84, 3) := by decide +kernel
theorem dX3_addDream_49 : decode cX3_addDream 49 = .ok (.istore_n 3, 1) := by decide +kernel
theorem dX3_addDream_50 : decode cX3_addDream 50 = .ok (.aload_n 0, 1) := by decide +kernel
theorem dX3_addDream_51 : decode cX3_addDream 51 = .ok (.dup, 1) := by decide +kernel
theorem dX3_addDream_52 : decode cX3_addDream 52 = .ok (.getfield 84, 3) := by decide +kernel
theorem dX3_addDream_55 : decode cX3_addDream 55 = .ok (.iconst 1, 1) := by decide +kernel
theorem dX3_addDream_56 : decode cX3_addDream 56 = .ok (.iadd, 1) := by decide +kernel
theorem dX3_addDream_57 : decode cX3_addDream 57 = .ok (.putfield 84, 3) := by decide +kernel
theorem dX3_addDream_60 : decode cX3_addDream 60 = .ok (.aload_n 0, 1) := by decide +kernel
theorem dX3_addDream_61 : decode cX3_addDream 61 = .ok (.getfield 37, 3) := by decide +kernel
theorem dX3_addDream_64 : decode cX3_addDream 64 = .ok (.iload_n 3, 1) := by decide +kernel
theorem dX3_addDream_65 : decode cX3_addDream 65 = .ok (.iload_n 2, 1) := by decide +kernel
theorem dX3_addDream_66 : decode cX3_addDream 66 = .ok (.iastore, 1) := by decide +kernel
theorem dX3_addDream_67 : decode cX3_addDream 67 = .ok (.aload_n 0, 1) := by decide +kernel
theorem dX3_addDream_68 : decode cX3_addDream 68 = .ok (.getfield 40, 3) := by decide +kernel
theorem dX3_addDream_71 : decode cX3_addDream 71 = .ok (.iload_n 3, 1) := by decide +kernel
theorem dX3_addDream_72 : decode cX3_addDream 72 = .ok (.aload_n 0, 1) := by decide +kernel
theorem dX3_addDream_73 : decode cX3_addDream 73 = .ok (.getfield 89, 3) := by decide +kernel
theorem dX3_addDream_76 : decode cX3_addDream 76 = .ok (.iastore, 1) := by decide +kernel
theorem dX3_addDream_77 : decode cX3_addDream 77 = .ok (.aload_n 0, 1) := by decide +kernel
theorem dX3_addDream_78 : decode cX3_addDream 78 = .ok (.iload_n 3, 1) := by decide +kernel
theorem dX3_addDream_79 : decode cX3_addDream 79 = .ok (.iconst 1, 1) := by decide +kernel
theorem dX3_addDream_80 : decode cX3_addDream 80 = .ok (.iload_n 1, 1) := by decide +kernel
theorem dX3_addDream_81 : decode cX3_addDream 81 = .ok (.ishl, 1) := by decide +kernel
theorem dX3_addDream_82 : decode cX3_addDream 82 = .ok (.invokevirtual 92, 3) := by decide +kernel
theorem dX3_addDream_85 : decode cX3_addDream 85 = .ok (.iload_n 3, 1) := by decide +kernel
theorem dX3_addDream_86 : decode cX3_addDream 86 = .ok (.ireturn, 1) := by decide +kernel
theorem dX3_tagDream_0 : decode cX3_tagDream 0 = .ok (.aload_n 0, 1) := by decide +kernel
theorem dX3_tagDream_1 : decode cX3_tagDream 1 = .ok (.iload_n 1, 1) := by decide +kernel
theorem dX3_tagDream_2 : decode cX3_tagDream 2 = .ok (.invokevirtual 95, 3) := by decide +kernel
theorem dX3_tagDream_5 : decode cX3_tagDream 5 = .ok (.aload_n 0, 1) := by decide +kernel
theorem dX3_tagDream_6 : decode cX3_tagDream 6 = .ok (.iload_n 2, 1) := by decide +kernel
theorem dX3_tagDream_7 : decode cX3_tagDream 7 = .ok (.invokevirtual 76, 3) := by decide +kernel
theorem dX3_tagDream_10 : decode cX3_tagDream 10 = .ok (.iload_n 2, 1) := by decide +kernel
theorem dX3_tagDream_11 : decode cX3_tagDream 11 = .ok (.aload_n 0, 1) := by decide +kernel
theorem dX3_tagDream_12 : decode cX3_tagDream 12 = .ok (.getfield 30, 3) := by decide +kernel
theorem dX3_tagDream_15 : decode cX3_tagDream 15 = .ok (.iload_n 1, 1) := by decide +kernel
theorem dX3_tagDream_16 : decode cX3_tagDream 16 = .ok (.iaload, 1) := by decide +kernel
theorem dX3_tagDream_17 : decode cX3_tagDream 17 = .ok (.invokestatic 98, 3) := by decide +kernel
theorem dX3_tagDream_20 : decode cX3_tagDream 20 = .ok (.ifCond .eq 13, 3) := by decide +kernel
theorem dX3_tagDream_23 : decode cX3_tagDream 23 = .ok (.new 47, 3) := by decide +kernel
theorem dX3_tagDream_26 : decode cX3_tagDream 26 = .ok (.dup, 1) := by decide +kernel
theorem dX3_tagDream_27 : decode cX3_tagDream 27 = .ok (.ldc 102, 2) := by decide +kernel
theorem dX3_tagDream_29 : decode cX3_tagDream 29 = .ok (.invokespecial 51, 3) := by decide +kernel
theorem dX3_tagDream_32 : decode cX3_tagDream 32 = .ok (.athrow, 1) := by decide +kernel
theorem dX3_tagDream_33 : decode cX3_tagDream 33 = .ok (.aload_n 0, 1) := by decide +kernel
theorem dX3_tagDream_34 : decode cX3_tagDream 34 = .ok (.iload_n 1, 1) := by decide +kernel
theorem dX3_tagDream_35 : decode cX3_tagDream 35 = .ok (.aload_n 0, 1) := by decide +kernel
theorem dX3_tagDream_36 : decode cX3_tagDream 36 = .ok (.getfield 30, 3) := by decide +kernel
theorem dX3_tagDream_39 : decode cX3_tagDream 39 = .ok (.iload_n 1, 1) := by decide +kernel
theorem dX3_tagDream_40 : decode cX3_tagDream 40 = .ok (.iaload, 1) := by decide +kernel
theorem dX3_tagDream_41 : decode cX3_tagDream 41 = .ok (.iconst 1, 1) := by decide +kernel
theorem dX3_tagDream_42 : decode cX3_tagDream 42 = .ok (.iload_n 2, 1) := by decide +kernel
theorem dX3_tagDream_43 : decode cX3_tagDream 43 = .ok (.ishl, 1) := by decide +kernel
theorem dX3_tagDream_44 : decode cX3_tagDream 44 = .ok (.ior, 1) := by decide +kernel
theorem dX3_tagDream_45 : decode cX3_tagDream 45 = .ok (.invokevirtual 92, 3) := by decide +kernel
theorem dX3_tagDream_48 : decode cX3_tagDream 48 = .ok (.aload_n 0, 1) := by decide +kernel
theorem dX3_tagDream_49 : decode cX3_tagDream 49 = .ok (.getfield 30, 3) := by decide +kernel
theorem dX3_tagDream_52 : decode cX3_tagDream 52 = .ok (.iload_n 1, 1) := by decide +kernel
theorem dX3_tagDream_53 : decode cX3_tagDream 53 = .ok (.iaload, 1) := by decide +kernel
theorem dX3_tagDream_54 : decode cX3_tagDream 54 = .ok (.invokestatic 104, 3) := by decide +kernel
theorem dX3_tagDream_57 : decode cX3_tagDream 57 = .ok (.ireturn, 1) := by decide +kernel
theorem dX3_untagDream_0 : decode cX3_untagDream 0 = .ok (.aload_n 0, 1) := by decide +kernel
theorem dX3_untagDream_1 : decode cX3_untagDream 1 = .ok (.iload_n 1, 1) := by decide +kernel
theorem dX3_untagDream_2 : decode cX3_untagDream 2 = .ok (.invokevirtual 95, 3) := by decide +kernel
theorem dX3_untagDream_5 : decode cX3_untagDream 5 = .ok (.aload_n 0, 1) := by decide +kernel
theorem dX3_untagDream_6 : decode cX3_untagDream 6 = .ok (.iload_n 2, 1) := by decide +kernel
theorem dX3_untagDream_7 : decode cX3_untagDream 7 = .ok (.invokevirtual 76, 3) := by decide +kernel
theorem dX3_untagDream_10 : decode cX3_untagDream 10 = .ok (.iload_n 2, 1) := by decide +kernel
theorem dX3_untagDream_11 : decode cX3_untagDream 11 = .ok (.aload_n 0, 1) := by decide +kernel
theorem dX3_untagDream_12 : decode cX3_untagDream 12 = .ok (.getfield 30, 3) := by decide +kernel
theorem dX3_untagDream_15 : decode cX3_untagDream 15 = .ok (.iload_n 1, 1) := by decide +kernel
theorem dX3_untagDream_16 : decode cX3_untagDream 16 = .ok (.iaload, 1) := by decide +kernel
theorem dX3_untagDream_17 : decode cX3_untagDream 17 = .ok (.invokestatic 98, 3) := by decide +kernel
theorem dX3_untagDream_20 : decode cX3_untagDream 20 = .ok (.ifCond .ne 13, 3) := by decide +kernel
theorem dX3_untagDream_23 : decode cX3_untagDream 23 = .ok (.new 47, 3) := by decide +kernel
theorem dX3_untagDream_26 : decode cX3_untagDream 26 = .ok (.dup, 1) := by decide +kernel
theorem dX3_untagDream_27 : decode cX3_untagDream 27 = .ok (.ldc 109, 2) := by decide +kernel
theorem dX3_untagDream_29 : decode cX3_untagDream 29 = .ok (.invokespecial 51, 3) := by decide +kernel
theorem dX3_untagDream_32 : decode cX3_untagDream 32 = .ok (.athrow, 1) := by decide +kernel
theorem dX3_untagDream_33 : decode cX3_untagDream 33 = .ok (.aload_n 0, 1) := by decide +kernel
theorem dX3_untagDream_34 : decode cX3_untagDream 34 = .ok (.getfield 30, 3) := by decide +kernel
theorem dX3_untagDream_37 : decode cX3_untagDream 37 = .ok (.iload_n 1, 1) := by decide +kernel
theorem dX3_untagDream_38 : decode cX3_untagDream 38 = .ok (.iaload, 1) := by decide +kernel
theorem dX3_untagDream_39 : decode cX3_untagDream 39 = .ok (.iconst 1, 1) := by decide +kernel
theorem dX3_untagDream_40 : decode cX3_untagDream 40 = .ok (.iload_n 2, 1) := by decide +kernel
theorem dX3_untagDream_41 : decode cX3_untagDream 41 = .ok (.ishl, 1) := by decide +kernel
theorem dX3_untagDream_42 : decode cX3_untagDream 42 = .ok (.if_icmp .ne 13, 3) := by decide +kernel
theorem dX3_untagDream_45 : decode cX3_untagDream 45 = .ok (.new 47, 3) := by decide +kernel
theorem dX3_untagDream_48 : decode cX3_untagDream 48 = .ok (.dup, 1) := by decide +kernel
theorem dX3_untagDream_49 : decode cX3_untagDream 49 = .ok (.ldc 111, 2) := by decide +kernel
theorem dX3_untagDream_51 : decode cX3_untagDream 51 = .ok (.invokespecial 51, 3) := by decide +kernel
theorem dX3_untagDream_54 : decode cX3_untagDream 54 = .ok (.athrow, 1) := by decide +kernel
theorem dX3_untagDream_55 : decode cX3_untagDream 55 = .ok (.aload_n 0, 1) := by decide +kernel
theorem dX3_untagDream_56 : decode cX3_untagDream 56 = .ok (.iload_n 1, 1) := by decide +kernel
theorem dX3_untagDream_57 : decode cX3_untagDream 57 = .ok (.aload_n 0, 1) := by decide +kernel
theorem dX3_untagDream_58 : decode cX3_untagDream 58 = .ok (.getfield 30, 3) := by decide +kernel
theorem dX3_untagDream_61 : decode cX3_untagDream 61 = .ok (.iload_n 1, 1) := by decide +kernel
theorem dX3_untagDream_62 : decode cX3_untagDream 62 = .ok (.iaload, 1) := by decide +kernel
theorem dX3_untagDream_63 : decode cX3_untagDream 63 = .ok (.iconst 1, 1) := by decide +kernel
theorem dX3_untagDream_64 : decode cX3_untagDream 64 = .ok (.iload_n 2, 1) := by decide +kernel
theorem dX3_untagDream_65 : decode cX3_untagDream 65 = .ok (.ishl, 1) := by decide +kernel
theorem dX3_untagDream_66 : decode cX3_untagDream 66 = .ok (.iconst (-1), 1) := by decide +kernel
theorem dX3_untagDream_67 : decode cX3_untagDream 67 = .ok (.ixor, 1) := by decide +kernel
theorem dX3_untagDream_68 : decode cX3_untagDream 68 = .ok (.iand, 1) := by decide +kernel
theorem dX3_untagDream_69 : decode cX3_untagDream 69 = .ok (.invokevirtual 92, 3) := by decide +kernel
theorem dX3_untagDream_72 : decode cX3_untagDream 72 = .ok (.aload_n 0, 1) := by decide +kernel
theorem dX3_untagDream_73 : decode cX3_untagDream 73 = .ok (.getfield 30, 3) := by decide +kernel
theorem dX3_untagDream_76 : decode cX3_untagDream 76 = .ok (.iload_n 1, 1) := by decide +kernel
theorem dX3_untagDream_77 : decode cX3_untagDream 77 = .ok (.iaload, 1) := by decide +kernel
theorem dX3_untagDream_78 : decode cX3_untagDream 78 = .ok (.invokestatic 104, 3) := by decide +kernel
theorem dX3_untagDream_81 : decode cX3_untagDream 81 = .ok (.ireturn, 1) := by decide +kernel
theorem dX3_recall_0 : decode cX3_recall 0 = .ok (.aload_n 0, 1) := by decide +kernel
theorem dX3_recall_1 : decode cX3_recall 1 = .ok (.iload_n 1, 1) := by decide +kernel
theorem dX3_recall_2 : decode cX3_recall 2 = .ok (.invokevirtual 95, 3) := by decide +kernel
theorem dX3_recall_5 : decode cX3_recall 5 = .ok (.iload_n 2, 1) := by decide +kernel
theorem dX3_recall_6 : decode cX3_recall 6 = .ok (.ifCond .lt 9, 3) := by decide +kernel
theorem dX3_recall_9 : decode cX3_recall 9 = .ok (.iload_n 2, 1) := by decide +kernel
theorem dX3_recall_10 : decode cX3_recall 10 = .ok (.bipush 9, 2) := by decide +kernel
theorem dX3_recall_12 : decode cX3_recall 12 = .ok (.if_icmp .le 13, 3) := by decide +kernel
theorem dX3_recall_15 : decode cX3_recall 15 = .ok (.new 79, 3) := by decide +kernel
theorem dX3_recall_18 : decode cX3_recall 18 = .ok (.dup, 1) := by decide +kernel
theorem dX3_recall_19 : decode cX3_recall 19 = .ok (.ldc 113, 2) := by decide +kernel
theorem dX3_recall_21 : decode cX3_recall 21 = .ok (.invokespecial 83, 3) := by decide +kernel
theorem dX3_recall_24 : decode cX3_recall 24 = .ok (.athrow, 1) := by decide +kernel
theorem dX3_recall_25 : decode cX3_recall 25 = .ok (.aload_n 0, 1) := by decide +kernel
theorem dX3_recall_26 : decode cX3_recall 26 = .ok (.getfield 37, 3) := by decide +kernel
theorem dX3_recall_29 : decode cX3_recall 29 = .ok (.iload_n 1, 1) := by decide +kernel
theorem dX3_recall_30 : decode cX3_recall 30 = .ok (.iaload, 1) := by decide +kernel
theorem dX3_recall_31 : decode cX3_recall 31 = .ok (.istore_n 3, 1) := by decide +kernel
theorem dX3_recall_32 : decode cX3_recall 32 = .ok (.aload_n 0, 1) := by decide +kernel
theorem dX3_recall_33 : decode cX3_recall 33 = .ok (.getfield 37, 3) := by decide +kernel
theorem dX3_recall_36 : decode cX3_recall 36 = .ok (.iload_n 1, 1) := by decide +kernel
theorem dX3_recall_37 : decode cX3_recall 37 = .ok (.iload_n 2, 1) := by decide +kernel
theorem dX3_recall_38 : decode cX3_recall 38 = .ok (.iastore, 1) := by decide +kernel
theorem dX3_recall_39 : decode cX3_recall 39 = .ok (.iload_n 3, 1) := by decide +kernel
theorem dX3_recall_40 : decode cX3_recall 40 = .ok (.ireturn, 1) := by decide +kernel
theorem dX3_passNights_0 : decode cX3_passNights 0 = .ok (.aload_n 0, 1) := by decide +kernel
theorem dX3_passNights_1 : decode cX3_passNights 1 = .ok (.iload_n 1, 1) := by decide +kernel
theorem dX3_passNights_2 : decode cX3_passNights 2 = .ok (.invokevirtual 115, 3) := by decide +kernel
theorem dX3_passNights_5 : decode cX3_passNights 5 = .ok (.iconst 0, 1) := by decide +kernel
theorem dX3_passNights_6 : decode cX3_passNights 6 = .ok (.istore_n 2, 1) := by decide +kernel
theorem dX3_passNights_7 : decode cX3_passNights 7 = .ok (.iload_n 2, 1) := by decide +kernel
theorem dX3_passNights_8 : decode cX3_passNights 8 = .ok (.aload_n 0, 1) := by decide +kernel
theorem dX3_passNights_9 : decode cX3_passNights 9 = .ok (.getfield 84, 3) := by decide +kernel
theorem dX3_passNights_12 : decode cX3_passNights 12 = .ok (.if_icmp .ge 21, 3) := by decide +kernel
theorem dX3_passNights_15 : decode cX3_passNights 15 = .ok (.aload_n 0, 1) := by decide +kernel
theorem dX3_passNights_16 : decode cX3_passNights 16 = .ok (.getfield 37, 3) := by decide +kernel
theorem dX3_passNights_19 : decode cX3_passNights 19 = .ok (.iload_n 2, 1) := by decide +kernel
theorem dX3_passNights_20 : decode cX3_passNights 20 = .ok (.aload_n 0, 1) := by decide +kernel
theorem dX3_passNights_21 : decode cX3_passNights 21 = .ok (.iload_n 2, 1) := by decide +kernel
theorem dX3_passNights_22 : decode cX3_passNights 22 = .ok (.iload_n 1, 1) := by decide +kernel
theorem dX3_passNights_23 : decode cX3_passNights 23 = .ok (.invokevirtual 118, 3) := by decide +kernel
theorem dX3_passNights_26 : decode cX3_passNights 26 = .ok (.iastore, 1) := by decide +kernel
theorem dX3_passNights_27 : decode cX3_passNights 27 = .ok (.iinc 2 1, 3) := by decide +kernel
theorem dX3_passNights_30 : decode cX3_passNights 30 = .ok (.goto (-23), 3) := by decide +kernel
theorem dX3_passNights_33 : decode cX3_passNights 33 = .ok (.aload_n 0, 1) := by decide +kernel
theorem dX3_passNights_34 : decode cX3_passNights 34 = .ok (.dup, 1) := by decide +kernel
theorem dX3_passNights_35 : decode cX3_passNights 35 = .ok (.getfield 89, 3) := by decide +kernel
theorem dX3_passNights_38 : decode cX3_passNights 38 = .ok (.iload_n 1, 1) := by decide +kernel
theorem dX3_passNights_39 : decode cX3_passNights 39 = .ok (.iadd, 1) := by decide +kernel
theorem dX3_passNights_40 : decode cX3_passNights 40 = .ok (.putfield 89, 3) := by decide +kernel
theorem dX3_passNights_43 : decode cX3_passNights 43 = .ok (.aload_n 0, 1) := by decide +kernel
theorem dX3_passNights_44 : decode cX3_passNights 44 = .ok (.iconst 0, 1) := by decide +kernel
theorem dX3_passNights_45 : decode cX3_passNights 45 = .ok (.invokevirtual 122, 3) := by decide +kernel
theorem dX3_passNights_48 : decode cX3_passNights 48 = .ok (.ireturn, 1) := by decide +kernel
theorem dX3_addTagTerm_0 : decode cX3_addTagTerm 0 = .ok (.aload_n 0, 1) := by decide +kernel
theorem dX3_addTagTerm_1 : decode cX3_addTagTerm 1 = .ok (.iload_n 1, 1) := by decide +kernel
theorem dX3_addTagTerm_2 : decode cX3_addTagTerm 2 = .ok (.invokevirtual 76, 3) := by decide +kernel
theorem dX3_addTagTerm_5 : decode cX3_addTagTerm 5 = .ok (.aload_n 0, 1) := by decide +kernel
theorem dX3_addTagTerm_6 : decode cX3_addTagTerm 6 = .ok (.invokevirtual 125, 3) := by decide +kernel
theorem dX3_addTagTerm_9 : decode cX3_addTagTerm 9 = .ok (.aload_n 0, 1) := by decide +kernel
theorem dX3_addTagTerm_10 : decode cX3_addTagTerm 10 = .ok (.iconst 0, 1) := by decide +kernel
theorem dX3_addTagTerm_11 : decode cX3_addTagTerm 11 = .ok (.iload_n 1, 1) := by decide +kernel
theorem dX3_addTagTerm_12 : decode cX3_addTagTerm 12 = .ok (.iload_n 1, 1) := by decide +kernel
theorem dX3_addTagTerm_13 : decode cX3_addTagTerm 13 = .ok (.invokevirtual 128, 3) := by decide +kernel
theorem dX3_addTagTerm_16 : decode cX3_addTagTerm 16 = .ok (.ireturn, 1) := by decide +kernel
theorem dX3_addBothTerm_0 : decode cX3_addBothTerm 0 = .ok (.aload_n 0, 1) := by decide +kernel
theorem dX3_addBothTerm_1 : decode cX3_addBothTerm 1 = .ok (.iload_n 1, 1) := by decide +kernel
theorem dX3_addBothTerm_2 : decode cX3_addBothTerm 2 = .ok (.invokevirtual 132, 3) := by decide +kernel
theorem dX3_addBothTerm_5 : decode cX3_addBothTerm 5 = .ok (.aload_n 0, 1) := by decide +kernel
theorem dX3_addBothTerm_6 : decode cX3_addBothTerm 6 = .ok (.iload_n 2, 1) := by decide +kernel
theorem dX3_addBothTerm_7 : decode cX3_addBothTerm 7 = .ok (.invokevirtual 132, 3) := by decide +kernel
theorem dX3_addBothTerm_10 : decode cX3_addBothTerm 10 = .ok (.aload_n 0, 1) := by decide +kernel
theorem dX3_addBothTerm_11 : decode cX3_addBothTerm 11 = .ok (.invokevirtual 125, 3) := by decide +kernel
theorem dX3_addBothTerm_14 : decode cX3_addBothTerm 14 = .ok (.aload_n 0, 1) := by decide +kernel
theorem dX3_addBothTerm_15 : decode cX3_addBothTerm 15 = .ok (.iconst 1, 1) := by decide +kernel
theorem dX3_addBothTerm_16 : decode cX3_addBothTerm 16 = .ok (.iload_n 1, 1) := by decide +kernel
theorem dX3_addBothTerm_17 : decode cX3_addBothTerm 17 = .ok (.iload_n 2, 1) := by decide +kernel
theorem dX3_addBothTerm_18 : decode cX3_addBothTerm 18 = .ok (.invokevirtual 128, 3) := by decide +kernel
theorem dX3_addBothTerm_21 : decode cX3_addBothTerm 21 = .ok (.ireturn, 1) := by decide +kernel
theorem dX3_addEitherTerm_0 : decode cX3_addEitherTerm 0 = .ok (.aload_n 0, 1) := by decide +kernel
theorem dX3_addEitherTerm_1 : decode cX3_addEitherTerm 1 = .ok (.iload_n 1, 1) := by decide +kernel
theorem dX3_addEitherTerm_2 : decode cX3_addEitherTerm 2 = .ok (.invokevirtual 132, 3) := by decide +kernel
theorem dX3_addEitherTerm_5 : decode cX3_addEitherTerm 5 = .ok (.aload_n 0, 1) := by decide +kernel
theorem dX3_addEitherTerm_6 : decode cX3_addEitherTerm 6 = .ok (.iload_n 2, 1) := by decide +kernel
theorem dX3_addEitherTerm_7 : decode cX3_addEitherTerm 7 = .ok (.invokevirtual 132, 3) := by decide +kernel
theorem dX3_addEitherTerm_10 : decode cX3_addEitherTerm 10 = .ok (.aload_n 0, 1) := by decide +kernel
theorem dX3_addEitherTerm_11 : decode cX3_addEitherTerm 11 = .ok (.invokevirtual 125, 3) := by decide +kernel
theorem dX3_addEitherTerm_14 : decode cX3_addEitherTerm 14 = .ok (.aload_n 0, 1) := by decide +kernel
theorem dX3_addEitherTerm_15 : decode cX3_addEitherTerm 15 = .ok (.iconst 2, 1) := by decide +kernel
theorem dX3_addEitherTerm_16 : decode cX3_addEitherTerm 16 = .ok (.iload_n 1, 1) := by decide +kernel
theorem dX3_addEitherTerm_17 : decode cX3_addEitherTerm 17 = .ok (.iload_n 2, 1) := by decide +kernel
theorem dX3_addEitherTerm_18 : decode cX3_addEitherTerm 18 = .ok (.invokevirtual 128, 3) := by decide +kernel
theorem dX3_addEitherTerm_21 : decode cX3_addEitherTerm 21 = .ok (.ireturn, 1) := by decide +kernel
theorem dX3_addWithoutTerm_0 : decode cX3_addWithoutTerm 0 = .ok (.aload_n 0, 1) := by decide +kernel
theorem dX3_addWithoutTerm_1 : decode cX3_addWithoutTerm 1 = .ok (.iload_n 1, 1) := by decide +kernel
theorem dX3_addWithoutTerm_2 : decode cX3_addWithoutTerm 2 = .ok (.invokevirtual 132, 3) := by decide +kernel
theorem dX3_addWithoutTerm_5 : decode cX3_addWithoutTerm 5 = .ok (.aload_n 0, 1) := by decide +kernel
theorem dX3_addWithoutTerm_6 : decode cX3_addWithoutTerm 6 = .ok (.invokevirtual 125, 3) := by decide +kernel
theorem dX3_addWithoutTerm_9 : decode cX3_addWithoutTerm 9 = .ok (.aload_n 0, 1) := by decide +kernel
theorem dX3_addWithoutTerm_10 : decode cX3_addWithoutTerm 10 = .ok (.iconst 3, 1) := by decide +kernel
theorem dX3_addWithoutTerm_11 : decode cX3_addWithoutTerm 11 = .ok (.iload_n 1, 1) := by decide +kernel
theorem dX3_addWithoutTerm_12 : decode cX3_addWithoutTerm 12 = .ok (.iload_n 1, 1) := by decide +kernel
theorem dX3_addWithoutTerm_13 : decode cX3_addWithoutTerm 13 = .ok (.invokevirtual 128, 3) := by decide +kernel
theorem dX3_addWithoutTerm_16 : decode cX3_addWithoutTerm 16 = .ok (.ireturn, 1) := by decide +kernel
theorem dX3_clearTerms_0 : decode cX3_clearTerms 0 = .ok (.aload_n 0, 1) := by decide +kernel
theorem dX3_clearTerms_1 : decode cX3_clearTerms 1 = .ok (.getfield 19, 3) := by decide +kernel
theorem dX3_clearTerms_4 : decode cX3_clearTerms 4 = .ok (.getfield 135, 3) := by decide +kernel
theorem dX3_clearTerms_7 : decode cX3_clearTerms 7 = .ok (.istore_n 1, 1) := by decide +kernel
theorem dX3_clearTerms_8 : decode cX3_clearTerms 8 = .ok (.aload_n 0, 1) := by decide +kernel
theorem dX3_clearTerms_9 : decode cX3_clearTerms 9 = .ok (.getfield 19, 3) := by decide +kernel
theorem dX3_clearTerms_12 : decode cX3_clearTerms 12 = .ok (.iconst 0, 1) := by decide +kernel
theorem dX3_clearTerms_13 : decode cX3_clearTerms 13 = .ok (.putfield 135, 3) := by decide +kernel
theorem dX3_clearTerms_16 : decode cX3_clearTerms 16 = .ok (.iload_n 1, 1) := by decide +kernel
theorem dX3_clearTerms_17 : decode cX3_clearTerms 17 = .ok (.ireturn, 1) := by decide +kernel
theorem dX3_hasParent_0 : decode cX3_hasParent 0 = .ok (.aload_n 0, 1) := by decide +kernel
theorem dX3_hasParent_1 : decode cX3_hasParent 1 = .ok (.iload_n 1, 1) := by decide +kernel
theorem dX3_hasParent_2 : decode cX3_hasParent 2 = .ok (.invokevirtual 76, 3) := by decide +kernel
theorem dX3_hasParent_5 : decode cX3_hasParent 5 = .ok (.aload_n 0, 1) := by decide +kernel
theorem dX3_hasParent_6 : decode cX3_hasParent 6 = .ok (.getfield 10, 3) := by decide +kernel
theorem dX3_hasParent_9 : decode cX3_hasParent 9 = .ok (.getfield 73, 3) := by decide +kernel
theorem dX3_hasParent_12 : decode cX3_hasParent 12 = .ok (.iload_n 1, 1) := by decide +kernel
theorem dX3_hasParent_13 : decode cX3_hasParent 13 = .ok (.iaload, 1) := by decide +kernel
theorem dX3_hasParent_14 : decode cX3_hasParent 14 = .ok (.iconst (-1), 1) := by decide +kernel
theorem dX3_hasParent_15 : decode cX3_hasParent 15 = .ok (.if_icmp .eq 7, 3) := by decide +kernel
theorem dX3_hasParent_18 : decode cX3_hasParent 18 = .ok (.iconst 1, 1) := by decide +kernel
theorem dX3_hasParent_19 : decode cX3_hasParent 19 = .ok (.goto 4, 3) := by decide +kernel
theorem dX3_hasParent_22 : decode cX3_hasParent 22 = .ok (.iconst 0, 1) := by decide +kernel
theorem dX3_hasParent_23 : decode cX3_hasParent 23 = .ok (.ireturn, 1) := by decide +kernel
theorem dX3_parentOf_0 : decode cX3_parentOf 0 = .ok (.aload_n 0, 1) := by decide +kernel
theorem dX3_parentOf_1 : decode cX3_parentOf 1 = .ok (.iload_n 1, 1) := by decide +kernel
theorem dX3_parentOf_2 : decode cX3_parentOf 2 = .ok (.invokevirtual 69, 3) := by decide +kernel
theorem dX3_parentOf_5 : decode cX3_parentOf 5 = .ok (.aload_n 0, 1) := by decide +kernel
theorem dX3_parentOf_6 : decode cX3_parentOf 6 = .ok (.getfield 10, 3) := by decide +kernel
theorem dX3_parentOf_9 : decode cX3_parentOf 9 = .ok (.getfield 73, 3) := by decide +kernel
theorem dX3_parentOf_12 : decode cX3_parentOf 12 = .ok (.iload_n 1, 1) := by decide +kernel
theorem dX3_parentOf_13 : decode cX3_parentOf 13 = .ok (.iaload, 1) := by decide +kernel
theorem dX3_parentOf_14 : decode cX3_parentOf 14 = .ok (.ireturn, 1) := by decide +kernel
theorem dX3_tagsAbove_0 : decode cX3_tagsAbove 0 = .ok (.aload_n 0, 1) := by decide +kernel
theorem dX3_tagsAbove_1 : decode cX3_tagsAbove 1 = .ok (.iload_n 1, 1) := by decide +kernel
theorem dX3_tagsAbove_2 : decode cX3_tagsAbove 2 = .ok (.invokevirtual 76, 3) := by decide +kernel
theorem dX3_tagsAbove_5 : decode cX3_tagsAbove 5 = .ok (.aload_n 0, 1) := by decide +kernel
theorem dX3_tagsAbove_6 : decode cX3_tagsAbove 6 = .ok (.getfield 10, 3) := by decide +kernel
theorem dX3_tagsAbove_9 : decode cX3_tagsAbove 9 = .ok (.iload_n 1, 1) := by decide +kernel
theorem dX3_tagsAbove_10 : decode cX3_tagsAbove 10 = .ok (.invokevirtual 65, 3) := by decide +kernel
theorem dX3_tagsAbove_13 : decode cX3_tagsAbove 13 = .ok (.ireturn, 1) := by decide +kernel
theorem dX3_tagsBelow_0 : decode cX3_tagsBelow 0 = .ok (.aload_n 0, 1) := by decide +kernel
theorem dX3_tagsBelow_1 : decode cX3_tagsBelow 1 = .ok (.iload_n 1, 1) := by decide +kernel
theorem dX3_tagsBelow_2 : decode cX3_tagsBelow 2 = .ok (.invokevirtual 76, 3) := by decide +kernel
theorem dX3_tagsBelow_5 : decode cX3_tagsBelow 5 = .ok (.aload_n 0, 1) := by decide +kernel
theorem dX3_tagsBelow_6 : decode cX3_tagsBelow 6 = .ok (.getfield 10, 3) := by decide +kernel
theorem dX3_tagsBelow_9 : decode cX3_tagsBelow 9 = .ok (.iload_n 1, 1) := by decide +kernel
theorem dX3_tagsBelow_10 : decode cX3_tagsBelow 10 = .ok (.invokevirtual 136, 3) := by decide +kernel
theorem dX3_tagsBelow_13 : decode cX3_tagsBelow 13 = .ok (.ireturn, 1) := by decide +kernel
theorem dX3_isBelow_0 : decode cX3_isBelow 0 = .ok (.aload_n 0, 1) := by decide +kernel
theorem dX3_isBelow_1 : decode cX3_isBelow 1 = .ok (.iload_n 1, 1) := by decide +kernel
theorem dX3_isBelow_2 : decode cX3_isBelow 2 = .ok (.invokevirtual 76, 3) := by decide +kernel
theorem dX3_isBelow_5 : decode cX3_isBelow 5 = .ok (.aload_n 0, 1) := by decide +kernel
theorem dX3_isBelow_6 : decode cX3_isBelow 6 = .ok (.iload_n 2, 1) := by decide +kernel
theorem dX3_isBelow_7 : decode cX3_isBelow 7 = .ok (.invokevirtual 76, 3) := by decide +kernel
theorem dX3_isBelow_10 : decode cX3_isBelow 10 = .ok (.aload_n 0, 1) := by decide +kernel
theorem dX3_isBelow_11 : decode cX3_isBelow 11 = .ok (.getfield 10, 3) := by decide +kernel
theorem dX3_isBelow_14 : decode cX3_isBelow 14 = .ok (.iload_n 1, 1) := by decide +kernel
theorem dX3_isBelow_15 : decode cX3_isBelow 15 = .ok (.iload_n 2, 1) := by decide +kernel
theorem dX3_isBelow_16 : decode cX3_isBelow 16 = .ok (.invokevirtual 139, 3) := by decide +kernel
theorem dX3_isBelow_19 : decode cX3_isBelow 19 = .ok (.ireturn, 1) := by decide +kernel
theorem dX3_nearestAbove_0 : decode cX3_nearestAbove 0 = .ok (.aload_n 0, 1) := by decide +kernel
theorem dX3_nearestAbove_1 : decode cX3_nearestAbove 1 = .ok (.iload_n 1, 1) := by decide +kernel
theorem dX3_nearestAbove_2 : decode cX3_nearestAbove 2 = .ok (.invokevirtual 76, 3) := by decide +kernel
theorem dX3_nearestAbove_5 : decode cX3_nearestAbove 5 = .ok (.aload_n 0, 1) := by decide +kernel
theorem dX3_nearestAbove_6 : decode cX3_nearestAbove 6 = .ok (.iload_n 2, 1) := by decide +kernel
theorem dX3_nearestAbove_7 : decode cX3_nearestAbove 7 = .ok (.invokevirtual 76, 3) := by decide +kernel
theorem dX3_nearestAbove_10 : decode cX3_nearestAbove 10 = .ok (.aload_n 0, 1) := by decide +kernel
theorem dX3_nearestAbove_11 : decode cX3_nearestAbove 11 = .ok (.getfield 10, 3) := by decide +kernel
theorem dX3_nearestAbove_14 : decode cX3_nearestAbove 14 = .ok (.aload_n 0, 1) := by decide +kernel
theorem dX3_nearestAbove_15 : decode cX3_nearestAbove 15 = .ok (.getfield 10, 3) := by decide +kernel
theorem dX3_nearestAbove_18 : decode cX3_nearestAbove 18 = .ok (.getfield 142, 3) := by decide +kernel
theorem dX3_nearestAbove_21 : decode cX3_nearestAbove 21 = .ok (.iload_n 1, 1) := by decide +kernel
theorem dX3_nearestAbove_22 : decode cX3_nearestAbove 22 = .ok (.iaload, 1) := by decide +kernel
theorem dX3_nearestAbove_23 : decode cX3_nearestAbove 23 = .ok (.aload_n 0, 1) := by decide +kernel
theorem dX3_nearestAbove_24 : decode cX3_nearestAbove 24 = .ok (.getfield 10, 3) := by decide +kernel
theorem dX3_nearestAbove_27 : decode cX3_nearestAbove 27 = .ok (.getfield 142, 3) := by decide +kernel
theorem dX3_nearestAbove_30 : decode cX3_nearestAbove 30 = .ok (.iload_n 2, 1) := by decide +kernel
theorem dX3_nearestAbove_31 : decode cX3_nearestAbove 31 = .ok (.iaload, 1) := by decide +kernel
theorem dX3_nearestAbove_32 : decode cX3_nearestAbove 32 = .ok (.iand, 1) := by decide +kernel
theorem dX3_nearestAbove_33 : decode cX3_nearestAbove 33 = .ok (.invokevirtual 145, 3) := by decide +kernel
theorem dX3_nearestAbove_36 : decode cX3_nearestAbove 36 = .ok (.ireturn, 1) := by decide +kernel
theorem dX3_dreamsWith_0 : decode cX3_dreamsWith 0 = .ok (.aload_n 0, 1) := by decide +kernel
theorem dX3_dreamsWith_1 : decode cX3_dreamsWith 1 = .ok (.iload_n 1, 1) := by decide +kernel
theorem dX3_dreamsWith_2 : decode cX3_dreamsWith 2 = .ok (.invokevirtual 76, 3) := by decide +kernel
theorem dX3_dreamsWith_5 : decode cX3_dreamsWith 5 = .ok (.aload_n 0, 1) := by decide +kernel
theorem dX3_dreamsWith_6 : decode cX3_dreamsWith 6 = .ok (.iload_n 1, 1) := by decide +kernel
theorem dX3_dreamsWith_7 : decode cX3_dreamsWith 7 = .ok (.invokevirtual 148, 3) := by decide +kernel
theorem dX3_dreamsWith_10 : decode cX3_dreamsWith 10 = .ok (.invokestatic 104, 3) := by decide +kernel
theorem dX3_dreamsWith_13 : decode cX3_dreamsWith 13 = .ok (.ireturn, 1) := by decide +kernel
theorem dX3_hasOwnTag_0 : decode cX3_hasOwnTag 0 = .ok (.aload_n 0, 1) := by decide +kernel
theorem dX3_hasOwnTag_1 : decode cX3_hasOwnTag 1 = .ok (.iload_n 1, 1) := by decide +kernel
theorem dX3_hasOwnTag_2 : decode cX3_hasOwnTag 2 = .ok (.invokevirtual 95, 3) := by decide +kernel
theorem dX3_hasOwnTag_5 : decode cX3_hasOwnTag 5 = .ok (.aload_n 0, 1) := by decide +kernel
theorem dX3_hasOwnTag_6 : decode cX3_hasOwnTag 6 = .ok (.iload_n 2, 1) := by decide +kernel
theorem dX3_hasOwnTag_7 : decode cX3_hasOwnTag 7 = .ok (.invokevirtual 76, 3) := by decide +kernel
theorem dX3_hasOwnTag_10 : decode cX3_hasOwnTag 10 = .ok (.iload_n 2, 1) := by decide +kernel
theorem dX3_hasOwnTag_11 : decode cX3_hasOwnTag 11 = .ok (.aload_n 0, 1) := by decide +kernel
theorem dX3_hasOwnTag_12 : decode cX3_hasOwnTag 12 = .ok (.getfield 30, 3) := by decide +kernel
theorem dX3_hasOwnTag_15 : decode cX3_hasOwnTag 15 = .ok (.iload_n 1, 1) := by decide +kernel
theorem dX3_hasOwnTag_16 : decode cX3_hasOwnTag 16 = .ok (.iaload, 1) := by decide +kernel
theorem dX3_hasOwnTag_17 : decode cX3_hasOwnTag 17 = .ok (.invokestatic 98, 3) := by decide +kernel
theorem dX3_hasOwnTag_20 : decode cX3_hasOwnTag 20 = .ok (.ireturn, 1) := by decide +kernel
theorem dX3_hasTag_0 : decode cX3_hasTag 0 = .ok (.aload_n 0, 1) := by decide +kernel
theorem dX3_hasTag_1 : decode cX3_hasTag 1 = .ok (.iload_n 1, 1) := by decide +kernel
theorem dX3_hasTag_2 : decode cX3_hasTag 2 = .ok (.invokevirtual 95, 3) := by decide +kernel
theorem dX3_hasTag_5 : decode cX3_hasTag 5 = .ok (.aload_n 0, 1) := by decide +kernel
theorem dX3_hasTag_6 : decode cX3_hasTag 6 = .ok (.iload_n 2, 1) := by decide +kernel
theorem dX3_hasTag_7 : decode cX3_hasTag 7 = .ok (.invokevirtual 76, 3) := by decide +kernel
theorem dX3_hasTag_10 : decode cX3_hasTag 10 = .ok (.iload_n 2, 1) := by decide +kernel
theorem dX3_hasTag_11 : decode cX3_hasTag 11 = .ok (.aload_n 0, 1) := by decide +kernel
theorem dX3_hasTag_12 : decode cX3_hasTag 12 = .ok (.getfield 34, 3) := by decide +kernel
theorem dX3_hasTag_15 : decode cX3_hasTag 15 = .ok (.iload_n 1, 1) := by decide +kernel
theorem dX3_hasTag_16 : decode cX3_hasTag 16 = .ok (.iaload, 1) := by decide +kernel
theorem dX3_hasTag_17 : decode cX3_hasTag 17 = .ok (.invokestatic 98, 3) := by decide +kernel
theorem dX3_hasTag_20 : decode cX3_hasTag 20 = .ok (.ireturn, 1) := by decide +kernel
theorem dX3_tagsOf_0 : decode cX3_tagsOf 0 = .ok (.aload_n 0, 1) := by decide +kernel
theorem dX3_tagsOf_1 : decode cX3_tagsOf 1 = .ok (.iload_n 1, 1) := by decide +kernel
theorem dX3_tagsOf_2 : decode cX3_tagsOf 2 = .ok (.invokevirtual 95, 3) := by decide +kernel
theorem dX3_tagsOf_5 : decode cX3_tagsOf 5 = .ok (.aload_n 0, 1) := by decide +kernel
theorem dX3_tagsOf_6 : decode cX3_tagsOf 6 = .ok (.getfield 34, 3) := by decide +kernel
theorem dX3_tagsOf_9 : decode cX3_tagsOf 9 = .ok (.iload_n 1, 1) := by decide +kernel
theorem dX3_tagsOf_10 : decode cX3_tagsOf 10 = .ok (.iaload, 1) := by decide +kernel
theorem dX3_tagsOf_11 : decode cX3_tagsOf 11 = .ok (.invokestatic 104, 3) := by decide +kernel
theorem dX3_tagsOf_14 : decode cX3_tagsOf 14 = .ok (.ireturn, 1) := by decide +kernel
theorem dX3_vividnessOf_0 : decode cX3_vividnessOf 0 = .ok (.aload_n 0, 1) := by decide +kernel
theorem dX3_vividnessOf_1 : decode cX3_vividnessOf 1 = .ok (.iload_n 1, 1) := by decide +kernel
theorem dX3_vividnessOf_2 : decode cX3_vividnessOf 2 = .ok (.invokevirtual 95, 3) := by decide +kernel
theorem dX3_vividnessOf_5 : decode cX3_vividnessOf 5 = .ok (.aload_n 0, 1) := by decide +kernel
theorem dX3_vividnessOf_6 : decode cX3_vividnessOf 6 = .ok (.getfield 37, 3) := by decide +kernel
theorem dX3_vividnessOf_9 : decode cX3_vividnessOf 9 = .ok (.iload_n 1, 1) := by decide +kernel
theorem dX3_vividnessOf_10 : decode cX3_vividnessOf 10 = .ok (.iaload, 1) := by decide +kernel
theorem dX3_vividnessOf_11 : decode cX3_vividnessOf 11 = .ok (.ireturn, 1) := by decide +kernel
theorem dX3_nightOf_0 : decode cX3_nightOf 0 = .ok (.aload_n 0, 1) := by decide +kernel
theorem dX3_nightOf_1 : decode cX3_nightOf 1 = .ok (.iload_n 1, 1) := by decide +kernel
theorem dX3_nightOf_2 : decode cX3_nightOf 2 = .ok (.invokevirtual 95, 3) := by decide +kernel
theorem dX3_nightOf_5 : decode cX3_nightOf 5 = .ok (.aload_n 0, 1) := by decide +kernel
theorem dX3_nightOf_6 : decode cX3_nightOf 6 = .ok (.getfield 40, 3) := by decide +kernel
theorem dX3_nightOf_9 : decode cX3_nightOf 9 = .ok (.iload_n 1, 1) := by decide +kernel
theorem dX3_nightOf_10 : decode cX3_nightOf 10 = .ok (.iaload, 1) := by decide +kernel
theorem dX3_nightOf_11 : decode cX3_nightOf 11 = .ok (.ireturn, 1) := by decide +kernel
theorem dX3_matches_0 : decode cX3_matches 0 = .ok (.aload_n 0, 1) := by decide +kernel
theorem dX3_matches_1 : decode cX3_matches 1 = .ok (.iload_n 1, 1) := by decide +kernel
theorem dX3_matches_2 : decode cX3_matches 2 = .ok (.invokevirtual 132, 3) := by decide +kernel
theorem dX3_matches_5 : decode cX3_matches 5 = .ok (.aload_n 0, 1) := by decide +kernel
theorem dX3_matches_6 : decode cX3_matches 6 = .ok (.iload_n 2, 1) := by decide +kernel
theorem dX3_matches_7 : decode cX3_matches 7 = .ok (.invokevirtual 95, 3) := by decide +kernel
theorem dX3_matches_10 : decode cX3_matches 10 = .ok (.iload_n 2, 1) := by decide +kernel
theorem dX3_matches_11 : decode cX3_matches 11 = .ok (.aload_n 0, 1) := by decide +kernel
theorem dX3_matches_12 : decode cX3_matches 12 = .ok (.getfield 19, 3) := by decide +kernel
theorem dX3_matches_15 : decode cX3_matches 15 = .ok (.getfield 151, 3) := by decide +kernel
theorem dX3_matches_18 : decode cX3_matches 18 = .ok (.iload_n 1, 1) := by decide +kernel
theorem dX3_matches_19 : decode cX3_matches 19 = .ok (.iaload, 1) := by decide +kernel
theorem dX3_matches_20 : decode cX3_matches 20 = .ok (.invokestatic 98, 3) := by decide +kernel
theorem dX3_matches_23 : decode cX3_matches 23 = .ok (.ireturn, 1) := by decide +kernel
theorem dX3_matchesOf_0 : decode cX3_matchesOf 0 = .ok (.aload_n 0, 1) := by decide +kernel
theorem dX3_matchesOf_1 : decode cX3_matchesOf 1 = .ok (.iload_n 1, 1) := by decide +kernel
theorem dX3_matchesOf_2 : decode cX3_matchesOf 2 = .ok (.invokevirtual 132, 3) := by decide +kernel
theorem dX3_matchesOf_5 : decode cX3_matchesOf 5 = .ok (.aload_n 0, 1) := by decide +kernel
theorem dX3_matchesOf_6 : decode cX3_matchesOf 6 = .ok (.getfield 19, 3) := by decide +kernel
theorem dX3_matchesOf_9 : decode cX3_matchesOf 9 = .ok (.getfield 151, 3) := by decide +kernel
theorem dX3_matchesOf_12 : decode cX3_matchesOf 12 = .ok (.iload_n 1, 1) := by decide +kernel
theorem dX3_matchesOf_13 : decode cX3_matchesOf 13 = .ok (.iaload, 1) := by decide +kernel
theorem dX3_matchesOf_14 : decode cX3_matchesOf 14 = .ok (.invokestatic 104, 3) := by decide +kernel
theorem dX3_matchesOf_17 : decode cX3_matchesOf 17 = .ok (.ireturn, 1) := by decide +kernel
theorem dX3_mostVivid_0 : decode cX3_mostVivid 0 = .ok (.aload_n 0, 1) := by decide +kernel
theorem dX3_mostVivid_1 : decode cX3_mostVivid 1 = .ok (.iload_n 1, 1) := by decide +kernel
theorem dX3_mostVivid_2 : decode cX3_mostVivid 2 = .ok (.invokevirtual 132, 3) := by decide +kernel
theorem dX3_mostVivid_5 : decode cX3_mostVivid 5 = .ok (.aload_n 0, 1) := by decide +kernel
theorem dX3_mostVivid_6 : decode cX3_mostVivid 6 = .ok (.aload_n 0, 1) := by decide +kernel
theorem dX3_mostVivid_7 : decode cX3_mostVivid 7 = .ok (.getfield 19, 3) := by decide +kernel
theorem dX3_mostVivid_10 : decode cX3_mostVivid 10 = .ok (.getfield 151, 3) := by decide +kernel
theorem dX3_mostVivid_13 : decode cX3_mostVivid 13 = .ok (.iload_n 1, 1) := by decide +kernel
theorem dX3_mostVivid_14 : decode cX3_mostVivid 14 = .ok (.iaload, 1) := by decide +kernel
theorem dX3_mostVivid_15 : decode cX3_mostVivid 15 = .ok (.invokevirtual 154, 3) := by decide +kernel
theorem dX3_mostVivid_18 : decode cX3_mostVivid 18 = .ok (.ireturn, 1) := by decide +kernel
theorem dX3_commonTags_0 : decode cX3_commonTags 0 = .ok (.aload_n 0, 1) := by decide +kernel
theorem dX3_commonTags_1 : decode cX3_commonTags 1 = .ok (.iload_n 1, 1) := by decide +kernel
theorem dX3_commonTags_2 : decode cX3_commonTags 2 = .ok (.invokevirtual 132, 3) := by decide +kernel
theorem dX3_commonTags_5 : decode cX3_commonTags 5 = .ok (.aload_n 0, 1) := by decide +kernel
theorem dX3_commonTags_6 : decode cX3_commonTags 6 = .ok (.aload_n 0, 1) := by decide +kernel
theorem dX3_commonTags_7 : decode cX3_commonTags 7 = .ok (.getfield 19, 3) := by decide +kernel
theorem dX3_commonTags_10 : decode cX3_commonTags 10 = .ok (.getfield 151, 3) := by decide +kernel
theorem dX3_commonTags_13 : decode cX3_commonTags 13 = .ok (.iload_n 1, 1) := by decide +kernel
theorem dX3_commonTags_14 : decode cX3_commonTags 14 = .ok (.iaload, 1) := by decide +kernel
theorem dX3_commonTags_15 : decode cX3_commonTags 15 = .ok (.invokevirtual 157, 3) := by decide +kernel
theorem dX3_commonTags_18 : decode cX3_commonTags 18 = .ok (.invokestatic 104, 3) := by decide +kernel
theorem dX3_commonTags_21 : decode cX3_commonTags 21 = .ok (.ireturn, 1) := by decide +kernel
theorem dX3_matchSame_0 : decode cX3_matchSame 0 = .ok (.aload_n 0, 1) := by decide +kernel
theorem dX3_matchSame_1 : decode cX3_matchSame 1 = .ok (.iload_n 1, 1) := by decide +kernel
theorem dX3_matchSame_2 : decode cX3_matchSame 2 = .ok (.invokevirtual 132, 3) := by decide +kernel
theorem dX3_matchSame_5 : decode cX3_matchSame 5 = .ok (.aload_n 0, 1) := by decide +kernel
theorem dX3_matchSame_6 : decode cX3_matchSame 6 = .ok (.iload_n 2, 1) := by decide +kernel
theorem dX3_matchSame_7 : decode cX3_matchSame 7 = .ok (.invokevirtual 132, 3) := by decide +kernel
theorem dX3_matchSame_10 : decode cX3_matchSame 10 = .ok (.aload_n 0, 1) := by decide +kernel
theorem dX3_matchSame_11 : decode cX3_matchSame 11 = .ok (.getfield 19, 3) := by decide +kernel
theorem dX3_matchSame_14 : decode cX3_matchSame 14 = .ok (.getfield 151, 3) := by decide +kernel
theorem dX3_matchSame_17 : decode cX3_matchSame 17 = .ok (.iload_n 1, 1) := by decide +kernel
theorem dX3_matchSame_18 : decode cX3_matchSame 18 = .ok (.iaload, 1) := by decide +kernel
theorem dX3_matchSame_19 : decode cX3_matchSame 19 = .ok (.aload_n 0, 1) := by decide +kernel
theorem dX3_matchSame_20 : decode cX3_matchSame 20 = .ok (.getfield 19, 3) := by decide +kernel
theorem dX3_matchSame_23 : decode cX3_matchSame 23 = .ok (.getfield 151, 3) := by decide +kernel
theorem dX3_matchSame_26 : decode cX3_matchSame 26 = .ok (.iload_n 2, 1) := by decide +kernel
theorem dX3_matchSame_27 : decode cX3_matchSame 27 = .ok (.iaload, 1) := by decide +kernel
theorem dX3_matchSame_28 : decode cX3_matchSame 28 = .ok (.if_icmp .ne 7, 3) := by decide +kernel
theorem dX3_matchSame_31 : decode cX3_matchSame 31 = .ok (.iconst 1, 1) := by decide +kernel
theorem dX3_matchSame_32 : decode cX3_matchSame 32 = .ok (.goto 4, 3) := by decide +kernel
theorem dX3_matchSame_35 : decode cX3_matchSame 35 = .ok (.iconst 0, 1) := by decide +kernel
theorem dX3_matchSame_36 : decode cX3_matchSame 36 = .ok (.ireturn, 1) := by decide +kernel
theorem dX3_coverSize_0 : decode cX3_coverSize 0 = .ok (.aload_n 0, 1) := by decide +kernel
theorem dX3_coverSize_1 : decode cX3_coverSize 1 = .ok (.iload_n 1, 1) := by decide +kernel
theorem dX3_coverSize_2 : decode cX3_coverSize 2 = .ok (.invokevirtual 132, 3) := by decide +kernel
theorem dX3_coverSize_5 : decode cX3_coverSize 5 = .ok (.aload_n 0, 1) := by decide +kernel
theorem dX3_coverSize_6 : decode cX3_coverSize 6 = .ok (.iload_n 1, 1) := by decide +kernel
theorem dX3_coverSize_7 : decode cX3_coverSize 7 = .ok (.invokevirtual 160, 3) := by decide +kernel
theorem dX3_coverSize_10 : decode cX3_coverSize 10 = .ok (.invokestatic 104, 3) := by decide +kernel
theorem dX3_coverSize_13 : decode cX3_coverSize 13 = .ok (.ireturn, 1) := by decide +kernel
theorem dX3_coverTag_0 : decode cX3_coverTag 0 = .ok (.aload_n 0, 1) := by decide +kernel
theorem dX3_coverTag_1 : decode cX3_coverTag 1 = .ok (.iload_n 1, 1) := by decide +kernel
theorem dX3_coverTag_2 : decode cX3_coverTag 2 = .ok (.invokevirtual 132, 3) := by decide +kernel
theorem dX3_coverTag_5 : decode cX3_coverTag 5 = .ok (.aload_n 0, 1) := by decide +kernel
theorem dX3_coverTag_6 : decode cX3_coverTag 6 = .ok (.iload_n 1, 1) := by decide +kernel
theorem dX3_coverTag_7 : decode cX3_coverTag 7 = .ok (.invokevirtual 160, 3) := by decide +kernel
theorem dX3_coverTag_10 : decode cX3_coverTag 10 = .ok (.iload_n 2, 1) := by decide +kernel
theorem dX3_coverTag_11 : decode cX3_coverTag 11 = .ok (.invokestatic 163, 3) := by decide +kernel
theorem dX3_coverTag_14 : decode cX3_coverTag 14 = .ok (.istore_n 3, 1) := by decide +kernel
theorem dX3_coverTag_15 : decode cX3_coverTag 15 = .ok (.iload_n 3, 1) := by decide +kernel
theorem dX3_coverTag_16 : decode cX3_coverTag 16 = .ok (.iconst (-1), 1) := by decide +kernel
theorem dX3_coverTag_17 : decode cX3_coverTag 17 = .ok (.if_icmp .ne 13, 3) := by decide +kernel
theorem dX3_coverTag_20 : decode cX3_coverTag 20 = .ok (.new 166, 3) := by decide +kernel
theorem dX3_coverTag_23 : decode cX3_coverTag 23 = .ok (.dup, 1) := by decide +kernel
theorem dX3_coverTag_24 : decode cX3_coverTag 24 = .ok (.ldc 168, 2) := by decide +kernel
theorem dX3_coverTag_26 : decode cX3_coverTag 26 = .ok (.invokespecial 170, 3) := by decide +kernel
theorem dX3_coverTag_29 : decode cX3_coverTag 29 = .ok (.athrow, 1) := by decide +kernel
theorem dX3_coverTag_30 : decode cX3_coverTag 30 = .ok (.iload_n 3, 1) := by decide +kernel
theorem dX3_coverTag_31 : decode cX3_coverTag 31 = .ok (.ireturn, 1) := by decide +kernel
theorem dX3_tags_0 : decode cX3_tags 0 = .ok (.aload_n 0, 1) := by decide +kernel
theorem dX3_tags_1 : decode cX3_tags 1 = .ok (.getfield 10, 3) := by decide +kernel
theorem dX3_tags_4 : decode cX3_tags 4 = .ok (.getfield 43, 3) := by decide +kernel
theorem dX3_tags_7 : decode cX3_tags 7 = .ok (.ireturn, 1) := by decide +kernel
theorem dX3_dreams_0 : decode cX3_dreams 0 = .ok (.aload_n 0, 1) := by decide +kernel
theorem dX3_dreams_1 : decode cX3_dreams 1 = .ok (.getfield 84, 3) := by decide +kernel
theorem dX3_dreams_4 : decode cX3_dreams 4 = .ok (.ireturn, 1) := by decide +kernel
theorem dX3_terms_0 : decode cX3_terms 0 = .ok (.aload_n 0, 1) := by decide +kernel
theorem dX3_terms_1 : decode cX3_terms 1 = .ok (.getfield 19, 3) := by decide +kernel
theorem dX3_terms_4 : decode cX3_terms 4 = .ok (.getfield 135, 3) := by decide +kernel
theorem dX3_terms_7 : decode cX3_terms 7 = .ok (.ireturn, 1) := by decide +kernel
theorem dX3_nights_0 : decode cX3_nights 0 = .ok (.aload_n 0, 1) := by decide +kernel
theorem dX3_nights_1 : decode cX3_nights 1 = .ok (.getfield 89, 3) := by decide +kernel
theorem dX3_nights_4 : decode cX3_nights 4 = .ok (.ireturn, 1) := by decide +kernel
theorem dX3_fadedDreams_0 : decode cX3_fadedDreams 0 = .ok (.aload_n 0, 1) := by decide +kernel
theorem dX3_fadedDreams_1 : decode cX3_fadedDreams 1 = .ok (.iconst 0, 1) := by decide +kernel
theorem dX3_fadedDreams_2 : decode cX3_fadedDreams 2 = .ok (.invokevirtual 122, 3) := by decide +kernel
theorem dX3_fadedDreams_5 : decode cX3_fadedDreams 5 = .ok (.ireturn, 1) := by decide +kernel
theorem dX3_fadedAfter_0 : decode cX3_fadedAfter 0 = .ok (.aload_n 0, 1) := by decide +kernel
theorem dX3_fadedAfter_1 : decode cX3_fadedAfter 1 = .ok (.iload_n 1, 1) := by decide +kernel
theorem dX3_fadedAfter_2 : decode cX3_fadedAfter 2 = .ok (.invokevirtual 115, 3) := by decide +kernel
theorem dX3_fadedAfter_5 : decode cX3_fadedAfter 5 = .ok (.aload_n 0, 1) := by decide +kernel
theorem dX3_fadedAfter_6 : decode cX3_fadedAfter 6 = .ok (.iload_n 1, 1) := by decide +kernel
theorem dX3_fadedAfter_7 : decode cX3_fadedAfter 7 = .ok (.invokevirtual 122, 3) := by decide +kernel
theorem dX3_fadedAfter_10 : decode cX3_fadedAfter 10 = .ok (.ireturn, 1) := by decide +kernel
theorem dX3_matchesIfUnder_0 : decode cX3_matchesIfUnder 0 = .ok (.aload_n 0, 1) := by decide +kernel
theorem dX3_matchesIfUnder_1 : decode cX3_matchesIfUnder 1 = .ok (.iload_n 1, 1) := by decide +kernel
theorem dX3_matchesIfUnder_2 : decode cX3_matchesIfUnder 2 = .ok (.invokevirtual 132, 3) := by decide +kernel
theorem dX3_matchesIfUnder_5 : decode cX3_matchesIfUnder 5 = .ok (.aload_n 0, 1) := by decide +kernel
theorem dX3_matchesIfUnder_6 : decode cX3_matchesIfUnder 6 = .ok (.iload_n 2, 1) := by decide +kernel
theorem dX3_matchesIfUnder_7 : decode cX3_matchesIfUnder 7 = .ok (.iload_n 3, 1) := by decide +kernel
theorem dX3_matchesIfUnder_8 : decode cX3_matchesIfUnder 8 = .ok (.invokevirtual 58, 3) := by decide +kernel
theorem dX3_matchesIfUnder_11 : decode cX3_matchesIfUnder 11 = .ok (.aload_n 0, 1) := by decide +kernel
theorem dX3_matchesIfUnder_12 : decode cX3_matchesIfUnder 12 = .ok (.iload_n 1, 1) := by decide +kernel
theorem dX3_matchesIfUnder_13 : decode cX3_matchesIfUnder 13 = .ok (.iload_n 2, 1) := by decide +kernel
theorem dX3_matchesIfUnder_14 : decode cX3_matchesIfUnder 14 = .ok (.iload_n 3, 1) := by decide +kernel
theorem dX3_matchesIfUnder_15 : decode cX3_matchesIfUnder 15 = .ok (.invokevirtual 171, 3) := by decide +kernel
theorem dX3_matchesIfUnder_18 : decode cX3_matchesIfUnder 18 = .ok (.ireturn, 1) := by decide +kernel
theorem dX3_bestParent_0 : decode cX3_bestParent 0 = .ok (.aload_n 0, 1) := by decide +kernel
theorem dX3_bestParent_1 : decode cX3_bestParent 1 = .ok (.iload_n 1, 1) := by decide +kernel
theorem dX3_bestParent_2 : decode cX3_bestParent 2 = .ok (.invokevirtual 132, 3) := by decide +kernel
theorem dX3_bestParent_5 : decode cX3_bestParent 5 = .ok (.aload_n 0, 1) := by decide +kernel
theorem dX3_bestParent_6 : decode cX3_bestParent 6 = .ok (.iload_n 2, 1) := by decide +kernel
theorem dX3_bestParent_7 : decode cX3_bestParent 7 = .ok (.invokevirtual 76, 3) := by decide +kernel
theorem dX3_bestParent_10 : decode cX3_bestParent 10 = .ok (.iconst (-1), 1) := by decide +kernel
theorem dX3_bestParent_11 : decode cX3_bestParent 11 = .ok (.istore_n 3, 1) := by decide +kernel
theorem dX3_bestParent_12 : decode cX3_bestParent 12 = .ok (.aload_n 0, 1) := by decide +kernel
theorem dX3_bestParent_13 : decode cX3_bestParent 13 = .ok (.getfield 19, 3) := by decide +kernel
theorem dX3_bestParent_16 : decode cX3_bestParent 16 = .ok (.getfield 151, 3) := by decide +kernel
theorem dX3_bestParent_19 : decode cX3_bestParent 19 = .ok (.iload_n 1, 1) := by decide +kernel
theorem dX3_bestParent_20 : decode cX3_bestParent 20 = .ok (.iaload, 1) := by decide +kernel
theorem dX3_bestParent_21 : decode cX3_bestParent 21 = .ok (.invokestatic 104, 3) := by decide +kernel
theorem dX3_bestParent_24 : decode cX3_bestParent 24 = .ok (.istore 4, 2) := by decide +kernel
theorem dX3_bestParent_26 : decode cX3_bestParent 26 = .ok (.iconst 0, 1) := by decide +kernel
theorem dX3_bestParent_27 : decode cX3_bestParent 27 = .ok (.istore 5, 2) := by decide +kernel
theorem dX3_bestParent_29 : decode cX3_bestParent 29 = .ok (.iload 5, 2) := by decide +kernel
theorem dX3_bestParent_31 : decode cX3_bestParent 31 = .ok (.aload_n 0, 1) := by decide +kernel
theorem dX3_bestParent_32 : decode cX3_bestParent 32 = .ok (.getfield 10, 3) := by decide +kernel
theorem dX3_bestParent_35 : decode cX3_bestParent 35 = .ok (.getfield 43, 3) := by decide +kernel
theorem dX3_bestParent_38 : decode cX3_bestParent 38 = .ok (.if_icmp .ge 46, 3) := by decide +kernel
theorem dX3_bestParent_41 : decode cX3_bestParent 41 = .ok (.aload_n 0, 1) := by decide +kernel
theorem dX3_bestParent_42 : decode cX3_bestParent 42 = .ok (.getfield 10, 3) := by decide +kernel
theorem dX3_bestParent_45 : decode cX3_bestParent 45 = .ok (.iload_n 2, 1) := by decide +kernel
theorem dX3_bestParent_46 : decode cX3_bestParent 46 = .ok (.iload 5, 2) := by decide +kernel
theorem dX3_bestParent_48 : decode cX3_bestParent 48 = .ok (.invokevirtual 174, 3) := by decide +kernel
theorem dX3_bestParent_51 : decode cX3_bestParent 51 = .ok (.ifCond .eq 27, 3) := by decide +kernel
theorem dX3_bestParent_54 : decode cX3_bestParent 54 = .ok (.aload_n 0, 1) := by decide +kernel
theorem dX3_bestParent_55 : decode cX3_bestParent 55 = .ok (.iload_n 1, 1) := by decide +kernel
theorem dX3_bestParent_56 : decode cX3_bestParent 56 = .ok (.iload_n 2, 1) := by decide +kernel
theorem dX3_bestParent_57 : decode cX3_bestParent 57 = .ok (.iload 5, 2) := by decide +kernel
theorem dX3_bestParent_59 : decode cX3_bestParent 59 = .ok (.invokevirtual 171, 3) := by decide +kernel
theorem dX3_bestParent_62 : decode cX3_bestParent 62 = .ok (.istore 6, 2) := by decide +kernel
theorem dX3_bestParent_64 : decode cX3_bestParent 64 = .ok (.iload 6, 2) := by decide +kernel
theorem dX3_bestParent_66 : decode cX3_bestParent 66 = .ok (.iload 4, 2) := by decide +kernel
theorem dX3_bestParent_68 : decode cX3_bestParent 68 = .ok (.if_icmp .le 10, 3) := by decide +kernel
theorem dX3_bestParent_71 : decode cX3_bestParent 71 = .ok (.iload 6, 2) := by decide +kernel
theorem dX3_bestParent_73 : decode cX3_bestParent 73 = .ok (.istore 4, 2) := by decide +kernel
theorem dX3_bestParent_75 : decode cX3_bestParent 75 = .ok (.iload 5, 2) := by decide +kernel
theorem dX3_bestParent_77 : decode cX3_bestParent 77 = .ok (.istore_n 3, 1) := by decide +kernel
theorem dX3_bestParent_78 : decode cX3_bestParent 78 = .ok (.iinc 5 1, 3) := by decide +kernel
theorem dX3_bestParent_81 : decode cX3_bestParent 81 = .ok (.goto (-52), 3) := by decide +kernel
theorem dX3_bestParent_84 : decode cX3_bestParent 84 = .ok (.iload_n 3, 1) := by decide +kernel
theorem dX3_bestParent_85 : decode cX3_bestParent 85 = .ok (.ireturn, 1) := by decide +kernel
theorem dX3_meanVividness_0 : decode cX3_meanVividness 0 = .ok (.aload_n 0, 1) := by decide +kernel
theorem dX3_meanVividness_1 : decode cX3_meanVividness 1 = .ok (.getfield 84, 3) := by decide +kernel
theorem dX3_meanVividness_4 : decode cX3_meanVividness 4 = .ok (.ifCond .ne 5, 3) := by decide +kernel
theorem dX3_meanVividness_7 : decode cX3_meanVividness 7 = .ok (.dconst 0, 1) := by decide +kernel
theorem dX3_meanVividness_8 : decode cX3_meanVividness 8 = .ok (.dreturn, 1) := by decide +kernel
theorem dX3_meanVividness_9 : decode cX3_meanVividness 9 = .ok (.iconst 0, 1) := by decide +kernel
theorem dX3_meanVividness_10 : decode cX3_meanVividness 10 = .ok (.istore_n 1, 1) := by decide +kernel
theorem dX3_meanVividness_11 : decode cX3_meanVividness 11 = .ok (.iconst 0, 1) := by decide +kernel
theorem dX3_meanVividness_12 : decode cX3_meanVividness 12 = .ok (.istore_n 2, 1) := by decide +kernel
theorem dX3_meanVividness_13 : decode cX3_meanVividness 13 = .ok (.iload_n 2, 1) := by decide +kernel
theorem dX3_meanVividness_14 : decode cX3_meanVividness 14 = .ok (.aload_n 0, 1) := by decide +kernel
theorem dX3_meanVividness_15 : decode cX3_meanVividness 15 = .ok (.getfield 84, 3) := by decide +kernel
theorem dX3_meanVividness_18 : decode cX3_meanVividness 18 = .ok (.if_icmp .ge 18, 3) := by decide +kernel
theorem dX3_meanVividness_21 : decode cX3_meanVividness 21 = .ok (.iload_n 1, 1) := by decide +kernel
theorem dX3_meanVividness_22 : decode cX3_meanVividness 22 = .ok (.aload_n 0, 1) := by decide +kernel
theorem dX3_meanVividness_23 : decode cX3_meanVividness 23 = .ok (.getfield 37, 3) := by decide +kernel
theorem dX3_meanVividness_26 : decode cX3_meanVividness 26 = .ok (.iload_n 2, 1) := by decide +kernel
theorem dX3_meanVividness_27 : decode cX3_meanVividness 27 = .ok (.iaload, 1) := by decide +kernel
theorem dX3_meanVividness_28 : decode cX3_meanVividness 28 = .ok (.iadd, 1) := by decide +kernel
theorem dX3_meanVividness_29 : decode cX3_meanVividness 29 = .ok (.istore_n 1, 1) := by decide +kernel
theorem dX3_meanVividness_30 : decode cX3_meanVividness 30 = .ok (.iinc 2 1, 3) := by decide +kernel
theorem dX3_meanVividness_33 : decode cX3_meanVividness 33 = .ok (.goto (-20), 3) := by decide +kernel
theorem dX3_meanVividness_36 : decode cX3_meanVividness 36 = .ok (.iload_n 1, 1) := by decide +kernel
theorem dX3_meanVividness_37 : decode cX3_meanVividness 37 = .ok (.i2d, 1) := by decide +kernel
theorem dX3_meanVividness_38 : decode cX3_meanVividness 38 = .ok (.aload_n 0, 1) := by decide +kernel
theorem dX3_meanVividness_39 : decode cX3_meanVividness 39 = .ok (.getfield 84, 3) := by decide +kernel
theorem dX3_meanVividness_42 : decode cX3_meanVividness 42 = .ok (.i2d, 1) := by decide +kernel
theorem dX3_meanVividness_43 : decode cX3_meanVividness 43 = .ok (.ddiv, 1) := by decide +kernel
theorem dX3_meanVividness_44 : decode cX3_meanVividness 44 = .ok (.dreturn, 1) := by decide +kernel
theorem dX3_digest_0 : decode cX3_digest 0 = .ok (.ldc2_w 177, 3) := by decide +kernel
theorem dX3_digest_3 : decode cX3_digest 3 = .ok (.lstore_n 1, 1) := by decide +kernel
theorem dX3_digest_4 : decode cX3_digest 4 = .ok (.lload_n 1, 1) := by decide +kernel
theorem dX3_digest_5 : decode cX3_digest 5 = .ok (.aload_n 0, 1) := by decide +kernel
theorem dX3_digest_6 : decode cX3_digest 6 = .ok (.getfield 10, 3) := by decide +kernel
theorem dX3_digest_9 : decode cX3_digest 9 = .ok (.getfield 43, 3) := by decide +kernel
theorem dX3_digest_12 : decode cX3_digest 12 = .ok (.i2l, 1) := by decide +kernel
theorem dX3_digest_13 : decode cX3_digest 13 = .ok (.invokestatic 179, 3) := by decide +kernel
theorem dX3_digest_16 : decode cX3_digest 16 = .ok (.lstore_n 1, 1) := by decide +kernel
theorem dX3_digest_17 : decode cX3_digest 17 = .ok (.lload_n 1, 1) := by decide +kernel
theorem dX3_digest_18 : decode cX3_digest 18 = .ok (.aload_n 0, 1) := by decide +kernel
theorem dX3_digest_19 : decode cX3_digest 19 = .ok (.getfield 84, 3) := by decide +kernel
theorem dX3_digest_22 : decode cX3_digest 22 = .ok (.i2l, 1) := by decide +kernel
theorem dX3_digest_23 : decode cX3_digest 23 = .ok (.invokestatic 179, 3) := by decide +kernel
theorem dX3_digest_26 : decode cX3_digest 26 = .ok (.lstore_n 1, 1) := by decide +kernel
theorem dX3_digest_27 : decode cX3_digest 27 = .ok (.lload_n 1, 1) := by decide +kernel
theorem dX3_digest_28 : decode cX3_digest 28 = .ok (.aload_n 0, 1) := by decide +kernel
theorem dX3_digest_29 : decode cX3_digest 29 = .ok (.getfield 19, 3) := by decide +kernel
theorem dX3_digest_32 : decode cX3_digest 32 = .ok (.getfield 135, 3) := by decide +kernel
theorem dX3_digest_35 : decode cX3_digest 35 = .ok (.i2l, 1) := by decide +kernel
theorem dX3_digest_36 : decode cX3_digest 36 = .ok (.invokestatic 179, 3) := by decide +kernel
theorem dX3_digest_39 : decode cX3_digest 39 = .ok (.lstore_n 1, 1) := by decide +kernel
theorem dX3_digest_40 : decode cX3_digest 40 = .ok (.lload_n 1, 1) := by decide +kernel
theorem dX3_digest_41 : decode cX3_digest 41 = .ok (.aload_n 0, 1) := by decide +kernel
theorem dX3_digest_42 : decode cX3_digest 42 = .ok (.getfield 89, 3) := by decide +kernel
theorem dX3_digest_45 : decode cX3_digest 45 = .ok (.i2l, 1) := by decide +kernel
theorem dX3_digest_46 : decode cX3_digest 46 = .ok (.invokestatic 179, 3) := by decide +kernel
theorem dX3_digest_49 : decode cX3_digest 49 = .ok (.lstore_n 1, 1) := by decide +kernel
theorem dX3_digest_50 : decode cX3_digest 50 = .ok (.lload_n 1, 1) := by decide +kernel
theorem dX3_digest_51 : decode cX3_digest 51 = .ok (.aload_n 0, 1) := by decide +kernel
theorem dX3_digest_52 : decode cX3_digest 52 = .ok (.iconst 0, 1) := by decide +kernel
theorem dX3_digest_53 : decode cX3_digest 53 = .ok (.invokevirtual 122, 3) := by decide +kernel
theorem dX3_digest_56 : decode cX3_digest 56 = .ok (.i2l, 1) := by decide +kernel
theorem dX3_digest_57 : decode cX3_digest 57 = .ok (.invokestatic 179, 3) := by decide +kernel
theorem dX3_digest_60 : decode cX3_digest 60 = .ok (.lstore_n 1, 1) := by decide +kernel
theorem dX3_digest_61 : decode cX3_digest 61 = .ok (.iconst 0, 1) := by decide +kernel
theorem dX3_digest_62 : decode cX3_digest 62 = .ok (.istore_n 3, 1) := by decide +kernel
theorem dX3_digest_63 : decode cX3_digest 63 = .ok (.iload_n 3, 1) := by decide +kernel
theorem dX3_digest_64 : decode cX3_digest 64 = .ok (.aload_n 0, 1) := by decide +kernel
theorem dX3_digest_65 : decode cX3_digest 65 = .ok (.getfield 10, 3) := by decide +kernel
theorem dX3_digest_68 : decode cX3_digest 68 = .ok (.getfield 43, 3) := by decide +kernel
theorem dX3_digest_71 : decode cX3_digest 71 = .ok (.if_icmp .ge 16, 3) := by decide +kernel
theorem dX3_digest_74 : decode cX3_digest 74 = .ok (.aload_n 0, 1) := by decide +kernel
theorem dX3_digest_75 : decode cX3_digest 75 = .ok (.lload_n 1, 1) := by decide +kernel
theorem dX3_digest_76 : decode cX3_digest 76 = .ok (.iload_n 3, 1) := by decide +kernel
theorem dX3_digest_77 : decode cX3_digest 77 = .ok (.invokevirtual 183, 3) := by decide +kernel
theorem dX3_digest_80 : decode cX3_digest 80 = .ok (.lstore_n 1, 1) := by decide +kernel
theorem dX3_digest_81 : decode cX3_digest 81 = .ok (.iinc 3 1, 3) := by decide +kernel
theorem dX3_digest_84 : decode cX3_digest 84 = .ok (.goto (-21), 3) := by decide +kernel
theorem dX3_digest_87 : decode cX3_digest 87 = .ok (.iconst 0, 1) := by decide +kernel
theorem dX3_digest_88 : decode cX3_digest 88 = .ok (.istore_n 3, 1) := by decide +kernel
theorem dX3_digest_89 : decode cX3_digest 89 = .ok (.iload_n 3, 1) := by decide +kernel
theorem dX3_digest_90 : decode cX3_digest 90 = .ok (.aload_n 0, 1) := by decide +kernel
theorem dX3_digest_91 : decode cX3_digest 91 = .ok (.getfield 84, 3) := by decide +kernel
theorem dX3_digest_94 : decode cX3_digest 94 = .ok (.if_icmp .ge 16, 3) := by decide +kernel
theorem dX3_digest_97 : decode cX3_digest 97 = .ok (.aload_n 0, 1) := by decide +kernel
theorem dX3_digest_98 : decode cX3_digest 98 = .ok (.lload_n 1, 1) := by decide +kernel
theorem dX3_digest_99 : decode cX3_digest 99 = .ok (.iload_n 3, 1) := by decide +kernel
theorem dX3_digest_100 : decode cX3_digest 100 = .ok (.invokevirtual 187, 3) := by decide +kernel
theorem dX3_digest_103 : decode cX3_digest 103 = .ok (.lstore_n 1, 1) := by decide +kernel
theorem dX3_digest_104 : decode cX3_digest 104 = .ok (.iinc 3 1, 3) := by decide +kernel
theorem dX3_digest_107 : decode cX3_digest 107 = .ok (.goto (-18), 3) := by decide +kernel
theorem dX3_digest_110 : decode cX3_digest 110 = .ok (.iconst 0, 1) := by decide +kernel
theorem dX3_digest_111 : decode cX3_digest 111 = .ok (.istore_n 3, 1) := by decide +kernel
theorem dX3_digest_112 : decode cX3_digest 112 = .ok (.iload_n 3, 1) := by decide +kernel
theorem dX3_digest_113 : decode cX3_digest 113 = .ok (.aload_n 0, 1) := by decide +kernel
theorem dX3_digest_114 : decode cX3_digest 114 = .ok (.getfield 19, 3) := by decide +kernel
theorem dX3_digest_117 : decode cX3_digest 117 = .ok (.getfield 135, 3) := by decide +kernel
theorem dX3_digest_120 : decode cX3_digest 120 = .ok (.if_icmp .ge 16, 3) := by decide +kernel
theorem dX3_digest_123 : decode cX3_digest 123 = .ok (.aload_n 0, 1) := by decide +kernel
theorem dX3_digest_124 : decode cX3_digest 124 = .ok (.lload_n 1, 1) := by decide +kernel
theorem dX3_digest_125 : decode cX3_digest 125 = .ok (.iload_n 3, 1) := by decide +kernel
theorem dX3_digest_126 : decode cX3_digest 126 = .ok (.invokevirtual 190, 3) := by decide +kernel
theorem dX3_digest_129 : decode cX3_digest 129 = .ok (.lstore_n 1, 1) := by decide +kernel
theorem dX3_digest_130 : decode cX3_digest 130 = .ok (.iinc 3 1, 3) := by decide +kernel
theorem dX3_digest_133 : decode cX3_digest 133 = .ok (.goto (-21), 3) := by decide +kernel
theorem dX3_digest_136 : decode cX3_digest 136 = .ok (.lload_n 1, 1) := by decide +kernel
theorem dX3_digest_137 : decode cX3_digest 137 = .ok (.lreturn, 1) := by decide +kernel
theorem dX3_requireTag_0 : decode cX3_requireTag 0 = .ok (.iload_n 1, 1) := by decide +kernel
theorem dX3_requireTag_1 : decode cX3_requireTag 1 = .ok (.ifCond .lt 14, 3) := by decide +kernel
theorem dX3_requireTag_4 : decode cX3_requireTag 4 = .ok (.iload_n 1, 1) := by decide +kernel
theorem dX3_requireTag_5 : decode cX3_requireTag 5 = .ok (.aload_n 0, 1) := by decide +kernel
theorem dX3_requireTag_6 : decode cX3_requireTag 6 = .ok (.getfield 10, 3) := by decide +kernel
theorem dX3_requireTag_9 : decode cX3_requireTag 9 = .ok (.getfield 43, 3) := by decide +kernel
theorem dX3_requireTag_12 : decode cX3_requireTag 12 = .ok (.if_icmp .lt 13, 3) := by decide +kernel
theorem dX3_requireTag_15 : decode cX3_requireTag 15 = .ok (.new 166, 3) := by decide +kernel
theorem dX3_requireTag_18 : decode cX3_requireTag 18 = .ok (.dup, 1) := by decide +kernel
theorem dX3_requireTag_19 : decode cX3_requireTag 19 = .ok (.ldc 193, 2) := by decide +kernel
theorem dX3_requireTag_21 : decode cX3_requireTag 21 = .ok (.invokespecial 170, 3) := by decide +kernel
theorem dX3_requireTag_24 : decode cX3_requireTag 24 = .ok (.athrow, 1) := by decide +kernel
theorem dX3_requireTag_25 : decode cX3_requireTag 25 = .ok (.return_, 1) := by decide +kernel
theorem dX3_requireDream_0 : decode cX3_requireDream 0 = .ok (.iload_n 1, 1) := by decide +kernel
theorem dX3_requireDream_1 : decode cX3_requireDream 1 = .ok (.ifCond .lt 11, 3) := by decide +kernel
theorem dX3_requireDream_4 : decode cX3_requireDream 4 = .ok (.iload_n 1, 1) := by decide +kernel
theorem dX3_requireDream_5 : decode cX3_requireDream 5 = .ok (.aload_n 0, 1) := by decide +kernel
theorem dX3_requireDream_6 : decode cX3_requireDream 6 = .ok (.getfield 84, 3) := by decide +kernel
theorem dX3_requireDream_9 : decode cX3_requireDream 9 = .ok (.if_icmp .lt 13, 3) := by decide +kernel
theorem dX3_requireDream_12 : decode cX3_requireDream 12 = .ok (.new 166, 3) := by decide +kernel
theorem dX3_requireDream_15 : decode cX3_requireDream 15 = .ok (.dup, 1) := by decide +kernel
theorem dX3_requireDream_16 : decode cX3_requireDream 16 = .ok (.ldc 195, 2) := by decide +kernel
theorem dX3_requireDream_18 : decode cX3_requireDream 18 = .ok (.invokespecial 170, 3) := by decide +kernel
theorem dX3_requireDream_21 : decode cX3_requireDream 21 = .ok (.athrow, 1) := by decide +kernel
theorem dX3_requireDream_22 : decode cX3_requireDream 22 = .ok (.return_, 1) := by decide +kernel
theorem dX3_requireTerm_0 : decode cX3_requireTerm 0 = .ok (.iload_n 1, 1) := by decide +kernel
theorem dX3_requireTerm_1 : decode cX3_requireTerm 1 = .ok (.ifCond .lt 14, 3) := by decide +kernel
theorem dX3_requireTerm_4 : decode cX3_requireTerm 4 = .ok (.iload_n 1, 1) := by decide +kernel
theorem dX3_requireTerm_5 : decode cX3_requireTerm 5 = .ok (.aload_n 0, 1) := by decide +kernel
theorem dX3_requireTerm_6 : decode cX3_requireTerm 6 = .ok (.getfield 19, 3) := by decide +kernel
theorem dX3_requireTerm_9 : decode cX3_requireTerm 9 = .ok (.getfield 135, 3) := by decide +kernel
theorem dX3_requireTerm_12 : decode cX3_requireTerm 12 = .ok (.if_icmp .lt 13, 3) := by decide +kernel
theorem dX3_requireTerm_15 : decode cX3_requireTerm 15 = .ok (.new 166, 3) := by decide +kernel
theorem dX3_requireTerm_18 : decode cX3_requireTerm 18 = .ok (.dup, 1) := by decide +kernel
theorem dX3_requireTerm_19 : decode cX3_requireTerm 19 = .ok (.ldc 197, 2) := by decide +kernel
theorem dX3_requireTerm_21 : decode cX3_requireTerm 21 = .ok (.invokespecial 170, 3) := by decide +kernel
theorem dX3_requireTerm_24 : decode cX3_requireTerm 24 = .ok (.athrow, 1) := by decide +kernel
theorem dX3_requireTerm_25 : decode cX3_requireTerm 25 = .ok (.return_, 1) := by decide +kernel
theorem dX3_requireParent_0 : decode cX3_requireParent 0 = .ok (.aload_n 0, 1) := by decide +kernel
theorem dX3_requireParent_1 : decode cX3_requireParent 1 = .ok (.iload_n 1, 1) := by decide +kernel
theorem dX3_requireParent_2 : decode cX3_requireParent 2 = .ok (.invokevirtual 76, 3) := by decide +kernel
theorem dX3_requireParent_5 : decode cX3_requireParent 5 = .ok (.aload_n 0, 1) := by decide +kernel
theorem dX3_requireParent_6 : decode cX3_requireParent 6 = .ok (.getfield 10, 3) := by decide +kernel
theorem dX3_requireParent_9 : decode cX3_requireParent 9 = .ok (.getfield 73, 3) := by decide +kernel
theorem dX3_requireParent_12 : decode cX3_requireParent 12 = .ok (.iload_n 1, 1) := by decide +kernel
theorem dX3_requireParent_13 : decode cX3_requireParent 13 = .ok (.iaload, 1) := by decide +kernel
theorem dX3_requireParent_14 : decode cX3_requireParent 14 = .ok (.iconst (-1), 1) := by decide +kernel
theorem dX3_requireParent_15 : decode cX3_requireParent 15 = .ok (.if_icmp .ne 13, 3) := by decide +kernel
theorem dX3_requireParent_18 : decode cX3_requireParent 18 = .ok (.new 47, 3) := by decide +kernel
theorem dX3_requireParent_21 : decode cX3_requireParent 21 = .ok (.dup, 1) := by decide +kernel
theorem dX3_requireParent_22 : decode cX3_requireParent 22 = .ok (.ldc 199, 2) := by decide +kernel
theorem dX3_requireParent_24 : decode cX3_requireParent 24 = .ok (.invokespecial 51, 3) := by decide +kernel
theorem dX3_requireParent_27 : decode cX3_requireParent 27 = .ok (.athrow, 1) := by decide +kernel
theorem dX3_requireParent_28 : decode cX3_requireParent 28 = .ok (.return_, 1) := by decide +kernel
theorem dX3_requirePlaceUnder_0 : decode cX3_requirePlaceUnder 0 = .ok (.aload_n 0, 1) := by decide +kernel
theorem dX3_requirePlaceUnder_1 : decode cX3_requirePlaceUnder 1 = .ok (.iload_n 1, 1) := by decide +kernel
theorem dX3_requirePlaceUnder_2 : decode cX3_requirePlaceUnder 2 = .ok (.invokevirtual 76, 3) := by decide +kernel
theorem dX3_requirePlaceUnder_5 : decode cX3_requirePlaceUnder 5 = .ok (.aload_n 0, 1) := by decide +kernel
theorem dX3_requirePlaceUnder_6 : decode cX3_requirePlaceUnder 6 = .ok (.iload_n 2, 1) := by decide +kernel
theorem dX3_requirePlaceUnder_7 : decode cX3_requirePlaceUnder 7 = .ok (.invokevirtual 76, 3) := by decide +kernel
theorem dX3_requirePlaceUnder_10 : decode cX3_requirePlaceUnder 10 = .ok (.iload_n 1, 1) := by decide +kernel
theorem dX3_requirePlaceUnder_11 : decode cX3_requirePlaceUnder 11 = .ok (.iload_n 2, 1) := by decide +kernel
theorem dX3_requirePlaceUnder_12 : decode cX3_requirePlaceUnder 12 = .ok (.if_icmp .ne 13, 3) := by decide +kernel
theorem dX3_requirePlaceUnder_15 : decode cX3_requirePlaceUnder 15 = .ok (.new 79, 3) := by decide +kernel
theorem dX3_requirePlaceUnder_18 : decode cX3_requirePlaceUnder 18 = .ok (.dup, 1) := by decide +kernel
theorem dX3_requirePlaceUnder_19 : decode cX3_requirePlaceUnder 19 = .ok (.ldc 201, 2) := by decide +kernel
theorem dX3_requirePlaceUnder_21 : decode cX3_requirePlaceUnder 21 = .ok (.invokespecial 83, 3) := by decide +kernel
theorem dX3_requirePlaceUnder_24 : decode cX3_requirePlaceUnder 24 = .ok (.athrow, 1) := by decide +kernel
theorem dX3_requirePlaceUnder_25 : decode cX3_requirePlaceUnder 25 = .ok (.aload_n 0, 1) := by decide +kernel
theorem dX3_requirePlaceUnder_26 : decode cX3_requirePlaceUnder 26 = .ok (.getfield 10, 3) := by decide +kernel
theorem dX3_requirePlaceUnder_29 : decode cX3_requirePlaceUnder 29 = .ok (.iload_n 1, 1) := by decide +kernel
theorem dX3_requirePlaceUnder_30 : decode cX3_requirePlaceUnder 30 = .ok (.iload_n 2, 1) := by decide +kernel
theorem dX3_requirePlaceUnder_31 : decode cX3_requirePlaceUnder 31 = .ok (.invokevirtual 174, 3) := by decide +kernel
theorem dX3_requirePlaceUnder_34 : decode cX3_requirePlaceUnder 34 = .ok (.ifCond .ne 13, 3) := by decide +kernel
theorem dX3_requirePlaceUnder_37 : decode cX3_requirePlaceUnder 37 = .ok (.new 47, 3) := by decide +kernel
theorem dX3_requirePlaceUnder_40 : decode cX3_requirePlaceUnder 40 = .ok (.dup, 1) := by decide +kernel
theorem dX3_requirePlaceUnder_41 : decode cX3_requirePlaceUnder 41 = .ok (.ldc 203, 2) := by decide +kernel
theorem dX3_requirePlaceUnder_43 : decode cX3_requirePlaceUnder 43 = .ok (.invokespecial 51, 3) := by decide +kernel
theorem dX3_requirePlaceUnder_46 : decode cX3_requirePlaceUnder 46 = .ok (.athrow, 1) := by decide +kernel
theorem dX3_requirePlaceUnder_47 : decode cX3_requirePlaceUnder 47 = .ok (.return_, 1) := by decide +kernel
theorem dX3_requireNights_0 : decode cX3_requireNights 0 = .ok (.iload_n 1, 1) := by decide +kernel
theorem dX3_requireNights_1 : decode cX3_requireNights 1 = .ok (.iconst 1, 1) := by decide +kernel
theorem dX3_requireNights_2 : decode cX3_requireNights 2 = .ok (.if_icmp .lt 9, 3) := by decide +kernel
theorem dX3_requireNights_5 : decode cX3_requireNights 5 = .ok (.iload_n 1, 1) := by decide +kernel
theorem dX3_requireNights_6 : decode cX3_requireNights 6 = .ok (.bipush 30, 2) := by decide +kernel
theorem dX3_requireNights_8 : decode cX3_requireNights 8 = .ok (.if_icmp .le 13, 3) := by decide +kernel
theorem dX3_requireNights_11 : decode cX3_requireNights 11 = .ok (.new 79, 3) := by decide +kernel
theorem dX3_requireNights_14 : decode cX3_requireNights 14 = .ok (.dup, 1) := by decide +kernel
theorem dX3_requireNights_15 : decode cX3_requireNights 15 = .ok (.ldc 205, 2) := by decide +kernel
theorem dX3_requireNights_17 : decode cX3_requireNights 17 = .ok (.invokespecial 83, 3) := by decide +kernel
theorem dX3_requireNights_20 : decode cX3_requireNights 20 = .ok (.athrow, 1) := by decide +kernel
theorem dX3_requireNights_21 : decode cX3_requireNights 21 = .ok (.return_, 1) := by decide +kernel
theorem dX3_requireRoomForTerm_0 : decode cX3_requireRoomForTerm 0 = .ok (.aload_n 0, 1) := by decide +kernel
theorem dX3_requireRoomForTerm_1 : decode cX3_requireRoomForTerm 1 = .ok (.getfield 19, 3) := by decide +kernel
theorem dX3_requireRoomForTerm_4 : decode cX3_requireRoomForTerm 4 = .ok (.getfield 135, 3) := by decide +kernel
theorem dX3_requireRoomForTerm_7 : decode cX3_requireRoomForTerm 7 = .ok (.bipush 20, 2) := by decide +kernel
theorem dX3_requireRoomForTerm_9 : decode cX3_requireRoomForTerm 9 = .ok (.if_icmp .lt 13, 3) := by decide +kernel
theorem dX3_requireRoomForTerm_12 : decode cX3_requireRoomForTerm 12 = .ok (.new 47, 3) := by decide +kernel
theorem dX3_requireRoomForTerm_15 : decode cX3_requireRoomForTerm 15 = .ok (.dup, 1) := by decide +kernel
theorem dX3_requireRoomForTerm_16 : decode cX3_requireRoomForTerm 16 = .ok (.ldc 207, 2) := by decide +kernel
theorem dX3_requireRoomForTerm_18 : decode cX3_requireRoomForTerm 18 = .ok (.invokespecial 51, 3) := by decide +kernel
theorem dX3_requireRoomForTerm_21 : decode cX3_requireRoomForTerm 21 = .ok (.athrow, 1) := by decide +kernel
theorem dX3_requireRoomForTerm_22 : decode cX3_requireRoomForTerm 22 = .ok (.return_, 1) := by decide +kernel
theorem dX3_moveTag_0 : decode cX3_moveTag 0 = .ok (.aload_n 0, 1) := by decide +kernel
theorem dX3_moveTag_1 : decode cX3_moveTag 1 = .ok (.getfield 10, 3) := by decide +kernel
theorem dX3_moveTag_4 : decode cX3_moveTag 4 = .ok (.iload_n 1, 1) := by decide +kernel
theorem dX3_moveTag_5 : decode cX3_moveTag 5 = .ok (.iload_n 2, 1) := by decide +kernel
theorem dX3_moveTag_6 : decode cX3_moveTag 6 = .ok (.invokevirtual 209, 3) := by decide +kernel
theorem dX3_moveTag_9 : decode cX3_moveTag 9 = .ok (.iconst 0, 1) := by decide +kernel
theorem dX3_moveTag_10 : decode cX3_moveTag 10 = .ok (.istore_n 3, 1) := by decide +kernel
theorem dX3_moveTag_11 : decode cX3_moveTag 11 = .ok (.iload_n 3, 1) := by decide +kernel
theorem dX3_moveTag_12 : decode cX3_moveTag 12 = .ok (.aload_n 0, 1) := by decide +kernel
theorem dX3_moveTag_13 : decode cX3_moveTag 13 = .ok (.getfield 84, 3) := by decide +kernel
theorem dX3_moveTag_16 : decode cX3_moveTag 16 = .ok (.if_icmp .ge 28, 3) := by decide +kernel
theorem dX3_moveTag_19 : decode cX3_moveTag 19 = .ok (.aload_n 0, 1) := by decide +kernel
theorem dX3_moveTag_20 : decode cX3_moveTag 20 = .ok (.getfield 34, 3) := by decide +kernel
theorem dX3_moveTag_23 : decode cX3_moveTag 23 = .ok (.iload_n 3, 1) := by decide +kernel
theorem dX3_moveTag_24 : decode cX3_moveTag 24 = .ok (.aload_n 0, 1) := by decide +kernel
theorem dX3_moveTag_25 : decode cX3_moveTag 25 = .ok (.getfield 10, 3) := by decide +kernel
theorem dX3_moveTag_28 : decode cX3_moveTag 28 = .ok (.aload_n 0, 1) := by decide +kernel
theorem dX3_moveTag_29 : decode cX3_moveTag 29 = .ok (.getfield 30, 3) := by decide +kernel
theorem dX3_moveTag_32 : decode cX3_moveTag 32 = .ok (.iload_n 3, 1) := by decide +kernel
theorem dX3_moveTag_33 : decode cX3_moveTag 33 = .ok (.iaload, 1) := by decide +kernel
theorem dX3_moveTag_34 : decode cX3_moveTag 34 = .ok (.invokevirtual 212, 3) := by decide +kernel
theorem dX3_moveTag_37 : decode cX3_moveTag 37 = .ok (.iastore, 1) := by decide +kernel
theorem dX3_moveTag_38 : decode cX3_moveTag 38 = .ok (.iinc 3 1, 3) := by decide +kernel
theorem dX3_moveTag_41 : decode cX3_moveTag 41 = .ok (.goto (-30), 3) := by decide +kernel
theorem dX3_moveTag_44 : decode cX3_moveTag 44 = .ok (.aload_n 0, 1) := by decide +kernel
theorem dX3_moveTag_45 : decode cX3_moveTag 45 = .ok (.invokevirtual 215, 3) := by decide +kernel
theorem dX3_moveTag_48 : decode cX3_moveTag 48 = .ok (.return_, 1) := by decide +kernel
theorem dX3_setOwnTags_0 : decode cX3_setOwnTags 0 = .ok (.aload_n 0, 1) := by decide +kernel
theorem dX3_setOwnTags_1 : decode cX3_setOwnTags 1 = .ok (.getfield 30, 3) := by decide +kernel
theorem dX3_setOwnTags_4 : decode cX3_setOwnTags 4 = .ok (.iload_n 1, 1) := by decide +kernel
theorem dX3_setOwnTags_5 : decode cX3_setOwnTags 5 = .ok (.iload_n 2, 1) := by decide +kernel
theorem dX3_setOwnTags_6 : decode cX3_setOwnTags 6 = .ok (.iastore, 1) := by decide +kernel
theorem dX3_setOwnTags_7 : decode cX3_setOwnTags 7 = .ok (.aload_n 0, 1) := by decide +kernel
theorem dX3_setOwnTags_8 : decode cX3_setOwnTags 8 = .ok (.getfield 34, 3) := by decide +kernel
theorem dX3_setOwnTags_11 : decode cX3_setOwnTags 11 = .ok (.iload_n 1, 1) := by decide +kernel
theorem dX3_setOwnTags_12 : decode cX3_setOwnTags 12 = .ok (.aload_n 0, 1) := by decide +kernel
theorem dX3_setOwnTags_13 : decode cX3_setOwnTags 13 = .ok (.getfield 10, 3) := by decide +kernel
theorem dX3_setOwnTags_16 : decode cX3_setOwnTags 16 = .ok (.iload_n 2, 1) := by decide +kernel
theorem dX3_setOwnTags_17 : decode cX3_setOwnTags 17 = .ok (.invokevirtual 212, 3) := by decide +kernel
theorem dX3_setOwnTags_20 : decode cX3_setOwnTags 20 = .ok (.iastore, 1) := by decide +kernel
theorem dX3_setOwnTags_21 : decode cX3_setOwnTags 21 = .ok (.aload_n 0, 1) := by decide +kernel
theorem dX3_setOwnTags_22 : decode cX3_setOwnTags 22 = .ok (.invokevirtual 215, 3) := by decide +kernel
theorem dX3_setOwnTags_25 : decode cX3_setOwnTags 25 = .ok (.return_, 1) := by decide +kernel
theorem dX3_addTerm_0 : decode cX3_addTerm 0 = .ok (.aload_n 0, 1) := by decide +kernel
theorem dX3_addTerm_1 : decode cX3_addTerm 1 = .ok (.getfield 19, 3) := by decide +kernel
theorem dX3_addTerm_4 : decode cX3_addTerm 4 = .ok (.iload_n 1, 1) := by decide +kernel
theorem dX3_addTerm_5 : decode cX3_addTerm 5 = .ok (.iload_n 2, 1) := by decide +kernel
theorem dX3_addTerm_6 : decode cX3_addTerm 6 = .ok (.iload_n 3, 1) := by decide +kernel
theorem dX3_addTerm_7 : decode cX3_addTerm 7 = .ok (.invokevirtual 218, 3) := by decide +kernel
theorem dX3_addTerm_10 : decode cX3_addTerm 10 = .ok (.istore 4, 2) := by decide +kernel
theorem dX3_addTerm_12 : decode cX3_addTerm 12 = .ok (.aload_n 0, 1) := by decide +kernel
theorem dX3_addTerm_13 : decode cX3_addTerm 13 = .ok (.invokevirtual 215, 3) := by decide +kernel
theorem dX3_addTerm_16 : decode cX3_addTerm 16 = .ok (.iload 4, 2) := by decide +kernel
theorem dX3_addTerm_18 : decode cX3_addTerm 18 = .ok (.ireturn, 1) := by decide +kernel
theorem dX3_rematchTerms_0 : decode cX3_rematchTerms 0 = .ok (.iconst 0, 1) := by decide +kernel
theorem dX3_rematchTerms_1 : decode cX3_rematchTerms 1 = .ok (.istore_n 1, 1) := by decide +kernel
theorem dX3_rematchTerms_2 : decode cX3_rematchTerms 2 = .ok (.iload_n 1, 1) := by decide +kernel
theorem dX3_rematchTerms_3 : decode cX3_rematchTerms 3 = .ok (.aload_n 0, 1) := by decide +kernel
theorem dX3_rematchTerms_4 : decode cX3_rematchTerms 4 = .ok (.getfield 19, 3) := by decide +kernel
theorem dX3_rematchTerms_7 : decode cX3_rematchTerms 7 = .ok (.getfield 135, 3) := by decide +kernel
theorem dX3_rematchTerms_10 : decode cX3_rematchTerms 10 = .ok (.if_icmp .ge 58, 3) := by decide +kernel
theorem dX3_rematchTerms_13 : decode cX3_rematchTerms 13 = .ok (.aload_n 0, 1) := by decide +kernel
theorem dX3_rematchTerms_14 : decode cX3_rematchTerms 14 = .ok (.getfield 19, 3) := by decide +kernel
theorem dX3_rematchTerms_17 : decode cX3_rematchTerms 17 = .ok (.getfield 221, 3) := by decide +kernel
theorem dX3_rematchTerms_20 : decode cX3_rematchTerms 20 = .ok (.iload_n 1, 1) := by decide +kernel
theorem dX3_rematchTerms_21 : decode cX3_rematchTerms 21 = .ok (.iaload, 1) := by decide +kernel
theorem dX3_rematchTerms_22 : decode cX3_rematchTerms 22 = .ok (.ifCond .ne 28, 3) := by decide +kernel
theorem dX3_rematchTerms_25 : decode cX3_rematchTerms 25 = .ok (.aload_n 0, 1) := by decide +kernel
theorem dX3_rematchTerms_26 : decode cX3_rematchTerms 26 = .ok (.getfield 19, 3) := by decide +kernel
theorem dX3_rematchTerms_29 : decode cX3_rematchTerms 29 = .ok (.getfield 151, 3) := by decide +kernel
theorem dX3_rematchTerms_32 : decode cX3_rematchTerms 32 = .ok (.iload_n 1, 1) := by decide +kernel
theorem dX3_rematchTerms_33 : decode cX3_rematchTerms 33 = .ok (.aload_n 0, 1) := by decide +kernel
theorem dX3_rematchTerms_34 : decode cX3_rematchTerms 34 = .ok (.aload_n 0, 1) := by decide +kernel
theorem dX3_rematchTerms_35 : decode cX3_rematchTerms 35 = .ok (.getfield 19, 3) := by decide +kernel
theorem dX3_rematchTerms_38 : decode cX3_rematchTerms 38 = .ok (.getfield 224, 3) := by decide +kernel
theorem dX3_rematchTerms_41 : decode cX3_rematchTerms 41 = .ok (.iload_n 1, 1) := by decide +kernel
theorem dX3_rematchTerms_42 : decode cX3_rematchTerms 42 = .ok (.iaload, 1) := by decide +kernel
theorem dX3_rematchTerms_43 : decode cX3_rematchTerms 43 = .ok (.invokevirtual 148, 3) := by decide +kernel
theorem dX3_rematchTerms_46 : decode cX3_rematchTerms 46 = .ok (.iastore, 1) := by decide +kernel
theorem dX3_rematchTerms_47 : decode cX3_rematchTerms 47 = .ok (.goto 15, 3) := by decide +kernel
theorem dX3_rematchTerms_50 : decode cX3_rematchTerms 50 = .ok (.aload_n 0, 1) := by decide +kernel
theorem dX3_rematchTerms_51 : decode cX3_rematchTerms 51 = .ok (.getfield 19, 3) := by decide +kernel
theorem dX3_rematchTerms_54 : decode cX3_rematchTerms 54 = .ok (.iload_n 1, 1) := by decide +kernel
theorem dX3_rematchTerms_55 : decode cX3_rematchTerms 55 = .ok (.aload_n 0, 1) := by decide +kernel
theorem dX3_rematchTerms_56 : decode cX3_rematchTerms 56 = .ok (.invokevirtual 227, 3) := by decide +kernel
theorem dX3_rematchTerms_59 : decode cX3_rematchTerms 59 = .ok (.invokevirtual 230, 3) := by decide +kernel
theorem dX3_rematchTerms_62 : decode cX3_rematchTerms 62 = .ok (.iinc 1 1, 3) := by decide +kernel
theorem dX3_rematchTerms_65 : decode cX3_rematchTerms 65 = .ok (.goto (-63), 3) := by decide +kernel
theorem dX3_rematchTerms_68 : decode cX3_rematchTerms 68 = .ok (.return_, 1) := by decide +kernel
theorem dX3_allDreams_0 : decode cX3_allDreams 0 = .ok (.iconst 1, 1) := by decide +kernel
theorem dX3_allDreams_1 : decode cX3_allDreams 1 = .ok (.aload_n 0, 1) := by decide +kernel
theorem dX3_allDreams_2 : decode cX3_allDreams 2 = .ok (.getfield 84, 3) := by decide +kernel
theorem dX3_allDreams_5 : decode cX3_allDreams 5 = .ok (.ishl, 1) := by decide +kernel
theorem dX3_allDreams_6 : decode cX3_allDreams 6 = .ok (.iconst 1, 1) := by decide +kernel
theorem dX3_allDreams_7 : decode cX3_allDreams 7 = .ok (.isub, 1) := by decide +kernel
theorem dX3_allDreams_8 : decode cX3_allDreams 8 = .ok (.ireturn, 1) := by decide +kernel
theorem dX3_dreamsHaving_0 : decode cX3_dreamsHaving 0 = .ok (.iconst 0, 1) := by decide +kernel
theorem dX3_dreamsHaving_1 : decode cX3_dreamsHaving 1 = .ok (.istore_n 2, 1) := by decide +kernel
theorem dX3_dreamsHaving_2 : decode cX3_dreamsHaving 2 = .ok (.iconst 0, 1) := by decide +kernel
theorem dX3_dreamsHaving_3 : decode cX3_dreamsHaving 3 = .ok (.istore_n 3, 1) := by decide +kernel
theorem dX3_dreamsHaving_4 : decode cX3_dreamsHaving 4 = .ok (.iload_n 3, 1) := by decide +kernel
theorem dX3_dreamsHaving_5 : decode cX3_dreamsHaving 5 = .ok (.aload_n 0, 1) := by decide +kernel
theorem dX3_dreamsHaving_6 : decode cX3_dreamsHaving 6 = .ok (.getfield 84, 3) := by decide +kernel
theorem dX3_dreamsHaving_9 : decode cX3_dreamsHaving 9 = .ok (.if_icmp .ge 28, 3) := by decide +kernel
theorem dX3_dreamsHaving_12 : decode cX3_dreamsHaving 12 = .ok (.iload_n 1, 1) := by decide +kernel
theorem dX3_dreamsHaving_13 : decode cX3_dreamsHaving 13 = .ok (.aload_n 0, 1) := by decide +kernel
theorem dX3_dreamsHaving_14 : decode cX3_dreamsHaving 14 = .ok (.getfield 34, 3) := by decide +kernel
theorem dX3_dreamsHaving_17 : decode cX3_dreamsHaving 17 = .ok (.iload_n 3, 1) := by decide +kernel
theorem dX3_dreamsHaving_18 : decode cX3_dreamsHaving 18 = .ok (.iaload, 1) := by decide +kernel
theorem dX3_dreamsHaving_19 : decode cX3_dreamsHaving 19 = .ok (.invokestatic 98, 3) := by decide +kernel
theorem dX3_dreamsHaving_22 : decode cX3_dreamsHaving 22 = .ok (.ifCond .eq 9, 3) := by decide +kernel
theorem dX3_dreamsHaving_25 : decode cX3_dreamsHaving 25 = .ok (.iload_n 2, 1) := by decide +kernel
theorem dX3_dreamsHaving_26 : decode cX3_dreamsHaving 26 = .ok (.iconst 1, 1) := by decide +kernel
theorem dX3_dreamsHaving_27 : decode cX3_dreamsHaving 27 = .ok (.iload_n 3, 1) := by decide +kernel
theorem dX3_dreamsHaving_28 : decode cX3_dreamsHaving 28 = .ok (.ishl, 1) := by decide +kernel
theorem dX3_dreamsHaving_29 : decode cX3_dreamsHaving 29 = .ok (.ior, 1) := by decide +kernel
theorem dX3_dreamsHaving_30 : decode cX3_dreamsHaving 30 = .ok (.istore_n 2, 1) := by decide +kernel
theorem dX3_dreamsHaving_31 : decode cX3_dreamsHaving 31 = .ok (.iinc 3 1, 3) := by decide +kernel
theorem dX3_dreamsHaving_34 : decode cX3_dreamsHaving 34 = .ok (.goto (-30), 3) := by decide +kernel
theorem dX3_dreamsHaving_37 : decode cX3_dreamsHaving 37 = .ok (.iload_n 2, 1) := by decide +kernel
theorem dX3_dreamsHaving_38 : decode cX3_dreamsHaving 38 = .ok (.ireturn, 1) := by decide +kernel
theorem dX3_vividnessAfter_0 : decode cX3_vividnessAfter 0 = .ok (.aload_n 0, 1) := by decide +kernel
theorem dX3_vividnessAfter_1 : decode cX3_vividnessAfter 1 = .ok (.getfield 30, 3) := by decide +kernel
theorem dX3_vividnessAfter_4 : decode cX3_vividnessAfter 4 = .ok (.iload_n 1, 1) := by decide +kernel
theorem dX3_vividnessAfter_5 : decode cX3_vividnessAfter 5 = .ok (.iaload, 1) := by decide +kernel
theorem dX3_vividnessAfter_6 : decode cX3_vividnessAfter 6 = .ok (.aload_n 0, 1) := by decide +kernel
theorem dX3_vividnessAfter_7 : decode cX3_vividnessAfter 7 = .ok (.invokevirtual 233, 3) := by decide +kernel
theorem dX3_vividnessAfter_10 : decode cX3_vividnessAfter 10 = .ok (.iand, 1) := by decide +kernel
theorem dX3_vividnessAfter_11 : decode cX3_vividnessAfter 11 = .ok (.ifCond .eq 7, 3) := by decide +kernel
theorem dX3_vividnessAfter_14 : decode cX3_vividnessAfter 14 = .ok (.iconst 1, 1) := by decide +kernel
theorem dX3_vividnessAfter_15 : decode cX3_vividnessAfter 15 = .ok (.goto 4, 3) := by decide +kernel
theorem dX3_vividnessAfter_18 : decode cX3_vividnessAfter 18 = .ok (.iconst 0, 1) := by decide +kernel
theorem dX3_vividnessAfter_19 : decode cX3_vividnessAfter 19 = .ok (.istore_n 3, 1) := by decide +kernel
theorem dX3_vividnessAfter_20 : decode cX3_vividnessAfter 20 = .ok (.iload_n 3, 1) := by decide +kernel
theorem dX3_vividnessAfter_21 : decode cX3_vividnessAfter 21 = .ok (.ifCond .eq 12, 3) := by decide +kernel
theorem dX3_vividnessAfter_24 : decode cX3_vividnessAfter 24 = .ok (.aload_n 0, 1) := by decide +kernel
theorem dX3_vividnessAfter_25 : decode cX3_vividnessAfter 25 = .ok (.getfield 37, 3) := by decide +kernel
theorem dX3_vividnessAfter_28 : decode cX3_vividnessAfter 28 = .ok (.iload_n 1, 1) := by decide +kernel
theorem dX3_vividnessAfter_29 : decode cX3_vividnessAfter 29 = .ok (.iaload, 1) := by decide +kernel
theorem dX3_vividnessAfter_30 : decode cX3_vividnessAfter 30 = .ok (.goto 15, 3) := by decide +kernel
theorem dX3_vividnessAfter_33 : decode cX3_vividnessAfter 33 = .ok (.iconst 0, 1) := by decide +kernel
theorem dX3_vividnessAfter_34 : decode cX3_vividnessAfter 34 = .ok (.aload_n 0, 1) := by decide +kernel
theorem dX3_vividnessAfter_35 : decode cX3_vividnessAfter 35 = .ok (.getfield 37, 3) := by decide +kernel
theorem dX3_vividnessAfter_38 : decode cX3_vividnessAfter 38 = .ok (.iload_n 1, 1) := by decide +kernel
theorem dX3_vividnessAfter_39 : decode cX3_vividnessAfter 39 = .ok (.iaload, 1) := by decide +kernel
theorem dX3_vividnessAfter_40 : decode cX3_vividnessAfter 40 = .ok (.iload_n 2, 1) := by decide +kernel
theorem dX3_vividnessAfter_41 : decode cX3_vividnessAfter 41 = .ok (.isub, 1) := by decide +kernel
theorem dX3_vividnessAfter_42 : decode cX3_vividnessAfter 42 = .ok (.invokestatic 236, 3) := by decide +kernel
theorem dX3_vividnessAfter_45 : decode cX3_vividnessAfter 45 = .ok (.ireturn, 1) := by decide +kernel
theorem dX3_ownTagsOfLatest_0 : decode cX3_ownTagsOfLatest 0 = .ok (.aload_n 0, 1) := by decide +kernel
theorem dX3_ownTagsOfLatest_1 : decode cX3_ownTagsOfLatest 1 = .ok (.getfield 84, 3) := by decide +kernel
theorem dX3_ownTagsOfLatest_4 : decode cX3_ownTagsOfLatest 4 = .ok (.ifCond .ne 7, 3) := by decide +kernel
theorem dX3_ownTagsOfLatest_7 : decode cX3_ownTagsOfLatest 7 = .ok (.iconst 0, 1) := by decide +kernel
theorem dX3_ownTagsOfLatest_8 : decode cX3_ownTagsOfLatest 8 = .ok (.goto 14, 3) := by decide +kernel
theorem dX3_ownTagsOfLatest_11 : decode cX3_ownTagsOfLatest 11 = .ok (.aload_n 0, 1) := by decide +kernel
theorem dX3_ownTagsOfLatest_12 : decode cX3_ownTagsOfLatest 12 = .ok (.getfield 30, 3) := by decide +kernel
theorem dX3_ownTagsOfLatest_15 : decode cX3_ownTagsOfLatest 15 = .ok (.aload_n 0, 1) := by decide +kernel
theorem dX3_ownTagsOfLatest_16 : decode cX3_ownTagsOfLatest 16 = .ok (.getfield 84, 3) := by decide +kernel
theorem dX3_ownTagsOfLatest_19 : decode cX3_ownTagsOfLatest 19 = .ok (.iconst 1, 1) := by decide +kernel
theorem dX3_ownTagsOfLatest_20 : decode cX3_ownTagsOfLatest 20 = .ok (.isub, 1) := by decide +kernel
theorem dX3_ownTagsOfLatest_21 : decode cX3_ownTagsOfLatest 21 = .ok (.iaload, 1) := by decide +kernel
theorem dX3_ownTagsOfLatest_22 : decode cX3_ownTagsOfLatest 22 = .ok (.ireturn, 1) := by decide +kernel
theorem dX3_countFadedAfter_0 : decode cX3_countFadedAfter 0 = .ok (.iconst 0, 1) := by decide +kernel
theorem dX3_countFadedAfter_1 : decode cX3_countFadedAfter 1 = .ok (.istore_n 2, 1) := by decide +kernel
theorem dX3_countFadedAfter_2 : decode cX3_countFadedAfter 2 = .ok (.iconst 0, 1) := by decide +kernel
theorem dX3_countFadedAfter_3 : decode cX3_countFadedAfter 3 = .ok (.istore_n 3, 1) := by decide +kernel
theorem dX3_countFadedAfter_4 : decode cX3_countFadedAfter 4 = .ok (.iload_n 3, 1) := by decide +kernel
theorem dX3_countFadedAfter_5 : decode cX3_countFadedAfter 5 = .ok (.aload_n 0, 1) := by decide +kernel
theorem dX3_countFadedAfter_6 : decode cX3_countFadedAfter 6 = .ok (.getfield 84, 3) := by decide +kernel
theorem dX3_countFadedAfter_9 : decode cX3_countFadedAfter 9 = .ok (.if_icmp .ge 21, 3) := by decide +kernel
theorem dX3_countFadedAfter_12 : decode cX3_countFadedAfter 12 = .ok (.aload_n 0, 1) := by decide +kernel
theorem dX3_countFadedAfter_13 : decode cX3_countFadedAfter 13 = .ok (.iload_n 3, 1) := by decide +kernel
theorem dX3_countFadedAfter_14 : decode cX3_countFadedAfter 14 = .ok (.iload_n 1, 1) := by decide +kernel
theorem dX3_countFadedAfter_15 : decode cX3_countFadedAfter 15 = .ok (.invokevirtual 118, 3) := by decide +kernel
theorem dX3_countFadedAfter_18 : decode cX3_countFadedAfter 18 = .ok (.ifCond .ne 6, 3) := by decide +kernel
theorem dX3_countFadedAfter_21 : decode cX3_countFadedAfter 21 = .ok (.iinc 2 1, 3) := by decide +kernel
theorem dX3_countFadedAfter_24 : decode cX3_countFadedAfter 24 = .ok (.iinc 3 1, 3) := by decide +kernel
theorem dX3_countFadedAfter_27 : decode cX3_countFadedAfter 27 = .ok (.goto (-23), 3) := by decide +kernel
theorem dX3_countFadedAfter_30 : decode cX3_countFadedAfter 30 = .ok (.iload_n 2, 1) := by decide +kernel
theorem dX3_countFadedAfter_31 : decode cX3_countFadedAfter 31 = .ok (.ireturn, 1) := by decide +kernel
theorem dX3_mostVividOf_0 : decode cX3_mostVividOf 0 = .ok (.iconst (-1), 1) := by decide +kernel
theorem dX3_mostVividOf_1 : decode cX3_mostVividOf 1 = .ok (.istore_n 2, 1) := by decide +kernel
theorem dX3_mostVividOf_2 : decode cX3_mostVividOf 2 = .ok (.iconst (-1), 1) := by decide +kernel
theorem dX3_mostVividOf_3 : decode cX3_mostVividOf 3 = .ok (.istore_n 3, 1) := by decide +kernel
theorem dX3_mostVividOf_4 : decode cX3_mostVividOf 4 = .ok (.iconst 0, 1) := by decide +kernel
theorem dX3_mostVividOf_5 : decode cX3_mostVividOf 5 = .ok (.istore 4, 2) := by decide +kernel
theorem dX3_mostVividOf_7 : decode cX3_mostVividOf 7 = .ok (.iload 4, 2) := by decide +kernel
theorem dX3_mostVividOf_9 : decode cX3_mostVividOf 9 = .ok (.aload_n 0, 1) := by decide +kernel
theorem dX3_mostVividOf_10 : decode cX3_mostVividOf 10 = .ok (.getfield 84, 3) := by decide +kernel
theorem dX3_mostVividOf_13 : decode cX3_mostVividOf 13 = .ok (.if_icmp .ge 40, 3) := by decide +kernel
theorem dX3_mostVividOf_16 : decode cX3_mostVividOf 16 = .ok (.iload 4, 2) := by decide +kernel
theorem dX3_mostVividOf_18 : decode cX3_mostVividOf 18 = .ok (.iload_n 1, 1) := by decide +kernel
theorem dX3_mostVividOf_19 : decode cX3_mostVividOf 19 = .ok (.invokestatic 98, 3) := by decide +kernel
theorem dX3_mostVividOf_22 : decode cX3_mostVividOf 22 = .ok (.ifCond .eq 25, 3) := by decide +kernel
theorem dX3_mostVividOf_25 : decode cX3_mostVividOf 25 = .ok (.aload_n 0, 1) := by decide +kernel
theorem dX3_mostVividOf_26 : decode cX3_mostVividOf 26 = .ok (.getfield 37, 3) := by decide +kernel
theorem dX3_mostVividOf_29 : decode cX3_mostVividOf 29 = .ok (.iload 4, 2) := by decide +kernel
theorem dX3_mostVividOf_31 : decode cX3_mostVividOf 31 = .ok (.iaload, 1) := by decide +kernel
theorem dX3_mostVividOf_32 : decode cX3_mostVividOf 32 = .ok (.iload_n 3, 1) := by decide +kernel
theorem dX3_mostVividOf_33 : decode cX3_mostVividOf 33 = .ok (.if_icmp .le 14, 3) := by decide +kernel
theorem dX3_mostVividOf_36 : decode cX3_mostVividOf 36 = .ok (.aload_n 0, 1) := by decide +kernel
theorem dX3_mostVividOf_37 : decode cX3_mostVividOf 37 = .ok (.getfield 37, 3) := by decide +kernel
theorem dX3_mostVividOf_40 : decode cX3_mostVividOf 40 = .ok (.iload 4, 2) := by decide +kernel
theorem dX3_mostVividOf_42 : decode cX3_mostVividOf 42 = .ok (.iaload, 1) := by decide +kernel
theorem dX3_mostVividOf_43 : decode cX3_mostVividOf 43 = .ok (.istore_n 3, 1) := by decide +kernel
theorem dX3_mostVividOf_44 : decode cX3_mostVividOf 44 = .ok (.iload 4, 2) := by decide +kernel
theorem dX3_mostVividOf_46 : decode cX3_mostVividOf 46 = .ok (.istore_n 2, 1) := by decide +kernel
theorem dX3_mostVividOf_47 : decode cX3_mostVividOf 47 = .ok (.iinc 4 1, 3) := by decide +kernel
theorem dX3_mostVividOf_50 : decode cX3_mostVividOf 50 = .ok (.goto (-43), 3) := by decide +kernel
theorem dX3_mostVividOf_53 : decode cX3_mostVividOf 53 = .ok (.iload_n 2, 1) := by decide +kernel
theorem dX3_mostVividOf_54 : decode cX3_mostVividOf 54 = .ok (.ireturn, 1) := by decide +kernel
theorem dX3_tagsSharedBy_0 : decode cX3_tagsSharedBy 0 = .ok (.iload_n 1, 1) := by decide +kernel
theorem dX3_tagsSharedBy_1 : decode cX3_tagsSharedBy 1 = .ok (.ifCond .ne 7, 3) := by decide +kernel
theorem dX3_tagsSharedBy_4 : decode cX3_tagsSharedBy 4 = .ok (.iconst 0, 1) := by decide +kernel
theorem dX3_tagsSharedBy_5 : decode cX3_tagsSharedBy 5 = .ok (.goto 5, 3) := by decide +kernel
theorem dX3_tagsSharedBy_8 : decode cX3_tagsSharedBy 8 = .ok (.ldc 241, 2) := by decide +kernel
theorem dX3_tagsSharedBy_10 : decode cX3_tagsSharedBy 10 = .ok (.istore_n 2, 1) := by decide +kernel
theorem dX3_tagsSharedBy_11 : decode cX3_tagsSharedBy 11 = .ok (.iconst 0, 1) := by decide +kernel
theorem dX3_tagsSharedBy_12 : decode cX3_tagsSharedBy 12 = .ok (.istore_n 3, 1) := by decide +kernel
theorem dX3_tagsSharedBy_13 : decode cX3_tagsSharedBy 13 = .ok (.iload_n 3, 1) := by decide +kernel
theorem dX3_tagsSharedBy_14 : decode cX3_tagsSharedBy 14 = .ok (.aload_n 0, 1) := by decide +kernel
theorem dX3_tagsSharedBy_15 : decode cX3_tagsSharedBy 15 = .ok (.getfield 84, 3) := by decide +kernel
theorem dX3_tagsSharedBy_18 : decode cX3_tagsSharedBy 18 = .ok (.if_icmp .ge 26, 3) := by decide +kernel
theorem dX3_tagsSharedBy_21 : decode cX3_tagsSharedBy 21 = .ok (.iload_n 3, 1) := by decide +kernel
theorem dX3_tagsSharedBy_22 : decode cX3_tagsSharedBy 22 = .ok (.iload_n 1, 1) := by decide +kernel
theorem dX3_tagsSharedBy_23 : decode cX3_tagsSharedBy 23 = .ok (.invokestatic 98, 3) := by decide +kernel
theorem dX3_tagsSharedBy_26 : decode cX3_tagsSharedBy 26 = .ok (.ifCond .eq 12, 3) := by decide +kernel
theorem dX3_tagsSharedBy_29 : decode cX3_tagsSharedBy 29 = .ok (.iload_n 2, 1) := by decide +kernel
theorem dX3_tagsSharedBy_30 : decode cX3_tagsSharedBy 30 = .ok (.aload_n 0, 1) := by decide +kernel
theorem dX3_tagsSharedBy_31 : decode cX3_tagsSharedBy 31 = .ok (.getfield 34, 3) := by decide +kernel
theorem dX3_tagsSharedBy_34 : decode cX3_tagsSharedBy 34 = .ok (.iload_n 3, 1) := by decide +kernel
theorem dX3_tagsSharedBy_35 : decode cX3_tagsSharedBy 35 = .ok (.iaload, 1) := by decide +kernel
theorem dX3_tagsSharedBy_36 : decode cX3_tagsSharedBy 36 = .ok (.iand, 1) := by decide +kernel
theorem dX3_tagsSharedBy_37 : decode cX3_tagsSharedBy 37 = .ok (.istore_n 2, 1) := by decide +kernel
theorem dX3_tagsSharedBy_38 : decode cX3_tagsSharedBy 38 = .ok (.iinc 3 1, 3) := by decide +kernel
theorem dX3_tagsSharedBy_41 : decode cX3_tagsSharedBy 41 = .ok (.goto (-28), 3) := by decide +kernel
theorem dX3_tagsSharedBy_44 : decode cX3_tagsSharedBy 44 = .ok (.iload_n 2, 1) := by decide +kernel
theorem dX3_tagsSharedBy_45 : decode cX3_tagsSharedBy 45 = .ok (.ireturn, 1) := by decide +kernel
theorem dX3_smallestCover_0 : decode cX3_smallestCover 0 = .ok (.aload_n 0, 1) := by decide +kernel
theorem dX3_smallestCover_1 : decode cX3_smallestCover 1 = .ok (.getfield 19, 3) := by decide +kernel
theorem dX3_smallestCover_4 : decode cX3_smallestCover 4 = .ok (.getfield 151, 3) := by decide +kernel
theorem dX3_smallestCover_7 : decode cX3_smallestCover 7 = .ok (.iload_n 1, 1) := by decide +kernel
theorem dX3_smallestCover_8 : decode cX3_smallestCover 8 = .ok (.iaload, 1) := by decide +kernel
theorem dX3_smallestCover_9 : decode cX3_smallestCover 9 = .ok (.istore_n 2, 1) := by decide +kernel
theorem dX3_smallestCover_10 : decode cX3_smallestCover 10 = .ok (.iconst 0, 1) := by decide +kernel
theorem dX3_smallestCover_11 : decode cX3_smallestCover 11 = .ok (.istore_n 3, 1) := by decide +kernel
theorem dX3_smallestCover_12 : decode cX3_smallestCover 12 = .ok (.iload_n 3, 1) := by decide +kernel
theorem dX3_smallestCover_13 : decode cX3_smallestCover 13 = .ok (.bipush 16, 2) := by decide +kernel
theorem dX3_smallestCover_15 : decode cX3_smallestCover 15 = .ok (.if_icmp .ge 25, 3) := by decide +kernel
theorem dX3_smallestCover_18 : decode cX3_smallestCover 18 = .ok (.aload_n 0, 1) := by decide +kernel
theorem dX3_smallestCover_19 : decode cX3_smallestCover 19 = .ok (.getfield 26, 3) := by decide +kernel
theorem dX3_smallestCover_22 : decode cX3_smallestCover 22 = .ok (.getfield 242, 3) := by decide +kernel
theorem dX3_smallestCover_25 : decode cX3_smallestCover 25 = .ok (.iload_n 3, 1) := by decide +kernel
theorem dX3_smallestCover_26 : decode cX3_smallestCover 26 = .ok (.aload_n 0, 1) := by decide +kernel
theorem dX3_smallestCover_27 : decode cX3_smallestCover 27 = .ok (.iload_n 3, 1) := by decide +kernel
theorem dX3_smallestCover_28 : decode cX3_smallestCover 28 = .ok (.invokevirtual 148, 3) := by decide +kernel
theorem dX3_smallestCover_31 : decode cX3_smallestCover 31 = .ok (.iload_n 2, 1) := by decide +kernel
theorem dX3_smallestCover_32 : decode cX3_smallestCover 32 = .ok (.iand, 1) := by decide +kernel
theorem dX3_smallestCover_33 : decode cX3_smallestCover 33 = .ok (.iastore, 1) := by decide +kernel
theorem dX3_smallestCover_34 : decode cX3_smallestCover 34 = .ok (.iinc 3 1, 3) := by decide +kernel
theorem dX3_smallestCover_37 : decode cX3_smallestCover 37 = .ok (.goto (-25), 3) := by decide +kernel
theorem dX3_smallestCover_40 : decode cX3_smallestCover 40 = .ok (.aload_n 0, 1) := by decide +kernel
theorem dX3_smallestCover_41 : decode cX3_smallestCover 41 = .ok (.getfield 26, 3) := by decide +kernel
theorem dX3_smallestCover_44 : decode cX3_smallestCover 44 = .ok (.iload_n 2, 1) := by decide +kernel
theorem dX3_smallestCover_45 : decode cX3_smallestCover 45 = .ok (.invokevirtual 245, 3) := by decide +kernel
theorem dX3_smallestCover_48 : decode cX3_smallestCover 48 = .ok (.ireturn, 1) := by decide +kernel
theorem dX3_countMatchedIfUnder_0 : decode cX3_countMatchedIfUnder 0 = .ok (.aload_n 0, 1) := by decide +kernel
theorem dX3_countMatchedIfUnder_1 : decode cX3_countMatchedIfUnder 1 = .ok (.getfield 10, 3) := by decide +kernel
theorem dX3_countMatchedIfUnder_4 : decode cX3_countMatchedIfUnder 4 = .ok (.getfield 73, 3) := by decide +kernel
theorem dX3_countMatchedIfUnder_7 : decode cX3_countMatchedIfUnder 7 = .ok (.iload_n 2, 1) := by decide +kernel
theorem dX3_countMatchedIfUnder_8 : decode cX3_countMatchedIfUnder 8 = .ok (.iaload, 1) := by decide +kernel
theorem dX3_countMatchedIfUnder_9 : decode cX3_countMatchedIfUnder 9 = .ok (.istore 4, 2) := by decide +kernel
theorem dX3_countMatchedIfUnder_11 : decode cX3_countMatchedIfUnder 11 = .ok (.aload_n 0, 1) := by decide +kernel
theorem dX3_countMatchedIfUnder_12 : decode cX3_countMatchedIfUnder 12 = .ok (.iload_n 2, 1) := by decide +kernel
theorem dX3_countMatchedIfUnder_13 : decode cX3_countMatchedIfUnder 13 = .ok (.iload_n 3, 1) := by decide +kernel
theorem dX3_countMatchedIfUnder_14 : decode cX3_countMatchedIfUnder 14 = .ok (.invokevirtual 62, 3) := by decide +kernel
theorem dX3_countMatchedIfUnder_17 : decode cX3_countMatchedIfUnder 17 = .ok (.aload_n 0, 1) := by decide +kernel
theorem dX3_countMatchedIfUnder_18 : decode cX3_countMatchedIfUnder 18 = .ok (.getfield 19, 3) := by decide +kernel
theorem dX3_countMatchedIfUnder_21 : decode cX3_countMatchedIfUnder 21 = .ok (.getfield 151, 3) := by decide +kernel
theorem dX3_countMatchedIfUnder_24 : decode cX3_countMatchedIfUnder 24 = .ok (.iload_n 1, 1) := by decide +kernel
theorem dX3_countMatchedIfUnder_25 : decode cX3_countMatchedIfUnder 25 = .ok (.iaload, 1) := by decide +kernel
theorem dX3_countMatchedIfUnder_26 : decode cX3_countMatchedIfUnder 26 = .ok (.invokestatic 104, 3) := by decide +kernel
theorem dX3_countMatchedIfUnder_29 : decode cX3_countMatchedIfUnder 29 = .ok (.istore 5, 2) := by decide +kernel
theorem dX3_countMatchedIfUnder_31 : decode cX3_countMatchedIfUnder 31 = .ok (.aload_n 0, 1) := by decide +kernel
theorem dX3_countMatchedIfUnder_32 : decode cX3_countMatchedIfUnder 32 = .ok (.iload_n 2, 1) := by decide +kernel
theorem dX3_countMatchedIfUnder_33 : decode cX3_countMatchedIfUnder 33 = .ok (.iload 4, 2) := by decide +kernel
theorem dX3_countMatchedIfUnder_35 : decode cX3_countMatchedIfUnder 35 = .ok (.invokevirtual 62, 3) := by decide +kernel
theorem dX3_countMatchedIfUnder_38 : decode cX3_countMatchedIfUnder 38 = .ok (.iload 5, 2) := by decide +kernel
theorem dX3_countMatchedIfUnder_40 : decode cX3_countMatchedIfUnder 40 = .ok (.ireturn, 1) := by decide +kernel
theorem dX3_digestedTag_0 : decode cX3_digestedTag 0 = .ok (.lload_n 1, 1) := by decide +kernel
theorem dX3_digestedTag_1 : decode cX3_digestedTag 1 = .ok (.aload_n 0, 1) := by decide +kernel
theorem dX3_digestedTag_2 : decode cX3_digestedTag 2 = .ok (.getfield 10, 3) := by decide +kernel
theorem dX3_digestedTag_5 : decode cX3_digestedTag 5 = .ok (.getfield 73, 3) := by decide +kernel
theorem dX3_digestedTag_8 : decode cX3_digestedTag 8 = .ok (.iload_n 3, 1) := by decide +kernel
theorem dX3_digestedTag_9 : decode cX3_digestedTag 9 = .ok (.iaload, 1) := by decide +kernel
theorem dX3_digestedTag_10 : decode cX3_digestedTag 10 = .ok (.i2l, 1) := by decide +kernel
theorem dX3_digestedTag_11 : decode cX3_digestedTag 11 = .ok (.invokestatic 179, 3) := by decide +kernel
theorem dX3_digestedTag_14 : decode cX3_digestedTag 14 = .ok (.lstore 4, 2) := by decide +kernel
theorem dX3_digestedTag_16 : decode cX3_digestedTag 16 = .ok (.lload 4, 2) := by decide +kernel
theorem dX3_digestedTag_18 : decode cX3_digestedTag 18 = .ok (.aload_n 0, 1) := by decide +kernel
theorem dX3_digestedTag_19 : decode cX3_digestedTag 19 = .ok (.getfield 10, 3) := by decide +kernel
theorem dX3_digestedTag_22 : decode cX3_digestedTag 22 = .ok (.iload_n 3, 1) := by decide +kernel
theorem dX3_digestedTag_23 : decode cX3_digestedTag 23 = .ok (.invokevirtual 65, 3) := by decide +kernel
theorem dX3_digestedTag_26 : decode cX3_digestedTag 26 = .ok (.i2l, 1) := by decide +kernel
theorem dX3_digestedTag_27 : decode cX3_digestedTag 27 = .ok (.invokestatic 179, 3) := by decide +kernel
theorem dX3_digestedTag_30 : decode cX3_digestedTag 30 = .ok (.lstore 4, 2) := by decide +kernel
theorem dX3_digestedTag_32 : decode cX3_digestedTag 32 = .ok (.lload 4, 2) := by decide +kernel
theorem dX3_digestedTag_34 : decode cX3_digestedTag 34 = .ok (.aload_n 0, 1) := by decide +kernel
theorem dX3_digestedTag_35 : decode cX3_digestedTag 35 = .ok (.getfield 10, 3) := by decide +kernel
theorem dX3_digestedTag_38 : decode cX3_digestedTag 38 = .ok (.iload_n 3, 1) := by decide +kernel
theorem dX3_digestedTag_39 : decode cX3_digestedTag 39 = .ok (.invokevirtual 136, 3) := by decide +kernel
theorem dX3_digestedTag_42 : decode cX3_digestedTag 42 = .ok (.i2l, 1) := by decide +kernel
theorem dX3_digestedTag_43 : decode cX3_digestedTag 43 = .ok (.invokestatic 179, 3) := by decide +kernel
theorem dX3_digestedTag_46 : decode cX3_digestedTag 46 = .ok (.lstore 4, 2) := by decide +kernel
theorem dX3_digestedTag_48 : decode cX3_digestedTag 48 = .ok (.lload 4, 2) := by decide +kernel
theorem dX3_digestedTag_50 : decode cX3_digestedTag 50 = .ok (.aload_n 0, 1) := by decide +kernel
theorem dX3_digestedTag_51 : decode cX3_digestedTag 51 = .ok (.iload_n 3, 1) := by decide +kernel
theorem dX3_digestedTag_52 : decode cX3_digestedTag 52 = .ok (.invokevirtual 148, 3) := by decide +kernel
theorem dX3_digestedTag_55 : decode cX3_digestedTag 55 = .ok (.invokestatic 104, 3) := by decide +kernel
theorem dX3_digestedTag_58 : decode cX3_digestedTag 58 = .ok (.i2l, 1) := by decide +kernel
theorem dX3_digestedTag_59 : decode cX3_digestedTag 59 = .ok (.invokestatic 179, 3) := by decide +kernel
theorem dX3_digestedTag_62 : decode cX3_digestedTag 62 = .ok (.lreturn, 1) := by decide +kernel
theorem dX3_digestedDream_0 : decode cX3_digestedDream 0 = .ok (.lload_n 1, 1) := by decide +kernel
theorem dX3_digestedDream_1 : decode cX3_digestedDream 1 = .ok (.aload_n 0, 1) := by decide +kernel
theorem dX3_digestedDream_2 : decode cX3_digestedDream 2 = .ok (.getfield 34, 3) := by decide +kernel
theorem dX3_digestedDream_5 : decode cX3_digestedDream 5 = .ok (.iload_n 3, 1) := by decide +kernel
theorem dX3_digestedDream_6 : decode cX3_digestedDream 6 = .ok (.iaload, 1) := by decide +kernel
theorem dX3_digestedDream_7 : decode cX3_digestedDream 7 = .ok (.invokestatic 104, 3) := by decide +kernel
theorem dX3_digestedDream_10 : decode cX3_digestedDream 10 = .ok (.i2l, 1) := by decide +kernel
theorem dX3_digestedDream_11 : decode cX3_digestedDream 11 = .ok (.invokestatic 179, 3) := by decide +kernel
theorem dX3_digestedDream_14 : decode cX3_digestedDream 14 = .ok (.lstore 4, 2) := by decide +kernel
theorem dX3_digestedDream_16 : decode cX3_digestedDream 16 = .ok (.lload 4, 2) := by decide +kernel
theorem dX3_digestedDream_18 : decode cX3_digestedDream 18 = .ok (.aload_n 0, 1) := by decide +kernel
theorem dX3_digestedDream_19 : decode cX3_digestedDream 19 = .ok (.getfield 37, 3) := by decide +kernel
theorem dX3_digestedDream_22 : decode cX3_digestedDream 22 = .ok (.iload_n 3, 1) := by decide +kernel
theorem dX3_digestedDream_23 : decode cX3_digestedDream 23 = .ok (.iaload, 1) := by decide +kernel
theorem dX3_digestedDream_24 : decode cX3_digestedDream 24 = .ok (.i2l, 1) := by decide +kernel
theorem dX3_digestedDream_25 : decode cX3_digestedDream 25 = .ok (.invokestatic 179, 3) := by decide +kernel
theorem dX3_digestedDream_28 : decode cX3_digestedDream 28 = .ok (.lstore 4, 2) := by decide +kernel
theorem dX3_digestedDream_30 : decode cX3_digestedDream 30 = .ok (.lload 4, 2) := by decide +kernel
theorem dX3_digestedDream_32 : decode cX3_digestedDream 32 = .ok (.aload_n 0, 1) := by decide +kernel
theorem dX3_digestedDream_33 : decode cX3_digestedDream 33 = .ok (.getfield 40, 3) := by decide +kernel
theorem dX3_digestedDream_36 : decode cX3_digestedDream 36 = .ok (.iload_n 3, 1) := by decide +kernel
theorem dX3_digestedDream_37 : decode cX3_digestedDream 37 = .ok (.iaload, 1) := by decide +kernel
theorem dX3_digestedDream_38 : decode cX3_digestedDream 38 = .ok (.i2l, 1) := by decide +kernel
theorem dX3_digestedDream_39 : decode cX3_digestedDream 39 = .ok (.invokestatic 179, 3) := by decide +kernel
theorem dX3_digestedDream_42 : decode cX3_digestedDream 42 = .ok (.lstore 4, 2) := by decide +kernel
theorem dX3_digestedDream_44 : decode cX3_digestedDream 44 = .ok (.lload 4, 2) := by decide +kernel
theorem dX3_digestedDream_46 : decode cX3_digestedDream 46 = .ok (.aload_n 0, 1) := by decide +kernel
theorem dX3_digestedDream_47 : decode cX3_digestedDream 47 = .ok (.getfield 30, 3) := by decide +kernel
theorem dX3_digestedDream_50 : decode cX3_digestedDream 50 = .ok (.iload_n 3, 1) := by decide +kernel
theorem dX3_digestedDream_51 : decode cX3_digestedDream 51 = .ok (.iaload, 1) := by decide +kernel
theorem dX3_digestedDream_52 : decode cX3_digestedDream 52 = .ok (.aload_n 0, 1) := by decide +kernel
theorem dX3_digestedDream_53 : decode cX3_digestedDream 53 = .ok (.getfield 10, 3) := by decide +kernel
theorem dX3_digestedDream_56 : decode cX3_digestedDream 56 = .ok (.getfield 43, 3) := by decide +kernel
theorem dX3_digestedDream_59 : decode cX3_digestedDream 59 = .ok (.invokestatic 248, 3) := by decide +kernel
theorem dX3_digestedDream_62 : decode cX3_digestedDream 62 = .ok (.lreturn, 1) := by decide +kernel
theorem dX3_digestedTerm_0 : decode cX3_digestedTerm 0 = .ok (.aload_n 0, 1) := by decide +kernel
theorem dX3_digestedTerm_1 : decode cX3_digestedTerm 1 = .ok (.getfield 19, 3) := by decide +kernel
theorem dX3_digestedTerm_4 : decode cX3_digestedTerm 4 = .ok (.getfield 151, 3) := by decide +kernel
theorem dX3_digestedTerm_7 : decode cX3_digestedTerm 7 = .ok (.iload_n 3, 1) := by decide +kernel
theorem dX3_digestedTerm_8 : decode cX3_digestedTerm 8 = .ok (.iaload, 1) := by decide +kernel
theorem dX3_digestedTerm_9 : decode cX3_digestedTerm 9 = .ok (.istore 4, 2) := by decide +kernel
theorem dX3_digestedTerm_11 : decode cX3_digestedTerm 11 = .ok (.aload_n 0, 1) := by decide +kernel
theorem dX3_digestedTerm_12 : decode cX3_digestedTerm 12 = .ok (.iload_n 3, 1) := by decide +kernel
theorem dX3_digestedTerm_13 : decode cX3_digestedTerm 13 = .ok (.invokevirtual 160, 3) := by decide +kernel
theorem dX3_digestedTerm_16 : decode cX3_digestedTerm 16 = .ok (.istore 5, 2) := by decide +kernel
theorem dX3_digestedTerm_18 : decode cX3_digestedTerm 18 = .ok (.lload_n 1, 1) := by decide +kernel
theorem dX3_digestedTerm_19 : decode cX3_digestedTerm 19 = .ok (.iload 4, 2) := by decide +kernel
theorem dX3_digestedTerm_21 : decode cX3_digestedTerm 21 = .ok (.invokestatic 104, 3) := by decide +kernel
theorem dX3_digestedTerm_24 : decode cX3_digestedTerm 24 = .ok (.i2l, 1) := by decide +kernel
theorem dX3_digestedTerm_25 : decode cX3_digestedTerm 25 = .ok (.invokestatic 179, 3) := by decide +kernel
theorem dX3_digestedTerm_28 : decode cX3_digestedTerm 28 = .ok (.lstore 6, 2) := by decide +kernel
theorem dX3_digestedTerm_30 : decode cX3_digestedTerm 30 = .ok (.lload 6, 2) := by decide +kernel
theorem dX3_digestedTerm_32 : decode cX3_digestedTerm 32 = .ok (.aload_n 0, 1) := by decide +kernel
theorem dX3_digestedTerm_33 : decode cX3_digestedTerm 33 = .ok (.iload 4, 2) := by decide +kernel
theorem dX3_digestedTerm_35 : decode cX3_digestedTerm 35 = .ok (.invokevirtual 154, 3) := by decide +kernel
theorem dX3_digestedTerm_38 : decode cX3_digestedTerm 38 = .ok (.i2l, 1) := by decide +kernel
theorem dX3_digestedTerm_39 : decode cX3_digestedTerm 39 = .ok (.invokestatic 179, 3) := by decide +kernel
theorem dX3_digestedTerm_42 : decode cX3_digestedTerm 42 = .ok (.lstore 6, 2) := by decide +kernel
theorem dX3_digestedTerm_44 : decode cX3_digestedTerm 44 = .ok (.lload 6, 2) := by decide +kernel
theorem dX3_digestedTerm_46 : decode cX3_digestedTerm 46 = .ok (.aload_n 0, 1) := by decide +kernel
theorem dX3_digestedTerm_47 : decode cX3_digestedTerm 47 = .ok (.iload 4, 2) := by decide +kernel
theorem dX3_digestedTerm_49 : decode cX3_digestedTerm 49 = .ok (.invokevirtual 157, 3) := by decide +kernel
theorem dX3_digestedTerm_52 : decode cX3_digestedTerm 52 = .ok (.invokestatic 104, 3) := by decide +kernel
theorem dX3_digestedTerm_55 : decode cX3_digestedTerm 55 = .ok (.i2l, 1) := by decide +kernel
theorem dX3_digestedTerm_56 : decode cX3_digestedTerm 56 = .ok (.invokestatic 179, 3) := by decide +kernel
theorem dX3_digestedTerm_59 : decode cX3_digestedTerm 59 = .ok (.lstore 6, 2) := by decide +kernel
theorem dX3_digestedTerm_61 : decode cX3_digestedTerm 61 = .ok (.lload 6, 2) := by decide +kernel
theorem dX3_digestedTerm_63 : decode cX3_digestedTerm 63 = .ok (.iload 5, 2) := by decide +kernel
theorem dX3_digestedTerm_65 : decode cX3_digestedTerm 65 = .ok (.invokestatic 104, 3) := by decide +kernel
theorem dX3_digestedTerm_68 : decode cX3_digestedTerm 68 = .ok (.i2l, 1) := by decide +kernel
theorem dX3_digestedTerm_69 : decode cX3_digestedTerm 69 = .ok (.invokestatic 179, 3) := by decide +kernel
theorem dX3_digestedTerm_72 : decode cX3_digestedTerm 72 = .ok (.lstore 6, 2) := by decide +kernel
theorem dX3_digestedTerm_74 : decode cX3_digestedTerm 74 = .ok (.iconst 0, 1) := by decide +kernel
theorem dX3_digestedTerm_75 : decode cX3_digestedTerm 75 = .ok (.istore 8, 2) := by decide +kernel
theorem dX3_digestedTerm_77 : decode cX3_digestedTerm 77 = .ok (.iload 8, 2) := by decide +kernel
theorem dX3_digestedTerm_79 : decode cX3_digestedTerm 79 = .ok (.bipush 16, 2) := by decide +kernel
theorem dX3_digestedTerm_81 : decode cX3_digestedTerm 81 = .ok (.if_icmp .ge 29, 3) := by decide +kernel
theorem dX3_digestedTerm_84 : decode cX3_digestedTerm 84 = .ok (.iload 8, 2) := by decide +kernel
theorem dX3_digestedTerm_86 : decode cX3_digestedTerm 86 = .ok (.iload 5, 2) := by decide +kernel
theorem dX3_digestedTerm_88 : decode cX3_digestedTerm 88 = .ok (.invokestatic 98, 3) := by decide +kernel
theorem dX3_digestedTerm_91 : decode cX3_digestedTerm 91 = .ok (.ifCond .eq 13, 3) := by decide +kernel
theorem dX3_digestedTerm_94 : decode cX3_digestedTerm 94 = .ok (.lload 6, 2) := by decide +kernel
theorem dX3_digestedTerm_96 : decode cX3_digestedTerm 96 = .ok (.iload 8, 2) := by decide +kernel
theorem dX3_digestedTerm_98 : decode cX3_digestedTerm 98 = .ok (.i2l, 1) := by decide +kernel
theorem dX3_digestedTerm_99 : decode cX3_digestedTerm 99 = .ok (.invokestatic 179, 3) := by decide +kernel
theorem dX3_digestedTerm_102 : decode cX3_digestedTerm 102 = .ok (.lstore 6, 2) := by decide +kernel
theorem dX3_digestedTerm_104 : decode cX3_digestedTerm 104 = .ok (.iinc 8 1, 3) := by decide +kernel
theorem dX3_digestedTerm_107 : decode cX3_digestedTerm 107 = .ok (.goto (-30), 3) := by decide +kernel
theorem dX3_digestedTerm_110 : decode cX3_digestedTerm 110 = .ok (.lload 6, 2) := by decide +kernel
theorem dX3_digestedTerm_112 : decode cX3_digestedTerm 112 = .ok (.iload 4, 2) := by decide +kernel
theorem dX3_digestedTerm_114 : decode cX3_digestedTerm 114 = .ok (.aload_n 0, 1) := by decide +kernel
theorem dX3_digestedTerm_115 : decode cX3_digestedTerm 115 = .ok (.getfield 84, 3) := by decide +kernel
theorem dX3_digestedTerm_118 : decode cX3_digestedTerm 118 = .ok (.invokestatic 248, 3) := by decide +kernel
theorem dX3_digestedTerm_121 : decode cX3_digestedTerm 121 = .ok (.lreturn, 1) := by decide +kernel
theorem dX3_digestedSet_0 : decode cX3_digestedSet 0 = .ok (.lload_n 0, 1) := by decide +kernel
theorem dX3_digestedSet_1 : decode cX3_digestedSet 1 = .ok (.lstore 4, 2) := by decide +kernel
theorem dX3_digestedSet_3 : decode cX3_digestedSet 3 = .ok (.iconst 0, 1) := by decide +kernel
theorem dX3_digestedSet_4 : decode cX3_digestedSet 4 = .ok (.istore 6, 2) := by decide +kernel
theorem dX3_digestedSet_6 : decode cX3_digestedSet 6 = .ok (.iload 6, 2) := by decide +kernel
theorem dX3_digestedSet_8 : decode cX3_digestedSet 8 = .ok (.iload_n 3, 1) := by decide +kernel
theorem dX3_digestedSet_9 : decode cX3_digestedSet 9 = .ok (.if_icmp .ge 30, 3) := by decide +kernel
theorem dX3_digestedSet_12 : decode cX3_digestedSet 12 = .ok (.lload 4, 2) := by decide +kernel
theorem dX3_digestedSet_14 : decode cX3_digestedSet 14 = .ok (.iload 6, 2) := by decide +kernel
theorem dX3_digestedSet_16 : decode cX3_digestedSet 16 = .ok (.iload_n 2, 1) := by decide +kernel
theorem dX3_digestedSet_17 : decode cX3_digestedSet 17 = .ok (.invokestatic 98, 3) := by decide +kernel
theorem dX3_digestedSet_20 : decode cX3_digestedSet 20 = .ok (.ifCond .eq 7, 3) := by decide +kernel
theorem dX3_digestedSet_23 : decode cX3_digestedSet 23 = .ok (.lconst 1, 1) := by decide +kernel
theorem dX3_digestedSet_24 : decode cX3_digestedSet 24 = .ok (.goto 4, 3) := by decide +kernel
theorem dX3_digestedSet_27 : decode cX3_digestedSet 27 = .ok (.lconst 0, 1) := by decide +kernel
theorem dX3_digestedSet_28 : decode cX3_digestedSet 28 = .ok (.invokestatic 179, 3) := by decide +kernel
theorem dX3_digestedSet_31 : decode cX3_digestedSet 31 = .ok (.lstore 4, 2) := by decide +kernel
theorem dX3_digestedSet_33 : decode cX3_digestedSet 33 = .ok (.iinc 6 1, 3) := by decide +kernel
theorem dX3_digestedSet_36 : decode cX3_digestedSet 36 = .ok (.goto (-30), 3) := by decide +kernel
theorem dX3_digestedSet_39 : decode cX3_digestedSet 39 = .ok (.lload 4, 2) := by decide +kernel
theorem dX3_digestedSet_41 : decode cX3_digestedSet 41 = .ok (.lreturn, 1) := by decide +kernel
theorem dX3_digested_0 : decode cX3_digested 0 = .ok (.lload_n 0, 1) := by decide +kernel
theorem dX3_digested_1 : decode cX3_digested 1 = .ok (.ldc2_w 252, 3) := by decide +kernel
theorem dX3_digested_4 : decode cX3_digested 4 = .ok (.lmul, 1) := by decide +kernel
theorem dX3_digested_5 : decode cX3_digested 5 = .ok (.lload_n 2, 1) := by decide +kernel
theorem dX3_digested_6 : decode cX3_digested 6 = .ok (.ladd, 1) := by decide +kernel
theorem dX3_digested_7 : decode cX3_digested 7 = .ok (.lreturn, 1) := by decide +kernel
theorem dX3_isIn_0 : decode cX3_isIn 0 = .ok (.iload_n 1, 1) := by decide +kernel
theorem dX3_isIn_1 : decode cX3_isIn 1 = .ok (.iload_n 0, 1) := by decide +kernel
theorem dX3_isIn_2 : decode cX3_isIn 2 = .ok (.ishr, 1) := by decide +kernel
theorem dX3_isIn_3 : decode cX3_isIn 3 = .ok (.iconst 1, 1) := by decide +kernel
theorem dX3_isIn_4 : decode cX3_isIn 4 = .ok (.iand, 1) := by decide +kernel
theorem dX3_isIn_5 : decode cX3_isIn 5 = .ok (.ifCond .eq 7, 3) := by decide +kernel
theorem dX3_isIn_8 : decode cX3_isIn 8 = .ok (.iconst 1, 1) := by decide +kernel
theorem dX3_isIn_9 : decode cX3_isIn 9 = .ok (.goto 4, 3) := by decide +kernel
theorem dX3_isIn_12 : decode cX3_isIn 12 = .ok (.iconst 0, 1) := by decide +kernel
theorem dX3_isIn_13 : decode cX3_isIn 13 = .ok (.ireturn, 1) := by decide +kernel
theorem dX3_memberAt_0 : decode cX3_memberAt 0 = .ok (.iconst 0, 1) := by decide +kernel
theorem dX3_memberAt_1 : decode cX3_memberAt 1 = .ok (.istore_n 2, 1) := by decide +kernel
theorem dX3_memberAt_2 : decode cX3_memberAt 2 = .ok (.iconst 0, 1) := by decide +kernel
theorem dX3_memberAt_3 : decode cX3_memberAt 3 = .ok (.istore_n 3, 1) := by decide +kernel
theorem dX3_memberAt_4 : decode cX3_memberAt 4 = .ok (.iload_n 3, 1) := by decide +kernel
theorem dX3_memberAt_5 : decode cX3_memberAt 5 = .ok (.bipush 16, 2) := by decide +kernel
theorem dX3_memberAt_7 : decode cX3_memberAt 7 = .ok (.if_icmp .ge 27, 3) := by decide +kernel
theorem dX3_memberAt_10 : decode cX3_memberAt 10 = .ok (.iload_n 3, 1) := by decide +kernel
theorem dX3_memberAt_11 : decode cX3_memberAt 11 = .ok (.iload_n 0, 1) := by decide +kernel
theorem dX3_memberAt_12 : decode cX3_memberAt 12 = .ok (.invokestatic 98, 3) := by decide +kernel
theorem dX3_memberAt_15 : decode cX3_memberAt 15 = .ok (.ifCond .eq 13, 3) := by decide +kernel
theorem dX3_memberAt_18 : decode cX3_memberAt 18 = .ok (.iload_n 2, 1) := by decide +kernel
theorem dX3_memberAt_19 : decode cX3_memberAt 19 = .ok (.iload_n 1, 1) := by decide +kernel
theorem dX3_memberAt_20 : decode cX3_memberAt 20 = .ok (.if_icmp .ne 5, 3) := by decide +kernel
theorem dX3_memberAt_23 : decode cX3_memberAt 23 = .ok (.iload_n 3, 1) := by decide +kernel
theorem dX3_memberAt_24 : decode cX3_memberAt 24 = .ok (.ireturn, 1) := by decide +kernel
theorem dX3_memberAt_25 : decode cX3_memberAt 25 = .ok (.iinc 2 1, 3) := by decide +kernel
theorem dX3_memberAt_28 : decode cX3_memberAt 28 = .ok (.iinc 3 1, 3) := by decide +kernel
theorem dX3_memberAt_31 : decode cX3_memberAt 31 = .ok (.goto (-27), 3) := by decide +kernel
theorem dX3_memberAt_34 : decode cX3_memberAt 34 = .ok (.iconst (-1), 1) := by decide +kernel
theorem dX3_memberAt_35 : decode cX3_memberAt 35 = .ok (.ireturn, 1) := by decide +kernel
theorem dX4_init_0 : decode cX4_init 0 = .ok (.aload_n 0, 1) := by decide +kernel
theorem dX4_init_1 : decode cX4_init 1 = .ok (.invokespecial 1, 3) := by decide +kernel
theorem dX4_init_4 : decode cX4_init 4 = .ok (.aload_n 0, 1) := by decide +kernel
theorem dX4_init_5 : decode cX4_init 5 = .ok (.bipush 16, 2) := by decide +kernel
theorem dX4_init_7 : decode cX4_init 7 = .ok (.newarray .int, 2) := by decide +kernel
theorem dX4_init_9 : decode cX4_init 9 = .ok (.putfield 9, 3) := by decide +kernel
theorem dX4_init_12 : decode cX4_init 12 = .ok (.aload_n 0, 1) := by decide +kernel
theorem dX4_init_13 : decode cX4_init 13 = .ok (.bipush 24, 2) := by decide +kernel
theorem dX4_init_15 : decode cX4_init 15 = .ok (.newarray .int, 2) := by decide +kernel
theorem dX4_init_17 : decode cX4_init 17 = .ok (.putfield 13, 3) := by decide +kernel
theorem dX4_init_20 : decode cX4_init 20 = .ok (.aload_n 0, 1) := by decide +kernel
theorem dX4_init_21 : decode cX4_init 21 = .ok (.bipush 24, 2) := by decide +kernel
theorem dX4_init_23 : decode cX4_init 23 = .ok (.newarray .int, 2) := by decide +kernel
theorem dX4_init_25 : decode cX4_init 25 = .ok (.putfield 16, 3) := by decide +kernel
theorem dX4_init_28 : decode cX4_init 28 = .ok (.aload_n 0, 1) := by decide +kernel
theorem dX4_init_29 : decode cX4_init 29 = .ok (.bipush 24, 2) := by decide +kernel
theorem dX4_init_31 : decode cX4_init 31 = .ok (.newarray .int, 2) := by decide +kernel
theorem dX4_init_33 : decode cX4_init 33 = .ok (.putfield 19, 3) := by decide +kernel
theorem dX4_init_36 : decode cX4_init 36 = .ok (.aload_n 0, 1) := by decide +kernel
theorem dX4_init_37 : decode cX4_init 37 = .ok (.bipush 20, 2) := by decide +kernel
theorem dX4_init_39 : decode cX4_init 39 = .ok (.newarray .int, 2) := by decide +kernel
theorem dX4_init_41 : decode cX4_init 41 = .ok (.putfield 22, 3) := by decide +kernel
theorem dX4_init_44 : decode cX4_init 44 = .ok (.aload_n 0, 1) := by decide +kernel
theorem dX4_init_45 : decode cX4_init 45 = .ok (.bipush 20, 2) := by decide +kernel
theorem dX4_init_47 : decode cX4_init 47 = .ok (.newarray .int, 2) := by decide +kernel
theorem dX4_init_49 : decode cX4_init 49 = .ok (.putfield 25, 3) := by decide +kernel
theorem dX4_init_52 : decode cX4_init 52 = .ok (.aload_n 0, 1) := by decide +kernel
theorem dX4_init_53 : decode cX4_init 53 = .ok (.bipush 20, 2) := by decide +kernel
theorem dX4_init_55 : decode cX4_init 55 = .ok (.newarray .int, 2) := by decide +kernel
theorem dX4_init_57 : decode cX4_init 57 = .ok (.putfield 28, 3) := by decide +kernel
theorem dX4_init_60 : decode cX4_init 60 = .ok (.aload_n 0, 1) := by decide +kernel
theorem dX4_init_61 : decode cX4_init 61 = .ok (.bipush 24, 2) := by decide +kernel
theorem dX4_init_63 : decode cX4_init 63 = .ok (.newarray .int, 2) := by decide +kernel
theorem dX4_init_65 : decode cX4_init 65 = .ok (.putfield 31, 3) := by decide +kernel
theorem dX4_init_68 : decode cX4_init 68 = .ok (.aload_n 0, 1) := by decide +kernel
theorem dX4_init_69 : decode cX4_init 69 = .ok (.bipush 16, 2) := by decide +kernel
theorem dX4_init_71 : decode cX4_init 71 = .ok (.newarray .int, 2) := by decide +kernel
theorem dX4_init_73 : decode cX4_init 73 = .ok (.putfield 34, 3) := by decide +kernel
theorem dX4_init_76 : decode cX4_init 76 = .ok (.aload_n 0, 1) := by decide +kernel
theorem dX4_init_77 : decode cX4_init 77 = .ok (.bipush 20, 2) := by decide +kernel
theorem dX4_init_79 : decode cX4_init 79 = .ok (.newarray .int, 2) := by decide +kernel
theorem dX4_init_81 : decode cX4_init 81 = .ok (.putfield 37, 3) := by decide +kernel
theorem dX4_init_84 : decode cX4_init 84 = .ok (.return_, 1) := by decide +kernel
theorem dX4_thrown_0 : decode cX4_thrown 0 = .ok (.aload_n 0, 1) := by decide +kernel
theorem dX4_thrown_1 : decode cX4_thrown 1 = .ok (.getfield 40, 3) := by decide +kernel
theorem dX4_thrown_4 : decode cX4_thrown 4 = .ok (.ireturn, 1) := by decide +kernel
theorem dX4_fail_0 : decode cX4_fail 0 = .ok (.aload_n 0, 1) := by decide +kernel
theorem dX4_fail_1 : decode cX4_fail 1 = .ok (.iload_n 1, 1) := by decide +kernel
theorem dX4_fail_2 : decode cX4_fail 2 = .ok (.putfield 40, 3) := by decide +kernel
theorem dX4_fail_5 : decode cX4_fail 5 = .ok (.iconst 0, 1) := by decide +kernel
theorem dX4_fail_6 : decode cX4_fail 6 = .ok (.ireturn, 1) := by decide +kernel
theorem dX4_failed_0 : decode cX4_failed 0 = .ok (.aload_n 0, 1) := by decide +kernel
theorem dX4_failed_1 : decode cX4_failed 1 = .ok (.iload_n 1, 1) := by decide +kernel
theorem dX4_failed_2 : decode cX4_failed 2 = .ok (.putfield 40, 3) := by decide +kernel
theorem dX4_failed_5 : decode cX4_failed 5 = .ok (.iconst 0, 1) := by decide +kernel
theorem dX4_failed_6 : decode cX4_failed 6 = .ok (.ireturn, 1) := by decide +kernel
theorem dX4_isIn_0 : decode cX4_isIn 0 = .ok (.iload_n 0, 1) := by decide +kernel
theorem dX4_isIn_1 : decode cX4_isIn 1 = .ok (.iload_n 1, 1) := by decide +kernel
theorem dX4_isIn_2 : decode cX4_isIn 2 = .ok (.if_icmp .lt 12, 3) := by decide +kernel
theorem dX4_isIn_5 : decode cX4_isIn 5 = .ok (.iload_n 0, 1) := by decide +kernel
theorem dX4_isIn_6 : decode cX4_isIn 6 = .ok (.iload_n 2, 1) := by decide +kernel
theorem dX4_isIn_7 : decode cX4_isIn 7 = .ok (.if_icmp .gt 7, 3) := by decide +kernel
theorem dX4_isIn_10 : decode cX4_isIn 10 = .ok (.iconst 1, 1) := by decide +kernel
theorem dX4_isIn_11 : decode cX4_isIn 11 = .ok (.goto 4, 3) := by decide +kernel
theorem dX4_isIn_14 : decode cX4_isIn 14 = .ok (.iconst 0, 1) := by decide +kernel
theorem dX4_isIn_15 : decode cX4_isIn 15 = .ok (.ireturn, 1) := by decide +kernel
theorem dX4_isTag_0 : decode cX4_isTag 0 = .ok (.iload_n 1, 1) := by decide +kernel
theorem dX4_isTag_1 : decode cX4_isTag 1 = .ok (.iconst 0, 1) := by decide +kernel
theorem dX4_isTag_2 : decode cX4_isTag 2 = .ok (.aload_n 0, 1) := by decide +kernel
theorem dX4_isTag_3 : decode cX4_isTag 3 = .ok (.getfield 44, 3) := by decide +kernel
theorem dX4_isTag_6 : decode cX4_isTag 6 = .ok (.iconst 1, 1) := by decide +kernel
theorem dX4_isTag_7 : decode cX4_isTag 7 = .ok (.isub, 1) := by decide +kernel
theorem dX4_isTag_8 : decode cX4_isTag 8 = .ok (.invokestatic 47, 3) := by decide +kernel
theorem dX4_isTag_11 : decode cX4_isTag 11 = .ok (.ireturn, 1) := by decide +kernel
theorem dX4_isDream_0 : decode cX4_isDream 0 = .ok (.iload_n 1, 1) := by decide +kernel
theorem dX4_isDream_1 : decode cX4_isDream 1 = .ok (.iconst 0, 1) := by decide +kernel
theorem dX4_isDream_2 : decode cX4_isDream 2 = .ok (.aload_n 0, 1) := by decide +kernel
theorem dX4_isDream_3 : decode cX4_isDream 3 = .ok (.getfield 51, 3) := by decide +kernel
theorem dX4_isDream_6 : decode cX4_isDream 6 = .ok (.iconst 1, 1) := by decide +kernel
theorem dX4_isDream_7 : decode cX4_isDream 7 = .ok (.isub, 1) := by decide +kernel
theorem dX4_isDream_8 : decode cX4_isDream 8 = .ok (.invokestatic 47, 3) := by decide +kernel
theorem dX4_isDream_11 : decode cX4_isDream 11 = .ok (.ireturn, 1) := by decide +kernel
theorem dX4_isTerm_0 : decode cX4_isTerm 0 = .ok (.iload_n 1, 1) := by decide +kernel
theorem dX4_isTerm_1 : decode cX4_isTerm 1 = .ok (.iconst 0, 1) := by decide +kernel
theorem dX4_isTerm_2 : decode cX4_isTerm 2 = .ok (.aload_n 0, 1) := by decide +kernel
theorem dX4_isTerm_3 : decode cX4_isTerm 3 = .ok (.getfield 54, 3) := by decide +kernel
theorem dX4_isTerm_6 : decode cX4_isTerm 6 = .ok (.iconst 1, 1) := by decide +kernel
theorem dX4_isTerm_7 : decode cX4_isTerm 7 = .ok (.isub, 1) := by decide +kernel
theorem dX4_isTerm_8 : decode cX4_isTerm 8 = .ok (.invokestatic 47, 3) := by decide +kernel
theorem dX4_isTerm_11 : decode cX4_isTerm 11 = .ok (.ireturn, 1) := by decide +kernel
theorem dX4_is_0 : decode cX4_is 0 = .ok (.iload_n 0, 1) := by decide +kernel
theorem dX4_is_1 : decode cX4_is 1 = .ok (.iload_n 1, 1) := by decide +kernel
theorem dX4_is_2 : decode cX4_is 2 = .ok (.ishr, 1) := by decide +kernel
theorem dX4_is_3 : decode cX4_is 3 = .ok (.iconst 1, 1) := by decide +kernel
theorem dX4_is_4 : decode cX4_is 4 = .ok (.iand, 1) := by decide +kernel
theorem dX4_is_5 : decode cX4_is 5 = .ok (.iconst 1, 1) := by decide +kernel
theorem dX4_is_6 : decode cX4_is 6 = .ok (.if_icmp .ne 7, 3) := by decide +kernel
theorem dX4_is_9 : decode cX4_is 9 = .ok (.iconst 1, 1) := by decide +kernel
theorem dX4_is_10 : decode cX4_is 10 = .ok (.goto 4, 3) := by decide +kernel
theorem dX4_is_13 : decode cX4_is 13 = .ok (.iconst 0, 1) := by decide +kernel
theorem dX4_is_14 : decode cX4_is 14 = .ok (.ireturn, 1) := by decide +kernel
theorem dX4_many_0 : decode cX4_many 0 = .ok (.iconst 0, 1) := by decide +kernel
theorem dX4_many_1 : decode cX4_many 1 = .ok (.istore_n 1, 1) := by decide +kernel
theorem dX4_many_2 : decode cX4_many 2 = .ok (.iload_n 0, 1) := by decide +kernel
theorem dX4_many_3 : decode cX4_many 3 = .ok (.istore_n 2, 1) := by decide +kernel
theorem dX4_many_4 : decode cX4_many 4 = .ok (.iload_n 2, 1) := by decide +kernel
theorem dX4_many_5 : decode cX4_many 5 = .ok (.ifCond .eq 15, 3) := by decide +kernel
theorem dX4_many_8 : decode cX4_many 8 = .ok (.iinc 1 1, 3) := by decide +kernel
theorem dX4_many_11 : decode cX4_many 11 = .ok (.iload_n 2, 1) := by decide +kernel
theorem dX4_many_12 : decode cX4_many 12 = .ok (.iload_n 2, 1) := by decide +kernel
theorem dX4_many_13 : decode cX4_many 13 = .ok (.iconst 1, 1) := by decide +kernel
theorem dX4_many_14 : decode cX4_many 14 = .ok (.isub, 1) := by decide +kernel
theorem dX4_many_15 : decode cX4_many 15 = .ok (.iand, 1) := by decide +kernel
theorem dX4_many_16 : decode cX4_many 16 = .ok (.istore_n 2, 1) := by decide +kernel
theorem dX4_many_17 : decode cX4_many 17 = .ok (.goto (-13), 3) := by decide +kernel
theorem dX4_many_20 : decode cX4_many 20 = .ok (.iload_n 1, 1) := by decide +kernel
theorem dX4_many_21 : decode cX4_many 21 = .ok (.ireturn, 1) := by decide +kernel
theorem dX4_above_0 : decode cX4_above 0 = .ok (.iconst 0, 1) := by decide +kernel
theorem dX4_above_1 : decode cX4_above 1 = .ok (.istore_n 2, 1) := by decide +kernel
theorem dX4_above_2 : decode cX4_above 2 = .ok (.aload_n 0, 1) := by decide +kernel
theorem dX4_above_3 : decode cX4_above 3 = .ok (.getfield 9, 3) := by decide +kernel
theorem dX4_above_6 : decode cX4_above 6 = .ok (.iload_n 1, 1) := by decide +kernel
theorem dX4_above_7 : decode cX4_above 7 = .ok (.iaload, 1) := by decide +kernel
theorem dX4_above_8 : decode cX4_above 8 = .ok (.istore_n 3, 1) := by decide +kernel
theorem dX4_above_9 : decode cX4_above 9 = .ok (.iload_n 3, 1) := by decide +kernel
theorem dX4_above_10 : decode cX4_above 10 = .ok (.iconst (-1), 1) := by decide +kernel
theorem dX4_above_11 : decode cX4_above 11 = .ok (.if_icmp .eq 19, 3) := by decide +kernel
theorem dX4_above_14 : decode cX4_above 14 = .ok (.iload_n 2, 1) := by decide +kernel
theorem dX4_above_15 : decode cX4_above 15 = .ok (.iconst 1, 1) := by decide +kernel
theorem dX4_above_16 : decode cX4_above 16 = .ok (.iload_n 3, 1) := by decide +kernel
theorem dX4_above_17 : decode cX4_above 17 = .ok (.ishl, 1) := by decide +kernel
theorem dX4_above_18 : decode cX4_above 18 = .ok (.ior, 1) := by decide +kernel
theorem dX4_above_19 : decode cX4_above 19 = .ok (.istore_n 2, 1) := by decide +kernel
theorem dX4_above_20 : decode cX4_above 20 = .ok (.aload_n 0, 1) := by decide +kernel
theorem dX4_above_21 : decode cX4_above 21 = .ok (.getfield 9, 3) := by decide +kernel
theorem dX4_above_24 : decode cX4_above 24 = .ok (.iload_n 3, 1) := by decide +kernel
theorem dX4_above_25 : decode cX4_above 25 = .ok (.iaload, 1) := by decide +kernel
theorem dX4_above_26 : decode cX4_above 26 = .ok (.istore_n 3, 1) := by decide +kernel
theorem dX4_above_27 : decode cX4_above 27 = .ok (.goto (-18), 3) := by decide +kernel
theorem dX4_above_30 : decode cX4_above 30 = .ok (.iload_n 2, 1) := by decide +kernel
theorem dX4_above_31 : decode cX4_above 31 = .ok (.ireturn, 1) := by decide +kernel
theorem dX4_below_0 : decode cX4_below 0 = .ok (.aload_n 0, 1) := by decide +kernel
theorem dX4_below_1 : decode cX4_below 1 = .ok (.iload_n 1, 1) := by decide +kernel
theorem dX4_below_2 : decode cX4_below 2 = .ok (.invokevirtual 57, 3) := by decide +kernel
theorem dX4_below_5 : decode cX4_below 5 = .ok (.iload_n 2, 1) := by decide +kernel
theorem dX4_below_6 : decode cX4_below 6 = .ok (.invokestatic 61, 3) := by decide +kernel
theorem dX4_below_9 : decode cX4_below 9 = .ok (.ireturn, 1) := by decide +kernel
theorem dX4_tagsUnder_0 : decode cX4_tagsUnder 0 = .ok (.iconst 0, 1) := by decide +kernel
theorem dX4_tagsUnder_1 : decode cX4_tagsUnder 1 = .ok (.istore_n 2, 1) := by decide +kernel
theorem dX4_tagsUnder_2 : decode cX4_tagsUnder 2 = .ok (.iconst 0, 1) := by decide +kernel
theorem dX4_tagsUnder_3 : decode cX4_tagsUnder 3 = .ok (.istore_n 3, 1) := by decide +kernel
theorem dX4_tagsUnder_4 : decode cX4_tagsUnder 4 = .ok (.iload_n 3, 1) := by decide +kernel
theorem dX4_tagsUnder_5 : decode cX4_tagsUnder 5 = .ok (.aload_n 0, 1) := by decide +kernel
theorem dX4_tagsUnder_6 : decode cX4_tagsUnder 6 = .ok (.getfield 44, 3) := by decide +kernel
theorem dX4_tagsUnder_9 : decode cX4_tagsUnder 9 = .ok (.if_icmp .ge 26, 3) := by decide +kernel
theorem dX4_tagsUnder_12 : decode cX4_tagsUnder 12 = .ok (.iload_n 2, 1) := by decide +kernel
theorem dX4_tagsUnder_13 : decode cX4_tagsUnder 13 = .ok (.aload_n 0, 1) := by decide +kernel
theorem dX4_tagsUnder_14 : decode cX4_tagsUnder 14 = .ok (.iload_n 3, 1) := by decide +kernel
theorem dX4_tagsUnder_15 : decode cX4_tagsUnder 15 = .ok (.iload_n 1, 1) := by decide +kernel
theorem dX4_tagsUnder_16 : decode cX4_tagsUnder 16 = .ok (.invokevirtual 65, 3) := by decide +kernel
theorem dX4_tagsUnder_19 : decode cX4_tagsUnder 19 = .ok (.ifCond .eq 7, 3) := by decide +kernel
theorem dX4_tagsUnder_22 : decode cX4_tagsUnder 22 = .ok (.iconst 1, 1) := by decide +kernel
theorem dX4_tagsUnder_23 : decode cX4_tagsUnder 23 = .ok (.goto 4, 3) := by decide +kernel
theorem dX4_tagsUnder_26 : decode cX4_tagsUnder 26 = .ok (.iconst 0, 1) := by decide +kernel
theorem dX4_tagsUnder_27 : decode cX4_tagsUnder 27 = .ok (.iadd, 1) := by decide +kernel
theorem dX4_tagsUnder_28 : decode cX4_tagsUnder 28 = .ok (.istore_n 2, 1) := by decide +kernel
theorem dX4_tagsUnder_29 : decode cX4_tagsUnder 29 = .ok (.iinc 3 1, 3) := by decide +kernel
theorem dX4_tagsUnder_32 : decode cX4_tagsUnder 32 = .ok (.goto (-28), 3) := by decide +kernel
theorem dX4_tagsUnder_35 : decode cX4_tagsUnder 35 = .ok (.iload_n 2, 1) := by decide +kernel
theorem dX4_tagsUnder_36 : decode cX4_tagsUnder 36 = .ok (.ireturn, 1) := by decide +kernel
theorem dX4_reckon_0 : decode cX4_reckon 0 = .ok (.iconst 0, 1) := by decide +kernel
theorem dX4_reckon_1 : decode cX4_reckon 1 = .ok (.istore_n 1, 1) := by decide +kernel
theorem dX4_reckon_2 : decode cX4_reckon 2 = .ok (.iload_n 1, 1) := by decide +kernel
theorem dX4_reckon_3 : decode cX4_reckon 3 = .ok (.aload_n 0, 1) := by decide +kernel
theorem dX4_reckon_4 : decode cX4_reckon 4 = .ok (.getfield 44, 3) := by decide +kernel
theorem dX4_reckon_7 : decode cX4_reckon 7 = .ok (.if_icmp .ge 16, 3) := by decide +kernel
theorem dX4_reckon_10 : decode cX4_reckon 10 = .ok (.aload_n 0, 1) := by decide +kernel
theorem dX4_reckon_11 : decode cX4_reckon 11 = .ok (.getfield 34, 3) := by decide +kernel
theorem dX4_reckon_14 : decode cX4_reckon 14 = .ok (.iload_n 1, 1) := by decide +kernel
theorem dX4_reckon_15 : decode cX4_reckon 15 = .ok (.iconst 0, 1) := by decide +kernel
theorem dX4_reckon_16 : decode cX4_reckon 16 = .ok (.iastore, 1) := by decide +kernel
theorem dX4_reckon_17 : decode cX4_reckon 17 = .ok (.iinc 1 1, 3) := by decide +kernel
theorem dX4_reckon_20 : decode cX4_reckon 20 = .ok (.goto (-18), 3) := by decide +kernel
theorem dX4_reckon_23 : decode cX4_reckon 23 = .ok (.iconst 0, 1) := by decide +kernel
theorem dX4_reckon_24 : decode cX4_reckon 24 = .ok (.istore_n 1, 1) := by decide +kernel
theorem dX4_reckon_25 : decode cX4_reckon 25 = .ok (.iload_n 1, 1) := by decide +kernel
theorem dX4_reckon_26 : decode cX4_reckon 26 = .ok (.aload_n 0, 1) := by decide +kernel
theorem dX4_reckon_27 : decode cX4_reckon 27 = .ok (.getfield 51, 3) := by decide +kernel
theorem dX4_reckon_30 : decode cX4_reckon 30 = .ok (.if_icmp .ge 105, 3) := by decide +kernel
theorem dX4_reckon_33 : decode cX4_reckon 33 = .ok (.aload_n 0, 1) := by decide +kernel
theorem dX4_reckon_34 : decode cX4_reckon 34 = .ok (.getfield 31, 3) := by decide +kernel
theorem dX4_reckon_37 : decode cX4_reckon 37 = .ok (.iload_n 1, 1) := by decide +kernel
theorem dX4_reckon_38 : decode cX4_reckon 38 = .ok (.aload_n 0, 1) := by decide +kernel
theorem dX4_reckon_39 : decode cX4_reckon 39 = .ok (.getfield 13, 3) := by decide +kernel
theorem dX4_reckon_42 : decode cX4_reckon 42 = .ok (.iload_n 1, 1) := by decide +kernel
theorem dX4_reckon_43 : decode cX4_reckon 43 = .ok (.iaload, 1) := by decide +kernel
theorem dX4_reckon_44 : decode cX4_reckon 44 = .ok (.iastore, 1) := by decide +kernel
theorem dX4_reckon_45 : decode cX4_reckon 45 = .ok (.iconst 0, 1) := by decide +kernel
theorem dX4_reckon_46 : decode cX4_reckon 46 = .ok (.istore_n 2, 1) := by decide +kernel
theorem dX4_reckon_47 : decode cX4_reckon 47 = .ok (.iload_n 2, 1) := by decide +kernel
theorem dX4_reckon_48 : decode cX4_reckon 48 = .ok (.aload_n 0, 1) := by decide +kernel
theorem dX4_reckon_49 : decode cX4_reckon 49 = .ok (.getfield 44, 3) := by decide +kernel
theorem dX4_reckon_52 : decode cX4_reckon 52 = .ok (.if_icmp .ge 36, 3) := by decide +kernel
theorem dX4_reckon_55 : decode cX4_reckon 55 = .ok (.aload_n 0, 1) := by decide +kernel
theorem dX4_reckon_56 : decode cX4_reckon 56 = .ok (.getfield 13, 3) := by decide +kernel
theorem dX4_reckon_59 : decode cX4_reckon 59 = .ok (.iload_n 1, 1) := by decide +kernel
theorem dX4_reckon_60 : decode cX4_reckon 60 = .ok (.iaload, 1) := by decide +kernel
theorem dX4_reckon_61 : decode cX4_reckon 61 = .ok (.iload_n 2, 1) := by decide +kernel
theorem dX4_reckon_62 : decode cX4_reckon 62 = .ok (.invokestatic 61, 3) := by decide +kernel
theorem dX4_reckon_65 : decode cX4_reckon 65 = .ok (.ifCond .eq 17, 3) := by decide +kernel
theorem dX4_reckon_68 : decode cX4_reckon 68 = .ok (.aload_n 0, 1) := by decide +kernel
theorem dX4_reckon_69 : decode cX4_reckon 69 = .ok (.getfield 31, 3) := by decide +kernel
theorem dX4_reckon_72 : decode cX4_reckon 72 = .ok (.iload_n 1, 1) := by decide +kernel
theorem dX4_reckon_73 : decode cX4_reckon 73 = .ok (.dup2, 1) := by decide +kernel
theorem dX4_reckon_74 : decode cX4_reckon 74 = .ok (.iaload, 1) := by decide +kernel
theorem dX4_reckon_75 : decode cX4_reckon 75 = .ok (.aload_n 0, 1) := by decide +kernel
theorem dX4_reckon_76 : decode cX4_reckon 76 = .ok (.iload_n 2, 1) := by decide +kernel
theorem dX4_reckon_77 : decode cX4_reckon 77 = .ok (.invokevirtual 57, 3) := by decide +kernel
theorem dX4_reckon_80 : decode cX4_reckon 80 = .ok (.ior, 1) := by decide +kernel
theorem dX4_reckon_81 : decode cX4_reckon 81 = .ok (.iastore, 1) := by decide +kernel
theorem dX4_reckon_82 : decode cX4_reckon 82 = .ok (.iinc 2 1, 3) := by decide +kernel
theorem dX4_reckon_85 : decode cX4_reckon 85 = .ok (.goto (-38), 3) := by decide +kernel
theorem dX4_reckon_88 : decode cX4_reckon 88 = .ok (.iconst 0, 1) := by decide +kernel
theorem dX4_reckon_89 : decode cX4_reckon 89 = .ok (.istore_n 2, 1) := by decide +kernel
theorem dX4_reckon_90 : decode cX4_reckon 90 = .ok (.iload_n 2, 1) := by decide +kernel
theorem dX4_reckon_91 : decode cX4_reckon 91 = .ok (.aload_n 0, 1) := by decide +kernel
theorem dX4_reckon_92 : decode cX4_reckon 92 = .ok (.getfield 44, 3) := by decide +kernel
theorem dX4_reckon_95 : decode cX4_reckon 95 = .ok (.if_icmp .ge 34, 3) := by decide +kernel
theorem dX4_reckon_98 : decode cX4_reckon 98 = .ok (.aload_n 0, 1) := by decide +kernel
theorem dX4_reckon_99 : decode cX4_reckon 99 = .ok (.getfield 31, 3) := by decide +kernel
theorem dX4_reckon_102 : decode cX4_reckon 102 = .ok (.iload_n 1, 1) := by decide +kernel
theorem dX4_reckon_103 : decode cX4_reckon 103 = .ok (.iaload, 1) := by decide +kernel
theorem dX4_reckon_104 : decode cX4_reckon 104 = .ok (.iload_n 2, 1) := by decide +kernel
theorem dX4_reckon_105 : decode cX4_reckon 105 = .ok (.invokestatic 61, 3) := by decide +kernel
theorem dX4_reckon_108 : decode cX4_reckon 108 = .ok (.ifCond .eq 15, 3) := by decide +kernel
theorem dX4_reckon_111 : decode cX4_reckon 111 = .ok (.aload_n 0, 1) := by decide +kernel
theorem dX4_reckon_112 : decode cX4_reckon 112 = .ok (.getfield 34, 3) := by decide +kernel
theorem dX4_reckon_115 : decode cX4_reckon 115 = .ok (.iload_n 2, 1) := by decide +kernel
theorem dX4_reckon_116 : decode cX4_reckon 116 = .ok (.dup2, 1) := by decide +kernel
theorem dX4_reckon_117 : decode cX4_reckon 117 = .ok (.iaload, 1) := by decide +kernel
theorem dX4_reckon_118 : decode cX4_reckon 118 = .ok (.iconst 1, 1) := by decide +kernel
theorem dX4_reckon_119 : decode cX4_reckon 119 = .ok (.iload_n 1, 1) := by decide +kernel
theorem dX4_reckon_120 : decode cX4_reckon 120 = .ok (.ishl, 1) := by decide +kernel
theorem dX4_reckon_121 : decode cX4_reckon 121 = .ok (.ior, 1) := by decide +kernel
theorem dX4_reckon_122 : decode cX4_reckon 122 = .ok (.iastore, 1) := by decide +kernel
theorem dX4_reckon_123 : decode cX4_reckon 123 = .ok (.iinc 2 1, 3) := by decide +kernel
theorem dX4_reckon_126 : decode cX4_reckon 126 = .ok (.goto (-36), 3) := by decide +kernel
theorem dX4_reckon_129 : decode cX4_reckon 129 = .ok (.iinc 1 1, 3) := by decide +kernel
theorem dX4_reckon_132 : decode cX4_reckon 132 = .ok (.goto (-107), 3) := by decide +kernel
theorem dX4_reckon_135 : decode cX4_reckon 135 = .ok (.iconst 0, 1) := by decide +kernel
theorem dX4_reckon_136 : decode cX4_reckon 136 = .ok (.istore_n 1, 1) := by decide +kernel
theorem dX4_reckon_137 : decode cX4_reckon 137 = .ok (.iload_n 1, 1) := by decide +kernel
theorem dX4_reckon_138 : decode cX4_reckon 138 = .ok (.aload_n 0, 1) := by decide +kernel
theorem dX4_reckon_139 : decode cX4_reckon 139 = .ok (.getfield 54, 3) := by decide +kernel
theorem dX4_reckon_142 : decode cX4_reckon 142 = .ok (.if_icmp .ge 150, 3) := by decide +kernel
theorem dX4_reckon_145 : decode cX4_reckon 145 = .ok (.aload_n 0, 1) := by decide +kernel
theorem dX4_reckon_146 : decode cX4_reckon 146 = .ok (.getfield 22, 3) := by decide +kernel
theorem dX4_reckon_149 : decode cX4_reckon 149 = .ok (.iload_n 1, 1) := by decide +kernel
theorem dX4_reckon_150 : decode cX4_reckon 150 = .ok (.iaload, 1) := by decide +kernel
theorem dX4_reckon_151 : decode cX4_reckon 151 = .ok (.ifCond .ne 23, 3) := by decide +kernel
theorem dX4_reckon_154 : decode cX4_reckon 154 = .ok (.aload_n 0, 1) := by decide +kernel
theorem dX4_reckon_155 : decode cX4_reckon 155 = .ok (.getfield 37, 3) := by decide +kernel
theorem dX4_reckon_158 : decode cX4_reckon 158 = .ok (.iload_n 1, 1) := by decide +kernel
theorem dX4_reckon_159 : decode cX4_reckon 159 = .ok (.aload_n 0, 1) := by decide +kernel
theorem dX4_reckon_160 : decode cX4_reckon 160 = .ok (.getfield 34, 3) := by decide +kernel
theorem dX4_reckon_163 : decode cX4_reckon 163 = .ok (.aload_n 0, 1) := by decide +kernel
theorem dX4_reckon_164 : decode cX4_reckon 164 = .ok (.getfield 25, 3) := by decide +kernel
theorem dX4_reckon_167 : decode cX4_reckon 167 = .ok (.iload_n 1, 1) := by decide +kernel
theorem dX4_reckon_168 : decode cX4_reckon 168 = .ok (.iaload, 1) := by decide +kernel
theorem dX4_reckon_169 : decode cX4_reckon 169 = .ok (.iaload, 1) := by decide +kernel
end
section
theorem dX4_reckon_170 : decode cX4_reckon 170 = .ok (.iastore, 1) := by decide +kernel
theorem dX4_reckon_171 : decode cX4_reckon 171 = .ok (.goto 115, 3) := by decide +kernel
theorem dX4_reckon_174 : decode cX4_reckon 174 = .ok (.aload_n 0, 1) := by decide +kernel
theorem dX4_reckon_175 : decode cX4_reckon 175 = .ok (.getfield 22, 3) := by decide +kernel
theorem dX4_reckon_178 : decode cX4_reckon 178 = .ok (.iload_n 1, 1) := by decide +kernel
theorem dX4_reckon_179 : decode cX4_reckon 179 = .ok (.iaload, 1) := by decide +kernel
theorem dX4_reckon_180 : decode cX4_reckon 180 = .ok (.iconst 1, 1) := by decide +kernel
theorem dX4_reckon_181 : decode cX4_reckon 181 = .ok (.if_icmp .ne 35, 3) := by decide +kernel
theorem dX4_reckon_184 : decode cX4_reckon 184 = .ok (.aload_n 0, 1) := by decide +kernel
theorem dX4_reckon_185 : decode cX4_reckon 185 = .ok (.getfield 37, 3) := by decide +kernel
theorem dX4_reckon_188 : decode cX4_reckon 188 = .ok (.iload_n 1, 1) := by decide +kernel
theorem dX4_reckon_189 : decode cX4_reckon 189 = .ok (.aload_n 0, 1) := by decide +kernel
theorem dX4_reckon_190 : decode cX4_reckon 190 = .ok (.getfield 37, 3) := by decide +kernel
theorem dX4_reckon_193 : decode cX4_reckon 193 = .ok (.aload_n 0, 1) := by decide +kernel
theorem dX4_reckon_194 : decode cX4_reckon 194 = .ok (.getfield 25, 3) := by decide +kernel
theorem dX4_reckon_197 : decode cX4_reckon 197 = .ok (.iload_n 1, 1) := by decide +kernel
theorem dX4_reckon_198 : decode cX4_reckon 198 = .ok (.iaload, 1) := by decide +kernel
theorem dX4_reckon_199 : decode cX4_reckon 199 = .ok (.iaload, 1) := by decide +kernel
theorem dX4_reckon_200 : decode cX4_reckon 200 = .ok (.aload_n 0, 1) := by decide +kernel
theorem dX4_reckon_201 : decode cX4_reckon 201 = .ok (.getfield 37, 3) := by decide +kernel
theorem dX4_reckon_204 : decode cX4_reckon 204 = .ok (.aload_n 0, 1) := by decide +kernel
theorem dX4_reckon_205 : decode cX4_reckon 205 = .ok (.getfield 28, 3) := by decide +kernel
theorem dX4_reckon_208 : decode cX4_reckon 208 = .ok (.iload_n 1, 1) := by decide +kernel
theorem dX4_reckon_209 : decode cX4_reckon 209 = .ok (.iaload, 1) := by decide +kernel
theorem dX4_reckon_210 : decode cX4_reckon 210 = .ok (.iaload, 1) := by decide +kernel
theorem dX4_reckon_211 : decode cX4_reckon 211 = .ok (.iand, 1) := by decide +kernel
theorem dX4_reckon_212 : decode cX4_reckon 212 = .ok (.iastore, 1) := by decide +kernel
theorem dX4_reckon_213 : decode cX4_reckon 213 = .ok (.goto 73, 3) := by decide +kernel
theorem dX4_reckon_216 : decode cX4_reckon 216 = .ok (.aload_n 0, 1) := by decide +kernel
theorem dX4_reckon_217 : decode cX4_reckon 217 = .ok (.getfield 22, 3) := by decide +kernel
theorem dX4_reckon_220 : decode cX4_reckon 220 = .ok (.iload_n 1, 1) := by decide +kernel
theorem dX4_reckon_221 : decode cX4_reckon 221 = .ok (.iaload, 1) := by decide +kernel
theorem dX4_reckon_222 : decode cX4_reckon 222 = .ok (.iconst 2, 1) := by decide +kernel
theorem dX4_reckon_223 : decode cX4_reckon 223 = .ok (.if_icmp .ne 35, 3) := by decide +kernel
theorem dX4_reckon_226 : decode cX4_reckon 226 = .ok (.aload_n 0, 1) := by decide +kernel
theorem dX4_reckon_227 : decode cX4_reckon 227 = .ok (.getfield 37, 3) := by decide +kernel
theorem dX4_reckon_230 : decode cX4_reckon 230 = .ok (.iload_n 1, 1) := by decide +kernel
theorem dX4_reckon_231 : decode cX4_reckon 231 = .ok (.aload_n 0, 1) := by decide +kernel
theorem dX4_reckon_232 : decode cX4_reckon 232 = .ok (.getfield 37, 3) := by decide +kernel
theorem dX4_reckon_235 : decode cX4_reckon 235 = .ok (.aload_n 0, 1) := by decide +kernel
theorem dX4_reckon_236 : decode cX4_reckon 236 = .ok (.getfield 25, 3) := by decide +kernel
theorem dX4_reckon_239 : decode cX4_reckon 239 = .ok (.iload_n 1, 1) := by decide +kernel
theorem dX4_reckon_240 : decode cX4_reckon 240 = .ok (.iaload, 1) := by decide +kernel
theorem dX4_reckon_241 : decode cX4_reckon 241 = .ok (.iaload, 1) := by decide +kernel
theorem dX4_reckon_242 : decode cX4_reckon 242 = .ok (.aload_n 0, 1) := by decide +kernel
theorem dX4_reckon_243 : decode cX4_reckon 243 = .ok (.getfield 37, 3) := by decide +kernel
theorem dX4_reckon_246 : decode cX4_reckon 246 = .ok (.aload_n 0, 1) := by decide +kernel
theorem dX4_reckon_247 : decode cX4_reckon 247 = .ok (.getfield 28, 3) := by decide +kernel
theorem dX4_reckon_250 : decode cX4_reckon 250 = .ok (.iload_n 1, 1) := by decide +kernel
theorem dX4_reckon_251 : decode cX4_reckon 251 = .ok (.iaload, 1) := by decide +kernel
theorem dX4_reckon_252 : decode cX4_reckon 252 = .ok (.iaload, 1) := by decide +kernel
theorem dX4_reckon_253 : decode cX4_reckon 253 = .ok (.ior, 1) := by decide +kernel
theorem dX4_reckon_254 : decode cX4_reckon 254 = .ok (.iastore, 1) := by decide +kernel
theorem dX4_reckon_255 : decode cX4_reckon 255 = .ok (.goto 31, 3) := by decide +kernel
theorem dX4_reckon_258 : decode cX4_reckon 258 = .ok (.aload_n 0, 1) := by decide +kernel
theorem dX4_reckon_259 : decode cX4_reckon 259 = .ok (.getfield 37, 3) := by decide +kernel
theorem dX4_reckon_262 : decode cX4_reckon 262 = .ok (.iload_n 1, 1) := by decide +kernel
theorem dX4_reckon_263 : decode cX4_reckon 263 = .ok (.aload_n 0, 1) := by decide +kernel
theorem dX4_reckon_264 : decode cX4_reckon 264 = .ok (.getfield 37, 3) := by decide +kernel
theorem dX4_reckon_267 : decode cX4_reckon 267 = .ok (.aload_n 0, 1) := by decide +kernel
theorem dX4_reckon_268 : decode cX4_reckon 268 = .ok (.getfield 25, 3) := by decide +kernel
theorem dX4_reckon_271 : decode cX4_reckon 271 = .ok (.iload_n 1, 1) := by decide +kernel
theorem dX4_reckon_272 : decode cX4_reckon 272 = .ok (.iaload, 1) := by decide +kernel
theorem dX4_reckon_273 : decode cX4_reckon 273 = .ok (.iaload, 1) := by decide +kernel
theorem dX4_reckon_274 : decode cX4_reckon 274 = .ok (.iconst (-1), 1) := by decide +kernel
theorem dX4_reckon_275 : decode cX4_reckon 275 = .ok (.ixor, 1) := by decide +kernel
theorem dX4_reckon_276 : decode cX4_reckon 276 = .ok (.iconst 1, 1) := by decide +kernel
theorem dX4_reckon_277 : decode cX4_reckon 277 = .ok (.aload_n 0, 1) := by decide +kernel
theorem dX4_reckon_278 : decode cX4_reckon 278 = .ok (.getfield 51, 3) := by decide +kernel
theorem dX4_reckon_281 : decode cX4_reckon 281 = .ok (.ishl, 1) := by decide +kernel
theorem dX4_reckon_282 : decode cX4_reckon 282 = .ok (.iconst 1, 1) := by decide +kernel
theorem dX4_reckon_283 : decode cX4_reckon 283 = .ok (.isub, 1) := by decide +kernel
theorem dX4_reckon_284 : decode cX4_reckon 284 = .ok (.iand, 1) := by decide +kernel
theorem dX4_reckon_285 : decode cX4_reckon 285 = .ok (.iastore, 1) := by decide +kernel
theorem dX4_reckon_286 : decode cX4_reckon 286 = .ok (.iinc 1 1, 3) := by decide +kernel
theorem dX4_reckon_289 : decode cX4_reckon 289 = .ok (.goto (-152), 3) := by decide +kernel
theorem dX4_reckon_292 : decode cX4_reckon 292 = .ok (.return_, 1) := by decide +kernel
theorem dX4_addTag_0 : decode cX4_addTag 0 = .ok (.aload_n 0, 1) := by decide +kernel
theorem dX4_addTag_1 : decode cX4_addTag 1 = .ok (.iconst 0, 1) := by decide +kernel
theorem dX4_addTag_2 : decode cX4_addTag 2 = .ok (.putfield 40, 3) := by decide +kernel
theorem dX4_addTag_5 : decode cX4_addTag 5 = .ok (.aload_n 0, 1) := by decide +kernel
theorem dX4_addTag_6 : decode cX4_addTag 6 = .ok (.getfield 44, 3) := by decide +kernel
theorem dX4_addTag_9 : decode cX4_addTag 9 = .ok (.bipush 16, 2) := by decide +kernel
theorem dX4_addTag_11 : decode cX4_addTag 11 = .ok (.if_icmp .ne 9, 3) := by decide +kernel
theorem dX4_addTag_14 : decode cX4_addTag 14 = .ok (.aload_n 0, 1) := by decide +kernel
theorem dX4_addTag_15 : decode cX4_addTag 15 = .ok (.iconst 1, 1) := by decide +kernel
theorem dX4_addTag_16 : decode cX4_addTag 16 = .ok (.invokevirtual 68, 3) := by decide +kernel
theorem dX4_addTag_19 : decode cX4_addTag 19 = .ok (.ireturn, 1) := by decide +kernel
theorem dX4_addTag_20 : decode cX4_addTag 20 = .ok (.aload_n 0, 1) := by decide +kernel
theorem dX4_addTag_21 : decode cX4_addTag 21 = .ok (.getfield 9, 3) := by decide +kernel
theorem dX4_addTag_24 : decode cX4_addTag 24 = .ok (.aload_n 0, 1) := by decide +kernel
theorem dX4_addTag_25 : decode cX4_addTag 25 = .ok (.getfield 44, 3) := by decide +kernel
theorem dX4_addTag_28 : decode cX4_addTag 28 = .ok (.iconst (-1), 1) := by decide +kernel
theorem dX4_addTag_29 : decode cX4_addTag 29 = .ok (.iastore, 1) := by decide +kernel
theorem dX4_addTag_30 : decode cX4_addTag 30 = .ok (.aload_n 0, 1) := by decide +kernel
theorem dX4_addTag_31 : decode cX4_addTag 31 = .ok (.dup, 1) := by decide +kernel
theorem dX4_addTag_32 : decode cX4_addTag 32 = .ok (.getfield 44, 3) := by decide +kernel
theorem dX4_addTag_35 : decode cX4_addTag 35 = .ok (.iconst 1, 1) := by decide +kernel
theorem dX4_addTag_36 : decode cX4_addTag 36 = .ok (.iadd, 1) := by decide +kernel
theorem dX4_addTag_37 : decode cX4_addTag 37 = .ok (.putfield 44, 3) := by decide +kernel
theorem dX4_addTag_40 : decode cX4_addTag 40 = .ok (.aload_n 0, 1) := by decide +kernel
theorem dX4_addTag_41 : decode cX4_addTag 41 = .ok (.getfield 44, 3) := by decide +kernel
theorem dX4_addTag_44 : decode cX4_addTag 44 = .ok (.iconst 1, 1) := by decide +kernel
theorem dX4_addTag_45 : decode cX4_addTag 45 = .ok (.isub, 1) := by decide +kernel
theorem dX4_addTag_46 : decode cX4_addTag 46 = .ok (.ireturn, 1) := by decide +kernel
theorem dX4_canPut_0 : decode cX4_canPut 0 = .ok (.aload_n 0, 1) := by decide +kernel
theorem dX4_canPut_1 : decode cX4_canPut 1 = .ok (.aload_n 0, 1) := by decide +kernel
theorem dX4_canPut_2 : decode cX4_canPut 2 = .ok (.iload_n 1, 1) := by decide +kernel
theorem dX4_canPut_3 : decode cX4_canPut 3 = .ok (.invokevirtual 71, 3) := by decide +kernel
theorem dX4_canPut_6 : decode cX4_canPut 6 = .ok (.ifCond .eq 11, 3) := by decide +kernel
theorem dX4_canPut_9 : decode cX4_canPut 9 = .ok (.aload_n 0, 1) := by decide +kernel
theorem dX4_canPut_10 : decode cX4_canPut 10 = .ok (.iload_n 2, 1) := by decide +kernel
theorem dX4_canPut_11 : decode cX4_canPut 11 = .ok (.invokevirtual 71, 3) := by decide +kernel
theorem dX4_canPut_14 : decode cX4_canPut 14 = .ok (.ifCond .ne 7, 3) := by decide +kernel
theorem dX4_canPut_17 : decode cX4_canPut 17 = .ok (.iconst 1, 1) := by decide +kernel
theorem dX4_canPut_18 : decode cX4_canPut 18 = .ok (.goto 26, 3) := by decide +kernel
theorem dX4_canPut_21 : decode cX4_canPut 21 = .ok (.iload_n 1, 1) := by decide +kernel
theorem dX4_canPut_22 : decode cX4_canPut 22 = .ok (.iload_n 2, 1) := by decide +kernel
theorem dX4_canPut_23 : decode cX4_canPut 23 = .ok (.if_icmp .ne 7, 3) := by decide +kernel
theorem dX4_canPut_26 : decode cX4_canPut 26 = .ok (.iconst 2, 1) := by decide +kernel
theorem dX4_canPut_27 : decode cX4_canPut 27 = .ok (.goto 17, 3) := by decide +kernel
theorem dX4_canPut_30 : decode cX4_canPut 30 = .ok (.aload_n 0, 1) := by decide +kernel
theorem dX4_canPut_31 : decode cX4_canPut 31 = .ok (.iload_n 2, 1) := by decide +kernel
theorem dX4_canPut_32 : decode cX4_canPut 32 = .ok (.iload_n 1, 1) := by decide +kernel
theorem dX4_canPut_33 : decode cX4_canPut 33 = .ok (.invokevirtual 65, 3) := by decide +kernel
theorem dX4_canPut_36 : decode cX4_canPut 36 = .ok (.ifCond .eq 7, 3) := by decide +kernel
theorem dX4_canPut_39 : decode cX4_canPut 39 = .ok (.iconst 3, 1) := by decide +kernel
theorem dX4_canPut_40 : decode cX4_canPut 40 = .ok (.goto 4, 3) := by decide +kernel
theorem dX4_canPut_43 : decode cX4_canPut 43 = .ok (.iconst 0, 1) := by decide +kernel
theorem dX4_canPut_44 : decode cX4_canPut 44 = .ok (.putfield 40, 3) := by decide +kernel
theorem dX4_canPut_47 : decode cX4_canPut 47 = .ok (.aload_n 0, 1) := by decide +kernel
theorem dX4_canPut_48 : decode cX4_canPut 48 = .ok (.getfield 40, 3) := by decide +kernel
theorem dX4_canPut_51 : decode cX4_canPut 51 = .ok (.ifCond .ne 7, 3) := by decide +kernel
theorem dX4_canPut_54 : decode cX4_canPut 54 = .ok (.iconst 1, 1) := by decide +kernel
theorem dX4_canPut_55 : decode cX4_canPut 55 = .ok (.goto 4, 3) := by decide +kernel
theorem dX4_canPut_58 : decode cX4_canPut 58 = .ok (.iconst 0, 1) := by decide +kernel
theorem dX4_canPut_59 : decode cX4_canPut 59 = .ok (.ireturn, 1) := by decide +kernel
theorem dX4_putUnder_0 : decode cX4_putUnder 0 = .ok (.aload_n 0, 1) := by decide +kernel
theorem dX4_putUnder_1 : decode cX4_putUnder 1 = .ok (.iload_n 1, 1) := by decide +kernel
theorem dX4_putUnder_2 : decode cX4_putUnder 2 = .ok (.iload_n 2, 1) := by decide +kernel
theorem dX4_putUnder_3 : decode cX4_putUnder 3 = .ok (.invokevirtual 75, 3) := by decide +kernel
theorem dX4_putUnder_6 : decode cX4_putUnder 6 = .ok (.ifCond .ne 5, 3) := by decide +kernel
theorem dX4_putUnder_9 : decode cX4_putUnder 9 = .ok (.iconst 0, 1) := by decide +kernel
theorem dX4_putUnder_10 : decode cX4_putUnder 10 = .ok (.ireturn, 1) := by decide +kernel
theorem dX4_putUnder_11 : decode cX4_putUnder 11 = .ok (.aload_n 0, 1) := by decide +kernel
theorem dX4_putUnder_12 : decode cX4_putUnder 12 = .ok (.getfield 9, 3) := by decide +kernel
theorem dX4_putUnder_15 : decode cX4_putUnder 15 = .ok (.iload_n 1, 1) := by decide +kernel
theorem dX4_putUnder_16 : decode cX4_putUnder 16 = .ok (.iload_n 2, 1) := by decide +kernel
theorem dX4_putUnder_17 : decode cX4_putUnder 17 = .ok (.iastore, 1) := by decide +kernel
theorem dX4_putUnder_18 : decode cX4_putUnder 18 = .ok (.aload_n 0, 1) := by decide +kernel
theorem dX4_putUnder_19 : decode cX4_putUnder 19 = .ok (.iload_n 1, 1) := by decide +kernel
theorem dX4_putUnder_20 : decode cX4_putUnder 20 = .ok (.invokevirtual 57, 3) := by decide +kernel
theorem dX4_putUnder_23 : decode cX4_putUnder 23 = .ok (.invokestatic 78, 3) := by decide +kernel
theorem dX4_putUnder_26 : decode cX4_putUnder 26 = .ok (.ireturn, 1) := by decide +kernel
theorem dX4_freeTag_0 : decode cX4_freeTag 0 = .ok (.aload_n 0, 1) := by decide +kernel
theorem dX4_freeTag_1 : decode cX4_freeTag 1 = .ok (.iconst 0, 1) := by decide +kernel
theorem dX4_freeTag_2 : decode cX4_freeTag 2 = .ok (.putfield 40, 3) := by decide +kernel
theorem dX4_freeTag_5 : decode cX4_freeTag 5 = .ok (.aload_n 0, 1) := by decide +kernel
theorem dX4_freeTag_6 : decode cX4_freeTag 6 = .ok (.iload_n 1, 1) := by decide +kernel
theorem dX4_freeTag_7 : decode cX4_freeTag 7 = .ok (.invokevirtual 71, 3) := by decide +kernel
theorem dX4_freeTag_10 : decode cX4_freeTag 10 = .ok (.ifCond .ne 9, 3) := by decide +kernel
theorem dX4_freeTag_13 : decode cX4_freeTag 13 = .ok (.aload_n 0, 1) := by decide +kernel
theorem dX4_freeTag_14 : decode cX4_freeTag 14 = .ok (.iconst 1, 1) := by decide +kernel
theorem dX4_freeTag_15 : decode cX4_freeTag 15 = .ok (.invokevirtual 68, 3) := by decide +kernel
theorem dX4_freeTag_18 : decode cX4_freeTag 18 = .ok (.ireturn, 1) := by decide +kernel
theorem dX4_freeTag_19 : decode cX4_freeTag 19 = .ok (.aload_n 0, 1) := by decide +kernel
theorem dX4_freeTag_20 : decode cX4_freeTag 20 = .ok (.getfield 9, 3) := by decide +kernel
theorem dX4_freeTag_23 : decode cX4_freeTag 23 = .ok (.iload_n 1, 1) := by decide +kernel
theorem dX4_freeTag_24 : decode cX4_freeTag 24 = .ok (.iaload, 1) := by decide +kernel
theorem dX4_freeTag_25 : decode cX4_freeTag 25 = .ok (.iconst (-1), 1) := by decide +kernel
theorem dX4_freeTag_26 : decode cX4_freeTag 26 = .ok (.if_icmp .ne 9, 3) := by decide +kernel
theorem dX4_freeTag_29 : decode cX4_freeTag 29 = .ok (.aload_n 0, 1) := by decide +kernel
theorem dX4_freeTag_30 : decode cX4_freeTag 30 = .ok (.iconst 2, 1) := by decide +kernel
theorem dX4_freeTag_31 : decode cX4_freeTag 31 = .ok (.invokevirtual 68, 3) := by decide +kernel
theorem dX4_freeTag_34 : decode cX4_freeTag 34 = .ok (.ireturn, 1) := by decide +kernel
theorem dX4_freeTag_35 : decode cX4_freeTag 35 = .ok (.aload_n 0, 1) := by decide +kernel
theorem dX4_freeTag_36 : decode cX4_freeTag 36 = .ok (.getfield 9, 3) := by decide +kernel
theorem dX4_freeTag_39 : decode cX4_freeTag 39 = .ok (.iload_n 1, 1) := by decide +kernel
theorem dX4_freeTag_40 : decode cX4_freeTag 40 = .ok (.iaload, 1) := by decide +kernel
theorem dX4_freeTag_41 : decode cX4_freeTag 41 = .ok (.istore_n 2, 1) := by decide +kernel
theorem dX4_freeTag_42 : decode cX4_freeTag 42 = .ok (.aload_n 0, 1) := by decide +kernel
theorem dX4_freeTag_43 : decode cX4_freeTag 43 = .ok (.getfield 9, 3) := by decide +kernel
theorem dX4_freeTag_46 : decode cX4_freeTag 46 = .ok (.iload_n 1, 1) := by decide +kernel
theorem dX4_freeTag_47 : decode cX4_freeTag 47 = .ok (.iconst (-1), 1) := by decide +kernel
theorem dX4_freeTag_48 : decode cX4_freeTag 48 = .ok (.iastore, 1) := by decide +kernel
theorem dX4_freeTag_49 : decode cX4_freeTag 49 = .ok (.iload_n 2, 1) := by decide +kernel
theorem dX4_freeTag_50 : decode cX4_freeTag 50 = .ok (.ireturn, 1) := by decide +kernel
theorem dX4_addDream_0 : decode cX4_addDream 0 = .ok (.aload_n 0, 1) := by decide +kernel
theorem dX4_addDream_1 : decode cX4_addDream 1 = .ok (.iconst 0, 1) := by decide +kernel
theorem dX4_addDream_2 : decode cX4_addDream 2 = .ok (.putfield 40, 3) := by decide +kernel
theorem dX4_addDream_5 : decode cX4_addDream 5 = .ok (.aload_n 0, 1) := by decide +kernel
theorem dX4_addDream_6 : decode cX4_addDream 6 = .ok (.iload_n 1, 1) := by decide +kernel
theorem dX4_addDream_7 : decode cX4_addDream 7 = .ok (.invokevirtual 71, 3) := by decide +kernel
theorem dX4_addDream_10 : decode cX4_addDream 10 = .ok (.ifCond .ne 9, 3) := by decide +kernel
theorem dX4_addDream_13 : decode cX4_addDream 13 = .ok (.aload_n 0, 1) := by decide +kernel
theorem dX4_addDream_14 : decode cX4_addDream 14 = .ok (.iconst 1, 1) := by decide +kernel
theorem dX4_addDream_15 : decode cX4_addDream 15 = .ok (.invokevirtual 68, 3) := by decide +kernel
theorem dX4_addDream_18 : decode cX4_addDream 18 = .ok (.ireturn, 1) := by decide +kernel
theorem dX4_addDream_19 : decode cX4_addDream 19 = .ok (.iload_n 2, 1) := by decide +kernel
theorem dX4_addDream_20 : decode cX4_addDream 20 = .ok (.iconst 1, 1) := by decide +kernel
theorem dX4_addDream_21 : decode cX4_addDream 21 = .ok (.bipush 9, 2) := by decide +kernel
theorem dX4_addDream_23 : decode cX4_addDream 23 = .ok (.invokestatic 47, 3) := by decide +kernel
theorem dX4_addDream_26 : decode cX4_addDream 26 = .ok (.ifCond .ne 9, 3) := by decide +kernel
theorem dX4_addDream_29 : decode cX4_addDream 29 = .ok (.aload_n 0, 1) := by decide +kernel
theorem dX4_addDream_30 : decode cX4_addDream 30 = .ok (.iconst 2, 1) := by decide +kernel
theorem dX4_addDream_31 : decode cX4_addDream 31 = .ok (.invokevirtual 68, 3) := by decide +kernel
theorem dX4_addDream_34 : decode cX4_addDream 34 = .ok (.ireturn, 1) := by decide +kernel
theorem dX4_addDream_35 : decode cX4_addDream 35 = .ok (.aload_n 0, 1) := by decide +kernel
theorem dX4_addDream_36 : decode cX4_addDream 36 = .ok (.getfield 51, 3) := by decide +kernel
theorem dX4_addDream_39 : decode cX4_addDream 39 = .ok (.bipush 24, 2) := by decide +kernel
theorem dX4_addDream_41 : decode cX4_addDream 41 = .ok (.if_icmp .ne 9, 3) := by decide +kernel
theorem dX4_addDream_44 : decode cX4_addDream 44 = .ok (.aload_n 0, 1) := by decide +kernel
theorem dX4_addDream_45 : decode cX4_addDream 45 = .ok (.iconst 3, 1) := by decide +kernel
theorem dX4_addDream_46 : decode cX4_addDream 46 = .ok (.invokevirtual 68, 3) := by decide +kernel
theorem dX4_addDream_49 : decode cX4_addDream 49 = .ok (.ireturn, 1) := by decide +kernel
theorem dX4_addDream_50 : decode cX4_addDream 50 = .ok (.aload_n 0, 1) := by decide +kernel
theorem dX4_addDream_51 : decode cX4_addDream 51 = .ok (.getfield 13, 3) := by decide +kernel
theorem dX4_addDream_54 : decode cX4_addDream 54 = .ok (.aload_n 0, 1) := by decide +kernel
theorem dX4_addDream_55 : decode cX4_addDream 55 = .ok (.getfield 51, 3) := by decide +kernel
theorem dX4_addDream_58 : decode cX4_addDream 58 = .ok (.iconst 1, 1) := by decide +kernel
theorem dX4_addDream_59 : decode cX4_addDream 59 = .ok (.iload_n 1, 1) := by decide +kernel
theorem dX4_addDream_60 : decode cX4_addDream 60 = .ok (.ishl, 1) := by decide +kernel
theorem dX4_addDream_61 : decode cX4_addDream 61 = .ok (.iastore, 1) := by decide +kernel
theorem dX4_addDream_62 : decode cX4_addDream 62 = .ok (.aload_n 0, 1) := by decide +kernel
theorem dX4_addDream_63 : decode cX4_addDream 63 = .ok (.getfield 16, 3) := by decide +kernel
theorem dX4_addDream_66 : decode cX4_addDream 66 = .ok (.aload_n 0, 1) := by decide +kernel
theorem dX4_addDream_67 : decode cX4_addDream 67 = .ok (.getfield 51, 3) := by decide +kernel
theorem dX4_addDream_70 : decode cX4_addDream 70 = .ok (.iload_n 2, 1) := by decide +kernel
theorem dX4_addDream_71 : decode cX4_addDream 71 = .ok (.iastore, 1) := by decide +kernel
theorem dX4_addDream_72 : decode cX4_addDream 72 = .ok (.aload_n 0, 1) := by decide +kernel
theorem dX4_addDream_73 : decode cX4_addDream 73 = .ok (.getfield 19, 3) := by decide +kernel
theorem dX4_addDream_76 : decode cX4_addDream 76 = .ok (.aload_n 0, 1) := by decide +kernel
theorem dX4_addDream_77 : decode cX4_addDream 77 = .ok (.getfield 51, 3) := by decide +kernel
theorem dX4_addDream_80 : decode cX4_addDream 80 = .ok (.aload_n 0, 1) := by decide +kernel
theorem dX4_addDream_81 : decode cX4_addDream 81 = .ok (.getfield 81, 3) := by decide +kernel
theorem dX4_addDream_84 : decode cX4_addDream 84 = .ok (.iastore, 1) := by decide +kernel
theorem dX4_addDream_85 : decode cX4_addDream 85 = .ok (.aload_n 0, 1) := by decide +kernel
theorem dX4_addDream_86 : decode cX4_addDream 86 = .ok (.dup, 1) := by decide +kernel
theorem dX4_addDream_87 : decode cX4_addDream 87 = .ok (.getfield 51, 3) := by decide +kernel
theorem dX4_addDream_90 : decode cX4_addDream 90 = .ok (.iconst 1, 1) := by decide +kernel
theorem dX4_addDream_91 : decode cX4_addDream 91 = .ok (.iadd, 1) := by decide +kernel
theorem dX4_addDream_92 : decode cX4_addDream 92 = .ok (.putfield 51, 3) := by decide +kernel
theorem dX4_addDream_95 : decode cX4_addDream 95 = .ok (.aload_n 0, 1) := by decide +kernel
theorem dX4_addDream_96 : decode cX4_addDream 96 = .ok (.getfield 51, 3) := by decide +kernel
theorem dX4_addDream_99 : decode cX4_addDream 99 = .ok (.iconst 1, 1) := by decide +kernel
theorem dX4_addDream_100 : decode cX4_addDream 100 = .ok (.isub, 1) := by decide +kernel
theorem dX4_addDream_101 : decode cX4_addDream 101 = .ok (.ireturn, 1) := by decide +kernel
theorem dX4_changed_0 : decode cX4_changed 0 = .ok (.aload_n 0, 1) := by decide +kernel
theorem dX4_changed_1 : decode cX4_changed 1 = .ok (.getfield 13, 3) := by decide +kernel
theorem dX4_changed_4 : decode cX4_changed 4 = .ok (.iload_n 1, 1) := by decide +kernel
theorem dX4_changed_5 : decode cX4_changed 5 = .ok (.dup2, 1) := by decide +kernel
theorem dX4_changed_6 : decode cX4_changed 6 = .ok (.iaload, 1) := by decide +kernel
theorem dX4_changed_7 : decode cX4_changed 7 = .ok (.iconst 1, 1) := by decide +kernel
theorem dX4_changed_8 : decode cX4_changed 8 = .ok (.iload_n 2, 1) := by decide +kernel
theorem dX4_changed_9 : decode cX4_changed 9 = .ok (.ishl, 1) := by decide +kernel
theorem dX4_changed_10 : decode cX4_changed 10 = .ok (.ixor, 1) := by decide +kernel
theorem dX4_changed_11 : decode cX4_changed 11 = .ok (.iastore, 1) := by decide +kernel
theorem dX4_changed_12 : decode cX4_changed 12 = .ok (.aload_n 0, 1) := by decide +kernel
theorem dX4_changed_13 : decode cX4_changed 13 = .ok (.getfield 13, 3) := by decide +kernel
theorem dX4_changed_16 : decode cX4_changed 16 = .ok (.iload_n 1, 1) := by decide +kernel
theorem dX4_changed_17 : decode cX4_changed 17 = .ok (.iaload, 1) := by decide +kernel
theorem dX4_changed_18 : decode cX4_changed 18 = .ok (.invokestatic 78, 3) := by decide +kernel
theorem dX4_changed_21 : decode cX4_changed 21 = .ok (.ireturn, 1) := by decide +kernel
theorem dX4_tagDream_0 : decode cX4_tagDream 0 = .ok (.aload_n 0, 1) := by decide +kernel
theorem dX4_tagDream_1 : decode cX4_tagDream 1 = .ok (.iconst 0, 1) := by decide +kernel
theorem dX4_tagDream_2 : decode cX4_tagDream 2 = .ok (.putfield 40, 3) := by decide +kernel
theorem dX4_tagDream_5 : decode cX4_tagDream 5 = .ok (.aload_n 0, 1) := by decide +kernel
theorem dX4_tagDream_6 : decode cX4_tagDream 6 = .ok (.iload_n 1, 1) := by decide +kernel
theorem dX4_tagDream_7 : decode cX4_tagDream 7 = .ok (.invokevirtual 84, 3) := by decide +kernel
theorem dX4_tagDream_10 : decode cX4_tagDream 10 = .ok (.ifCond .eq 11, 3) := by decide +kernel
theorem dX4_tagDream_13 : decode cX4_tagDream 13 = .ok (.aload_n 0, 1) := by decide +kernel
theorem dX4_tagDream_14 : decode cX4_tagDream 14 = .ok (.iload_n 2, 1) := by decide +kernel
theorem dX4_tagDream_15 : decode cX4_tagDream 15 = .ok (.invokevirtual 71, 3) := by decide +kernel
theorem dX4_tagDream_18 : decode cX4_tagDream 18 = .ok (.ifCond .ne 9, 3) := by decide +kernel
theorem dX4_tagDream_21 : decode cX4_tagDream 21 = .ok (.aload_n 0, 1) := by decide +kernel
theorem dX4_tagDream_22 : decode cX4_tagDream 22 = .ok (.iconst 1, 1) := by decide +kernel
theorem dX4_tagDream_23 : decode cX4_tagDream 23 = .ok (.invokevirtual 68, 3) := by decide +kernel
theorem dX4_tagDream_26 : decode cX4_tagDream 26 = .ok (.ireturn, 1) := by decide +kernel
theorem dX4_tagDream_27 : decode cX4_tagDream 27 = .ok (.aload_n 0, 1) := by decide +kernel
theorem dX4_tagDream_28 : decode cX4_tagDream 28 = .ok (.getfield 13, 3) := by decide +kernel
theorem dX4_tagDream_31 : decode cX4_tagDream 31 = .ok (.iload_n 1, 1) := by decide +kernel
theorem dX4_tagDream_32 : decode cX4_tagDream 32 = .ok (.iaload, 1) := by decide +kernel
theorem dX4_tagDream_33 : decode cX4_tagDream 33 = .ok (.iload_n 2, 1) := by decide +kernel
theorem dX4_tagDream_34 : decode cX4_tagDream 34 = .ok (.invokestatic 61, 3) := by decide +kernel
theorem dX4_tagDream_37 : decode cX4_tagDream 37 = .ok (.ifCond .eq 11, 3) := by decide +kernel
theorem dX4_tagDream_40 : decode cX4_tagDream 40 = .ok (.aload_n 0, 1) := by decide +kernel
theorem dX4_tagDream_41 : decode cX4_tagDream 41 = .ok (.iconst 2, 1) := by decide +kernel
theorem dX4_tagDream_42 : decode cX4_tagDream 42 = .ok (.invokevirtual 68, 3) := by decide +kernel
theorem dX4_tagDream_45 : decode cX4_tagDream 45 = .ok (.goto 9, 3) := by decide +kernel
theorem dX4_tagDream_48 : decode cX4_tagDream 48 = .ok (.aload_n 0, 1) := by decide +kernel
theorem dX4_tagDream_49 : decode cX4_tagDream 49 = .ok (.iload_n 1, 1) := by decide +kernel
theorem dX4_tagDream_50 : decode cX4_tagDream 50 = .ok (.iload_n 2, 1) := by decide +kernel
theorem dX4_tagDream_51 : decode cX4_tagDream 51 = .ok (.invokevirtual 87, 3) := by decide +kernel
theorem dX4_tagDream_54 : decode cX4_tagDream 54 = .ok (.ireturn, 1) := by decide +kernel
theorem dX4_untagDream_0 : decode cX4_untagDream 0 = .ok (.aload_n 0, 1) := by decide +kernel
theorem dX4_untagDream_1 : decode cX4_untagDream 1 = .ok (.iconst 0, 1) := by decide +kernel
theorem dX4_untagDream_2 : decode cX4_untagDream 2 = .ok (.putfield 40, 3) := by decide +kernel
theorem dX4_untagDream_5 : decode cX4_untagDream 5 = .ok (.aload_n 0, 1) := by decide +kernel
theorem dX4_untagDream_6 : decode cX4_untagDream 6 = .ok (.iload_n 1, 1) := by decide +kernel
theorem dX4_untagDream_7 : decode cX4_untagDream 7 = .ok (.invokevirtual 84, 3) := by decide +kernel
theorem dX4_untagDream_10 : decode cX4_untagDream 10 = .ok (.ifCond .eq 11, 3) := by decide +kernel
theorem dX4_untagDream_13 : decode cX4_untagDream 13 = .ok (.aload_n 0, 1) := by decide +kernel
theorem dX4_untagDream_14 : decode cX4_untagDream 14 = .ok (.iload_n 2, 1) := by decide +kernel
theorem dX4_untagDream_15 : decode cX4_untagDream 15 = .ok (.invokevirtual 71, 3) := by decide +kernel
theorem dX4_untagDream_18 : decode cX4_untagDream 18 = .ok (.ifCond .ne 9, 3) := by decide +kernel
theorem dX4_untagDream_21 : decode cX4_untagDream 21 = .ok (.aload_n 0, 1) := by decide +kernel
theorem dX4_untagDream_22 : decode cX4_untagDream 22 = .ok (.iconst 1, 1) := by decide +kernel
theorem dX4_untagDream_23 : decode cX4_untagDream 23 = .ok (.invokevirtual 68, 3) := by decide +kernel
theorem dX4_untagDream_26 : decode cX4_untagDream 26 = .ok (.ireturn, 1) := by decide +kernel
theorem dX4_untagDream_27 : decode cX4_untagDream 27 = .ok (.aload_n 0, 1) := by decide +kernel
theorem dX4_untagDream_28 : decode cX4_untagDream 28 = .ok (.getfield 13, 3) := by decide +kernel
theorem dX4_untagDream_31 : decode cX4_untagDream 31 = .ok (.iload_n 1, 1) := by decide +kernel
theorem dX4_untagDream_32 : decode cX4_untagDream 32 = .ok (.iaload, 1) := by decide +kernel
theorem dX4_untagDream_33 : decode cX4_untagDream 33 = .ok (.iload_n 2, 1) := by decide +kernel
theorem dX4_untagDream_34 : decode cX4_untagDream 34 = .ok (.invokestatic 61, 3) := by decide +kernel
theorem dX4_untagDream_37 : decode cX4_untagDream 37 = .ok (.ifCond .eq 15, 3) := by decide +kernel
theorem dX4_untagDream_40 : decode cX4_untagDream 40 = .ok (.aload_n 0, 1) := by decide +kernel
theorem dX4_untagDream_41 : decode cX4_untagDream 41 = .ok (.getfield 13, 3) := by decide +kernel
theorem dX4_untagDream_44 : decode cX4_untagDream 44 = .ok (.iload_n 1, 1) := by decide +kernel
theorem dX4_untagDream_45 : decode cX4_untagDream 45 = .ok (.iaload, 1) := by decide +kernel
theorem dX4_untagDream_46 : decode cX4_untagDream 46 = .ok (.iconst 1, 1) := by decide +kernel
theorem dX4_untagDream_47 : decode cX4_untagDream 47 = .ok (.iload_n 2, 1) := by decide +kernel
theorem dX4_untagDream_48 : decode cX4_untagDream 48 = .ok (.ishl, 1) := by decide +kernel
theorem dX4_untagDream_49 : decode cX4_untagDream 49 = .ok (.if_icmp .ne 11, 3) := by decide +kernel
theorem dX4_untagDream_52 : decode cX4_untagDream 52 = .ok (.aload_n 0, 1) := by decide +kernel
theorem dX4_untagDream_53 : decode cX4_untagDream 53 = .ok (.iconst 2, 1) := by decide +kernel
theorem dX4_untagDream_54 : decode cX4_untagDream 54 = .ok (.invokevirtual 68, 3) := by decide +kernel
theorem dX4_untagDream_57 : decode cX4_untagDream 57 = .ok (.goto 9, 3) := by decide +kernel
theorem dX4_untagDream_60 : decode cX4_untagDream 60 = .ok (.aload_n 0, 1) := by decide +kernel
theorem dX4_untagDream_61 : decode cX4_untagDream 61 = .ok (.iload_n 1, 1) := by decide +kernel
theorem dX4_untagDream_62 : decode cX4_untagDream 62 = .ok (.iload_n 2, 1) := by decide +kernel
theorem dX4_untagDream_63 : decode cX4_untagDream 63 = .ok (.invokevirtual 87, 3) := by decide +kernel
theorem dX4_untagDream_66 : decode cX4_untagDream 66 = .ok (.ireturn, 1) := by decide +kernel
theorem dX4_recall_0 : decode cX4_recall 0 = .ok (.aload_n 0, 1) := by decide +kernel
theorem dX4_recall_1 : decode cX4_recall 1 = .ok (.iconst 0, 1) := by decide +kernel
theorem dX4_recall_2 : decode cX4_recall 2 = .ok (.putfield 40, 3) := by decide +kernel
theorem dX4_recall_5 : decode cX4_recall 5 = .ok (.aload_n 0, 1) := by decide +kernel
theorem dX4_recall_6 : decode cX4_recall 6 = .ok (.iload_n 1, 1) := by decide +kernel
theorem dX4_recall_7 : decode cX4_recall 7 = .ok (.invokevirtual 84, 3) := by decide +kernel
theorem dX4_recall_10 : decode cX4_recall 10 = .ok (.ifCond .ne 9, 3) := by decide +kernel
theorem dX4_recall_13 : decode cX4_recall 13 = .ok (.aload_n 0, 1) := by decide +kernel
theorem dX4_recall_14 : decode cX4_recall 14 = .ok (.iconst 1, 1) := by decide +kernel
theorem dX4_recall_15 : decode cX4_recall 15 = .ok (.invokevirtual 68, 3) := by decide +kernel
theorem dX4_recall_18 : decode cX4_recall 18 = .ok (.ireturn, 1) := by decide +kernel
theorem dX4_recall_19 : decode cX4_recall 19 = .ok (.iload_n 2, 1) := by decide +kernel
theorem dX4_recall_20 : decode cX4_recall 20 = .ok (.iconst 0, 1) := by decide +kernel
theorem dX4_recall_21 : decode cX4_recall 21 = .ok (.bipush 9, 2) := by decide +kernel
theorem dX4_recall_23 : decode cX4_recall 23 = .ok (.invokestatic 47, 3) := by decide +kernel
theorem dX4_recall_26 : decode cX4_recall 26 = .ok (.ifCond .ne 9, 3) := by decide +kernel
theorem dX4_recall_29 : decode cX4_recall 29 = .ok (.aload_n 0, 1) := by decide +kernel
theorem dX4_recall_30 : decode cX4_recall 30 = .ok (.iconst 2, 1) := by decide +kernel
theorem dX4_recall_31 : decode cX4_recall 31 = .ok (.invokevirtual 68, 3) := by decide +kernel
theorem dX4_recall_34 : decode cX4_recall 34 = .ok (.ireturn, 1) := by decide +kernel
theorem dX4_recall_35 : decode cX4_recall 35 = .ok (.aload_n 0, 1) := by decide +kernel
theorem dX4_recall_36 : decode cX4_recall 36 = .ok (.getfield 16, 3) := by decide +kernel
theorem dX4_recall_39 : decode cX4_recall 39 = .ok (.iload_n 1, 1) := by decide +kernel
theorem dX4_recall_40 : decode cX4_recall 40 = .ok (.iaload, 1) := by decide +kernel
theorem dX4_recall_41 : decode cX4_recall 41 = .ok (.istore_n 3, 1) := by decide +kernel
theorem dX4_recall_42 : decode cX4_recall 42 = .ok (.aload_n 0, 1) := by decide +kernel
theorem dX4_recall_43 : decode cX4_recall 43 = .ok (.getfield 16, 3) := by decide +kernel
theorem dX4_recall_46 : decode cX4_recall 46 = .ok (.iload_n 1, 1) := by decide +kernel
theorem dX4_recall_47 : decode cX4_recall 47 = .ok (.iload_n 2, 1) := by decide +kernel
theorem dX4_recall_48 : decode cX4_recall 48 = .ok (.iastore, 1) := by decide +kernel
theorem dX4_recall_49 : decode cX4_recall 49 = .ok (.iload_n 3, 1) := by decide +kernel
theorem dX4_recall_50 : decode cX4_recall 50 = .ok (.ireturn, 1) := by decide +kernel
theorem dX4_later_0 : decode cX4_later 0 = .ok (.iload_n 1, 1) := by decide +kernel
theorem dX4_later_1 : decode cX4_later 1 = .ok (.aload_n 0, 1) := by decide +kernel
theorem dX4_later_2 : decode cX4_later 2 = .ok (.getfield 51, 3) := by decide +kernel
theorem dX4_later_5 : decode cX4_later 5 = .ok (.iconst 1, 1) := by decide +kernel
theorem dX4_later_6 : decode cX4_later 6 = .ok (.isub, 1) := by decide +kernel
theorem dX4_later_7 : decode cX4_later 7 = .ok (.if_icmp .eq 24, 3) := by decide +kernel
theorem dX4_later_10 : decode cX4_later 10 = .ok (.aload_n 0, 1) := by decide +kernel
theorem dX4_later_11 : decode cX4_later 11 = .ok (.getfield 13, 3) := by decide +kernel
theorem dX4_later_14 : decode cX4_later 14 = .ok (.iload_n 1, 1) := by decide +kernel
theorem dX4_later_15 : decode cX4_later 15 = .ok (.iaload, 1) := by decide +kernel
theorem dX4_later_16 : decode cX4_later 16 = .ok (.aload_n 0, 1) := by decide +kernel
theorem dX4_later_17 : decode cX4_later 17 = .ok (.getfield 13, 3) := by decide +kernel
theorem dX4_later_20 : decode cX4_later 20 = .ok (.aload_n 0, 1) := by decide +kernel
theorem dX4_later_21 : decode cX4_later 21 = .ok (.getfield 51, 3) := by decide +kernel
theorem dX4_later_24 : decode cX4_later 24 = .ok (.iconst 1, 1) := by decide +kernel
theorem dX4_later_25 : decode cX4_later 25 = .ok (.isub, 1) := by decide +kernel
theorem dX4_later_26 : decode cX4_later 26 = .ok (.iaload, 1) := by decide +kernel
theorem dX4_later_27 : decode cX4_later 27 = .ok (.iand, 1) := by decide +kernel
theorem dX4_later_28 : decode cX4_later 28 = .ok (.ifCond .eq 7, 3) := by decide +kernel
theorem dX4_later_31 : decode cX4_later 31 = .ok (.iconst 1, 1) := by decide +kernel
theorem dX4_later_32 : decode cX4_later 32 = .ok (.goto 4, 3) := by decide +kernel
theorem dX4_later_35 : decode cX4_later 35 = .ok (.iconst 0, 1) := by decide +kernel
theorem dX4_later_36 : decode cX4_later 36 = .ok (.istore_n 3, 1) := by decide +kernel
theorem dX4_later_37 : decode cX4_later 37 = .ok (.iload_n 3, 1) := by decide +kernel
theorem dX4_later_38 : decode cX4_later 38 = .ok (.ifCond .eq 12, 3) := by decide +kernel
theorem dX4_later_41 : decode cX4_later 41 = .ok (.aload_n 0, 1) := by decide +kernel
theorem dX4_later_42 : decode cX4_later 42 = .ok (.getfield 16, 3) := by decide +kernel
theorem dX4_later_45 : decode cX4_later 45 = .ok (.iload_n 1, 1) := by decide +kernel
theorem dX4_later_46 : decode cX4_later 46 = .ok (.iaload, 1) := by decide +kernel
theorem dX4_later_47 : decode cX4_later 47 = .ok (.goto 15, 3) := by decide +kernel
theorem dX4_later_50 : decode cX4_later 50 = .ok (.iconst 0, 1) := by decide +kernel
theorem dX4_later_51 : decode cX4_later 51 = .ok (.aload_n 0, 1) := by decide +kernel
theorem dX4_later_52 : decode cX4_later 52 = .ok (.getfield 16, 3) := by decide +kernel
theorem dX4_later_55 : decode cX4_later 55 = .ok (.iload_n 1, 1) := by decide +kernel
theorem dX4_later_56 : decode cX4_later 56 = .ok (.iaload, 1) := by decide +kernel
theorem dX4_later_57 : decode cX4_later 57 = .ok (.iload_n 2, 1) := by decide +kernel
theorem dX4_later_58 : decode cX4_later 58 = .ok (.isub, 1) := by decide +kernel
theorem dX4_later_59 : decode cX4_later 59 = .ok (.invokestatic 91, 3) := by decide +kernel
theorem dX4_later_62 : decode cX4_later 62 = .ok (.ireturn, 1) := by decide +kernel
theorem dX4_faded_0 : decode cX4_faded 0 = .ok (.iconst 0, 1) := by decide +kernel
theorem dX4_faded_1 : decode cX4_faded 1 = .ok (.istore_n 2, 1) := by decide +kernel
theorem dX4_faded_2 : decode cX4_faded 2 = .ok (.iconst 0, 1) := by decide +kernel
theorem dX4_faded_3 : decode cX4_faded 3 = .ok (.istore_n 3, 1) := by decide +kernel
theorem dX4_faded_4 : decode cX4_faded 4 = .ok (.iload_n 3, 1) := by decide +kernel
theorem dX4_faded_5 : decode cX4_faded 5 = .ok (.aload_n 0, 1) := by decide +kernel
theorem dX4_faded_6 : decode cX4_faded 6 = .ok (.getfield 51, 3) := by decide +kernel
theorem dX4_faded_9 : decode cX4_faded 9 = .ok (.if_icmp .ge 26, 3) := by decide +kernel
theorem dX4_faded_12 : decode cX4_faded 12 = .ok (.iload_n 2, 1) := by decide +kernel
theorem dX4_faded_13 : decode cX4_faded 13 = .ok (.aload_n 0, 1) := by decide +kernel
theorem dX4_faded_14 : decode cX4_faded 14 = .ok (.iload_n 3, 1) := by decide +kernel
theorem dX4_faded_15 : decode cX4_faded 15 = .ok (.iload_n 1, 1) := by decide +kernel
theorem dX4_faded_16 : decode cX4_faded 16 = .ok (.invokevirtual 96, 3) := by decide +kernel
theorem dX4_faded_19 : decode cX4_faded 19 = .ok (.ifCond .ne 7, 3) := by decide +kernel
theorem dX4_faded_22 : decode cX4_faded 22 = .ok (.iconst 1, 1) := by decide +kernel
theorem dX4_faded_23 : decode cX4_faded 23 = .ok (.goto 4, 3) := by decide +kernel
theorem dX4_faded_26 : decode cX4_faded 26 = .ok (.iconst 0, 1) := by decide +kernel
theorem dX4_faded_27 : decode cX4_faded 27 = .ok (.iadd, 1) := by decide +kernel
theorem dX4_faded_28 : decode cX4_faded 28 = .ok (.istore_n 2, 1) := by decide +kernel
theorem dX4_faded_29 : decode cX4_faded 29 = .ok (.iinc 3 1, 3) := by decide +kernel
theorem dX4_faded_32 : decode cX4_faded 32 = .ok (.goto (-28), 3) := by decide +kernel
theorem dX4_faded_35 : decode cX4_faded 35 = .ok (.iload_n 2, 1) := by decide +kernel
theorem dX4_faded_36 : decode cX4_faded 36 = .ok (.ireturn, 1) := by decide +kernel
theorem dX4_passNights_0 : decode cX4_passNights 0 = .ok (.aload_n 0, 1) := by decide +kernel
theorem dX4_passNights_1 : decode cX4_passNights 1 = .ok (.iconst 0, 1) := by decide +kernel
theorem dX4_passNights_2 : decode cX4_passNights 2 = .ok (.putfield 40, 3) := by decide +kernel
theorem dX4_passNights_5 : decode cX4_passNights 5 = .ok (.iload_n 1, 1) := by decide +kernel
theorem dX4_passNights_6 : decode cX4_passNights 6 = .ok (.iconst 1, 1) := by decide +kernel
theorem dX4_passNights_7 : decode cX4_passNights 7 = .ok (.bipush 30, 2) := by decide +kernel
theorem dX4_passNights_9 : decode cX4_passNights 9 = .ok (.invokestatic 47, 3) := by decide +kernel
theorem dX4_passNights_12 : decode cX4_passNights 12 = .ok (.ifCond .ne 9, 3) := by decide +kernel
theorem dX4_passNights_15 : decode cX4_passNights 15 = .ok (.aload_n 0, 1) := by decide +kernel
theorem dX4_passNights_16 : decode cX4_passNights 16 = .ok (.iconst 1, 1) := by decide +kernel
theorem dX4_passNights_17 : decode cX4_passNights 17 = .ok (.invokevirtual 68, 3) := by decide +kernel
theorem dX4_passNights_20 : decode cX4_passNights 20 = .ok (.ireturn, 1) := by decide +kernel
theorem dX4_passNights_21 : decode cX4_passNights 21 = .ok (.iconst 0, 1) := by decide +kernel
theorem dX4_passNights_22 : decode cX4_passNights 22 = .ok (.istore_n 2, 1) := by decide +kernel
theorem dX4_passNights_23 : decode cX4_passNights 23 = .ok (.iload_n 2, 1) := by decide +kernel
theorem dX4_passNights_24 : decode cX4_passNights 24 = .ok (.aload_n 0, 1) := by decide +kernel
theorem dX4_passNights_25 : decode cX4_passNights 25 = .ok (.getfield 51, 3) := by decide +kernel
theorem dX4_passNights_28 : decode cX4_passNights 28 = .ok (.if_icmp .ge 21, 3) := by decide +kernel
theorem dX4_passNights_31 : decode cX4_passNights 31 = .ok (.aload_n 0, 1) := by decide +kernel
theorem dX4_passNights_32 : decode cX4_passNights 32 = .ok (.getfield 16, 3) := by decide +kernel
theorem dX4_passNights_35 : decode cX4_passNights 35 = .ok (.iload_n 2, 1) := by decide +kernel
theorem dX4_passNights_36 : decode cX4_passNights 36 = .ok (.aload_n 0, 1) := by decide +kernel
theorem dX4_passNights_37 : decode cX4_passNights 37 = .ok (.iload_n 2, 1) := by decide +kernel
theorem dX4_passNights_38 : decode cX4_passNights 38 = .ok (.iload_n 1, 1) := by decide +kernel
theorem dX4_passNights_39 : decode cX4_passNights 39 = .ok (.invokevirtual 96, 3) := by decide +kernel
theorem dX4_passNights_42 : decode cX4_passNights 42 = .ok (.iastore, 1) := by decide +kernel
theorem dX4_passNights_43 : decode cX4_passNights 43 = .ok (.iinc 2 1, 3) := by decide +kernel
theorem dX4_passNights_46 : decode cX4_passNights 46 = .ok (.goto (-23), 3) := by decide +kernel
theorem dX4_passNights_49 : decode cX4_passNights 49 = .ok (.aload_n 0, 1) := by decide +kernel
theorem dX4_passNights_50 : decode cX4_passNights 50 = .ok (.dup, 1) := by decide +kernel
theorem dX4_passNights_51 : decode cX4_passNights 51 = .ok (.getfield 81, 3) := by decide +kernel
theorem dX4_passNights_54 : decode cX4_passNights 54 = .ok (.iload_n 1, 1) := by decide +kernel
theorem dX4_passNights_55 : decode cX4_passNights 55 = .ok (.iadd, 1) := by decide +kernel
theorem dX4_passNights_56 : decode cX4_passNights 56 = .ok (.putfield 81, 3) := by decide +kernel
theorem dX4_passNights_59 : decode cX4_passNights 59 = .ok (.aload_n 0, 1) := by decide +kernel
theorem dX4_passNights_60 : decode cX4_passNights 60 = .ok (.iconst 0, 1) := by decide +kernel
theorem dX4_passNights_61 : decode cX4_passNights 61 = .ok (.invokevirtual 99, 3) := by decide +kernel
theorem dX4_passNights_64 : decode cX4_passNights 64 = .ok (.ireturn, 1) := by decide +kernel
theorem dX4_add_0 : decode cX4_add 0 = .ok (.aload_n 0, 1) := by decide +kernel
theorem dX4_add_1 : decode cX4_add 1 = .ok (.getfield 54, 3) := by decide +kernel
theorem dX4_add_4 : decode cX4_add 4 = .ok (.bipush 20, 2) := by decide +kernel
theorem dX4_add_6 : decode cX4_add 6 = .ok (.if_icmp .ne 9, 3) := by decide +kernel
theorem dX4_add_9 : decode cX4_add 9 = .ok (.aload_n 0, 1) := by decide +kernel
theorem dX4_add_10 : decode cX4_add 10 = .ok (.iconst 2, 1) := by decide +kernel
theorem dX4_add_11 : decode cX4_add 11 = .ok (.invokevirtual 68, 3) := by decide +kernel
theorem dX4_add_14 : decode cX4_add 14 = .ok (.ireturn, 1) := by decide +kernel
theorem dX4_add_15 : decode cX4_add 15 = .ok (.aload_n 0, 1) := by decide +kernel
theorem dX4_add_16 : decode cX4_add 16 = .ok (.getfield 22, 3) := by decide +kernel
theorem dX4_add_19 : decode cX4_add 19 = .ok (.aload_n 0, 1) := by decide +kernel
theorem dX4_add_20 : decode cX4_add 20 = .ok (.getfield 54, 3) := by decide +kernel
theorem dX4_add_23 : decode cX4_add 23 = .ok (.iload_n 1, 1) := by decide +kernel
theorem dX4_add_24 : decode cX4_add 24 = .ok (.iastore, 1) := by decide +kernel
theorem dX4_add_25 : decode cX4_add 25 = .ok (.aload_n 0, 1) := by decide +kernel
theorem dX4_add_26 : decode cX4_add 26 = .ok (.getfield 25, 3) := by decide +kernel
theorem dX4_add_29 : decode cX4_add 29 = .ok (.aload_n 0, 1) := by decide +kernel
theorem dX4_add_30 : decode cX4_add 30 = .ok (.getfield 54, 3) := by decide +kernel
theorem dX4_add_33 : decode cX4_add 33 = .ok (.iload_n 2, 1) := by decide +kernel
theorem dX4_add_34 : decode cX4_add 34 = .ok (.iastore, 1) := by decide +kernel
theorem dX4_add_35 : decode cX4_add 35 = .ok (.aload_n 0, 1) := by decide +kernel
theorem dX4_add_36 : decode cX4_add 36 = .ok (.getfield 28, 3) := by decide +kernel
theorem dX4_add_39 : decode cX4_add 39 = .ok (.aload_n 0, 1) := by decide +kernel
theorem dX4_add_40 : decode cX4_add 40 = .ok (.getfield 54, 3) := by decide +kernel
theorem dX4_add_43 : decode cX4_add 43 = .ok (.iload_n 3, 1) := by decide +kernel
theorem dX4_add_44 : decode cX4_add 44 = .ok (.iastore, 1) := by decide +kernel
theorem dX4_add_45 : decode cX4_add 45 = .ok (.aload_n 0, 1) := by decide +kernel
theorem dX4_add_46 : decode cX4_add 46 = .ok (.dup, 1) := by decide +kernel
theorem dX4_add_47 : decode cX4_add 47 = .ok (.getfield 54, 3) := by decide +kernel
theorem dX4_add_50 : decode cX4_add 50 = .ok (.iconst 1, 1) := by decide +kernel
theorem dX4_add_51 : decode cX4_add 51 = .ok (.iadd, 1) := by decide +kernel
theorem dX4_add_52 : decode cX4_add 52 = .ok (.putfield 54, 3) := by decide +kernel
theorem dX4_add_55 : decode cX4_add 55 = .ok (.aload_n 0, 1) := by decide +kernel
theorem dX4_add_56 : decode cX4_add 56 = .ok (.getfield 54, 3) := by decide +kernel
theorem dX4_add_59 : decode cX4_add 59 = .ok (.iconst 1, 1) := by decide +kernel
theorem dX4_add_60 : decode cX4_add 60 = .ok (.isub, 1) := by decide +kernel
theorem dX4_add_61 : decode cX4_add 61 = .ok (.ireturn, 1) := by decide +kernel
theorem dX4_addTagTerm_0 : decode cX4_addTagTerm 0 = .ok (.aload_n 0, 1) := by decide +kernel
theorem dX4_addTagTerm_1 : decode cX4_addTagTerm 1 = .ok (.iconst 0, 1) := by decide +kernel
theorem dX4_addTagTerm_2 : decode cX4_addTagTerm 2 = .ok (.putfield 40, 3) := by decide +kernel
theorem dX4_addTagTerm_5 : decode cX4_addTagTerm 5 = .ok (.aload_n 0, 1) := by decide +kernel
theorem dX4_addTagTerm_6 : decode cX4_addTagTerm 6 = .ok (.iload_n 1, 1) := by decide +kernel
theorem dX4_addTagTerm_7 : decode cX4_addTagTerm 7 = .ok (.invokevirtual 71, 3) := by decide +kernel
theorem dX4_addTagTerm_10 : decode cX4_addTagTerm 10 = .ok (.ifCond .eq 13, 3) := by decide +kernel
theorem dX4_addTagTerm_13 : decode cX4_addTagTerm 13 = .ok (.aload_n 0, 1) := by decide +kernel
theorem dX4_addTagTerm_14 : decode cX4_addTagTerm 14 = .ok (.iconst 0, 1) := by decide +kernel
theorem dX4_addTagTerm_15 : decode cX4_addTagTerm 15 = .ok (.iload_n 1, 1) := by decide +kernel
theorem dX4_addTagTerm_16 : decode cX4_addTagTerm 16 = .ok (.iconst 0, 1) := by decide +kernel
theorem dX4_addTagTerm_17 : decode cX4_addTagTerm 17 = .ok (.invokevirtual 102, 3) := by decide +kernel
theorem dX4_addTagTerm_20 : decode cX4_addTagTerm 20 = .ok (.goto 8, 3) := by decide +kernel
theorem dX4_addTagTerm_23 : decode cX4_addTagTerm 23 = .ok (.aload_n 0, 1) := by decide +kernel
theorem dX4_addTagTerm_24 : decode cX4_addTagTerm 24 = .ok (.iconst 1, 1) := by decide +kernel
theorem dX4_addTagTerm_25 : decode cX4_addTagTerm 25 = .ok (.invokevirtual 68, 3) := by decide +kernel
theorem dX4_addTagTerm_28 : decode cX4_addTagTerm 28 = .ok (.ireturn, 1) := by decide +kernel
theorem dX4_addBothTerm_0 : decode cX4_addBothTerm 0 = .ok (.aload_n 0, 1) := by decide +kernel
theorem dX4_addBothTerm_1 : decode cX4_addBothTerm 1 = .ok (.iconst 0, 1) := by decide +kernel
theorem dX4_addBothTerm_2 : decode cX4_addBothTerm 2 = .ok (.putfield 40, 3) := by decide +kernel
theorem dX4_addBothTerm_5 : decode cX4_addBothTerm 5 = .ok (.aload_n 0, 1) := by decide +kernel
theorem dX4_addBothTerm_6 : decode cX4_addBothTerm 6 = .ok (.iload_n 1, 1) := by decide +kernel
theorem dX4_addBothTerm_7 : decode cX4_addBothTerm 7 = .ok (.invokevirtual 106, 3) := by decide +kernel
theorem dX4_addBothTerm_10 : decode cX4_addBothTerm 10 = .ok (.ifCond .eq 21, 3) := by decide +kernel
theorem dX4_addBothTerm_13 : decode cX4_addBothTerm 13 = .ok (.aload_n 0, 1) := by decide +kernel
theorem dX4_addBothTerm_14 : decode cX4_addBothTerm 14 = .ok (.iload_n 2, 1) := by decide +kernel
theorem dX4_addBothTerm_15 : decode cX4_addBothTerm 15 = .ok (.invokevirtual 106, 3) := by decide +kernel
theorem dX4_addBothTerm_18 : decode cX4_addBothTerm 18 = .ok (.ifCond .eq 13, 3) := by decide +kernel
theorem dX4_addBothTerm_21 : decode cX4_addBothTerm 21 = .ok (.aload_n 0, 1) := by decide +kernel
theorem dX4_addBothTerm_22 : decode cX4_addBothTerm 22 = .ok (.iconst 1, 1) := by decide +kernel
theorem dX4_addBothTerm_23 : decode cX4_addBothTerm 23 = .ok (.iload_n 1, 1) := by decide +kernel
theorem dX4_addBothTerm_24 : decode cX4_addBothTerm 24 = .ok (.iload_n 2, 1) := by decide +kernel
theorem dX4_addBothTerm_25 : decode cX4_addBothTerm 25 = .ok (.invokevirtual 102, 3) := by decide +kernel
theorem dX4_addBothTerm_28 : decode cX4_addBothTerm 28 = .ok (.goto 8, 3) := by decide +kernel
theorem dX4_addBothTerm_31 : decode cX4_addBothTerm 31 = .ok (.aload_n 0, 1) := by decide +kernel
theorem dX4_addBothTerm_32 : decode cX4_addBothTerm 32 = .ok (.iconst 1, 1) := by decide +kernel
theorem dX4_addBothTerm_33 : decode cX4_addBothTerm 33 = .ok (.invokevirtual 68, 3) := by decide +kernel
theorem dX4_addBothTerm_36 : decode cX4_addBothTerm 36 = .ok (.ireturn, 1) := by decide +kernel
theorem dX4_addEitherTerm_0 : decode cX4_addEitherTerm 0 = .ok (.aload_n 0, 1) := by decide +kernel
theorem dX4_addEitherTerm_1 : decode cX4_addEitherTerm 1 = .ok (.iconst 0, 1) := by decide +kernel
theorem dX4_addEitherTerm_2 : decode cX4_addEitherTerm 2 = .ok (.putfield 40, 3) := by decide +kernel
theorem dX4_addEitherTerm_5 : decode cX4_addEitherTerm 5 = .ok (.aload_n 0, 1) := by decide +kernel
theorem dX4_addEitherTerm_6 : decode cX4_addEitherTerm 6 = .ok (.iload_n 1, 1) := by decide +kernel
theorem dX4_addEitherTerm_7 : decode cX4_addEitherTerm 7 = .ok (.invokevirtual 106, 3) := by decide +kernel
theorem dX4_addEitherTerm_10 : decode cX4_addEitherTerm 10 = .ok (.ifCond .eq 21, 3) := by decide +kernel
theorem dX4_addEitherTerm_13 : decode cX4_addEitherTerm 13 = .ok (.aload_n 0, 1) := by decide +kernel
theorem dX4_addEitherTerm_14 : decode cX4_addEitherTerm 14 = .ok (.iload_n 2, 1) := by decide +kernel
theorem dX4_addEitherTerm_15 : decode cX4_addEitherTerm 15 = .ok (.invokevirtual 106, 3) := by decide +kernel
theorem dX4_addEitherTerm_18 : decode cX4_addEitherTerm 18 = .ok (.ifCond .eq 13, 3) := by decide +kernel
theorem dX4_addEitherTerm_21 : decode cX4_addEitherTerm 21 = .ok (.aload_n 0, 1) := by decide +kernel
theorem dX4_addEitherTerm_22 : decode cX4_addEitherTerm 22 = .ok (.iconst 2, 1) := by decide +kernel
theorem dX4_addEitherTerm_23 : decode cX4_addEitherTerm 23 = .ok (.iload_n 1, 1) := by decide +kernel
theorem dX4_addEitherTerm_24 : decode cX4_addEitherTerm 24 = .ok (.iload_n 2, 1) := by decide +kernel
theorem dX4_addEitherTerm_25 : decode cX4_addEitherTerm 25 = .ok (.invokevirtual 102, 3) := by decide +kernel
theorem dX4_addEitherTerm_28 : decode cX4_addEitherTerm 28 = .ok (.goto 8, 3) := by decide +kernel
theorem dX4_addEitherTerm_31 : decode cX4_addEitherTerm 31 = .ok (.aload_n 0, 1) := by decide +kernel
theorem dX4_addEitherTerm_32 : decode cX4_addEitherTerm 32 = .ok (.iconst 1, 1) := by decide +kernel
theorem dX4_addEitherTerm_33 : decode cX4_addEitherTerm 33 = .ok (.invokevirtual 68, 3) := by decide +kernel
theorem dX4_addEitherTerm_36 : decode cX4_addEitherTerm 36 = .ok (.ireturn, 1) := by decide +kernel
theorem dX4_addWithoutTerm_0 : decode cX4_addWithoutTerm 0 = .ok (.aload_n 0, 1) := by decide +kernel
theorem dX4_addWithoutTerm_1 : decode cX4_addWithoutTerm 1 = .ok (.iconst 0, 1) := by decide +kernel
theorem dX4_addWithoutTerm_2 : decode cX4_addWithoutTerm 2 = .ok (.putfield 40, 3) := by decide +kernel
theorem dX4_addWithoutTerm_5 : decode cX4_addWithoutTerm 5 = .ok (.aload_n 0, 1) := by decide +kernel
theorem dX4_addWithoutTerm_6 : decode cX4_addWithoutTerm 6 = .ok (.iload_n 1, 1) := by decide +kernel
theorem dX4_addWithoutTerm_7 : decode cX4_addWithoutTerm 7 = .ok (.invokevirtual 106, 3) := by decide +kernel
theorem dX4_addWithoutTerm_10 : decode cX4_addWithoutTerm 10 = .ok (.ifCond .eq 13, 3) := by decide +kernel
theorem dX4_addWithoutTerm_13 : decode cX4_addWithoutTerm 13 = .ok (.aload_n 0, 1) := by decide +kernel
theorem dX4_addWithoutTerm_14 : decode cX4_addWithoutTerm 14 = .ok (.iconst 3, 1) := by decide +kernel
theorem dX4_addWithoutTerm_15 : decode cX4_addWithoutTerm 15 = .ok (.iload_n 1, 1) := by decide +kernel
theorem dX4_addWithoutTerm_16 : decode cX4_addWithoutTerm 16 = .ok (.iconst 0, 1) := by decide +kernel
theorem dX4_addWithoutTerm_17 : decode cX4_addWithoutTerm 17 = .ok (.invokevirtual 102, 3) := by decide +kernel
theorem dX4_addWithoutTerm_20 : decode cX4_addWithoutTerm 20 = .ok (.goto 8, 3) := by decide +kernel
theorem dX4_addWithoutTerm_23 : decode cX4_addWithoutTerm 23 = .ok (.aload_n 0, 1) := by decide +kernel
theorem dX4_addWithoutTerm_24 : decode cX4_addWithoutTerm 24 = .ok (.iconst 1, 1) := by decide +kernel
theorem dX4_addWithoutTerm_25 : decode cX4_addWithoutTerm 25 = .ok (.invokevirtual 68, 3) := by decide +kernel
theorem dX4_addWithoutTerm_28 : decode cX4_addWithoutTerm 28 = .ok (.ireturn, 1) := by decide +kernel
theorem dX4_clearTerms_0 : decode cX4_clearTerms 0 = .ok (.aload_n 0, 1) := by decide +kernel
theorem dX4_clearTerms_1 : decode cX4_clearTerms 1 = .ok (.iconst 0, 1) := by decide +kernel
theorem dX4_clearTerms_2 : decode cX4_clearTerms 2 = .ok (.putfield 40, 3) := by decide +kernel
theorem dX4_clearTerms_5 : decode cX4_clearTerms 5 = .ok (.aload_n 0, 1) := by decide +kernel
theorem dX4_clearTerms_6 : decode cX4_clearTerms 6 = .ok (.getfield 54, 3) := by decide +kernel
theorem dX4_clearTerms_9 : decode cX4_clearTerms 9 = .ok (.istore_n 1, 1) := by decide +kernel
theorem dX4_clearTerms_10 : decode cX4_clearTerms 10 = .ok (.aload_n 0, 1) := by decide +kernel
theorem dX4_clearTerms_11 : decode cX4_clearTerms 11 = .ok (.iconst 0, 1) := by decide +kernel
theorem dX4_clearTerms_12 : decode cX4_clearTerms 12 = .ok (.putfield 54, 3) := by decide +kernel
theorem dX4_clearTerms_15 : decode cX4_clearTerms 15 = .ok (.iload_n 1, 1) := by decide +kernel
theorem dX4_clearTerms_16 : decode cX4_clearTerms 16 = .ok (.ireturn, 1) := by decide +kernel
theorem dX4_hasParent_0 : decode cX4_hasParent 0 = .ok (.aload_n 0, 1) := by decide +kernel
theorem dX4_hasParent_1 : decode cX4_hasParent 1 = .ok (.iconst 0, 1) := by decide +kernel
theorem dX4_hasParent_2 : decode cX4_hasParent 2 = .ok (.putfield 40, 3) := by decide +kernel
theorem dX4_hasParent_5 : decode cX4_hasParent 5 = .ok (.aload_n 0, 1) := by decide +kernel
theorem dX4_hasParent_6 : decode cX4_hasParent 6 = .ok (.iload_n 1, 1) := by decide +kernel
theorem dX4_hasParent_7 : decode cX4_hasParent 7 = .ok (.invokevirtual 71, 3) := by decide +kernel
theorem dX4_hasParent_10 : decode cX4_hasParent 10 = .ok (.ifCond .eq 21, 3) := by decide +kernel
theorem dX4_hasParent_13 : decode cX4_hasParent 13 = .ok (.aload_n 0, 1) := by decide +kernel
theorem dX4_hasParent_14 : decode cX4_hasParent 14 = .ok (.getfield 9, 3) := by decide +kernel
theorem dX4_hasParent_17 : decode cX4_hasParent 17 = .ok (.iload_n 1, 1) := by decide +kernel
theorem dX4_hasParent_18 : decode cX4_hasParent 18 = .ok (.iaload, 1) := by decide +kernel
theorem dX4_hasParent_19 : decode cX4_hasParent 19 = .ok (.iconst (-1), 1) := by decide +kernel
theorem dX4_hasParent_20 : decode cX4_hasParent 20 = .ok (.if_icmp .eq 7, 3) := by decide +kernel
theorem dX4_hasParent_23 : decode cX4_hasParent 23 = .ok (.iconst 1, 1) := by decide +kernel
theorem dX4_hasParent_24 : decode cX4_hasParent 24 = .ok (.goto 12, 3) := by decide +kernel
theorem dX4_hasParent_27 : decode cX4_hasParent 27 = .ok (.iconst 0, 1) := by decide +kernel
theorem dX4_hasParent_28 : decode cX4_hasParent 28 = .ok (.goto 8, 3) := by decide +kernel
theorem dX4_hasParent_31 : decode cX4_hasParent 31 = .ok (.aload_n 0, 1) := by decide +kernel
theorem dX4_hasParent_32 : decode cX4_hasParent 32 = .ok (.iconst 1, 1) := by decide +kernel
theorem dX4_hasParent_33 : decode cX4_hasParent 33 = .ok (.invokevirtual 109, 3) := by decide +kernel
theorem dX4_hasParent_36 : decode cX4_hasParent 36 = .ok (.ireturn, 1) := by decide +kernel
theorem dX4_parentOf_0 : decode cX4_parentOf 0 = .ok (.aload_n 0, 1) := by decide +kernel
theorem dX4_parentOf_1 : decode cX4_parentOf 1 = .ok (.iconst 0, 1) := by decide +kernel
theorem dX4_parentOf_2 : decode cX4_parentOf 2 = .ok (.putfield 40, 3) := by decide +kernel
theorem dX4_parentOf_5 : decode cX4_parentOf 5 = .ok (.aload_n 0, 1) := by decide +kernel
theorem dX4_parentOf_6 : decode cX4_parentOf 6 = .ok (.iload_n 1, 1) := by decide +kernel
theorem dX4_parentOf_7 : decode cX4_parentOf 7 = .ok (.invokevirtual 71, 3) := by decide +kernel
theorem dX4_parentOf_10 : decode cX4_parentOf 10 = .ok (.ifCond .ne 9, 3) := by decide +kernel
theorem dX4_parentOf_13 : decode cX4_parentOf 13 = .ok (.aload_n 0, 1) := by decide +kernel
theorem dX4_parentOf_14 : decode cX4_parentOf 14 = .ok (.iconst 1, 1) := by decide +kernel
theorem dX4_parentOf_15 : decode cX4_parentOf 15 = .ok (.invokevirtual 68, 3) := by decide +kernel
theorem dX4_parentOf_18 : decode cX4_parentOf 18 = .ok (.ireturn, 1) := by decide +kernel
theorem dX4_parentOf_19 : decode cX4_parentOf 19 = .ok (.aload_n 0, 1) := by decide +kernel
theorem dX4_parentOf_20 : decode cX4_parentOf 20 = .ok (.getfield 9, 3) := by decide +kernel
theorem dX4_parentOf_23 : decode cX4_parentOf 23 = .ok (.iload_n 1, 1) := by decide +kernel
theorem dX4_parentOf_24 : decode cX4_parentOf 24 = .ok (.iaload, 1) := by decide +kernel
theorem dX4_parentOf_25 : decode cX4_parentOf 25 = .ok (.iconst (-1), 1) := by decide +kernel
theorem dX4_parentOf_26 : decode cX4_parentOf 26 = .ok (.if_icmp .ne 11, 3) := by decide +kernel
theorem dX4_parentOf_29 : decode cX4_parentOf 29 = .ok (.aload_n 0, 1) := by decide +kernel
theorem dX4_parentOf_30 : decode cX4_parentOf 30 = .ok (.iconst 2, 1) := by decide +kernel
theorem dX4_parentOf_31 : decode cX4_parentOf 31 = .ok (.invokevirtual 68, 3) := by decide +kernel
theorem dX4_parentOf_34 : decode cX4_parentOf 34 = .ok (.goto 9, 3) := by decide +kernel
theorem dX4_parentOf_37 : decode cX4_parentOf 37 = .ok (.aload_n 0, 1) := by decide +kernel
theorem dX4_parentOf_38 : decode cX4_parentOf 38 = .ok (.getfield 9, 3) := by decide +kernel
theorem dX4_parentOf_41 : decode cX4_parentOf 41 = .ok (.iload_n 1, 1) := by decide +kernel
theorem dX4_parentOf_42 : decode cX4_parentOf 42 = .ok (.iaload, 1) := by decide +kernel
theorem dX4_parentOf_43 : decode cX4_parentOf 43 = .ok (.ireturn, 1) := by decide +kernel
theorem dX4_tagsAbove_0 : decode cX4_tagsAbove 0 = .ok (.aload_n 0, 1) := by decide +kernel
theorem dX4_tagsAbove_1 : decode cX4_tagsAbove 1 = .ok (.iconst 0, 1) := by decide +kernel
theorem dX4_tagsAbove_2 : decode cX4_tagsAbove 2 = .ok (.putfield 40, 3) := by decide +kernel
theorem dX4_tagsAbove_5 : decode cX4_tagsAbove 5 = .ok (.aload_n 0, 1) := by decide +kernel
theorem dX4_tagsAbove_6 : decode cX4_tagsAbove 6 = .ok (.iload_n 1, 1) := by decide +kernel
theorem dX4_tagsAbove_7 : decode cX4_tagsAbove 7 = .ok (.invokevirtual 71, 3) := by decide +kernel
theorem dX4_tagsAbove_10 : decode cX4_tagsAbove 10 = .ok (.ifCond .eq 14, 3) := by decide +kernel
theorem dX4_tagsAbove_13 : decode cX4_tagsAbove 13 = .ok (.aload_n 0, 1) := by decide +kernel
theorem dX4_tagsAbove_14 : decode cX4_tagsAbove 14 = .ok (.iload_n 1, 1) := by decide +kernel
theorem dX4_tagsAbove_15 : decode cX4_tagsAbove 15 = .ok (.invokevirtual 57, 3) := by decide +kernel
theorem dX4_tagsAbove_18 : decode cX4_tagsAbove 18 = .ok (.invokestatic 78, 3) := by decide +kernel
theorem dX4_tagsAbove_21 : decode cX4_tagsAbove 21 = .ok (.goto 8, 3) := by decide +kernel
theorem dX4_tagsAbove_24 : decode cX4_tagsAbove 24 = .ok (.aload_n 0, 1) := by decide +kernel
theorem dX4_tagsAbove_25 : decode cX4_tagsAbove 25 = .ok (.iconst 1, 1) := by decide +kernel
theorem dX4_tagsAbove_26 : decode cX4_tagsAbove 26 = .ok (.invokevirtual 68, 3) := by decide +kernel
theorem dX4_tagsAbove_29 : decode cX4_tagsAbove 29 = .ok (.ireturn, 1) := by decide +kernel
theorem dX4_tagsBelow_0 : decode cX4_tagsBelow 0 = .ok (.aload_n 0, 1) := by decide +kernel
theorem dX4_tagsBelow_1 : decode cX4_tagsBelow 1 = .ok (.iconst 0, 1) := by decide +kernel
theorem dX4_tagsBelow_2 : decode cX4_tagsBelow 2 = .ok (.putfield 40, 3) := by decide +kernel
theorem dX4_tagsBelow_5 : decode cX4_tagsBelow 5 = .ok (.aload_n 0, 1) := by decide +kernel
theorem dX4_tagsBelow_6 : decode cX4_tagsBelow 6 = .ok (.iload_n 1, 1) := by decide +kernel
theorem dX4_tagsBelow_7 : decode cX4_tagsBelow 7 = .ok (.invokevirtual 71, 3) := by decide +kernel
theorem dX4_tagsBelow_10 : decode cX4_tagsBelow 10 = .ok (.ifCond .eq 11, 3) := by decide +kernel
theorem dX4_tagsBelow_13 : decode cX4_tagsBelow 13 = .ok (.aload_n 0, 1) := by decide +kernel
theorem dX4_tagsBelow_14 : decode cX4_tagsBelow 14 = .ok (.iload_n 1, 1) := by decide +kernel
theorem dX4_tagsBelow_15 : decode cX4_tagsBelow 15 = .ok (.invokevirtual 112, 3) := by decide +kernel
theorem dX4_tagsBelow_18 : decode cX4_tagsBelow 18 = .ok (.goto 8, 3) := by decide +kernel
theorem dX4_tagsBelow_21 : decode cX4_tagsBelow 21 = .ok (.aload_n 0, 1) := by decide +kernel
theorem dX4_tagsBelow_22 : decode cX4_tagsBelow 22 = .ok (.iconst 1, 1) := by decide +kernel
theorem dX4_tagsBelow_23 : decode cX4_tagsBelow 23 = .ok (.invokevirtual 68, 3) := by decide +kernel
theorem dX4_tagsBelow_26 : decode cX4_tagsBelow 26 = .ok (.ireturn, 1) := by decide +kernel
theorem dX4_isBelow_0 : decode cX4_isBelow 0 = .ok (.aload_n 0, 1) := by decide +kernel
theorem dX4_isBelow_1 : decode cX4_isBelow 1 = .ok (.iconst 0, 1) := by decide +kernel
theorem dX4_isBelow_2 : decode cX4_isBelow 2 = .ok (.putfield 40, 3) := by decide +kernel
theorem dX4_isBelow_5 : decode cX4_isBelow 5 = .ok (.aload_n 0, 1) := by decide +kernel
theorem dX4_isBelow_6 : decode cX4_isBelow 6 = .ok (.iload_n 1, 1) := by decide +kernel
theorem dX4_isBelow_7 : decode cX4_isBelow 7 = .ok (.invokevirtual 71, 3) := by decide +kernel
theorem dX4_isBelow_10 : decode cX4_isBelow 10 = .ok (.ifCond .eq 20, 3) := by decide +kernel
theorem dX4_isBelow_13 : decode cX4_isBelow 13 = .ok (.aload_n 0, 1) := by decide +kernel
theorem dX4_isBelow_14 : decode cX4_isBelow 14 = .ok (.iload_n 2, 1) := by decide +kernel
theorem dX4_isBelow_15 : decode cX4_isBelow 15 = .ok (.invokevirtual 71, 3) := by decide +kernel
theorem dX4_isBelow_18 : decode cX4_isBelow 18 = .ok (.ifCond .eq 12, 3) := by decide +kernel
theorem dX4_isBelow_21 : decode cX4_isBelow 21 = .ok (.aload_n 0, 1) := by decide +kernel
theorem dX4_isBelow_22 : decode cX4_isBelow 22 = .ok (.iload_n 1, 1) := by decide +kernel
theorem dX4_isBelow_23 : decode cX4_isBelow 23 = .ok (.iload_n 2, 1) := by decide +kernel
theorem dX4_isBelow_24 : decode cX4_isBelow 24 = .ok (.invokevirtual 65, 3) := by decide +kernel
theorem dX4_isBelow_27 : decode cX4_isBelow 27 = .ok (.goto 8, 3) := by decide +kernel
theorem dX4_isBelow_30 : decode cX4_isBelow 30 = .ok (.aload_n 0, 1) := by decide +kernel
theorem dX4_isBelow_31 : decode cX4_isBelow 31 = .ok (.iconst 1, 1) := by decide +kernel
theorem dX4_isBelow_32 : decode cX4_isBelow 32 = .ok (.invokevirtual 109, 3) := by decide +kernel
theorem dX4_isBelow_35 : decode cX4_isBelow 35 = .ok (.ireturn, 1) := by decide +kernel
theorem dX4_nearestAbove_0 : decode cX4_nearestAbove 0 = .ok (.aload_n 0, 1) := by decide +kernel
theorem dX4_nearestAbove_1 : decode cX4_nearestAbove 1 = .ok (.iconst 0, 1) := by decide +kernel
theorem dX4_nearestAbove_2 : decode cX4_nearestAbove 2 = .ok (.putfield 40, 3) := by decide +kernel
theorem dX4_nearestAbove_5 : decode cX4_nearestAbove 5 = .ok (.aload_n 0, 1) := by decide +kernel
theorem dX4_nearestAbove_6 : decode cX4_nearestAbove 6 = .ok (.iload_n 1, 1) := by decide +kernel
theorem dX4_nearestAbove_7 : decode cX4_nearestAbove 7 = .ok (.invokevirtual 71, 3) := by decide +kernel
theorem dX4_nearestAbove_10 : decode cX4_nearestAbove 10 = .ok (.ifCond .eq 11, 3) := by decide +kernel
theorem dX4_nearestAbove_13 : decode cX4_nearestAbove 13 = .ok (.aload_n 0, 1) := by decide +kernel
theorem dX4_nearestAbove_14 : decode cX4_nearestAbove 14 = .ok (.iload_n 2, 1) := by decide +kernel
theorem dX4_nearestAbove_15 : decode cX4_nearestAbove 15 = .ok (.invokevirtual 71, 3) := by decide +kernel
theorem dX4_nearestAbove_18 : decode cX4_nearestAbove 18 = .ok (.ifCond .ne 9, 3) := by decide +kernel
theorem dX4_nearestAbove_21 : decode cX4_nearestAbove 21 = .ok (.aload_n 0, 1) := by decide +kernel
theorem dX4_nearestAbove_22 : decode cX4_nearestAbove 22 = .ok (.iconst 1, 1) := by decide +kernel
theorem dX4_nearestAbove_23 : decode cX4_nearestAbove 23 = .ok (.invokevirtual 68, 3) := by decide +kernel
theorem dX4_nearestAbove_26 : decode cX4_nearestAbove 26 = .ok (.ireturn, 1) := by decide +kernel
theorem dX4_nearestAbove_27 : decode cX4_nearestAbove 27 = .ok (.aload_n 0, 1) := by decide +kernel
theorem dX4_nearestAbove_28 : decode cX4_nearestAbove 28 = .ok (.iload_n 1, 1) := by decide +kernel
theorem dX4_nearestAbove_29 : decode cX4_nearestAbove 29 = .ok (.invokevirtual 57, 3) := by decide +kernel
theorem dX4_nearestAbove_32 : decode cX4_nearestAbove 32 = .ok (.iconst 1, 1) := by decide +kernel
theorem dX4_nearestAbove_33 : decode cX4_nearestAbove 33 = .ok (.iload_n 1, 1) := by decide +kernel
theorem dX4_nearestAbove_34 : decode cX4_nearestAbove 34 = .ok (.ishl, 1) := by decide +kernel
theorem dX4_nearestAbove_35 : decode cX4_nearestAbove 35 = .ok (.ior, 1) := by decide +kernel
theorem dX4_nearestAbove_36 : decode cX4_nearestAbove 36 = .ok (.aload_n 0, 1) := by decide +kernel
theorem dX4_nearestAbove_37 : decode cX4_nearestAbove 37 = .ok (.iload_n 2, 1) := by decide +kernel
theorem dX4_nearestAbove_38 : decode cX4_nearestAbove 38 = .ok (.invokevirtual 57, 3) := by decide +kernel
theorem dX4_nearestAbove_41 : decode cX4_nearestAbove 41 = .ok (.iconst 1, 1) := by decide +kernel
theorem dX4_nearestAbove_42 : decode cX4_nearestAbove 42 = .ok (.iload_n 2, 1) := by decide +kernel
theorem dX4_nearestAbove_43 : decode cX4_nearestAbove 43 = .ok (.ishl, 1) := by decide +kernel
theorem dX4_nearestAbove_44 : decode cX4_nearestAbove 44 = .ok (.ior, 1) := by decide +kernel
theorem dX4_nearestAbove_45 : decode cX4_nearestAbove 45 = .ok (.iand, 1) := by decide +kernel
theorem dX4_nearestAbove_46 : decode cX4_nearestAbove 46 = .ok (.istore_n 3, 1) := by decide +kernel
theorem dX4_nearestAbove_47 : decode cX4_nearestAbove 47 = .ok (.iconst (-1), 1) := by decide +kernel
theorem dX4_nearestAbove_48 : decode cX4_nearestAbove 48 = .ok (.istore 4, 2) := by decide +kernel
theorem dX4_nearestAbove_50 : decode cX4_nearestAbove 50 = .ok (.iconst 0, 1) := by decide +kernel
theorem dX4_nearestAbove_51 : decode cX4_nearestAbove 51 = .ok (.istore 5, 2) := by decide +kernel
theorem dX4_nearestAbove_53 : decode cX4_nearestAbove 53 = .ok (.iload 5, 2) := by decide +kernel
theorem dX4_nearestAbove_55 : decode cX4_nearestAbove 55 = .ok (.aload_n 0, 1) := by decide +kernel
theorem dX4_nearestAbove_56 : decode cX4_nearestAbove 56 = .ok (.getfield 44, 3) := by decide +kernel
theorem dX4_nearestAbove_59 : decode cX4_nearestAbove 59 = .ok (.if_icmp .ge 49, 3) := by decide +kernel
theorem dX4_nearestAbove_62 : decode cX4_nearestAbove 62 = .ok (.iload_n 3, 1) := by decide +kernel
theorem dX4_nearestAbove_63 : decode cX4_nearestAbove 63 = .ok (.iload 5, 2) := by decide +kernel
theorem dX4_nearestAbove_65 : decode cX4_nearestAbove 65 = .ok (.invokestatic 61, 3) := by decide +kernel
theorem dX4_nearestAbove_68 : decode cX4_nearestAbove 68 = .ok (.ifCond .eq 34, 3) := by decide +kernel
theorem dX4_nearestAbove_71 : decode cX4_nearestAbove 71 = .ok (.iload 4, 2) := by decide +kernel
theorem dX4_nearestAbove_73 : decode cX4_nearestAbove 73 = .ok (.iconst (-1), 1) := by decide +kernel
theorem dX4_nearestAbove_74 : decode cX4_nearestAbove 74 = .ok (.if_icmp .eq 24, 3) := by decide +kernel
theorem dX4_nearestAbove_77 : decode cX4_nearestAbove 77 = .ok (.aload_n 0, 1) := by decide +kernel
theorem dX4_nearestAbove_78 : decode cX4_nearestAbove 78 = .ok (.iload 5, 2) := by decide +kernel
theorem dX4_nearestAbove_80 : decode cX4_nearestAbove 80 = .ok (.invokevirtual 57, 3) := by decide +kernel
theorem dX4_nearestAbove_83 : decode cX4_nearestAbove 83 = .ok (.invokestatic 78, 3) := by decide +kernel
theorem dX4_nearestAbove_86 : decode cX4_nearestAbove 86 = .ok (.aload_n 0, 1) := by decide +kernel
theorem dX4_nearestAbove_87 : decode cX4_nearestAbove 87 = .ok (.iload 4, 2) := by decide +kernel
theorem dX4_nearestAbove_89 : decode cX4_nearestAbove 89 = .ok (.invokevirtual 57, 3) := by decide +kernel
theorem dX4_nearestAbove_92 : decode cX4_nearestAbove 92 = .ok (.invokestatic 78, 3) := by decide +kernel
theorem dX4_nearestAbove_95 : decode cX4_nearestAbove 95 = .ok (.if_icmp .le 7, 3) := by decide +kernel
theorem dX4_nearestAbove_98 : decode cX4_nearestAbove 98 = .ok (.iload 5, 2) := by decide +kernel
theorem dX4_nearestAbove_100 : decode cX4_nearestAbove 100 = .ok (.istore 4, 2) := by decide +kernel
theorem dX4_nearestAbove_102 : decode cX4_nearestAbove 102 = .ok (.iinc 5 1, 3) := by decide +kernel
theorem dX4_nearestAbove_105 : decode cX4_nearestAbove 105 = .ok (.goto (-52), 3) := by decide +kernel
theorem dX4_nearestAbove_108 : decode cX4_nearestAbove 108 = .ok (.iload 4, 2) := by decide +kernel
theorem dX4_nearestAbove_110 : decode cX4_nearestAbove 110 = .ok (.ireturn, 1) := by decide +kernel
theorem dX4_dreamsWith_0 : decode cX4_dreamsWith 0 = .ok (.aload_n 0, 1) := by decide +kernel
theorem dX4_dreamsWith_1 : decode cX4_dreamsWith 1 = .ok (.iconst 0, 1) := by decide +kernel
theorem dX4_dreamsWith_2 : decode cX4_dreamsWith 2 = .ok (.putfield 40, 3) := by decide +kernel
theorem dX4_dreamsWith_5 : decode cX4_dreamsWith 5 = .ok (.aload_n 0, 1) := by decide +kernel
theorem dX4_dreamsWith_6 : decode cX4_dreamsWith 6 = .ok (.iload_n 1, 1) := by decide +kernel
theorem dX4_dreamsWith_7 : decode cX4_dreamsWith 7 = .ok (.invokevirtual 71, 3) := by decide +kernel
theorem dX4_dreamsWith_10 : decode cX4_dreamsWith 10 = .ok (.ifCond .ne 9, 3) := by decide +kernel
theorem dX4_dreamsWith_13 : decode cX4_dreamsWith 13 = .ok (.aload_n 0, 1) := by decide +kernel
theorem dX4_dreamsWith_14 : decode cX4_dreamsWith 14 = .ok (.iconst 1, 1) := by decide +kernel
theorem dX4_dreamsWith_15 : decode cX4_dreamsWith 15 = .ok (.invokevirtual 68, 3) := by decide +kernel
theorem dX4_dreamsWith_18 : decode cX4_dreamsWith 18 = .ok (.ireturn, 1) := by decide +kernel
theorem dX4_dreamsWith_19 : decode cX4_dreamsWith 19 = .ok (.aload_n 0, 1) := by decide +kernel
theorem dX4_dreamsWith_20 : decode cX4_dreamsWith 20 = .ok (.invokevirtual 115, 3) := by decide +kernel
theorem dX4_dreamsWith_23 : decode cX4_dreamsWith 23 = .ok (.aload_n 0, 1) := by decide +kernel
theorem dX4_dreamsWith_24 : decode cX4_dreamsWith 24 = .ok (.getfield 34, 3) := by decide +kernel
theorem dX4_dreamsWith_27 : decode cX4_dreamsWith 27 = .ok (.iload_n 1, 1) := by decide +kernel
theorem dX4_dreamsWith_28 : decode cX4_dreamsWith 28 = .ok (.iaload, 1) := by decide +kernel
theorem dX4_dreamsWith_29 : decode cX4_dreamsWith 29 = .ok (.invokestatic 78, 3) := by decide +kernel
theorem dX4_dreamsWith_32 : decode cX4_dreamsWith 32 = .ok (.ireturn, 1) := by decide +kernel
theorem dX4_hasOwnTag_0 : decode cX4_hasOwnTag 0 = .ok (.aload_n 0, 1) := by decide +kernel
theorem dX4_hasOwnTag_1 : decode cX4_hasOwnTag 1 = .ok (.iconst 0, 1) := by decide +kernel
theorem dX4_hasOwnTag_2 : decode cX4_hasOwnTag 2 = .ok (.putfield 40, 3) := by decide +kernel
theorem dX4_hasOwnTag_5 : decode cX4_hasOwnTag 5 = .ok (.aload_n 0, 1) := by decide +kernel
theorem dX4_hasOwnTag_6 : decode cX4_hasOwnTag 6 = .ok (.iload_n 1, 1) := by decide +kernel
theorem dX4_hasOwnTag_7 : decode cX4_hasOwnTag 7 = .ok (.invokevirtual 84, 3) := by decide +kernel
theorem dX4_hasOwnTag_10 : decode cX4_hasOwnTag 10 = .ok (.ifCond .eq 24, 3) := by decide +kernel
theorem dX4_hasOwnTag_13 : decode cX4_hasOwnTag 13 = .ok (.aload_n 0, 1) := by decide +kernel
theorem dX4_hasOwnTag_14 : decode cX4_hasOwnTag 14 = .ok (.iload_n 2, 1) := by decide +kernel
theorem dX4_hasOwnTag_15 : decode cX4_hasOwnTag 15 = .ok (.invokevirtual 71, 3) := by decide +kernel
theorem dX4_hasOwnTag_18 : decode cX4_hasOwnTag 18 = .ok (.ifCond .eq 16, 3) := by decide +kernel
theorem dX4_hasOwnTag_21 : decode cX4_hasOwnTag 21 = .ok (.aload_n 0, 1) := by decide +kernel
theorem dX4_hasOwnTag_22 : decode cX4_hasOwnTag 22 = .ok (.getfield 13, 3) := by decide +kernel
theorem dX4_hasOwnTag_25 : decode cX4_hasOwnTag 25 = .ok (.iload_n 1, 1) := by decide +kernel
theorem dX4_hasOwnTag_26 : decode cX4_hasOwnTag 26 = .ok (.iaload, 1) := by decide +kernel
theorem dX4_hasOwnTag_27 : decode cX4_hasOwnTag 27 = .ok (.iload_n 2, 1) := by decide +kernel
theorem dX4_hasOwnTag_28 : decode cX4_hasOwnTag 28 = .ok (.invokestatic 61, 3) := by decide +kernel
theorem dX4_hasOwnTag_31 : decode cX4_hasOwnTag 31 = .ok (.goto 8, 3) := by decide +kernel
theorem dX4_hasOwnTag_34 : decode cX4_hasOwnTag 34 = .ok (.aload_n 0, 1) := by decide +kernel
theorem dX4_hasOwnTag_35 : decode cX4_hasOwnTag 35 = .ok (.iconst 1, 1) := by decide +kernel
theorem dX4_hasOwnTag_36 : decode cX4_hasOwnTag 36 = .ok (.invokevirtual 109, 3) := by decide +kernel
theorem dX4_hasOwnTag_39 : decode cX4_hasOwnTag 39 = .ok (.ireturn, 1) := by decide +kernel
theorem dX4_hasTag_0 : decode cX4_hasTag 0 = .ok (.aload_n 0, 1) := by decide +kernel
theorem dX4_hasTag_1 : decode cX4_hasTag 1 = .ok (.iconst 0, 1) := by decide +kernel
theorem dX4_hasTag_2 : decode cX4_hasTag 2 = .ok (.putfield 40, 3) := by decide +kernel
theorem dX4_hasTag_5 : decode cX4_hasTag 5 = .ok (.aload_n 0, 1) := by decide +kernel
theorem dX4_hasTag_6 : decode cX4_hasTag 6 = .ok (.iload_n 1, 1) := by decide +kernel
theorem dX4_hasTag_7 : decode cX4_hasTag 7 = .ok (.invokevirtual 84, 3) := by decide +kernel
theorem dX4_hasTag_10 : decode cX4_hasTag 10 = .ok (.ifCond .eq 11, 3) := by decide +kernel
theorem dX4_hasTag_13 : decode cX4_hasTag 13 = .ok (.aload_n 0, 1) := by decide +kernel
theorem dX4_hasTag_14 : decode cX4_hasTag 14 = .ok (.iload_n 2, 1) := by decide +kernel
theorem dX4_hasTag_15 : decode cX4_hasTag 15 = .ok (.invokevirtual 71, 3) := by decide +kernel
theorem dX4_hasTag_18 : decode cX4_hasTag 18 = .ok (.ifCond .ne 9, 3) := by decide +kernel
theorem dX4_hasTag_21 : decode cX4_hasTag 21 = .ok (.aload_n 0, 1) := by decide +kernel
theorem dX4_hasTag_22 : decode cX4_hasTag 22 = .ok (.iconst 1, 1) := by decide +kernel
theorem dX4_hasTag_23 : decode cX4_hasTag 23 = .ok (.invokevirtual 109, 3) := by decide +kernel
theorem dX4_hasTag_26 : decode cX4_hasTag 26 = .ok (.ireturn, 1) := by decide +kernel
theorem dX4_hasTag_27 : decode cX4_hasTag 27 = .ok (.aload_n 0, 1) := by decide +kernel
theorem dX4_hasTag_28 : decode cX4_hasTag 28 = .ok (.invokevirtual 115, 3) := by decide +kernel
theorem dX4_hasTag_31 : decode cX4_hasTag 31 = .ok (.aload_n 0, 1) := by decide +kernel
theorem dX4_hasTag_32 : decode cX4_hasTag 32 = .ok (.getfield 31, 3) := by decide +kernel
theorem dX4_hasTag_35 : decode cX4_hasTag 35 = .ok (.iload_n 1, 1) := by decide +kernel
theorem dX4_hasTag_36 : decode cX4_hasTag 36 = .ok (.iaload, 1) := by decide +kernel
theorem dX4_hasTag_37 : decode cX4_hasTag 37 = .ok (.iload_n 2, 1) := by decide +kernel
theorem dX4_hasTag_38 : decode cX4_hasTag 38 = .ok (.invokestatic 61, 3) := by decide +kernel
theorem dX4_hasTag_41 : decode cX4_hasTag 41 = .ok (.ireturn, 1) := by decide +kernel
theorem dX4_tagsOf_0 : decode cX4_tagsOf 0 = .ok (.aload_n 0, 1) := by decide +kernel
theorem dX4_tagsOf_1 : decode cX4_tagsOf 1 = .ok (.iconst 0, 1) := by decide +kernel
theorem dX4_tagsOf_2 : decode cX4_tagsOf 2 = .ok (.putfield 40, 3) := by decide +kernel
theorem dX4_tagsOf_5 : decode cX4_tagsOf 5 = .ok (.aload_n 0, 1) := by decide +kernel
theorem dX4_tagsOf_6 : decode cX4_tagsOf 6 = .ok (.iload_n 1, 1) := by decide +kernel
theorem dX4_tagsOf_7 : decode cX4_tagsOf 7 = .ok (.invokevirtual 84, 3) := by decide +kernel
theorem dX4_tagsOf_10 : decode cX4_tagsOf 10 = .ok (.ifCond .ne 9, 3) := by decide +kernel
theorem dX4_tagsOf_13 : decode cX4_tagsOf 13 = .ok (.aload_n 0, 1) := by decide +kernel
theorem dX4_tagsOf_14 : decode cX4_tagsOf 14 = .ok (.iconst 1, 1) := by decide +kernel
theorem dX4_tagsOf_15 : decode cX4_tagsOf 15 = .ok (.invokevirtual 68, 3) := by decide +kernel
theorem dX4_tagsOf_18 : decode cX4_tagsOf 18 = .ok (.ireturn, 1) := by decide +kernel
theorem dX4_tagsOf_19 : decode cX4_tagsOf 19 = .ok (.aload_n 0, 1) := by decide +kernel
theorem dX4_tagsOf_20 : decode cX4_tagsOf 20 = .ok (.invokevirtual 115, 3) := by decide +kernel
theorem dX4_tagsOf_23 : decode cX4_tagsOf 23 = .ok (.aload_n 0, 1) := by decide +kernel
theorem dX4_tagsOf_24 : decode cX4_tagsOf 24 = .ok (.getfield 31, 3) := by decide +kernel
theorem dX4_tagsOf_27 : decode cX4_tagsOf 27 = .ok (.iload_n 1, 1) := by decide +kernel
theorem dX4_tagsOf_28 : decode cX4_tagsOf 28 = .ok (.iaload, 1) := by decide +kernel
theorem dX4_tagsOf_29 : decode cX4_tagsOf 29 = .ok (.invokestatic 78, 3) := by decide +kernel
theorem dX4_tagsOf_32 : decode cX4_tagsOf 32 = .ok (.ireturn, 1) := by decide +kernel
theorem dX4_vividnessOf_0 : decode cX4_vividnessOf 0 = .ok (.aload_n 0, 1) := by decide +kernel
theorem dX4_vividnessOf_1 : decode cX4_vividnessOf 1 = .ok (.iconst 0, 1) := by decide +kernel
theorem dX4_vividnessOf_2 : decode cX4_vividnessOf 2 = .ok (.putfield 40, 3) := by decide +kernel
theorem dX4_vividnessOf_5 : decode cX4_vividnessOf 5 = .ok (.aload_n 0, 1) := by decide +kernel
theorem dX4_vividnessOf_6 : decode cX4_vividnessOf 6 = .ok (.iload_n 1, 1) := by decide +kernel
theorem dX4_vividnessOf_7 : decode cX4_vividnessOf 7 = .ok (.invokevirtual 84, 3) := by decide +kernel
theorem dX4_vividnessOf_10 : decode cX4_vividnessOf 10 = .ok (.ifCond .eq 12, 3) := by decide +kernel
theorem dX4_vividnessOf_13 : decode cX4_vividnessOf 13 = .ok (.aload_n 0, 1) := by decide +kernel
theorem dX4_vividnessOf_14 : decode cX4_vividnessOf 14 = .ok (.getfield 16, 3) := by decide +kernel
theorem dX4_vividnessOf_17 : decode cX4_vividnessOf 17 = .ok (.iload_n 1, 1) := by decide +kernel
theorem dX4_vividnessOf_18 : decode cX4_vividnessOf 18 = .ok (.iaload, 1) := by decide +kernel
theorem dX4_vividnessOf_19 : decode cX4_vividnessOf 19 = .ok (.goto 8, 3) := by decide +kernel
theorem dX4_vividnessOf_22 : decode cX4_vividnessOf 22 = .ok (.aload_n 0, 1) := by decide +kernel
theorem dX4_vividnessOf_23 : decode cX4_vividnessOf 23 = .ok (.iconst 1, 1) := by decide +kernel
theorem dX4_vividnessOf_24 : decode cX4_vividnessOf 24 = .ok (.invokevirtual 68, 3) := by decide +kernel
theorem dX4_vividnessOf_27 : decode cX4_vividnessOf 27 = .ok (.ireturn, 1) := by decide +kernel
theorem dX4_nightOf_0 : decode cX4_nightOf 0 = .ok (.aload_n 0, 1) := by decide +kernel
theorem dX4_nightOf_1 : decode cX4_nightOf 1 = .ok (.iconst 0, 1) := by decide +kernel
theorem dX4_nightOf_2 : decode cX4_nightOf 2 = .ok (.putfield 40, 3) := by decide +kernel
theorem dX4_nightOf_5 : decode cX4_nightOf 5 = .ok (.aload_n 0, 1) := by decide +kernel
theorem dX4_nightOf_6 : decode cX4_nightOf 6 = .ok (.iload_n 1, 1) := by decide +kernel
theorem dX4_nightOf_7 : decode cX4_nightOf 7 = .ok (.invokevirtual 84, 3) := by decide +kernel
theorem dX4_nightOf_10 : decode cX4_nightOf 10 = .ok (.ifCond .eq 12, 3) := by decide +kernel
theorem dX4_nightOf_13 : decode cX4_nightOf 13 = .ok (.aload_n 0, 1) := by decide +kernel
theorem dX4_nightOf_14 : decode cX4_nightOf 14 = .ok (.getfield 19, 3) := by decide +kernel
theorem dX4_nightOf_17 : decode cX4_nightOf 17 = .ok (.iload_n 1, 1) := by decide +kernel
theorem dX4_nightOf_18 : decode cX4_nightOf 18 = .ok (.iaload, 1) := by decide +kernel
theorem dX4_nightOf_19 : decode cX4_nightOf 19 = .ok (.goto 8, 3) := by decide +kernel
theorem dX4_nightOf_22 : decode cX4_nightOf 22 = .ok (.aload_n 0, 1) := by decide +kernel
theorem dX4_nightOf_23 : decode cX4_nightOf 23 = .ok (.iconst 1, 1) := by decide +kernel
theorem dX4_nightOf_24 : decode cX4_nightOf 24 = .ok (.invokevirtual 68, 3) := by decide +kernel
theorem dX4_nightOf_27 : decode cX4_nightOf 27 = .ok (.ireturn, 1) := by decide +kernel
theorem dX4_matches_0 : decode cX4_matches 0 = .ok (.aload_n 0, 1) := by decide +kernel
theorem dX4_matches_1 : decode cX4_matches 1 = .ok (.iconst 0, 1) := by decide +kernel
theorem dX4_matches_2 : decode cX4_matches 2 = .ok (.putfield 40, 3) := by decide +kernel
theorem dX4_matches_5 : decode cX4_matches 5 = .ok (.aload_n 0, 1) := by decide +kernel
theorem dX4_matches_6 : decode cX4_matches 6 = .ok (.iload_n 1, 1) := by decide +kernel
theorem dX4_matches_7 : decode cX4_matches 7 = .ok (.invokevirtual 106, 3) := by decide +kernel
theorem dX4_matches_10 : decode cX4_matches 10 = .ok (.ifCond .eq 11, 3) := by decide +kernel
theorem dX4_matches_13 : decode cX4_matches 13 = .ok (.aload_n 0, 1) := by decide +kernel
theorem dX4_matches_14 : decode cX4_matches 14 = .ok (.iload_n 2, 1) := by decide +kernel
theorem dX4_matches_15 : decode cX4_matches 15 = .ok (.invokevirtual 84, 3) := by decide +kernel
theorem dX4_matches_18 : decode cX4_matches 18 = .ok (.ifCond .ne 9, 3) := by decide +kernel
theorem dX4_matches_21 : decode cX4_matches 21 = .ok (.aload_n 0, 1) := by decide +kernel
theorem dX4_matches_22 : decode cX4_matches 22 = .ok (.iconst 1, 1) := by decide +kernel
theorem dX4_matches_23 : decode cX4_matches 23 = .ok (.invokevirtual 109, 3) := by decide +kernel
theorem dX4_matches_26 : decode cX4_matches 26 = .ok (.ireturn, 1) := by decide +kernel
theorem dX4_matches_27 : decode cX4_matches 27 = .ok (.aload_n 0, 1) := by decide +kernel
theorem dX4_matches_28 : decode cX4_matches 28 = .ok (.invokevirtual 115, 3) := by decide +kernel
theorem dX4_matches_31 : decode cX4_matches 31 = .ok (.aload_n 0, 1) := by decide +kernel
theorem dX4_matches_32 : decode cX4_matches 32 = .ok (.getfield 37, 3) := by decide +kernel
theorem dX4_matches_35 : decode cX4_matches 35 = .ok (.iload_n 1, 1) := by decide +kernel
theorem dX4_matches_36 : decode cX4_matches 36 = .ok (.iaload, 1) := by decide +kernel
theorem dX4_matches_37 : decode cX4_matches 37 = .ok (.iload_n 2, 1) := by decide +kernel
theorem dX4_matches_38 : decode cX4_matches 38 = .ok (.invokestatic 61, 3) := by decide +kernel
theorem dX4_matches_41 : decode cX4_matches 41 = .ok (.ireturn, 1) := by decide +kernel
theorem dX4_matchesOf_0 : decode cX4_matchesOf 0 = .ok (.aload_n 0, 1) := by decide +kernel
theorem dX4_matchesOf_1 : decode cX4_matchesOf 1 = .ok (.iconst 0, 1) := by decide +kernel
theorem dX4_matchesOf_2 : decode cX4_matchesOf 2 = .ok (.putfield 40, 3) := by decide +kernel
theorem dX4_matchesOf_5 : decode cX4_matchesOf 5 = .ok (.aload_n 0, 1) := by decide +kernel
theorem dX4_matchesOf_6 : decode cX4_matchesOf 6 = .ok (.iload_n 1, 1) := by decide +kernel
theorem dX4_matchesOf_7 : decode cX4_matchesOf 7 = .ok (.invokevirtual 106, 3) := by decide +kernel
theorem dX4_matchesOf_10 : decode cX4_matchesOf 10 = .ok (.ifCond .ne 9, 3) := by decide +kernel
theorem dX4_matchesOf_13 : decode cX4_matchesOf 13 = .ok (.aload_n 0, 1) := by decide +kernel
theorem dX4_matchesOf_14 : decode cX4_matchesOf 14 = .ok (.iconst 1, 1) := by decide +kernel
theorem dX4_matchesOf_15 : decode cX4_matchesOf 15 = .ok (.invokevirtual 68, 3) := by decide +kernel
theorem dX4_matchesOf_18 : decode cX4_matchesOf 18 = .ok (.ireturn, 1) := by decide +kernel
theorem dX4_matchesOf_19 : decode cX4_matchesOf 19 = .ok (.aload_n 0, 1) := by decide +kernel
theorem dX4_matchesOf_20 : decode cX4_matchesOf 20 = .ok (.invokevirtual 115, 3) := by decide +kernel
theorem dX4_matchesOf_23 : decode cX4_matchesOf 23 = .ok (.aload_n 0, 1) := by decide +kernel
theorem dX4_matchesOf_24 : decode cX4_matchesOf 24 = .ok (.getfield 37, 3) := by decide +kernel
theorem dX4_matchesOf_27 : decode cX4_matchesOf 27 = .ok (.iload_n 1, 1) := by decide +kernel
theorem dX4_matchesOf_28 : decode cX4_matchesOf 28 = .ok (.iaload, 1) := by decide +kernel
theorem dX4_matchesOf_29 : decode cX4_matchesOf 29 = .ok (.invokestatic 78, 3) := by decide +kernel
theorem dX4_matchesOf_32 : decode cX4_matchesOf 32 = .ok (.ireturn, 1) := by decide +kernel
theorem dX4_brightest_0 : decode cX4_brightest 0 = .ok (.iconst (-1), 1) := by decide +kernel
theorem dX4_brightest_1 : decode cX4_brightest 1 = .ok (.istore_n 2, 1) := by decide +kernel
theorem dX4_brightest_2 : decode cX4_brightest 2 = .ok (.iconst 0, 1) := by decide +kernel
theorem dX4_brightest_3 : decode cX4_brightest 3 = .ok (.istore_n 3, 1) := by decide +kernel
theorem dX4_brightest_4 : decode cX4_brightest 4 = .ok (.iload_n 3, 1) := by decide +kernel
theorem dX4_brightest_5 : decode cX4_brightest 5 = .ok (.aload_n 0, 1) := by decide +kernel
theorem dX4_brightest_6 : decode cX4_brightest 6 = .ok (.getfield 51, 3) := by decide +kernel
theorem dX4_brightest_9 : decode cX4_brightest 9 = .ok (.if_icmp .ge 39, 3) := by decide +kernel
theorem dX4_brightest_12 : decode cX4_brightest 12 = .ok (.iload_n 1, 1) := by decide +kernel
theorem dX4_brightest_13 : decode cX4_brightest 13 = .ok (.iload_n 3, 1) := by decide +kernel
theorem dX4_brightest_14 : decode cX4_brightest 14 = .ok (.invokestatic 61, 3) := by decide +kernel
theorem dX4_brightest_17 : decode cX4_brightest 17 = .ok (.ifCond .eq 25, 3) := by decide +kernel
theorem dX4_brightest_20 : decode cX4_brightest 20 = .ok (.iload_n 2, 1) := by decide +kernel
theorem dX4_brightest_21 : decode cX4_brightest 21 = .ok (.iconst (-1), 1) := by decide +kernel
theorem dX4_brightest_22 : decode cX4_brightest 22 = .ok (.if_icmp .eq 18, 3) := by decide +kernel
theorem dX4_brightest_25 : decode cX4_brightest 25 = .ok (.aload_n 0, 1) := by decide +kernel
theorem dX4_brightest_26 : decode cX4_brightest 26 = .ok (.getfield 16, 3) := by decide +kernel
theorem dX4_brightest_29 : decode cX4_brightest 29 = .ok (.iload_n 3, 1) := by decide +kernel
theorem dX4_brightest_30 : decode cX4_brightest 30 = .ok (.iaload, 1) := by decide +kernel
theorem dX4_brightest_31 : decode cX4_brightest 31 = .ok (.aload_n 0, 1) := by decide +kernel
theorem dX4_brightest_32 : decode cX4_brightest 32 = .ok (.getfield 16, 3) := by decide +kernel
theorem dX4_brightest_35 : decode cX4_brightest 35 = .ok (.iload_n 2, 1) := by decide +kernel
theorem dX4_brightest_36 : decode cX4_brightest 36 = .ok (.iaload, 1) := by decide +kernel
theorem dX4_brightest_37 : decode cX4_brightest 37 = .ok (.if_icmp .le 5, 3) := by decide +kernel
theorem dX4_brightest_40 : decode cX4_brightest 40 = .ok (.iload_n 3, 1) := by decide +kernel
theorem dX4_brightest_41 : decode cX4_brightest 41 = .ok (.istore_n 2, 1) := by decide +kernel
theorem dX4_brightest_42 : decode cX4_brightest 42 = .ok (.iinc 3 1, 3) := by decide +kernel
theorem dX4_brightest_45 : decode cX4_brightest 45 = .ok (.goto (-41), 3) := by decide +kernel
theorem dX4_brightest_48 : decode cX4_brightest 48 = .ok (.iload_n 2, 1) := by decide +kernel
theorem dX4_brightest_49 : decode cX4_brightest 49 = .ok (.ireturn, 1) := by decide +kernel
theorem dX4_mostVivid_0 : decode cX4_mostVivid 0 = .ok (.aload_n 0, 1) := by decide +kernel
theorem dX4_mostVivid_1 : decode cX4_mostVivid 1 = .ok (.iconst 0, 1) := by decide +kernel
theorem dX4_mostVivid_2 : decode cX4_mostVivid 2 = .ok (.putfield 40, 3) := by decide +kernel
theorem dX4_mostVivid_5 : decode cX4_mostVivid 5 = .ok (.aload_n 0, 1) := by decide +kernel
theorem dX4_mostVivid_6 : decode cX4_mostVivid 6 = .ok (.iload_n 1, 1) := by decide +kernel
theorem dX4_mostVivid_7 : decode cX4_mostVivid 7 = .ok (.invokevirtual 106, 3) := by decide +kernel
theorem dX4_mostVivid_10 : decode cX4_mostVivid 10 = .ok (.ifCond .ne 9, 3) := by decide +kernel
theorem dX4_mostVivid_13 : decode cX4_mostVivid 13 = .ok (.aload_n 0, 1) := by decide +kernel
theorem dX4_mostVivid_14 : decode cX4_mostVivid 14 = .ok (.iconst 1, 1) := by decide +kernel
theorem dX4_mostVivid_15 : decode cX4_mostVivid 15 = .ok (.invokevirtual 68, 3) := by decide +kernel
theorem dX4_mostVivid_18 : decode cX4_mostVivid 18 = .ok (.ireturn, 1) := by decide +kernel
theorem dX4_mostVivid_19 : decode cX4_mostVivid 19 = .ok (.aload_n 0, 1) := by decide +kernel
theorem dX4_mostVivid_20 : decode cX4_mostVivid 20 = .ok (.invokevirtual 115, 3) := by decide +kernel
theorem dX4_mostVivid_23 : decode cX4_mostVivid 23 = .ok (.aload_n 0, 1) := by decide +kernel
theorem dX4_mostVivid_24 : decode cX4_mostVivid 24 = .ok (.aload_n 0, 1) := by decide +kernel
theorem dX4_mostVivid_25 : decode cX4_mostVivid 25 = .ok (.getfield 37, 3) := by decide +kernel
theorem dX4_mostVivid_28 : decode cX4_mostVivid 28 = .ok (.iload_n 1, 1) := by decide +kernel
theorem dX4_mostVivid_29 : decode cX4_mostVivid 29 = .ok (.iaload, 1) := by decide +kernel
theorem dX4_mostVivid_30 : decode cX4_mostVivid 30 = .ok (.invokevirtual 118, 3) := by decide +kernel
theorem dX4_mostVivid_33 : decode cX4_mostVivid 33 = .ok (.ireturn, 1) := by decide +kernel
theorem dX4_common_0 : decode cX4_common 0 = .ok (.iload_n 1, 1) := by decide +kernel
theorem dX4_common_1 : decode cX4_common 1 = .ok (.ifCond .ne 7, 3) := by decide +kernel
theorem dX4_common_4 : decode cX4_common 4 = .ok (.iconst 0, 1) := by decide +kernel
theorem dX4_common_5 : decode cX4_common 5 = .ok (.goto 11, 3) := by decide +kernel
theorem dX4_common_8 : decode cX4_common 8 = .ok (.iconst 1, 1) := by decide +kernel
theorem dX4_common_9 : decode cX4_common 9 = .ok (.aload_n 0, 1) := by decide +kernel
theorem dX4_common_10 : decode cX4_common 10 = .ok (.getfield 44, 3) := by decide +kernel
theorem dX4_common_13 : decode cX4_common 13 = .ok (.ishl, 1) := by decide +kernel
theorem dX4_common_14 : decode cX4_common 14 = .ok (.iconst 1, 1) := by decide +kernel
theorem dX4_common_15 : decode cX4_common 15 = .ok (.isub, 1) := by decide +kernel
theorem dX4_common_16 : decode cX4_common 16 = .ok (.istore_n 2, 1) := by decide +kernel
theorem dX4_common_17 : decode cX4_common 17 = .ok (.iconst 0, 1) := by decide +kernel
theorem dX4_common_18 : decode cX4_common 18 = .ok (.istore_n 3, 1) := by decide +kernel
theorem dX4_common_19 : decode cX4_common 19 = .ok (.iload_n 3, 1) := by decide +kernel
theorem dX4_common_20 : decode cX4_common 20 = .ok (.aload_n 0, 1) := by decide +kernel
theorem dX4_common_21 : decode cX4_common 21 = .ok (.getfield 51, 3) := by decide +kernel
theorem dX4_common_24 : decode cX4_common 24 = .ok (.if_icmp .ge 26, 3) := by decide +kernel
theorem dX4_common_27 : decode cX4_common 27 = .ok (.iload_n 1, 1) := by decide +kernel
theorem dX4_common_28 : decode cX4_common 28 = .ok (.iload_n 3, 1) := by decide +kernel
theorem dX4_common_29 : decode cX4_common 29 = .ok (.invokestatic 61, 3) := by decide +kernel
theorem dX4_common_32 : decode cX4_common 32 = .ok (.ifCond .eq 12, 3) := by decide +kernel
theorem dX4_common_35 : decode cX4_common 35 = .ok (.iload_n 2, 1) := by decide +kernel
theorem dX4_common_36 : decode cX4_common 36 = .ok (.aload_n 0, 1) := by decide +kernel
theorem dX4_common_37 : decode cX4_common 37 = .ok (.getfield 31, 3) := by decide +kernel
theorem dX4_common_40 : decode cX4_common 40 = .ok (.iload_n 3, 1) := by decide +kernel
theorem dX4_common_41 : decode cX4_common 41 = .ok (.iaload, 1) := by decide +kernel
theorem dX4_common_42 : decode cX4_common 42 = .ok (.iand, 1) := by decide +kernel
theorem dX4_common_43 : decode cX4_common 43 = .ok (.istore_n 2, 1) := by decide +kernel
theorem dX4_common_44 : decode cX4_common 44 = .ok (.iinc 3 1, 3) := by decide +kernel
theorem dX4_common_47 : decode cX4_common 47 = .ok (.goto (-28), 3) := by decide +kernel
theorem dX4_common_50 : decode cX4_common 50 = .ok (.iload_n 2, 1) := by decide +kernel
theorem dX4_common_51 : decode cX4_common 51 = .ok (.invokestatic 78, 3) := by decide +kernel
theorem dX4_common_54 : decode cX4_common 54 = .ok (.ireturn, 1) := by decide +kernel
theorem dX4_commonTags_0 : decode cX4_commonTags 0 = .ok (.aload_n 0, 1) := by decide +kernel
theorem dX4_commonTags_1 : decode cX4_commonTags 1 = .ok (.iconst 0, 1) := by decide +kernel
theorem dX4_commonTags_2 : decode cX4_commonTags 2 = .ok (.putfield 40, 3) := by decide +kernel
theorem dX4_commonTags_5 : decode cX4_commonTags 5 = .ok (.aload_n 0, 1) := by decide +kernel
theorem dX4_commonTags_6 : decode cX4_commonTags 6 = .ok (.iload_n 1, 1) := by decide +kernel
theorem dX4_commonTags_7 : decode cX4_commonTags 7 = .ok (.invokevirtual 106, 3) := by decide +kernel
theorem dX4_commonTags_10 : decode cX4_commonTags 10 = .ok (.ifCond .ne 9, 3) := by decide +kernel
theorem dX4_commonTags_13 : decode cX4_commonTags 13 = .ok (.aload_n 0, 1) := by decide +kernel
theorem dX4_commonTags_14 : decode cX4_commonTags 14 = .ok (.iconst 1, 1) := by decide +kernel
theorem dX4_commonTags_15 : decode cX4_commonTags 15 = .ok (.invokevirtual 68, 3) := by decide +kernel
theorem dX4_commonTags_18 : decode cX4_commonTags 18 = .ok (.ireturn, 1) := by decide +kernel
theorem dX4_commonTags_19 : decode cX4_commonTags 19 = .ok (.aload_n 0, 1) := by decide +kernel
theorem dX4_commonTags_20 : decode cX4_commonTags 20 = .ok (.invokevirtual 115, 3) := by decide +kernel
theorem dX4_commonTags_23 : decode cX4_commonTags 23 = .ok (.aload_n 0, 1) := by decide +kernel
theorem dX4_commonTags_24 : decode cX4_commonTags 24 = .ok (.aload_n 0, 1) := by decide +kernel
theorem dX4_commonTags_25 : decode cX4_commonTags 25 = .ok (.getfield 37, 3) := by decide +kernel
theorem dX4_commonTags_28 : decode cX4_commonTags 28 = .ok (.iload_n 1, 1) := by decide +kernel
theorem dX4_commonTags_29 : decode cX4_commonTags 29 = .ok (.iaload, 1) := by decide +kernel
theorem dX4_commonTags_30 : decode cX4_commonTags 30 = .ok (.invokevirtual 121, 3) := by decide +kernel
theorem dX4_commonTags_33 : decode cX4_commonTags 33 = .ok (.ireturn, 1) := by decide +kernel
theorem dX4_matchSame_0 : decode cX4_matchSame 0 = .ok (.aload_n 0, 1) := by decide +kernel
theorem dX4_matchSame_1 : decode cX4_matchSame 1 = .ok (.iconst 0, 1) := by decide +kernel
theorem dX4_matchSame_2 : decode cX4_matchSame 2 = .ok (.putfield 40, 3) := by decide +kernel
theorem dX4_matchSame_5 : decode cX4_matchSame 5 = .ok (.aload_n 0, 1) := by decide +kernel
theorem dX4_matchSame_6 : decode cX4_matchSame 6 = .ok (.iload_n 1, 1) := by decide +kernel
theorem dX4_matchSame_7 : decode cX4_matchSame 7 = .ok (.invokevirtual 106, 3) := by decide +kernel
theorem dX4_matchSame_10 : decode cX4_matchSame 10 = .ok (.ifCond .eq 11, 3) := by decide +kernel
theorem dX4_matchSame_13 : decode cX4_matchSame 13 = .ok (.aload_n 0, 1) := by decide +kernel
theorem dX4_matchSame_14 : decode cX4_matchSame 14 = .ok (.iload_n 2, 1) := by decide +kernel
theorem dX4_matchSame_15 : decode cX4_matchSame 15 = .ok (.invokevirtual 106, 3) := by decide +kernel
theorem dX4_matchSame_18 : decode cX4_matchSame 18 = .ok (.ifCond .ne 9, 3) := by decide +kernel
theorem dX4_matchSame_21 : decode cX4_matchSame 21 = .ok (.aload_n 0, 1) := by decide +kernel
theorem dX4_matchSame_22 : decode cX4_matchSame 22 = .ok (.iconst 1, 1) := by decide +kernel
theorem dX4_matchSame_23 : decode cX4_matchSame 23 = .ok (.invokevirtual 109, 3) := by decide +kernel
theorem dX4_matchSame_26 : decode cX4_matchSame 26 = .ok (.ireturn, 1) := by decide +kernel
theorem dX4_matchSame_27 : decode cX4_matchSame 27 = .ok (.aload_n 0, 1) := by decide +kernel
theorem dX4_matchSame_28 : decode cX4_matchSame 28 = .ok (.invokevirtual 115, 3) := by decide +kernel
theorem dX4_matchSame_31 : decode cX4_matchSame 31 = .ok (.aload_n 0, 1) := by decide +kernel
theorem dX4_matchSame_32 : decode cX4_matchSame 32 = .ok (.getfield 37, 3) := by decide +kernel
theorem dX4_matchSame_35 : decode cX4_matchSame 35 = .ok (.iload_n 1, 1) := by decide +kernel
theorem dX4_matchSame_36 : decode cX4_matchSame 36 = .ok (.iaload, 1) := by decide +kernel
theorem dX4_matchSame_37 : decode cX4_matchSame 37 = .ok (.aload_n 0, 1) := by decide +kernel
theorem dX4_matchSame_38 : decode cX4_matchSame 38 = .ok (.getfield 37, 3) := by decide +kernel
theorem dX4_matchSame_41 : decode cX4_matchSame 41 = .ok (.iload_n 2, 1) := by decide +kernel
theorem dX4_matchSame_42 : decode cX4_matchSame 42 = .ok (.iaload, 1) := by decide +kernel
theorem dX4_matchSame_43 : decode cX4_matchSame 43 = .ok (.if_icmp .ne 7, 3) := by decide +kernel
theorem dX4_matchSame_46 : decode cX4_matchSame 46 = .ok (.iconst 1, 1) := by decide +kernel
theorem dX4_matchSame_47 : decode cX4_matchSame 47 = .ok (.goto 4, 3) := by decide +kernel
theorem dX4_matchSame_50 : decode cX4_matchSame 50 = .ok (.iconst 0, 1) := by decide +kernel
theorem dX4_matchSame_51 : decode cX4_matchSame 51 = .ok (.ireturn, 1) := by decide +kernel
theorem dX4_apart_0 : decode cX4_apart 0 = .ok (.iconst 0, 1) := by decide +kernel
theorem dX4_apart_1 : decode cX4_apart 1 = .ok (.istore_n 2, 1) := by decide +kernel
theorem dX4_apart_2 : decode cX4_apart 2 = .ok (.iconst 0, 1) := by decide +kernel
theorem dX4_apart_3 : decode cX4_apart 3 = .ok (.istore_n 3, 1) := by decide +kernel
theorem dX4_apart_4 : decode cX4_apart 4 = .ok (.iconst 0, 1) := by decide +kernel
theorem dX4_apart_5 : decode cX4_apart 5 = .ok (.istore 4, 2) := by decide +kernel
theorem dX4_apart_7 : decode cX4_apart 7 = .ok (.iload 4, 2) := by decide +kernel
theorem dX4_apart_9 : decode cX4_apart 9 = .ok (.aload_n 0, 1) := by decide +kernel
theorem dX4_apart_10 : decode cX4_apart 10 = .ok (.getfield 51, 3) := by decide +kernel
theorem dX4_apart_13 : decode cX4_apart 13 = .ok (.if_icmp .ge 46, 3) := by decide +kernel
theorem dX4_apart_16 : decode cX4_apart 16 = .ok (.iload_n 1, 1) := by decide +kernel
theorem dX4_apart_17 : decode cX4_apart 17 = .ok (.iload 4, 2) := by decide +kernel
theorem dX4_apart_19 : decode cX4_apart 19 = .ok (.invokestatic 61, 3) := by decide +kernel
theorem dX4_apart_22 : decode cX4_apart 22 = .ok (.ifCond .eq 31, 3) := by decide +kernel
theorem dX4_apart_25 : decode cX4_apart 25 = .ok (.aload_n 0, 1) := by decide +kernel
theorem dX4_apart_26 : decode cX4_apart 26 = .ok (.getfield 31, 3) := by decide +kernel
theorem dX4_apart_29 : decode cX4_apart 29 = .ok (.iload 4, 2) := by decide +kernel
theorem dX4_apart_31 : decode cX4_apart 31 = .ok (.iaload, 1) := by decide +kernel
theorem dX4_apart_32 : decode cX4_apart 32 = .ok (.iload_n 2, 1) := by decide +kernel
theorem dX4_apart_33 : decode cX4_apart 33 = .ok (.iand, 1) := by decide +kernel
theorem dX4_apart_34 : decode cX4_apart 34 = .ok (.ifCond .eq 6, 3) := by decide +kernel
theorem dX4_apart_37 : decode cX4_apart 37 = .ok (.goto 16, 3) := by decide +kernel
theorem dX4_apart_40 : decode cX4_apart 40 = .ok (.iload_n 2, 1) := by decide +kernel
theorem dX4_apart_41 : decode cX4_apart 41 = .ok (.aload_n 0, 1) := by decide +kernel
theorem dX4_apart_42 : decode cX4_apart 42 = .ok (.getfield 31, 3) := by decide +kernel
theorem dX4_apart_45 : decode cX4_apart 45 = .ok (.iload 4, 2) := by decide +kernel
theorem dX4_apart_47 : decode cX4_apart 47 = .ok (.iaload, 1) := by decide +kernel
theorem dX4_apart_48 : decode cX4_apart 48 = .ok (.ior, 1) := by decide +kernel
theorem dX4_apart_49 : decode cX4_apart 49 = .ok (.istore_n 2, 1) := by decide +kernel
theorem dX4_apart_50 : decode cX4_apart 50 = .ok (.iinc 3 1, 3) := by decide +kernel
theorem dX4_apart_53 : decode cX4_apart 53 = .ok (.iinc 4 1, 3) := by decide +kernel
theorem dX4_apart_56 : decode cX4_apart 56 = .ok (.goto (-49), 3) := by decide +kernel
theorem dX4_apart_59 : decode cX4_apart 59 = .ok (.iload_n 3, 1) := by decide +kernel
theorem dX4_apart_60 : decode cX4_apart 60 = .ok (.ireturn, 1) := by decide +kernel
theorem dX4_covers_0 : decode cX4_covers 0 = .ok (.iload_n 3, 1) := by decide +kernel
theorem dX4_covers_1 : decode cX4_covers 1 = .ok (.ifCond .ne 5, 3) := by decide +kernel
theorem dX4_covers_4 : decode cX4_covers 4 = .ok (.iconst 1, 1) := by decide +kernel
theorem dX4_covers_5 : decode cX4_covers 5 = .ok (.ireturn, 1) := by decide +kernel
theorem dX4_covers_6 : decode cX4_covers 6 = .ok (.aload_n 0, 1) := by decide +kernel
theorem dX4_covers_7 : decode cX4_covers 7 = .ok (.iload_n 3, 1) := by decide +kernel
theorem dX4_covers_8 : decode cX4_covers 8 = .ok (.invokevirtual 124, 3) := by decide +kernel
theorem dX4_covers_11 : decode cX4_covers 11 = .ok (.iload_n 2, 1) := by decide +kernel
theorem dX4_covers_12 : decode cX4_covers 12 = .ok (.if_icmp .le 5, 3) := by decide +kernel
theorem dX4_covers_15 : decode cX4_covers 15 = .ok (.iconst 0, 1) := by decide +kernel
theorem dX4_covers_16 : decode cX4_covers 16 = .ok (.ireturn, 1) := by decide +kernel
theorem dX4_covers_17 : decode cX4_covers 17 = .ok (.iload_n 1, 1) := by decide +kernel
theorem dX4_covers_18 : decode cX4_covers 18 = .ok (.istore 4, 2) := by decide +kernel
theorem dX4_covers_20 : decode cX4_covers 20 = .ok (.iload 4, 2) := by decide +kernel
theorem dX4_covers_22 : decode cX4_covers 22 = .ok (.aload_n 0, 1) := by decide +kernel
theorem dX4_covers_23 : decode cX4_covers 23 = .ok (.getfield 44, 3) := by decide +kernel
theorem dX4_covers_26 : decode cX4_covers 26 = .ok (.if_icmp .ge 79, 3) := by decide +kernel
theorem dX4_covers_29 : decode cX4_covers 29 = .ok (.iload_n 3, 1) := by decide +kernel
theorem dX4_covers_30 : decode cX4_covers 30 = .ok (.aload_n 0, 1) := by decide +kernel
theorem dX4_covers_31 : decode cX4_covers 31 = .ok (.getfield 34, 3) := by decide +kernel
theorem dX4_covers_34 : decode cX4_covers 34 = .ok (.iload 4, 2) := by decide +kernel
theorem dX4_covers_36 : decode cX4_covers 36 = .ok (.iaload, 1) := by decide +kernel
theorem dX4_covers_37 : decode cX4_covers 37 = .ok (.iand, 1) := by decide +kernel
theorem dX4_covers_38 : decode cX4_covers 38 = .ok (.ifCond .ne 6, 3) := by decide +kernel
theorem dX4_covers_41 : decode cX4_covers 41 = .ok (.goto 58, 3) := by decide +kernel
theorem dX4_covers_44 : decode cX4_covers 44 = .ok (.aload_n 0, 1) := by decide +kernel
theorem dX4_covers_45 : decode cX4_covers 45 = .ok (.dup, 1) := by decide +kernel
theorem dX4_covers_46 : decode cX4_covers 46 = .ok (.getfield 127, 3) := by decide +kernel
theorem dX4_covers_49 : decode cX4_covers 49 = .ok (.iconst 1, 1) := by decide +kernel
theorem dX4_covers_50 : decode cX4_covers 50 = .ok (.iload 4, 2) := by decide +kernel
theorem dX4_covers_52 : decode cX4_covers 52 = .ok (.ishl, 1) := by decide +kernel
theorem dX4_covers_53 : decode cX4_covers 53 = .ok (.ior, 1) := by decide +kernel
theorem dX4_covers_54 : decode cX4_covers 54 = .ok (.putfield 127, 3) := by decide +kernel
theorem dX4_covers_57 : decode cX4_covers 57 = .ok (.aload_n 0, 1) := by decide +kernel
theorem dX4_covers_58 : decode cX4_covers 58 = .ok (.iload 4, 2) := by decide +kernel
theorem dX4_covers_60 : decode cX4_covers 60 = .ok (.iconst 1, 1) := by decide +kernel
theorem dX4_covers_61 : decode cX4_covers 61 = .ok (.iadd, 1) := by decide +kernel
theorem dX4_covers_62 : decode cX4_covers 62 = .ok (.iload_n 2, 1) := by decide +kernel
theorem dX4_covers_63 : decode cX4_covers 63 = .ok (.iconst 1, 1) := by decide +kernel
theorem dX4_covers_64 : decode cX4_covers 64 = .ok (.isub, 1) := by decide +kernel
theorem dX4_covers_65 : decode cX4_covers 65 = .ok (.iload_n 3, 1) := by decide +kernel
theorem dX4_covers_66 : decode cX4_covers 66 = .ok (.aload_n 0, 1) := by decide +kernel
theorem dX4_covers_67 : decode cX4_covers 67 = .ok (.getfield 34, 3) := by decide +kernel
theorem dX4_covers_70 : decode cX4_covers 70 = .ok (.iload 4, 2) := by decide +kernel
theorem dX4_covers_72 : decode cX4_covers 72 = .ok (.iaload, 1) := by decide +kernel
theorem dX4_covers_73 : decode cX4_covers 73 = .ok (.iconst (-1), 1) := by decide +kernel
theorem dX4_covers_74 : decode cX4_covers 74 = .ok (.ixor, 1) := by decide +kernel
theorem dX4_covers_75 : decode cX4_covers 75 = .ok (.iand, 1) := by decide +kernel
theorem dX4_covers_76 : decode cX4_covers 76 = .ok (.invokevirtual 130, 3) := by decide +kernel
theorem dX4_covers_79 : decode cX4_covers 79 = .ok (.ifCond .eq 5, 3) := by decide +kernel
theorem dX4_covers_82 : decode cX4_covers 82 = .ok (.iconst 1, 1) := by decide +kernel
theorem dX4_covers_83 : decode cX4_covers 83 = .ok (.ireturn, 1) := by decide +kernel
theorem dX4_covers_84 : decode cX4_covers 84 = .ok (.aload_n 0, 1) := by decide +kernel
theorem dX4_covers_85 : decode cX4_covers 85 = .ok (.dup, 1) := by decide +kernel
theorem dX4_covers_86 : decode cX4_covers 86 = .ok (.getfield 127, 3) := by decide +kernel
theorem dX4_covers_89 : decode cX4_covers 89 = .ok (.iconst 1, 1) := by decide +kernel
theorem dX4_covers_90 : decode cX4_covers 90 = .ok (.iload 4, 2) := by decide +kernel
theorem dX4_covers_92 : decode cX4_covers 92 = .ok (.ishl, 1) := by decide +kernel
theorem dX4_covers_93 : decode cX4_covers 93 = .ok (.iconst (-1), 1) := by decide +kernel
theorem dX4_covers_94 : decode cX4_covers 94 = .ok (.ixor, 1) := by decide +kernel
theorem dX4_covers_95 : decode cX4_covers 95 = .ok (.iand, 1) := by decide +kernel
theorem dX4_covers_96 : decode cX4_covers 96 = .ok (.putfield 127, 3) := by decide +kernel
theorem dX4_covers_99 : decode cX4_covers 99 = .ok (.iinc 4 1, 3) := by decide +kernel
theorem dX4_covers_102 : decode cX4_covers 102 = .ok (.goto (-82), 3) := by decide +kernel
theorem dX4_covers_105 : decode cX4_covers 105 = .ok (.iconst 0, 1) := by decide +kernel
theorem dX4_covers_106 : decode cX4_covers 106 = .ok (.ireturn, 1) := by decide +kernel
theorem dX4_cover_0 : decode cX4_cover 0 = .ok (.iconst 0, 1) := by decide +kernel
theorem dX4_cover_1 : decode cX4_cover 1 = .ok (.istore_n 2, 1) := by decide +kernel
theorem dX4_cover_2 : decode cX4_cover 2 = .ok (.aload_n 0, 1) := by decide +kernel
theorem dX4_cover_3 : decode cX4_cover 3 = .ok (.iconst 0, 1) := by decide +kernel
theorem dX4_cover_4 : decode cX4_cover 4 = .ok (.putfield 127, 3) := by decide +kernel
theorem dX4_cover_7 : decode cX4_cover 7 = .ok (.aload_n 0, 1) := by decide +kernel
theorem dX4_cover_8 : decode cX4_cover 8 = .ok (.iconst 0, 1) := by decide +kernel
theorem dX4_cover_9 : decode cX4_cover 9 = .ok (.iload_n 2, 1) := by decide +kernel
theorem dX4_cover_10 : decode cX4_cover 10 = .ok (.iload_n 1, 1) := by decide +kernel
theorem dX4_cover_11 : decode cX4_cover 11 = .ok (.invokevirtual 130, 3) := by decide +kernel
theorem dX4_cover_14 : decode cX4_cover 14 = .ok (.ifCond .ne 9, 3) := by decide +kernel
theorem dX4_cover_17 : decode cX4_cover 17 = .ok (.iinc 2 1, 3) := by decide +kernel
theorem dX4_cover_20 : decode cX4_cover 20 = .ok (.goto (-13), 3) := by decide +kernel
theorem dX4_cover_23 : decode cX4_cover 23 = .ok (.aload_n 0, 1) := by decide +kernel
theorem dX4_cover_24 : decode cX4_cover 24 = .ok (.getfield 127, 3) := by decide +kernel
theorem dX4_cover_27 : decode cX4_cover 27 = .ok (.ireturn, 1) := by decide +kernel
theorem dX4_coverSize_0 : decode cX4_coverSize 0 = .ok (.aload_n 0, 1) := by decide +kernel
theorem dX4_coverSize_1 : decode cX4_coverSize 1 = .ok (.iconst 0, 1) := by decide +kernel
theorem dX4_coverSize_2 : decode cX4_coverSize 2 = .ok (.putfield 40, 3) := by decide +kernel
theorem dX4_coverSize_5 : decode cX4_coverSize 5 = .ok (.aload_n 0, 1) := by decide +kernel
theorem dX4_coverSize_6 : decode cX4_coverSize 6 = .ok (.iload_n 1, 1) := by decide +kernel
theorem dX4_coverSize_7 : decode cX4_coverSize 7 = .ok (.invokevirtual 106, 3) := by decide +kernel
theorem dX4_coverSize_10 : decode cX4_coverSize 10 = .ok (.ifCond .ne 9, 3) := by decide +kernel
theorem dX4_coverSize_13 : decode cX4_coverSize 13 = .ok (.aload_n 0, 1) := by decide +kernel
theorem dX4_coverSize_14 : decode cX4_coverSize 14 = .ok (.iconst 1, 1) := by decide +kernel
theorem dX4_coverSize_15 : decode cX4_coverSize 15 = .ok (.invokevirtual 68, 3) := by decide +kernel
theorem dX4_coverSize_18 : decode cX4_coverSize 18 = .ok (.ireturn, 1) := by decide +kernel
theorem dX4_coverSize_19 : decode cX4_coverSize 19 = .ok (.aload_n 0, 1) := by decide +kernel
theorem dX4_coverSize_20 : decode cX4_coverSize 20 = .ok (.invokevirtual 115, 3) := by decide +kernel
theorem dX4_coverSize_23 : decode cX4_coverSize 23 = .ok (.aload_n 0, 1) := by decide +kernel
theorem dX4_coverSize_24 : decode cX4_coverSize 24 = .ok (.aload_n 0, 1) := by decide +kernel
theorem dX4_coverSize_25 : decode cX4_coverSize 25 = .ok (.getfield 37, 3) := by decide +kernel
theorem dX4_coverSize_28 : decode cX4_coverSize 28 = .ok (.iload_n 1, 1) := by decide +kernel
theorem dX4_coverSize_29 : decode cX4_coverSize 29 = .ok (.iaload, 1) := by decide +kernel
theorem dX4_coverSize_30 : decode cX4_coverSize 30 = .ok (.invokevirtual 133, 3) := by decide +kernel
theorem dX4_coverSize_33 : decode cX4_coverSize 33 = .ok (.invokestatic 78, 3) := by decide +kernel
theorem dX4_coverSize_36 : decode cX4_coverSize 36 = .ok (.ireturn, 1) := by decide +kernel
theorem dX4_coverTag_0 : decode cX4_coverTag 0 = .ok (.aload_n 0, 1) := by decide +kernel
theorem dX4_coverTag_1 : decode cX4_coverTag 1 = .ok (.iconst 0, 1) := by decide +kernel
theorem dX4_coverTag_2 : decode cX4_coverTag 2 = .ok (.putfield 40, 3) := by decide +kernel
theorem dX4_coverTag_5 : decode cX4_coverTag 5 = .ok (.aload_n 0, 1) := by decide +kernel
theorem dX4_coverTag_6 : decode cX4_coverTag 6 = .ok (.iload_n 1, 1) := by decide +kernel
theorem dX4_coverTag_7 : decode cX4_coverTag 7 = .ok (.invokevirtual 106, 3) := by decide +kernel
theorem dX4_coverTag_10 : decode cX4_coverTag 10 = .ok (.ifCond .ne 9, 3) := by decide +kernel
theorem dX4_coverTag_13 : decode cX4_coverTag 13 = .ok (.aload_n 0, 1) := by decide +kernel
theorem dX4_coverTag_14 : decode cX4_coverTag 14 = .ok (.iconst 1, 1) := by decide +kernel
theorem dX4_coverTag_15 : decode cX4_coverTag 15 = .ok (.invokevirtual 68, 3) := by decide +kernel
theorem dX4_coverTag_18 : decode cX4_coverTag 18 = .ok (.ireturn, 1) := by decide +kernel
theorem dX4_coverTag_19 : decode cX4_coverTag 19 = .ok (.aload_n 0, 1) := by decide +kernel
theorem dX4_coverTag_20 : decode cX4_coverTag 20 = .ok (.invokevirtual 115, 3) := by decide +kernel
theorem dX4_coverTag_23 : decode cX4_coverTag 23 = .ok (.aload_n 0, 1) := by decide +kernel
theorem dX4_coverTag_24 : decode cX4_coverTag 24 = .ok (.aload_n 0, 1) := by decide +kernel
theorem dX4_coverTag_25 : decode cX4_coverTag 25 = .ok (.getfield 37, 3) := by decide +kernel
theorem dX4_coverTag_28 : decode cX4_coverTag 28 = .ok (.iload_n 1, 1) := by decide +kernel
theorem dX4_coverTag_29 : decode cX4_coverTag 29 = .ok (.iaload, 1) := by decide +kernel
theorem dX4_coverTag_30 : decode cX4_coverTag 30 = .ok (.invokevirtual 133, 3) := by decide +kernel
theorem dX4_coverTag_33 : decode cX4_coverTag 33 = .ok (.istore_n 3, 1) := by decide +kernel
theorem dX4_coverTag_34 : decode cX4_coverTag 34 = .ok (.iload_n 2, 1) := by decide +kernel
theorem dX4_coverTag_35 : decode cX4_coverTag 35 = .ok (.iconst 0, 1) := by decide +kernel
theorem dX4_coverTag_36 : decode cX4_coverTag 36 = .ok (.iload_n 3, 1) := by decide +kernel
theorem dX4_coverTag_37 : decode cX4_coverTag 37 = .ok (.invokestatic 78, 3) := by decide +kernel
theorem dX4_coverTag_40 : decode cX4_coverTag 40 = .ok (.iconst 1, 1) := by decide +kernel
theorem dX4_coverTag_41 : decode cX4_coverTag 41 = .ok (.isub, 1) := by decide +kernel
theorem dX4_coverTag_42 : decode cX4_coverTag 42 = .ok (.invokestatic 47, 3) := by decide +kernel
theorem dX4_coverTag_45 : decode cX4_coverTag 45 = .ok (.ifCond .ne 9, 3) := by decide +kernel
theorem dX4_coverTag_48 : decode cX4_coverTag 48 = .ok (.aload_n 0, 1) := by decide +kernel
theorem dX4_coverTag_49 : decode cX4_coverTag 49 = .ok (.iconst 1, 1) := by decide +kernel
theorem dX4_coverTag_50 : decode cX4_coverTag 50 = .ok (.invokevirtual 68, 3) := by decide +kernel
theorem dX4_coverTag_53 : decode cX4_coverTag 53 = .ok (.ireturn, 1) := by decide +kernel
theorem dX4_coverTag_54 : decode cX4_coverTag 54 = .ok (.iconst 0, 1) := by decide +kernel
theorem dX4_coverTag_55 : decode cX4_coverTag 55 = .ok (.istore 4, 2) := by decide +kernel
theorem dX4_coverTag_57 : decode cX4_coverTag 57 = .ok (.iload 4, 2) := by decide +kernel
theorem dX4_coverTag_59 : decode cX4_coverTag 59 = .ok (.iload_n 2, 1) := by decide +kernel
theorem dX4_coverTag_60 : decode cX4_coverTag 60 = .ok (.if_icmp .ge 15, 3) := by decide +kernel
theorem dX4_coverTag_63 : decode cX4_coverTag 63 = .ok (.iload_n 3, 1) := by decide +kernel
theorem dX4_coverTag_64 : decode cX4_coverTag 64 = .ok (.iload_n 3, 1) := by decide +kernel
theorem dX4_coverTag_65 : decode cX4_coverTag 65 = .ok (.iconst 1, 1) := by decide +kernel
theorem dX4_coverTag_66 : decode cX4_coverTag 66 = .ok (.isub, 1) := by decide +kernel
theorem dX4_coverTag_67 : decode cX4_coverTag 67 = .ok (.iand, 1) := by decide +kernel
theorem dX4_coverTag_68 : decode cX4_coverTag 68 = .ok (.istore_n 3, 1) := by decide +kernel
theorem dX4_coverTag_69 : decode cX4_coverTag 69 = .ok (.iinc 4 1, 3) := by decide +kernel
theorem dX4_coverTag_72 : decode cX4_coverTag 72 = .ok (.goto (-15), 3) := by decide +kernel
theorem dX4_coverTag_75 : decode cX4_coverTag 75 = .ok (.iconst 0, 1) := by decide +kernel
theorem dX4_coverTag_76 : decode cX4_coverTag 76 = .ok (.istore 4, 2) := by decide +kernel
theorem dX4_coverTag_78 : decode cX4_coverTag 78 = .ok (.iload_n 3, 1) := by decide +kernel
theorem dX4_coverTag_79 : decode cX4_coverTag 79 = .ok (.iload 4, 2) := by decide +kernel
theorem dX4_coverTag_81 : decode cX4_coverTag 81 = .ok (.invokestatic 61, 3) := by decide +kernel
theorem dX4_coverTag_84 : decode cX4_coverTag 84 = .ok (.ifCond .ne 9, 3) := by decide +kernel
theorem dX4_coverTag_87 : decode cX4_coverTag 87 = .ok (.iinc 4 1, 3) := by decide +kernel
theorem dX4_coverTag_90 : decode cX4_coverTag 90 = .ok (.goto (-12), 3) := by decide +kernel
theorem dX4_coverTag_93 : decode cX4_coverTag 93 = .ok (.iload 4, 2) := by decide +kernel
theorem dX4_coverTag_95 : decode cX4_coverTag 95 = .ok (.ireturn, 1) := by decide +kernel
theorem dX4_tags_0 : decode cX4_tags 0 = .ok (.aload_n 0, 1) := by decide +kernel
theorem dX4_tags_1 : decode cX4_tags 1 = .ok (.iconst 0, 1) := by decide +kernel
theorem dX4_tags_2 : decode cX4_tags 2 = .ok (.putfield 40, 3) := by decide +kernel
theorem dX4_tags_5 : decode cX4_tags 5 = .ok (.aload_n 0, 1) := by decide +kernel
theorem dX4_tags_6 : decode cX4_tags 6 = .ok (.getfield 44, 3) := by decide +kernel
theorem dX4_tags_9 : decode cX4_tags 9 = .ok (.ireturn, 1) := by decide +kernel
theorem dX4_dreams_0 : decode cX4_dreams 0 = .ok (.aload_n 0, 1) := by decide +kernel
theorem dX4_dreams_1 : decode cX4_dreams 1 = .ok (.iconst 0, 1) := by decide +kernel
theorem dX4_dreams_2 : decode cX4_dreams 2 = .ok (.putfield 40, 3) := by decide +kernel
theorem dX4_dreams_5 : decode cX4_dreams 5 = .ok (.aload_n 0, 1) := by decide +kernel
theorem dX4_dreams_6 : decode cX4_dreams 6 = .ok (.getfield 51, 3) := by decide +kernel
theorem dX4_dreams_9 : decode cX4_dreams 9 = .ok (.ireturn, 1) := by decide +kernel
theorem dX4_terms_0 : decode cX4_terms 0 = .ok (.aload_n 0, 1) := by decide +kernel
theorem dX4_terms_1 : decode cX4_terms 1 = .ok (.iconst 0, 1) := by decide +kernel
theorem dX4_terms_2 : decode cX4_terms 2 = .ok (.putfield 40, 3) := by decide +kernel
theorem dX4_terms_5 : decode cX4_terms 5 = .ok (.aload_n 0, 1) := by decide +kernel
theorem dX4_terms_6 : decode cX4_terms 6 = .ok (.getfield 54, 3) := by decide +kernel
theorem dX4_terms_9 : decode cX4_terms 9 = .ok (.ireturn, 1) := by decide +kernel
theorem dX4_nights_0 : decode cX4_nights 0 = .ok (.aload_n 0, 1) := by decide +kernel
theorem dX4_nights_1 : decode cX4_nights 1 = .ok (.iconst 0, 1) := by decide +kernel
theorem dX4_nights_2 : decode cX4_nights 2 = .ok (.putfield 40, 3) := by decide +kernel
theorem dX4_nights_5 : decode cX4_nights 5 = .ok (.aload_n 0, 1) := by decide +kernel
theorem dX4_nights_6 : decode cX4_nights 6 = .ok (.getfield 81, 3) := by decide +kernel
theorem dX4_nights_9 : decode cX4_nights 9 = .ok (.ireturn, 1) := by decide +kernel
theorem dX4_fadedDreams_0 : decode cX4_fadedDreams 0 = .ok (.aload_n 0, 1) := by decide +kernel
theorem dX4_fadedDreams_1 : decode cX4_fadedDreams 1 = .ok (.iconst 0, 1) := by decide +kernel
theorem dX4_fadedDreams_2 : decode cX4_fadedDreams 2 = .ok (.putfield 40, 3) := by decide +kernel
theorem dX4_fadedDreams_5 : decode cX4_fadedDreams 5 = .ok (.aload_n 0, 1) := by decide +kernel
theorem dX4_fadedDreams_6 : decode cX4_fadedDreams 6 = .ok (.iconst 0, 1) := by decide +kernel
theorem dX4_fadedDreams_7 : decode cX4_fadedDreams 7 = .ok (.invokevirtual 99, 3) := by decide +kernel
theorem dX4_fadedDreams_10 : decode cX4_fadedDreams 10 = .ok (.ireturn, 1) := by decide +kernel
theorem dX4_fadedAfter_0 : decode cX4_fadedAfter 0 = .ok (.aload_n 0, 1) := by decide +kernel
theorem dX4_fadedAfter_1 : decode cX4_fadedAfter 1 = .ok (.iconst 0, 1) := by decide +kernel
theorem dX4_fadedAfter_2 : decode cX4_fadedAfter 2 = .ok (.putfield 40, 3) := by decide +kernel
theorem dX4_fadedAfter_5 : decode cX4_fadedAfter 5 = .ok (.iload_n 1, 1) := by decide +kernel
theorem dX4_fadedAfter_6 : decode cX4_fadedAfter 6 = .ok (.iconst 1, 1) := by decide +kernel
theorem dX4_fadedAfter_7 : decode cX4_fadedAfter 7 = .ok (.bipush 30, 2) := by decide +kernel
theorem dX4_fadedAfter_9 : decode cX4_fadedAfter 9 = .ok (.invokestatic 47, 3) := by decide +kernel
theorem dX4_fadedAfter_12 : decode cX4_fadedAfter 12 = .ok (.ifCond .eq 11, 3) := by decide +kernel
theorem dX4_fadedAfter_15 : decode cX4_fadedAfter 15 = .ok (.aload_n 0, 1) := by decide +kernel
theorem dX4_fadedAfter_16 : decode cX4_fadedAfter 16 = .ok (.iload_n 1, 1) := by decide +kernel
theorem dX4_fadedAfter_17 : decode cX4_fadedAfter 17 = .ok (.invokevirtual 99, 3) := by decide +kernel
theorem dX4_fadedAfter_20 : decode cX4_fadedAfter 20 = .ok (.goto 8, 3) := by decide +kernel
theorem dX4_fadedAfter_23 : decode cX4_fadedAfter 23 = .ok (.aload_n 0, 1) := by decide +kernel
theorem dX4_fadedAfter_24 : decode cX4_fadedAfter 24 = .ok (.iconst 1, 1) := by decide +kernel
theorem dX4_fadedAfter_25 : decode cX4_fadedAfter 25 = .ok (.invokevirtual 68, 3) := by decide +kernel
theorem dX4_fadedAfter_28 : decode cX4_fadedAfter 28 = .ok (.ireturn, 1) := by decide +kernel
theorem dX4_matchesWith_0 : decode cX4_matchesWith 0 = .ok (.aload_n 0, 1) := by decide +kernel
theorem dX4_matchesWith_1 : decode cX4_matchesWith 1 = .ok (.getfield 9, 3) := by decide +kernel
theorem dX4_matchesWith_4 : decode cX4_matchesWith 4 = .ok (.iload_n 2, 1) := by decide +kernel
theorem dX4_matchesWith_5 : decode cX4_matchesWith 5 = .ok (.iaload, 1) := by decide +kernel
theorem dX4_matchesWith_6 : decode cX4_matchesWith 6 = .ok (.istore 4, 2) := by decide +kernel
theorem dX4_matchesWith_8 : decode cX4_matchesWith 8 = .ok (.aload_n 0, 1) := by decide +kernel
theorem dX4_matchesWith_9 : decode cX4_matchesWith 9 = .ok (.getfield 9, 3) := by decide +kernel
theorem dX4_matchesWith_12 : decode cX4_matchesWith 12 = .ok (.iload_n 2, 1) := by decide +kernel
theorem dX4_matchesWith_13 : decode cX4_matchesWith 13 = .ok (.iload_n 3, 1) := by decide +kernel
theorem dX4_matchesWith_14 : decode cX4_matchesWith 14 = .ok (.iastore, 1) := by decide +kernel
theorem dX4_matchesWith_15 : decode cX4_matchesWith 15 = .ok (.aload_n 0, 1) := by decide +kernel
theorem dX4_matchesWith_16 : decode cX4_matchesWith 16 = .ok (.invokevirtual 115, 3) := by decide +kernel
theorem dX4_matchesWith_19 : decode cX4_matchesWith 19 = .ok (.aload_n 0, 1) := by decide +kernel
theorem dX4_matchesWith_20 : decode cX4_matchesWith 20 = .ok (.getfield 9, 3) := by decide +kernel
theorem dX4_matchesWith_23 : decode cX4_matchesWith 23 = .ok (.iload_n 2, 1) := by decide +kernel
theorem dX4_matchesWith_24 : decode cX4_matchesWith 24 = .ok (.iload 4, 2) := by decide +kernel
theorem dX4_matchesWith_26 : decode cX4_matchesWith 26 = .ok (.iastore, 1) := by decide +kernel
theorem dX4_matchesWith_27 : decode cX4_matchesWith 27 = .ok (.aload_n 0, 1) := by decide +kernel
theorem dX4_matchesWith_28 : decode cX4_matchesWith 28 = .ok (.getfield 37, 3) := by decide +kernel
theorem dX4_matchesWith_31 : decode cX4_matchesWith 31 = .ok (.iload_n 1, 1) := by decide +kernel
theorem dX4_matchesWith_32 : decode cX4_matchesWith 32 = .ok (.iaload, 1) := by decide +kernel
theorem dX4_matchesWith_33 : decode cX4_matchesWith 33 = .ok (.invokestatic 78, 3) := by decide +kernel
theorem dX4_matchesWith_36 : decode cX4_matchesWith 36 = .ok (.ireturn, 1) := by decide +kernel
theorem dX4_matchesIfUnder_0 : decode cX4_matchesIfUnder 0 = .ok (.aload_n 0, 1) := by decide +kernel
theorem dX4_matchesIfUnder_1 : decode cX4_matchesIfUnder 1 = .ok (.iconst 0, 1) := by decide +kernel
theorem dX4_matchesIfUnder_2 : decode cX4_matchesIfUnder 2 = .ok (.putfield 40, 3) := by decide +kernel
theorem dX4_matchesIfUnder_5 : decode cX4_matchesIfUnder 5 = .ok (.aload_n 0, 1) := by decide +kernel
theorem dX4_matchesIfUnder_6 : decode cX4_matchesIfUnder 6 = .ok (.iload_n 1, 1) := by decide +kernel
theorem dX4_matchesIfUnder_7 : decode cX4_matchesIfUnder 7 = .ok (.invokevirtual 106, 3) := by decide +kernel
theorem dX4_matchesIfUnder_10 : decode cX4_matchesIfUnder 10 = .ok (.ifCond .ne 9, 3) := by decide +kernel
theorem dX4_matchesIfUnder_13 : decode cX4_matchesIfUnder 13 = .ok (.aload_n 0, 1) := by decide +kernel
theorem dX4_matchesIfUnder_14 : decode cX4_matchesIfUnder 14 = .ok (.iconst 1, 1) := by decide +kernel
theorem dX4_matchesIfUnder_15 : decode cX4_matchesIfUnder 15 = .ok (.invokevirtual 68, 3) := by decide +kernel
theorem dX4_matchesIfUnder_18 : decode cX4_matchesIfUnder 18 = .ok (.ireturn, 1) := by decide +kernel
theorem dX4_matchesIfUnder_19 : decode cX4_matchesIfUnder 19 = .ok (.aload_n 0, 1) := by decide +kernel
theorem dX4_matchesIfUnder_20 : decode cX4_matchesIfUnder 20 = .ok (.iload_n 2, 1) := by decide +kernel
theorem dX4_matchesIfUnder_21 : decode cX4_matchesIfUnder 21 = .ok (.iload_n 3, 1) := by decide +kernel
theorem dX4_matchesIfUnder_22 : decode cX4_matchesIfUnder 22 = .ok (.invokevirtual 75, 3) := by decide +kernel
theorem dX4_matchesIfUnder_25 : decode cX4_matchesIfUnder 25 = .ok (.ifCond .eq 13, 3) := by decide +kernel
theorem dX4_matchesIfUnder_28 : decode cX4_matchesIfUnder 28 = .ok (.aload_n 0, 1) := by decide +kernel
theorem dX4_matchesIfUnder_29 : decode cX4_matchesIfUnder 29 = .ok (.iload_n 1, 1) := by decide +kernel
theorem dX4_matchesIfUnder_30 : decode cX4_matchesIfUnder 30 = .ok (.iload_n 2, 1) := by decide +kernel
theorem dX4_matchesIfUnder_31 : decode cX4_matchesIfUnder 31 = .ok (.iload_n 3, 1) := by decide +kernel
theorem dX4_matchesIfUnder_32 : decode cX4_matchesIfUnder 32 = .ok (.invokevirtual 136, 3) := by decide +kernel
theorem dX4_matchesIfUnder_35 : decode cX4_matchesIfUnder 35 = .ok (.goto 4, 3) := by decide +kernel
theorem dX4_matchesIfUnder_38 : decode cX4_matchesIfUnder 38 = .ok (.iconst 0, 1) := by decide +kernel
theorem dX4_matchesIfUnder_39 : decode cX4_matchesIfUnder 39 = .ok (.ireturn, 1) := by decide +kernel
theorem dX4_bestParent_0 : decode cX4_bestParent 0 = .ok (.aload_n 0, 1) := by decide +kernel
theorem dX4_bestParent_1 : decode cX4_bestParent 1 = .ok (.iconst 0, 1) := by decide +kernel
theorem dX4_bestParent_2 : decode cX4_bestParent 2 = .ok (.putfield 40, 3) := by decide +kernel
theorem dX4_bestParent_5 : decode cX4_bestParent 5 = .ok (.aload_n 0, 1) := by decide +kernel
theorem dX4_bestParent_6 : decode cX4_bestParent 6 = .ok (.iload_n 1, 1) := by decide +kernel
theorem dX4_bestParent_7 : decode cX4_bestParent 7 = .ok (.invokevirtual 106, 3) := by decide +kernel
theorem dX4_bestParent_10 : decode cX4_bestParent 10 = .ok (.ifCond .eq 11, 3) := by decide +kernel
theorem dX4_bestParent_13 : decode cX4_bestParent 13 = .ok (.aload_n 0, 1) := by decide +kernel
theorem dX4_bestParent_14 : decode cX4_bestParent 14 = .ok (.iload_n 2, 1) := by decide +kernel
theorem dX4_bestParent_15 : decode cX4_bestParent 15 = .ok (.invokevirtual 71, 3) := by decide +kernel
theorem dX4_bestParent_18 : decode cX4_bestParent 18 = .ok (.ifCond .ne 9, 3) := by decide +kernel
theorem dX4_bestParent_21 : decode cX4_bestParent 21 = .ok (.aload_n 0, 1) := by decide +kernel
theorem dX4_bestParent_22 : decode cX4_bestParent 22 = .ok (.iconst 1, 1) := by decide +kernel
theorem dX4_bestParent_23 : decode cX4_bestParent 23 = .ok (.invokevirtual 68, 3) := by decide +kernel
theorem dX4_bestParent_26 : decode cX4_bestParent 26 = .ok (.ireturn, 1) := by decide +kernel
theorem dX4_bestParent_27 : decode cX4_bestParent 27 = .ok (.iconst (-1), 1) := by decide +kernel
theorem dX4_bestParent_28 : decode cX4_bestParent 28 = .ok (.istore_n 3, 1) := by decide +kernel
theorem dX4_bestParent_29 : decode cX4_bestParent 29 = .ok (.aload_n 0, 1) := by decide +kernel
theorem dX4_bestParent_30 : decode cX4_bestParent 30 = .ok (.iload_n 1, 1) := by decide +kernel
theorem dX4_bestParent_31 : decode cX4_bestParent 31 = .ok (.iload_n 2, 1) := by decide +kernel
theorem dX4_bestParent_32 : decode cX4_bestParent 32 = .ok (.aload_n 0, 1) := by decide +kernel
theorem dX4_bestParent_33 : decode cX4_bestParent 33 = .ok (.getfield 9, 3) := by decide +kernel
theorem dX4_bestParent_36 : decode cX4_bestParent 36 = .ok (.iload_n 2, 1) := by decide +kernel
theorem dX4_bestParent_37 : decode cX4_bestParent 37 = .ok (.iaload, 1) := by decide +kernel
theorem dX4_bestParent_38 : decode cX4_bestParent 38 = .ok (.invokevirtual 136, 3) := by decide +kernel
theorem dX4_bestParent_41 : decode cX4_bestParent 41 = .ok (.istore 4, 2) := by decide +kernel
theorem dX4_bestParent_43 : decode cX4_bestParent 43 = .ok (.iconst 0, 1) := by decide +kernel
theorem dX4_bestParent_44 : decode cX4_bestParent 44 = .ok (.istore 5, 2) := by decide +kernel
theorem dX4_bestParent_46 : decode cX4_bestParent 46 = .ok (.iload 5, 2) := by decide +kernel
theorem dX4_bestParent_48 : decode cX4_bestParent 48 = .ok (.aload_n 0, 1) := by decide +kernel
theorem dX4_bestParent_49 : decode cX4_bestParent 49 = .ok (.getfield 44, 3) := by decide +kernel
theorem dX4_bestParent_52 : decode cX4_bestParent 52 = .ok (.if_icmp .ge 55, 3) := by decide +kernel
theorem dX4_bestParent_55 : decode cX4_bestParent 55 = .ok (.iload 5, 2) := by decide +kernel
theorem dX4_bestParent_57 : decode cX4_bestParent 57 = .ok (.iload_n 2, 1) := by decide +kernel
theorem dX4_bestParent_58 : decode cX4_bestParent 58 = .ok (.if_icmp .eq 43, 3) := by decide +kernel
theorem dX4_bestParent_61 : decode cX4_bestParent 61 = .ok (.aload_n 0, 1) := by decide +kernel
theorem dX4_bestParent_62 : decode cX4_bestParent 62 = .ok (.iload 5, 2) := by decide +kernel
theorem dX4_bestParent_64 : decode cX4_bestParent 64 = .ok (.iload_n 2, 1) := by decide +kernel
theorem dX4_bestParent_65 : decode cX4_bestParent 65 = .ok (.invokevirtual 65, 3) := by decide +kernel
theorem dX4_bestParent_68 : decode cX4_bestParent 68 = .ok (.ifCond .eq 6, 3) := by decide +kernel
theorem dX4_bestParent_71 : decode cX4_bestParent 71 = .ok (.goto 30, 3) := by decide +kernel
theorem dX4_bestParent_74 : decode cX4_bestParent 74 = .ok (.aload_n 0, 1) := by decide +kernel
theorem dX4_bestParent_75 : decode cX4_bestParent 75 = .ok (.iload_n 1, 1) := by decide +kernel
theorem dX4_bestParent_76 : decode cX4_bestParent 76 = .ok (.iload_n 2, 1) := by decide +kernel
theorem dX4_bestParent_77 : decode cX4_bestParent 77 = .ok (.iload 5, 2) := by decide +kernel
theorem dX4_bestParent_79 : decode cX4_bestParent 79 = .ok (.invokevirtual 136, 3) := by decide +kernel
theorem dX4_bestParent_82 : decode cX4_bestParent 82 = .ok (.istore 6, 2) := by decide +kernel
theorem dX4_bestParent_84 : decode cX4_bestParent 84 = .ok (.iload 6, 2) := by decide +kernel
theorem dX4_bestParent_86 : decode cX4_bestParent 86 = .ok (.iload 4, 2) := by decide +kernel
theorem dX4_bestParent_88 : decode cX4_bestParent 88 = .ok (.if_icmp .gt 6, 3) := by decide +kernel
theorem dX4_bestParent_91 : decode cX4_bestParent 91 = .ok (.goto 10, 3) := by decide +kernel
theorem dX4_bestParent_94 : decode cX4_bestParent 94 = .ok (.iload 5, 2) := by decide +kernel
theorem dX4_bestParent_96 : decode cX4_bestParent 96 = .ok (.istore_n 3, 1) := by decide +kernel
theorem dX4_bestParent_97 : decode cX4_bestParent 97 = .ok (.iload 6, 2) := by decide +kernel
theorem dX4_bestParent_99 : decode cX4_bestParent 99 = .ok (.istore 4, 2) := by decide +kernel
theorem dX4_bestParent_101 : decode cX4_bestParent 101 = .ok (.iinc 5 1, 3) := by decide +kernel
theorem dX4_bestParent_104 : decode cX4_bestParent 104 = .ok (.goto (-58), 3) := by decide +kernel
theorem dX4_bestParent_107 : decode cX4_bestParent 107 = .ok (.iload_n 3, 1) := by decide +kernel
theorem dX4_bestParent_108 : decode cX4_bestParent 108 = .ok (.ireturn, 1) := by decide +kernel
theorem dX4_meanVividness_0 : decode cX4_meanVividness 0 = .ok (.aload_n 0, 1) := by decide +kernel
theorem dX4_meanVividness_1 : decode cX4_meanVividness 1 = .ok (.iconst 0, 1) := by decide +kernel
theorem dX4_meanVividness_2 : decode cX4_meanVividness 2 = .ok (.putfield 40, 3) := by decide +kernel
theorem dX4_meanVividness_5 : decode cX4_meanVividness 5 = .ok (.iconst 0, 1) := by decide +kernel
theorem dX4_meanVividness_6 : decode cX4_meanVividness 6 = .ok (.istore_n 1, 1) := by decide +kernel
theorem dX4_meanVividness_7 : decode cX4_meanVividness 7 = .ok (.iconst 0, 1) := by decide +kernel
theorem dX4_meanVividness_8 : decode cX4_meanVividness 8 = .ok (.istore_n 2, 1) := by decide +kernel
theorem dX4_meanVividness_9 : decode cX4_meanVividness 9 = .ok (.iload_n 2, 1) := by decide +kernel
theorem dX4_meanVividness_10 : decode cX4_meanVividness 10 = .ok (.aload_n 0, 1) := by decide +kernel
theorem dX4_meanVividness_11 : decode cX4_meanVividness 11 = .ok (.getfield 51, 3) := by decide +kernel
theorem dX4_meanVividness_14 : decode cX4_meanVividness 14 = .ok (.if_icmp .ge 18, 3) := by decide +kernel
theorem dX4_meanVividness_17 : decode cX4_meanVividness 17 = .ok (.iload_n 1, 1) := by decide +kernel
theorem dX4_meanVividness_18 : decode cX4_meanVividness 18 = .ok (.aload_n 0, 1) := by decide +kernel
theorem dX4_meanVividness_19 : decode cX4_meanVividness 19 = .ok (.getfield 16, 3) := by decide +kernel
theorem dX4_meanVividness_22 : decode cX4_meanVividness 22 = .ok (.iload_n 2, 1) := by decide +kernel
theorem dX4_meanVividness_23 : decode cX4_meanVividness 23 = .ok (.iaload, 1) := by decide +kernel
theorem dX4_meanVividness_24 : decode cX4_meanVividness 24 = .ok (.iadd, 1) := by decide +kernel
theorem dX4_meanVividness_25 : decode cX4_meanVividness 25 = .ok (.istore_n 1, 1) := by decide +kernel
theorem dX4_meanVividness_26 : decode cX4_meanVividness 26 = .ok (.iinc 2 1, 3) := by decide +kernel
theorem dX4_meanVividness_29 : decode cX4_meanVividness 29 = .ok (.goto (-20), 3) := by decide +kernel
theorem dX4_meanVividness_32 : decode cX4_meanVividness 32 = .ok (.aload_n 0, 1) := by decide +kernel
theorem dX4_meanVividness_33 : decode cX4_meanVividness 33 = .ok (.getfield 51, 3) := by decide +kernel
theorem dX4_meanVividness_36 : decode cX4_meanVividness 36 = .ok (.ifCond .ne 7, 3) := by decide +kernel
theorem dX4_meanVividness_39 : decode cX4_meanVividness 39 = .ok (.dconst 0, 1) := by decide +kernel
theorem dX4_meanVividness_40 : decode cX4_meanVividness 40 = .ok (.goto 11, 3) := by decide +kernel
theorem dX4_meanVividness_43 : decode cX4_meanVividness 43 = .ok (.iload_n 1, 1) := by decide +kernel
theorem dX4_meanVividness_44 : decode cX4_meanVividness 44 = .ok (.i2d, 1) := by decide +kernel
theorem dX4_meanVividness_45 : decode cX4_meanVividness 45 = .ok (.aload_n 0, 1) := by decide +kernel
theorem dX4_meanVividness_46 : decode cX4_meanVividness 46 = .ok (.getfield 51, 3) := by decide +kernel
theorem dX4_meanVividness_49 : decode cX4_meanVividness 49 = .ok (.i2d, 1) := by decide +kernel
theorem dX4_meanVividness_50 : decode cX4_meanVividness 50 = .ok (.ddiv, 1) := by decide +kernel
theorem dX4_meanVividness_51 : decode cX4_meanVividness 51 = .ok (.dreturn, 1) := by decide +kernel
theorem dX4_digest_0 : decode cX4_digest 0 = .ok (.aload_n 0, 1) := by decide +kernel
theorem dX4_digest_1 : decode cX4_digest 1 = .ok (.iconst 0, 1) := by decide +kernel
theorem dX4_digest_2 : decode cX4_digest 2 = .ok (.putfield 40, 3) := by decide +kernel
theorem dX4_digest_5 : decode cX4_digest 5 = .ok (.aload_n 0, 1) := by decide +kernel
theorem dX4_digest_6 : decode cX4_digest 6 = .ok (.invokevirtual 115, 3) := by decide +kernel
theorem dX4_digest_9 : decode cX4_digest 9 = .ok (.iconst 5, 1) := by decide +kernel
theorem dX4_digest_10 : decode cX4_digest 10 = .ok (.newarray .int, 2) := by decide +kernel
theorem dX4_digest_12 : decode cX4_digest 12 = .ok (.dup, 1) := by decide +kernel
theorem dX4_digest_13 : decode cX4_digest 13 = .ok (.iconst 0, 1) := by decide +kernel
theorem dX4_digest_14 : decode cX4_digest 14 = .ok (.aload_n 0, 1) := by decide +kernel
theorem dX4_digest_15 : decode cX4_digest 15 = .ok (.getfield 44, 3) := by decide +kernel
theorem dX4_digest_18 : decode cX4_digest 18 = .ok (.iastore, 1) := by decide +kernel
theorem dX4_digest_19 : decode cX4_digest 19 = .ok (.dup, 1) := by decide +kernel
theorem dX4_digest_20 : decode cX4_digest 20 = .ok (.iconst 1, 1) := by decide +kernel
theorem dX4_digest_21 : decode cX4_digest 21 = .ok (.aload_n 0, 1) := by decide +kernel
theorem dX4_digest_22 : decode cX4_digest 22 = .ok (.getfield 51, 3) := by decide +kernel
theorem dX4_digest_25 : decode cX4_digest 25 = .ok (.iastore, 1) := by decide +kernel
theorem dX4_digest_26 : decode cX4_digest 26 = .ok (.dup, 1) := by decide +kernel
theorem dX4_digest_27 : decode cX4_digest 27 = .ok (.iconst 2, 1) := by decide +kernel
theorem dX4_digest_28 : decode cX4_digest 28 = .ok (.aload_n 0, 1) := by decide +kernel
theorem dX4_digest_29 : decode cX4_digest 29 = .ok (.getfield 54, 3) := by decide +kernel
theorem dX4_digest_32 : decode cX4_digest 32 = .ok (.iastore, 1) := by decide +kernel
theorem dX4_digest_33 : decode cX4_digest 33 = .ok (.dup, 1) := by decide +kernel
theorem dX4_digest_34 : decode cX4_digest 34 = .ok (.iconst 3, 1) := by decide +kernel
theorem dX4_digest_35 : decode cX4_digest 35 = .ok (.aload_n 0, 1) := by decide +kernel
theorem dX4_digest_36 : decode cX4_digest 36 = .ok (.getfield 81, 3) := by decide +kernel
theorem dX4_digest_39 : decode cX4_digest 39 = .ok (.iastore, 1) := by decide +kernel
theorem dX4_digest_40 : decode cX4_digest 40 = .ok (.dup, 1) := by decide +kernel
theorem dX4_digest_41 : decode cX4_digest 41 = .ok (.iconst 4, 1) := by decide +kernel
theorem dX4_digest_42 : decode cX4_digest 42 = .ok (.aload_n 0, 1) := by decide +kernel
theorem dX4_digest_43 : decode cX4_digest 43 = .ok (.iconst 0, 1) := by decide +kernel
theorem dX4_digest_44 : decode cX4_digest 44 = .ok (.invokevirtual 99, 3) := by decide +kernel
theorem dX4_digest_47 : decode cX4_digest 47 = .ok (.iastore, 1) := by decide +kernel
theorem dX4_digest_48 : decode cX4_digest 48 = .ok (.astore_n 1, 1) := by decide +kernel
theorem dX4_digest_49 : decode cX4_digest 49 = .ok (.ldc2_w 139, 3) := by decide +kernel
theorem dX4_digest_52 : decode cX4_digest 52 = .ok (.lstore_n 2, 1) := by decide +kernel
theorem dX4_digest_53 : decode cX4_digest 53 = .ok (.aload_n 1, 1) := by decide +kernel
theorem dX4_digest_54 : decode cX4_digest 54 = .ok (.astore 4, 2) := by decide +kernel
theorem dX4_digest_56 : decode cX4_digest 56 = .ok (.aload 4, 2) := by decide +kernel
theorem dX4_digest_58 : decode cX4_digest 58 = .ok (.arraylength, 1) := by decide +kernel
theorem dX4_digest_59 : decode cX4_digest 59 = .ok (.istore 5, 2) := by decide +kernel
theorem dX4_digest_61 : decode cX4_digest 61 = .ok (.iconst 0, 1) := by decide +kernel
theorem dX4_digest_62 : decode cX4_digest 62 = .ok (.istore 6, 2) := by decide +kernel
theorem dX4_digest_64 : decode cX4_digest 64 = .ok (.iload 6, 2) := by decide +kernel
theorem dX4_digest_66 : decode cX4_digest 66 = .ok (.iload 5, 2) := by decide +kernel
theorem dX4_digest_68 : decode cX4_digest 68 = .ok (.if_icmp .ge 26, 3) := by decide +kernel
theorem dX4_digest_71 : decode cX4_digest 71 = .ok (.aload 4, 2) := by decide +kernel
theorem dX4_digest_73 : decode cX4_digest 73 = .ok (.iload 6, 2) := by decide +kernel
theorem dX4_digest_75 : decode cX4_digest 75 = .ok (.iaload, 1) := by decide +kernel
theorem dX4_digest_76 : decode cX4_digest 76 = .ok (.istore 7, 2) := by decide +kernel
theorem dX4_digest_78 : decode cX4_digest 78 = .ok (.lload_n 2, 1) := by decide +kernel
theorem dX4_digest_79 : decode cX4_digest 79 = .ok (.ldc2_w 141, 3) := by decide +kernel
theorem dX4_digest_82 : decode cX4_digest 82 = .ok (.lmul, 1) := by decide +kernel
theorem dX4_digest_83 : decode cX4_digest 83 = .ok (.iload 7, 2) := by decide +kernel
theorem dX4_digest_85 : decode cX4_digest 85 = .ok (.i2l, 1) := by decide +kernel
theorem dX4_digest_86 : decode cX4_digest 86 = .ok (.ladd, 1) := by decide +kernel
theorem dX4_digest_87 : decode cX4_digest 87 = .ok (.lstore_n 2, 1) := by decide +kernel
theorem dX4_digest_88 : decode cX4_digest 88 = .ok (.iinc 6 1, 3) := by decide +kernel
theorem dX4_digest_91 : decode cX4_digest 91 = .ok (.goto (-27), 3) := by decide +kernel
theorem dX4_digest_94 : decode cX4_digest 94 = .ok (.iconst 0, 1) := by decide +kernel
theorem dX4_digest_95 : decode cX4_digest 95 = .ok (.istore 4, 2) := by decide +kernel
theorem dX4_digest_97 : decode cX4_digest 97 = .ok (.iload 4, 2) := by decide +kernel
theorem dX4_digest_99 : decode cX4_digest 99 = .ok (.aload_n 0, 1) := by decide +kernel
theorem dX4_digest_100 : decode cX4_digest 100 = .ok (.getfield 44, 3) := by decide +kernel
theorem dX4_digest_103 : decode cX4_digest 103 = .ok (.if_icmp .ge 73, 3) := by decide +kernel
theorem dX4_digest_106 : decode cX4_digest 106 = .ok (.lload_n 2, 1) := by decide +kernel
theorem dX4_digest_107 : decode cX4_digest 107 = .ok (.ldc2_w 141, 3) := by decide +kernel
theorem dX4_digest_110 : decode cX4_digest 110 = .ok (.lmul, 1) := by decide +kernel
theorem dX4_digest_111 : decode cX4_digest 111 = .ok (.aload_n 0, 1) := by decide +kernel
theorem dX4_digest_112 : decode cX4_digest 112 = .ok (.getfield 9, 3) := by decide +kernel
theorem dX4_digest_115 : decode cX4_digest 115 = .ok (.iload 4, 2) := by decide +kernel
theorem dX4_digest_117 : decode cX4_digest 117 = .ok (.iaload, 1) := by decide +kernel
theorem dX4_digest_118 : decode cX4_digest 118 = .ok (.i2l, 1) := by decide +kernel
theorem dX4_digest_119 : decode cX4_digest 119 = .ok (.ladd, 1) := by decide +kernel
theorem dX4_digest_120 : decode cX4_digest 120 = .ok (.lstore_n 2, 1) := by decide +kernel
theorem dX4_digest_121 : decode cX4_digest 121 = .ok (.lload_n 2, 1) := by decide +kernel
theorem dX4_digest_122 : decode cX4_digest 122 = .ok (.ldc2_w 141, 3) := by decide +kernel
theorem dX4_digest_125 : decode cX4_digest 125 = .ok (.lmul, 1) := by decide +kernel
theorem dX4_digest_126 : decode cX4_digest 126 = .ok (.aload_n 0, 1) := by decide +kernel
theorem dX4_digest_127 : decode cX4_digest 127 = .ok (.iload 4, 2) := by decide +kernel
theorem dX4_digest_129 : decode cX4_digest 129 = .ok (.invokevirtual 57, 3) := by decide +kernel
theorem dX4_digest_132 : decode cX4_digest 132 = .ok (.invokestatic 78, 3) := by decide +kernel
theorem dX4_digest_135 : decode cX4_digest 135 = .ok (.i2l, 1) := by decide +kernel
theorem dX4_digest_136 : decode cX4_digest 136 = .ok (.ladd, 1) := by decide +kernel
theorem dX4_digest_137 : decode cX4_digest 137 = .ok (.lstore_n 2, 1) := by decide +kernel
theorem dX4_digest_138 : decode cX4_digest 138 = .ok (.lload_n 2, 1) := by decide +kernel
theorem dX4_digest_139 : decode cX4_digest 139 = .ok (.ldc2_w 141, 3) := by decide +kernel
theorem dX4_digest_142 : decode cX4_digest 142 = .ok (.lmul, 1) := by decide +kernel
theorem dX4_digest_143 : decode cX4_digest 143 = .ok (.aload_n 0, 1) := by decide +kernel
theorem dX4_digest_144 : decode cX4_digest 144 = .ok (.iload 4, 2) := by decide +kernel
theorem dX4_digest_146 : decode cX4_digest 146 = .ok (.invokevirtual 112, 3) := by decide +kernel
theorem dX4_digest_149 : decode cX4_digest 149 = .ok (.i2l, 1) := by decide +kernel
theorem dX4_digest_150 : decode cX4_digest 150 = .ok (.ladd, 1) := by decide +kernel
theorem dX4_digest_151 : decode cX4_digest 151 = .ok (.lstore_n 2, 1) := by decide +kernel
theorem dX4_digest_152 : decode cX4_digest 152 = .ok (.lload_n 2, 1) := by decide +kernel
theorem dX4_digest_153 : decode cX4_digest 153 = .ok (.ldc2_w 141, 3) := by decide +kernel
theorem dX4_digest_156 : decode cX4_digest 156 = .ok (.lmul, 1) := by decide +kernel
theorem dX4_digest_157 : decode cX4_digest 157 = .ok (.aload_n 0, 1) := by decide +kernel
theorem dX4_digest_158 : decode cX4_digest 158 = .ok (.getfield 34, 3) := by decide +kernel
theorem dX4_digest_161 : decode cX4_digest 161 = .ok (.iload 4, 2) := by decide +kernel
theorem dX4_digest_163 : decode cX4_digest 163 = .ok (.iaload, 1) := by decide +kernel
theorem dX4_digest_164 : decode cX4_digest 164 = .ok (.invokestatic 78, 3) := by decide +kernel
theorem dX4_digest_167 : decode cX4_digest 167 = .ok (.i2l, 1) := by decide +kernel
theorem dX4_digest_168 : decode cX4_digest 168 = .ok (.ladd, 1) := by decide +kernel
theorem dX4_digest_169 : decode cX4_digest 169 = .ok (.lstore_n 2, 1) := by decide +kernel
theorem dX4_digest_170 : decode cX4_digest 170 = .ok (.iinc 4 1, 3) := by decide +kernel
theorem dX4_digest_173 : decode cX4_digest 173 = .ok (.goto (-76), 3) := by decide +kernel
theorem dX4_digest_176 : decode cX4_digest 176 = .ok (.iconst 0, 1) := by decide +kernel
theorem dX4_digest_177 : decode cX4_digest 177 = .ok (.istore 4, 2) := by decide +kernel
theorem dX4_digest_179 : decode cX4_digest 179 = .ok (.iload 4, 2) := by decide +kernel
theorem dX4_digest_181 : decode cX4_digest 181 = .ok (.aload_n 0, 1) := by decide +kernel
theorem dX4_digest_182 : decode cX4_digest 182 = .ok (.getfield 51, 3) := by decide +kernel
theorem dX4_digest_185 : decode cX4_digest 185 = .ok (.if_icmp .ge 95, 3) := by decide +kernel
theorem dX4_digest_188 : decode cX4_digest 188 = .ok (.lload_n 2, 1) := by decide +kernel
theorem dX4_digest_189 : decode cX4_digest 189 = .ok (.ldc2_w 141, 3) := by decide +kernel
theorem dX4_digest_192 : decode cX4_digest 192 = .ok (.lmul, 1) := by decide +kernel
theorem dX4_digest_193 : decode cX4_digest 193 = .ok (.aload_n 0, 1) := by decide +kernel
theorem dX4_digest_194 : decode cX4_digest 194 = .ok (.getfield 31, 3) := by decide +kernel
theorem dX4_digest_197 : decode cX4_digest 197 = .ok (.iload 4, 2) := by decide +kernel
theorem dX4_digest_199 : decode cX4_digest 199 = .ok (.iaload, 1) := by decide +kernel
theorem dX4_digest_200 : decode cX4_digest 200 = .ok (.invokestatic 78, 3) := by decide +kernel
theorem dX4_digest_203 : decode cX4_digest 203 = .ok (.i2l, 1) := by decide +kernel
theorem dX4_digest_204 : decode cX4_digest 204 = .ok (.ladd, 1) := by decide +kernel
theorem dX4_digest_205 : decode cX4_digest 205 = .ok (.lstore_n 2, 1) := by decide +kernel
theorem dX4_digest_206 : decode cX4_digest 206 = .ok (.lload_n 2, 1) := by decide +kernel
theorem dX4_digest_207 : decode cX4_digest 207 = .ok (.ldc2_w 141, 3) := by decide +kernel
theorem dX4_digest_210 : decode cX4_digest 210 = .ok (.lmul, 1) := by decide +kernel
theorem dX4_digest_211 : decode cX4_digest 211 = .ok (.aload_n 0, 1) := by decide +kernel
theorem dX4_digest_212 : decode cX4_digest 212 = .ok (.getfield 16, 3) := by decide +kernel
theorem dX4_digest_215 : decode cX4_digest 215 = .ok (.iload 4, 2) := by decide +kernel
theorem dX4_digest_217 : decode cX4_digest 217 = .ok (.iaload, 1) := by decide +kernel
theorem dX4_digest_218 : decode cX4_digest 218 = .ok (.i2l, 1) := by decide +kernel
theorem dX4_digest_219 : decode cX4_digest 219 = .ok (.ladd, 1) := by decide +kernel
theorem dX4_digest_220 : decode cX4_digest 220 = .ok (.lstore_n 2, 1) := by decide +kernel
theorem dX4_digest_221 : decode cX4_digest 221 = .ok (.lload_n 2, 1) := by decide +kernel
theorem dX4_digest_222 : decode cX4_digest 222 = .ok (.ldc2_w 141, 3) := by decide +kernel
theorem dX4_digest_225 : decode cX4_digest 225 = .ok (.lmul, 1) := by decide +kernel
theorem dX4_digest_226 : decode cX4_digest 226 = .ok (.aload_n 0, 1) := by decide +kernel
theorem dX4_digest_227 : decode cX4_digest 227 = .ok (.getfield 19, 3) := by decide +kernel
theorem dX4_digest_230 : decode cX4_digest 230 = .ok (.iload 4, 2) := by decide +kernel
theorem dX4_digest_232 : decode cX4_digest 232 = .ok (.iaload, 1) := by decide +kernel
theorem dX4_digest_233 : decode cX4_digest 233 = .ok (.i2l, 1) := by decide +kernel
theorem dX4_digest_234 : decode cX4_digest 234 = .ok (.ladd, 1) := by decide +kernel
theorem dX4_digest_235 : decode cX4_digest 235 = .ok (.lstore_n 2, 1) := by decide +kernel
theorem dX4_digest_236 : decode cX4_digest 236 = .ok (.iconst 0, 1) := by decide +kernel
theorem dX4_digest_237 : decode cX4_digest 237 = .ok (.istore 5, 2) := by decide +kernel
theorem dX4_digest_239 : decode cX4_digest 239 = .ok (.iload 5, 2) := by decide +kernel
theorem dX4_digest_241 : decode cX4_digest 241 = .ok (.aload_n 0, 1) := by decide +kernel
theorem dX4_digest_242 : decode cX4_digest 242 = .ok (.getfield 44, 3) := by decide +kernel
theorem dX4_digest_245 : decode cX4_digest 245 = .ok (.if_icmp .ge 29, 3) := by decide +kernel
theorem dX4_digest_248 : decode cX4_digest 248 = .ok (.lload_n 2, 1) := by decide +kernel
theorem dX4_digest_249 : decode cX4_digest 249 = .ok (.ldc2_w 141, 3) := by decide +kernel
theorem dX4_digest_252 : decode cX4_digest 252 = .ok (.lmul, 1) := by decide +kernel
theorem dX4_digest_253 : decode cX4_digest 253 = .ok (.aload_n 0, 1) := by decide +kernel
theorem dX4_digest_254 : decode cX4_digest 254 = .ok (.getfield 13, 3) := by decide +kernel
theorem dX4_digest_257 : decode cX4_digest 257 = .ok (.iload 4, 2) := by decide +kernel
theorem dX4_digest_259 : decode cX4_digest 259 = .ok (.iaload, 1) := by decide +kernel
theorem dX4_digest_260 : decode cX4_digest 260 = .ok (.iload 5, 2) := by decide +kernel
theorem dX4_digest_262 : decode cX4_digest 262 = .ok (.ishr, 1) := by decide +kernel
theorem dX4_digest_263 : decode cX4_digest 263 = .ok (.iconst 1, 1) := by decide +kernel
theorem dX4_digest_264 : decode cX4_digest 264 = .ok (.iand, 1) := by decide +kernel
theorem dX4_digest_265 : decode cX4_digest 265 = .ok (.i2l, 1) := by decide +kernel
theorem dX4_digest_266 : decode cX4_digest 266 = .ok (.ladd, 1) := by decide +kernel
theorem dX4_digest_267 : decode cX4_digest 267 = .ok (.lstore_n 2, 1) := by decide +kernel
theorem dX4_digest_268 : decode cX4_digest 268 = .ok (.iinc 5 1, 3) := by decide +kernel
theorem dX4_digest_271 : decode cX4_digest 271 = .ok (.goto (-32), 3) := by decide +kernel
theorem dX4_digest_274 : decode cX4_digest 274 = .ok (.iinc 4 1, 3) := by decide +kernel
theorem dX4_digest_277 : decode cX4_digest 277 = .ok (.goto (-98), 3) := by decide +kernel
theorem dX4_digest_280 : decode cX4_digest 280 = .ok (.iconst 0, 1) := by decide +kernel
theorem dX4_digest_281 : decode cX4_digest 281 = .ok (.istore 4, 2) := by decide +kernel
theorem dX4_digest_283 : decode cX4_digest 283 = .ok (.iload 4, 2) := by decide +kernel
theorem dX4_digest_285 : decode cX4_digest 285 = .ok (.aload_n 0, 1) := by decide +kernel
theorem dX4_digest_286 : decode cX4_digest 286 = .ok (.getfield 54, 3) := by decide +kernel
theorem dX4_digest_289 : decode cX4_digest 289 = .ok (.if_icmp .ge 151, 3) := by decide +kernel
theorem dX4_digest_292 : decode cX4_digest 292 = .ok (.aload_n 0, 1) := by decide +kernel
theorem dX4_digest_293 : decode cX4_digest 293 = .ok (.getfield 37, 3) := by decide +kernel
theorem dX4_digest_296 : decode cX4_digest 296 = .ok (.iload 4, 2) := by decide +kernel
theorem dX4_digest_298 : decode cX4_digest 298 = .ok (.iaload, 1) := by decide +kernel
theorem dX4_digest_299 : decode cX4_digest 299 = .ok (.istore 5, 2) := by decide +kernel
theorem dX4_digest_301 : decode cX4_digest 301 = .ok (.aload_n 0, 1) := by decide +kernel
theorem dX4_digest_302 : decode cX4_digest 302 = .ok (.iload 5, 2) := by decide +kernel
theorem dX4_digest_304 : decode cX4_digest 304 = .ok (.invokevirtual 133, 3) := by decide +kernel
theorem dX4_digest_307 : decode cX4_digest 307 = .ok (.istore 6, 2) := by decide +kernel
theorem dX4_digest_309 : decode cX4_digest 309 = .ok (.lload_n 2, 1) := by decide +kernel
theorem dX4_digest_310 : decode cX4_digest 310 = .ok (.ldc2_w 141, 3) := by decide +kernel
theorem dX4_digest_313 : decode cX4_digest 313 = .ok (.lmul, 1) := by decide +kernel
theorem dX4_digest_314 : decode cX4_digest 314 = .ok (.iload 5, 2) := by decide +kernel
theorem dX4_digest_316 : decode cX4_digest 316 = .ok (.invokestatic 78, 3) := by decide +kernel
theorem dX4_digest_319 : decode cX4_digest 319 = .ok (.i2l, 1) := by decide +kernel
theorem dX4_digest_320 : decode cX4_digest 320 = .ok (.ladd, 1) := by decide +kernel
theorem dX4_digest_321 : decode cX4_digest 321 = .ok (.lstore_n 2, 1) := by decide +kernel
theorem dX4_digest_322 : decode cX4_digest 322 = .ok (.lload_n 2, 1) := by decide +kernel
theorem dX4_digest_323 : decode cX4_digest 323 = .ok (.ldc2_w 141, 3) := by decide +kernel
theorem dX4_digest_326 : decode cX4_digest 326 = .ok (.lmul, 1) := by decide +kernel
theorem dX4_digest_327 : decode cX4_digest 327 = .ok (.aload_n 0, 1) := by decide +kernel
theorem dX4_digest_328 : decode cX4_digest 328 = .ok (.iload 5, 2) := by decide +kernel
theorem dX4_digest_330 : decode cX4_digest 330 = .ok (.invokevirtual 118, 3) := by decide +kernel
theorem dX4_digest_333 : decode cX4_digest 333 = .ok (.i2l, 1) := by decide +kernel
theorem dX4_digest_334 : decode cX4_digest 334 = .ok (.ladd, 1) := by decide +kernel
theorem dX4_digest_335 : decode cX4_digest 335 = .ok (.lstore_n 2, 1) := by decide +kernel
theorem dX4_digest_336 : decode cX4_digest 336 = .ok (.lload_n 2, 1) := by decide +kernel
theorem dX4_digest_337 : decode cX4_digest 337 = .ok (.ldc2_w 141, 3) := by decide +kernel
theorem dX4_digest_340 : decode cX4_digest 340 = .ok (.lmul, 1) := by decide +kernel
theorem dX4_digest_341 : decode cX4_digest 341 = .ok (.aload_n 0, 1) := by decide +kernel
theorem dX4_digest_342 : decode cX4_digest 342 = .ok (.iload 5, 2) := by decide +kernel
theorem dX4_digest_344 : decode cX4_digest 344 = .ok (.invokevirtual 121, 3) := by decide +kernel
theorem dX4_digest_347 : decode cX4_digest 347 = .ok (.i2l, 1) := by decide +kernel
theorem dX4_digest_348 : decode cX4_digest 348 = .ok (.ladd, 1) := by decide +kernel
theorem dX4_digest_349 : decode cX4_digest 349 = .ok (.lstore_n 2, 1) := by decide +kernel
theorem dX4_digest_350 : decode cX4_digest 350 = .ok (.lload_n 2, 1) := by decide +kernel
theorem dX4_digest_351 : decode cX4_digest 351 = .ok (.ldc2_w 141, 3) := by decide +kernel
theorem dX4_digest_354 : decode cX4_digest 354 = .ok (.lmul, 1) := by decide +kernel
theorem dX4_digest_355 : decode cX4_digest 355 = .ok (.iload 6, 2) := by decide +kernel
theorem dX4_digest_357 : decode cX4_digest 357 = .ok (.invokestatic 78, 3) := by decide +kernel
theorem dX4_digest_360 : decode cX4_digest 360 = .ok (.i2l, 1) := by decide +kernel
theorem dX4_digest_361 : decode cX4_digest 361 = .ok (.ladd, 1) := by decide +kernel
theorem dX4_digest_362 : decode cX4_digest 362 = .ok (.lstore_n 2, 1) := by decide +kernel
theorem dX4_digest_363 : decode cX4_digest 363 = .ok (.iconst 0, 1) := by decide +kernel
theorem dX4_digest_364 : decode cX4_digest 364 = .ok (.istore 7, 2) := by decide +kernel
theorem dX4_digest_366 : decode cX4_digest 366 = .ok (.iload 7, 2) := by decide +kernel
theorem dX4_digest_368 : decode cX4_digest 368 = .ok (.aload_n 0, 1) := by decide +kernel
theorem dX4_digest_369 : decode cX4_digest 369 = .ok (.getfield 44, 3) := by decide +kernel
theorem dX4_digest_372 : decode cX4_digest 372 = .ok (.if_icmp .ge 29, 3) := by decide +kernel
theorem dX4_digest_375 : decode cX4_digest 375 = .ok (.iload 6, 2) := by decide +kernel
theorem dX4_digest_377 : decode cX4_digest 377 = .ok (.iload 7, 2) := by decide +kernel
theorem dX4_digest_379 : decode cX4_digest 379 = .ok (.invokestatic 61, 3) := by decide +kernel
theorem dX4_digest_382 : decode cX4_digest 382 = .ok (.ifCond .eq 13, 3) := by decide +kernel
theorem dX4_digest_385 : decode cX4_digest 385 = .ok (.lload_n 2, 1) := by decide +kernel
theorem dX4_digest_386 : decode cX4_digest 386 = .ok (.ldc2_w 141, 3) := by decide +kernel
theorem dX4_digest_389 : decode cX4_digest 389 = .ok (.lmul, 1) := by decide +kernel
theorem dX4_digest_390 : decode cX4_digest 390 = .ok (.iload 7, 2) := by decide +kernel
theorem dX4_digest_392 : decode cX4_digest 392 = .ok (.i2l, 1) := by decide +kernel
theorem dX4_digest_393 : decode cX4_digest 393 = .ok (.ladd, 1) := by decide +kernel
theorem dX4_digest_394 : decode cX4_digest 394 = .ok (.lstore_n 2, 1) := by decide +kernel
theorem dX4_digest_395 : decode cX4_digest 395 = .ok (.iinc 7 1, 3) := by decide +kernel
theorem dX4_digest_398 : decode cX4_digest 398 = .ok (.goto (-32), 3) := by decide +kernel
theorem dX4_digest_401 : decode cX4_digest 401 = .ok (.iconst 0, 1) := by decide +kernel
theorem dX4_digest_402 : decode cX4_digest 402 = .ok (.istore 7, 2) := by decide +kernel
theorem dX4_digest_404 : decode cX4_digest 404 = .ok (.iload 7, 2) := by decide +kernel
theorem dX4_digest_406 : decode cX4_digest 406 = .ok (.aload_n 0, 1) := by decide +kernel
theorem dX4_digest_407 : decode cX4_digest 407 = .ok (.getfield 51, 3) := by decide +kernel
theorem dX4_digest_410 : decode cX4_digest 410 = .ok (.if_icmp .ge 24, 3) := by decide +kernel
theorem dX4_digest_413 : decode cX4_digest 413 = .ok (.lload_n 2, 1) := by decide +kernel
theorem dX4_digest_414 : decode cX4_digest 414 = .ok (.ldc2_w 141, 3) := by decide +kernel
theorem dX4_digest_417 : decode cX4_digest 417 = .ok (.lmul, 1) := by decide +kernel
theorem dX4_digest_418 : decode cX4_digest 418 = .ok (.iload 5, 2) := by decide +kernel
theorem dX4_digest_420 : decode cX4_digest 420 = .ok (.iload 7, 2) := by decide +kernel
theorem dX4_digest_422 : decode cX4_digest 422 = .ok (.ishr, 1) := by decide +kernel
theorem dX4_digest_423 : decode cX4_digest 423 = .ok (.iconst 1, 1) := by decide +kernel
theorem dX4_digest_424 : decode cX4_digest 424 = .ok (.iand, 1) := by decide +kernel
theorem dX4_digest_425 : decode cX4_digest 425 = .ok (.i2l, 1) := by decide +kernel
theorem dX4_digest_426 : decode cX4_digest 426 = .ok (.ladd, 1) := by decide +kernel
theorem dX4_digest_427 : decode cX4_digest 427 = .ok (.lstore_n 2, 1) := by decide +kernel
theorem dX4_digest_428 : decode cX4_digest 428 = .ok (.iinc 7 1, 3) := by decide +kernel
theorem dX4_digest_431 : decode cX4_digest 431 = .ok (.goto (-27), 3) := by decide +kernel
theorem dX4_digest_434 : decode cX4_digest 434 = .ok (.iinc 4 1, 3) := by decide +kernel
theorem dX4_digest_437 : decode cX4_digest 437 = .ok (.goto (-154), 3) := by decide +kernel
theorem dX4_digest_440 : decode cX4_digest 440 = .ok (.lload_n 2, 1) := by decide +kernel
theorem dX4_digest_441 : decode cX4_digest 441 = .ok (.lreturn, 1) := by decide +kernel
theorem dJ6_bitCount_0f7a4_0 : decode cJ6_bitCount_0f7a4 0 = .ok (.iload_n 0, 1) := by decide +kernel
theorem dJ6_bitCount_0f7a4_1 : decode cJ6_bitCount_0f7a4 1 = .ok (.iload_n 0, 1) := by decide +kernel
theorem dJ6_bitCount_0f7a4_2 : decode cJ6_bitCount_0f7a4 2 = .ok (.iconst 1, 1) := by decide +kernel
theorem dJ6_bitCount_0f7a4_3 : decode cJ6_bitCount_0f7a4 3 = .ok (.iushr, 1) := by decide +kernel
theorem dJ6_bitCount_0f7a4_4 : decode cJ6_bitCount_0f7a4 4 = .ok (.ldc_w 265, 3) := by decide +kernel
theorem dJ6_bitCount_0f7a4_7 : decode cJ6_bitCount_0f7a4 7 = .ok (.iand, 1) := by decide +kernel
theorem dJ6_bitCount_0f7a4_8 : decode cJ6_bitCount_0f7a4 8 = .ok (.isub, 1) := by decide +kernel
theorem dJ6_bitCount_0f7a4_9 : decode cJ6_bitCount_0f7a4 9 = .ok (.istore_n 0, 1) := by decide +kernel
theorem dJ6_bitCount_0f7a4_10 : decode cJ6_bitCount_0f7a4 10 = .ok (.iload_n 0, 1) := by decide +kernel
theorem dJ6_bitCount_0f7a4_11 : decode cJ6_bitCount_0f7a4 11 = .ok (.ldc_w 266, 3) := by decide +kernel
theorem dJ6_bitCount_0f7a4_14 : decode cJ6_bitCount_0f7a4 14 = .ok (.iand, 1) := by decide +kernel
theorem dJ6_bitCount_0f7a4_15 : decode cJ6_bitCount_0f7a4 15 = .ok (.iload_n 0, 1) := by decide +kernel
theorem dJ6_bitCount_0f7a4_16 : decode cJ6_bitCount_0f7a4 16 = .ok (.iconst 2, 1) := by decide +kernel
theorem dJ6_bitCount_0f7a4_17 : decode cJ6_bitCount_0f7a4 17 = .ok (.iushr, 1) := by decide +kernel
theorem dJ6_bitCount_0f7a4_18 : decode cJ6_bitCount_0f7a4 18 = .ok (.ldc_w 266, 3) := by decide +kernel
theorem dJ6_bitCount_0f7a4_21 : decode cJ6_bitCount_0f7a4 21 = .ok (.iand, 1) := by decide +kernel
theorem dJ6_bitCount_0f7a4_22 : decode cJ6_bitCount_0f7a4 22 = .ok (.iadd, 1) := by decide +kernel
theorem dJ6_bitCount_0f7a4_23 : decode cJ6_bitCount_0f7a4 23 = .ok (.istore_n 0, 1) := by decide +kernel
theorem dJ6_bitCount_0f7a4_24 : decode cJ6_bitCount_0f7a4 24 = .ok (.iload_n 0, 1) := by decide +kernel
theorem dJ6_bitCount_0f7a4_25 : decode cJ6_bitCount_0f7a4 25 = .ok (.iload_n 0, 1) := by decide +kernel
theorem dJ6_bitCount_0f7a4_26 : decode cJ6_bitCount_0f7a4 26 = .ok (.iconst 4, 1) := by decide +kernel
theorem dJ6_bitCount_0f7a4_27 : decode cJ6_bitCount_0f7a4 27 = .ok (.iushr, 1) := by decide +kernel
theorem dJ6_bitCount_0f7a4_28 : decode cJ6_bitCount_0f7a4 28 = .ok (.iadd, 1) := by decide +kernel
theorem dJ6_bitCount_0f7a4_29 : decode cJ6_bitCount_0f7a4 29 = .ok (.ldc_w 267, 3) := by decide +kernel
theorem dJ6_bitCount_0f7a4_32 : decode cJ6_bitCount_0f7a4 32 = .ok (.iand, 1) := by decide +kernel
theorem dJ6_bitCount_0f7a4_33 : decode cJ6_bitCount_0f7a4 33 = .ok (.istore_n 0, 1) := by decide +kernel
theorem dJ6_bitCount_0f7a4_34 : decode cJ6_bitCount_0f7a4 34 = .ok (.iload_n 0, 1) := by decide +kernel
theorem dJ6_bitCount_0f7a4_35 : decode cJ6_bitCount_0f7a4 35 = .ok (.iload_n 0, 1) := by decide +kernel
theorem dJ6_bitCount_0f7a4_36 : decode cJ6_bitCount_0f7a4 36 = .ok (.bipush 8, 2) := by decide +kernel
theorem dJ6_bitCount_0f7a4_38 : decode cJ6_bitCount_0f7a4 38 = .ok (.iushr, 1) := by decide +kernel
theorem dJ6_bitCount_0f7a4_39 : decode cJ6_bitCount_0f7a4 39 = .ok (.iadd, 1) := by decide +kernel
theorem dJ6_bitCount_0f7a4_40 : decode cJ6_bitCount_0f7a4 40 = .ok (.istore_n 0, 1) := by decide +kernel
theorem dJ6_bitCount_0f7a4_41 : decode cJ6_bitCount_0f7a4 41 = .ok (.iload_n 0, 1) := by decide +kernel
theorem dJ6_bitCount_0f7a4_42 : decode cJ6_bitCount_0f7a4 42 = .ok (.iload_n 0, 1) := by decide +kernel
theorem dJ6_bitCount_0f7a4_43 : decode cJ6_bitCount_0f7a4 43 = .ok (.bipush 16, 2) := by decide +kernel
theorem dJ6_bitCount_0f7a4_45 : decode cJ6_bitCount_0f7a4 45 = .ok (.iushr, 1) := by decide +kernel
theorem dJ6_bitCount_0f7a4_46 : decode cJ6_bitCount_0f7a4 46 = .ok (.iadd, 1) := by decide +kernel
theorem dJ6_bitCount_0f7a4_47 : decode cJ6_bitCount_0f7a4 47 = .ok (.istore_n 0, 1) := by decide +kernel
theorem dJ6_bitCount_0f7a4_48 : decode cJ6_bitCount_0f7a4 48 = .ok (.iload_n 0, 1) := by decide +kernel
theorem dJ6_bitCount_0f7a4_49 : decode cJ6_bitCount_0f7a4 49 = .ok (.bipush 63, 2) := by decide +kernel
theorem dJ6_bitCount_0f7a4_51 : decode cJ6_bitCount_0f7a4 51 = .ok (.iand, 1) := by decide +kernel
theorem dJ6_bitCount_0f7a4_52 : decode cJ6_bitCount_0f7a4 52 = .ok (.ireturn, 1) := by decide +kernel
theorem dJ9_max_7cf53_0 : decode cJ9_max_7cf53 0 = .ok (.iload_n 0, 1) := by decide +kernel
theorem dJ9_max_7cf53_1 : decode cJ9_max_7cf53 1 = .ok (.iload_n 1, 1) := by decide +kernel
theorem dJ9_max_7cf53_2 : decode cJ9_max_7cf53 2 = .ok (.if_icmp .lt 7, 3) := by decide +kernel
theorem dJ9_max_7cf53_5 : decode cJ9_max_7cf53 5 = .ok (.iload_n 0, 1) := by decide +kernel
theorem dJ9_max_7cf53_6 : decode cJ9_max_7cf53 6 = .ok (.goto 4, 3) := by decide +kernel
theorem dJ9_max_7cf53_9 : decode cJ9_max_7cf53 9 = .ok (.iload_n 1, 1) := by decide +kernel
theorem dJ9_max_7cf53_10 : decode cJ9_max_7cf53 10 = .ok (.ireturn, 1) := by decide +kernel
theorem dL_addTag_0 : decode cL_addTag 0 = .ok (.aload_n 1, 1) := by decide +kernel
theorem dL_addTag_1 : decode cL_addTag 1 = .ok (.iconst 0, 1) := by decide +kernel
theorem dL_addTag_2 : decode cL_addTag 2 = .ok (.aload_n 0, 1) := by decide +kernel
theorem dL_addTag_3 : decode cL_addTag 3 = .ok (.invokevirtual 7, 3) := by decide +kernel
theorem dL_addTag_6 : decode cL_addTag 6 = .ok (.i2l, 1) := by decide +kernel
theorem dL_addTag_7 : decode cL_addTag 7 = .ok (.lastore, 1) := by decide +kernel
theorem dL_addTag_8 : decode cL_addTag 8 = .ok (.goto 6, 3) := by decide +kernel
theorem dL_addTag_11 : decode cL_addTag 11 = .ok (.astore_n 2, 1) := by decide +kernel
theorem dL_addTag_12 : decode cL_addTag 12 = .ok (.iconst 1, 1) := by decide +kernel
theorem dL_addTag_13 : decode cL_addTag 13 = .ok (.ireturn, 1) := by decide +kernel
theorem dL_addTag_14 : decode cL_addTag 14 = .ok (.iconst 0, 1) := by decide +kernel
theorem dL_addTag_15 : decode cL_addTag 15 = .ok (.ireturn, 1) := by decide +kernel
theorem dL_putUnder_0 : decode cL_putUnder 0 = .ok (.aload_n 3, 1) := by decide +kernel
theorem dL_putUnder_1 : decode cL_putUnder 1 = .ok (.iconst 0, 1) := by decide +kernel
theorem dL_putUnder_2 : decode cL_putUnder 2 = .ok (.aload_n 0, 1) := by decide +kernel
theorem dL_putUnder_3 : decode cL_putUnder 3 = .ok (.iload_n 1, 1) := by decide +kernel
theorem dL_putUnder_4 : decode cL_putUnder 4 = .ok (.iload_n 2, 1) := by decide +kernel
theorem dL_putUnder_5 : decode cL_putUnder 5 = .ok (.invokevirtual 15, 3) := by decide +kernel
theorem dL_putUnder_8 : decode cL_putUnder 8 = .ok (.i2l, 1) := by decide +kernel
theorem dL_putUnder_9 : decode cL_putUnder 9 = .ok (.lastore, 1) := by decide +kernel
theorem dL_putUnder_10 : decode cL_putUnder 10 = .ok (.goto 15, 3) := by decide +kernel
theorem dL_putUnder_13 : decode cL_putUnder 13 = .ok (.astore 4, 2) := by decide +kernel
theorem dL_putUnder_15 : decode cL_putUnder 15 = .ok (.iconst 1, 1) := by decide +kernel
theorem dL_putUnder_16 : decode cL_putUnder 16 = .ok (.ireturn, 1) := by decide +kernel
theorem dL_putUnder_17 : decode cL_putUnder 17 = .ok (.astore 4, 2) := by decide +kernel
theorem dL_putUnder_19 : decode cL_putUnder 19 = .ok (.iconst 2, 1) := by decide +kernel
theorem dL_putUnder_20 : decode cL_putUnder 20 = .ok (.ireturn, 1) := by decide +kernel
theorem dL_putUnder_21 : decode cL_putUnder 21 = .ok (.astore 4, 2) := by decide +kernel
theorem dL_putUnder_23 : decode cL_putUnder 23 = .ok (.iconst 3, 1) := by decide +kernel
theorem dL_putUnder_24 : decode cL_putUnder 24 = .ok (.ireturn, 1) := by decide +kernel
theorem dL_putUnder_25 : decode cL_putUnder 25 = .ok (.iconst 0, 1) := by decide +kernel
theorem dL_putUnder_26 : decode cL_putUnder 26 = .ok (.ireturn, 1) := by decide +kernel
theorem dL_freeTag_0 : decode cL_freeTag 0 = .ok (.aload_n 2, 1) := by decide +kernel
theorem dL_freeTag_1 : decode cL_freeTag 1 = .ok (.iconst 0, 1) := by decide +kernel
theorem dL_freeTag_2 : decode cL_freeTag 2 = .ok (.aload_n 0, 1) := by decide +kernel
theorem dL_freeTag_3 : decode cL_freeTag 3 = .ok (.iload_n 1, 1) := by decide +kernel
theorem dL_freeTag_4 : decode cL_freeTag 4 = .ok (.invokevirtual 23, 3) := by decide +kernel
theorem dL_freeTag_7 : decode cL_freeTag 7 = .ok (.i2l, 1) := by decide +kernel
theorem dL_freeTag_8 : decode cL_freeTag 8 = .ok (.lastore, 1) := by decide +kernel
theorem dL_freeTag_9 : decode cL_freeTag 9 = .ok (.goto 9, 3) := by decide +kernel
theorem dL_freeTag_12 : decode cL_freeTag 12 = .ok (.astore_n 3, 1) := by decide +kernel
theorem dL_freeTag_13 : decode cL_freeTag 13 = .ok (.iconst 1, 1) := by decide +kernel
theorem dL_freeTag_14 : decode cL_freeTag 14 = .ok (.ireturn, 1) := by decide +kernel
theorem dL_freeTag_15 : decode cL_freeTag 15 = .ok (.astore_n 3, 1) := by decide +kernel
theorem dL_freeTag_16 : decode cL_freeTag 16 = .ok (.iconst 2, 1) := by decide +kernel
theorem dL_freeTag_17 : decode cL_freeTag 17 = .ok (.ireturn, 1) := by decide +kernel
theorem dL_freeTag_18 : decode cL_freeTag 18 = .ok (.iconst 0, 1) := by decide +kernel
theorem dL_freeTag_19 : decode cL_freeTag 19 = .ok (.ireturn, 1) := by decide +kernel
theorem dL_addDream_0 : decode cL_addDream 0 = .ok (.aload_n 3, 1) := by decide +kernel
theorem dL_addDream_1 : decode cL_addDream 1 = .ok (.iconst 0, 1) := by decide +kernel
theorem dL_addDream_2 : decode cL_addDream 2 = .ok (.aload_n 0, 1) := by decide +kernel
theorem dL_addDream_3 : decode cL_addDream 3 = .ok (.iload_n 1, 1) := by decide +kernel
theorem dL_addDream_4 : decode cL_addDream 4 = .ok (.iload_n 2, 1) := by decide +kernel
theorem dL_addDream_5 : decode cL_addDream 5 = .ok (.invokevirtual 27, 3) := by decide +kernel
theorem dL_addDream_8 : decode cL_addDream 8 = .ok (.i2l, 1) := by decide +kernel
theorem dL_addDream_9 : decode cL_addDream 9 = .ok (.lastore, 1) := by decide +kernel
theorem dL_addDream_10 : decode cL_addDream 10 = .ok (.goto 15, 3) := by decide +kernel
theorem dL_addDream_13 : decode cL_addDream 13 = .ok (.astore 4, 2) := by decide +kernel
theorem dL_addDream_15 : decode cL_addDream 15 = .ok (.iconst 1, 1) := by decide +kernel
theorem dL_addDream_16 : decode cL_addDream 16 = .ok (.ireturn, 1) := by decide +kernel
theorem dL_addDream_17 : decode cL_addDream 17 = .ok (.astore 4, 2) := by decide +kernel
theorem dL_addDream_19 : decode cL_addDream 19 = .ok (.iconst 2, 1) := by decide +kernel
theorem dL_addDream_20 : decode cL_addDream 20 = .ok (.ireturn, 1) := by decide +kernel
theorem dL_addDream_21 : decode cL_addDream 21 = .ok (.astore 4, 2) := by decide +kernel
theorem dL_addDream_23 : decode cL_addDream 23 = .ok (.iconst 3, 1) := by decide +kernel
theorem dL_addDream_24 : decode cL_addDream 24 = .ok (.ireturn, 1) := by decide +kernel
theorem dL_addDream_25 : decode cL_addDream 25 = .ok (.iconst 0, 1) := by decide +kernel
theorem dL_addDream_26 : decode cL_addDream 26 = .ok (.ireturn, 1) := by decide +kernel
theorem dL_tagDream_0 : decode cL_tagDream 0 = .ok (.aload_n 3, 1) := by decide +kernel
theorem dL_tagDream_1 : decode cL_tagDream 1 = .ok (.iconst 0, 1) := by decide +kernel
theorem dL_tagDream_2 : decode cL_tagDream 2 = .ok (.aload_n 0, 1) := by decide +kernel
theorem dL_tagDream_3 : decode cL_tagDream 3 = .ok (.iload_n 1, 1) := by decide +kernel
theorem dL_tagDream_4 : decode cL_tagDream 4 = .ok (.iload_n 2, 1) := by decide +kernel
theorem dL_tagDream_5 : decode cL_tagDream 5 = .ok (.invokevirtual 30, 3) := by decide +kernel
theorem dL_tagDream_8 : decode cL_tagDream 8 = .ok (.i2l, 1) := by decide +kernel
theorem dL_tagDream_9 : decode cL_tagDream 9 = .ok (.lastore, 1) := by decide +kernel
theorem dL_tagDream_10 : decode cL_tagDream 10 = .ok (.goto 11, 3) := by decide +kernel
theorem dL_tagDream_13 : decode cL_tagDream 13 = .ok (.astore 4, 2) := by decide +kernel
theorem dL_tagDream_15 : decode cL_tagDream 15 = .ok (.iconst 1, 1) := by decide +kernel
theorem dL_tagDream_16 : decode cL_tagDream 16 = .ok (.ireturn, 1) := by decide +kernel
theorem dL_tagDream_17 : decode cL_tagDream 17 = .ok (.astore 4, 2) := by decide +kernel
theorem dL_tagDream_19 : decode cL_tagDream 19 = .ok (.iconst 2, 1) := by decide +kernel
theorem dL_tagDream_20 : decode cL_tagDream 20 = .ok (.ireturn, 1) := by decide +kernel
theorem dL_tagDream_21 : decode cL_tagDream 21 = .ok (.iconst 0, 1) := by decide +kernel
theorem dL_tagDream_22 : decode cL_tagDream 22 = .ok (.ireturn, 1) := by decide +kernel
theorem dL_untagDream_0 : decode cL_untagDream 0 = .ok (.aload_n 3, 1) := by decide +kernel
theorem dL_untagDream_1 : decode cL_untagDream 1 = .ok (.iconst 0, 1) := by decide +kernel
theorem dL_untagDream_2 : decode cL_untagDream 2 = .ok (.aload_n 0, 1) := by decide +kernel
theorem dL_untagDream_3 : decode cL_untagDream 3 = .ok (.iload_n 1, 1) := by decide +kernel
theorem dL_untagDream_4 : decode cL_untagDream 4 = .ok (.iload_n 2, 1) := by decide +kernel
theorem dL_untagDream_5 : decode cL_untagDream 5 = .ok (.invokevirtual 33, 3) := by decide +kernel
theorem dL_untagDream_8 : decode cL_untagDream 8 = .ok (.i2l, 1) := by decide +kernel
theorem dL_untagDream_9 : decode cL_untagDream 9 = .ok (.lastore, 1) := by decide +kernel
theorem dL_untagDream_10 : decode cL_untagDream 10 = .ok (.goto 11, 3) := by decide +kernel
theorem dL_untagDream_13 : decode cL_untagDream 13 = .ok (.astore 4, 2) := by decide +kernel
theorem dL_untagDream_15 : decode cL_untagDream 15 = .ok (.iconst 1, 1) := by decide +kernel
theorem dL_untagDream_16 : decode cL_untagDream 16 = .ok (.ireturn, 1) := by decide +kernel
theorem dL_untagDream_17 : decode cL_untagDream 17 = .ok (.astore 4, 2) := by decide +kernel
theorem dL_untagDream_19 : decode cL_untagDream 19 = .ok (.iconst 2, 1) := by decide +kernel
theorem dL_untagDream_20 : decode cL_untagDream 20 = .ok (.ireturn, 1) := by decide +kernel
theorem dL_untagDream_21 : decode cL_untagDream 21 = .ok (.iconst 0, 1) := by decide +kernel
theorem dL_untagDream_22 : decode cL_untagDream 22 = .ok (.ireturn, 1) := by decide +kernel
theorem dL_recall_0 : decode cL_recall 0 = .ok (.aload_n 3, 1) := by decide +kernel
theorem dL_recall_1 : decode cL_recall 1 = .ok (.iconst 0, 1) := by decide +kernel
theorem dL_recall_2 : decode cL_recall 2 = .ok (.aload_n 0, 1) := by decide +kernel
theorem dL_recall_3 : decode cL_recall 3 = .ok (.iload_n 1, 1) := by decide +kernel
theorem dL_recall_4 : decode cL_recall 4 = .ok (.iload_n 2, 1) := by decide +kernel
theorem dL_recall_5 : decode cL_recall 5 = .ok (.invokevirtual 36, 3) := by decide +kernel
theorem dL_recall_8 : decode cL_recall 8 = .ok (.i2l, 1) := by decide +kernel
theorem dL_recall_9 : decode cL_recall 9 = .ok (.lastore, 1) := by decide +kernel
theorem dL_recall_10 : decode cL_recall 10 = .ok (.goto 11, 3) := by decide +kernel
theorem dL_recall_13 : decode cL_recall 13 = .ok (.astore 4, 2) := by decide +kernel
theorem dL_recall_15 : decode cL_recall 15 = .ok (.iconst 1, 1) := by decide +kernel
theorem dL_recall_16 : decode cL_recall 16 = .ok (.ireturn, 1) := by decide +kernel
theorem dL_recall_17 : decode cL_recall 17 = .ok (.astore 4, 2) := by decide +kernel
theorem dL_recall_19 : decode cL_recall 19 = .ok (.iconst 2, 1) := by decide +kernel
theorem dL_recall_20 : decode cL_recall 20 = .ok (.ireturn, 1) := by decide +kernel
theorem dL_recall_21 : decode cL_recall 21 = .ok (.iconst 0, 1) := by decide +kernel
theorem dL_recall_22 : decode cL_recall 22 = .ok (.ireturn, 1) := by decide +kernel
theorem dL_passNights_0 : decode cL_passNights 0 = .ok (.aload_n 2, 1) := by decide +kernel
theorem dL_passNights_1 : decode cL_passNights 1 = .ok (.iconst 0, 1) := by decide +kernel
theorem dL_passNights_2 : decode cL_passNights 2 = .ok (.aload_n 0, 1) := by decide +kernel
theorem dL_passNights_3 : decode cL_passNights 3 = .ok (.iload_n 1, 1) := by decide +kernel
theorem dL_passNights_4 : decode cL_passNights 4 = .ok (.invokevirtual 39, 3) := by decide +kernel
theorem dL_passNights_7 : decode cL_passNights 7 = .ok (.i2l, 1) := by decide +kernel
theorem dL_passNights_8 : decode cL_passNights 8 = .ok (.lastore, 1) := by decide +kernel
theorem dL_passNights_9 : decode cL_passNights 9 = .ok (.goto 6, 3) := by decide +kernel
theorem dL_passNights_12 : decode cL_passNights 12 = .ok (.astore_n 3, 1) := by decide +kernel
theorem dL_passNights_13 : decode cL_passNights 13 = .ok (.iconst 1, 1) := by decide +kernel
theorem dL_passNights_14 : decode cL_passNights 14 = .ok (.ireturn, 1) := by decide +kernel
theorem dL_passNights_15 : decode cL_passNights 15 = .ok (.iconst 0, 1) := by decide +kernel
theorem dL_passNights_16 : decode cL_passNights 16 = .ok (.ireturn, 1) := by decide +kernel
theorem dL_addTagTerm_0 : decode cL_addTagTerm 0 = .ok (.aload_n 2, 1) := by decide +kernel
theorem dL_addTagTerm_1 : decode cL_addTagTerm 1 = .ok (.iconst 0, 1) := by decide +kernel
theorem dL_addTagTerm_2 : decode cL_addTagTerm 2 = .ok (.aload_n 0, 1) := by decide +kernel
theorem dL_addTagTerm_3 : decode cL_addTagTerm 3 = .ok (.iload_n 1, 1) := by decide +kernel
theorem dL_addTagTerm_4 : decode cL_addTagTerm 4 = .ok (.invokevirtual 42, 3) := by decide +kernel
theorem dL_addTagTerm_7 : decode cL_addTagTerm 7 = .ok (.i2l, 1) := by decide +kernel
theorem dL_addTagTerm_8 : decode cL_addTagTerm 8 = .ok (.lastore, 1) := by decide +kernel
theorem dL_addTagTerm_9 : decode cL_addTagTerm 9 = .ok (.goto 9, 3) := by decide +kernel
theorem dL_addTagTerm_12 : decode cL_addTagTerm 12 = .ok (.astore_n 3, 1) := by decide +kernel
theorem dL_addTagTerm_13 : decode cL_addTagTerm 13 = .ok (.iconst 1, 1) := by decide +kernel
theorem dL_addTagTerm_14 : decode cL_addTagTerm 14 = .ok (.ireturn, 1) := by decide +kernel
theorem dL_addTagTerm_15 : decode cL_addTagTerm 15 = .ok (.astore_n 3, 1) := by decide +kernel
theorem dL_addTagTerm_16 : decode cL_addTagTerm 16 = .ok (.iconst 2, 1) := by decide +kernel
theorem dL_addTagTerm_17 : decode cL_addTagTerm 17 = .ok (.ireturn, 1) := by decide +kernel
theorem dL_addTagTerm_18 : decode cL_addTagTerm 18 = .ok (.iconst 0, 1) := by decide +kernel
theorem dL_addTagTerm_19 : decode cL_addTagTerm 19 = .ok (.ireturn, 1) := by decide +kernel
theorem dL_addBothTerm_0 : decode cL_addBothTerm 0 = .ok (.aload_n 3, 1) := by decide +kernel
theorem dL_addBothTerm_1 : decode cL_addBothTerm 1 = .ok (.iconst 0, 1) := by decide +kernel
theorem dL_addBothTerm_2 : decode cL_addBothTerm 2 = .ok (.aload_n 0, 1) := by decide +kernel
theorem dL_addBothTerm_3 : decode cL_addBothTerm 3 = .ok (.iload_n 1, 1) := by decide +kernel
theorem dL_addBothTerm_4 : decode cL_addBothTerm 4 = .ok (.iload_n 2, 1) := by decide +kernel
theorem dL_addBothTerm_5 : decode cL_addBothTerm 5 = .ok (.invokevirtual 45, 3) := by decide +kernel
theorem dL_addBothTerm_8 : decode cL_addBothTerm 8 = .ok (.i2l, 1) := by decide +kernel
theorem dL_addBothTerm_9 : decode cL_addBothTerm 9 = .ok (.lastore, 1) := by decide +kernel
theorem dL_addBothTerm_10 : decode cL_addBothTerm 10 = .ok (.goto 11, 3) := by decide +kernel
theorem dL_addBothTerm_13 : decode cL_addBothTerm 13 = .ok (.astore 4, 2) := by decide +kernel
theorem dL_addBothTerm_15 : decode cL_addBothTerm 15 = .ok (.iconst 1, 1) := by decide +kernel
theorem dL_addBothTerm_16 : decode cL_addBothTerm 16 = .ok (.ireturn, 1) := by decide +kernel
theorem dL_addBothTerm_17 : decode cL_addBothTerm 17 = .ok (.astore 4, 2) := by decide +kernel
theorem dL_addBothTerm_19 : decode cL_addBothTerm 19 = .ok (.iconst 2, 1) := by decide +kernel
theorem dL_addBothTerm_20 : decode cL_addBothTerm 20 = .ok (.ireturn, 1) := by decide +kernel
theorem dL_addBothTerm_21 : decode cL_addBothTerm 21 = .ok (.iconst 0, 1) := by decide +kernel
theorem dL_addBothTerm_22 : decode cL_addBothTerm 22 = .ok (.ireturn, 1) := by decide +kernel
theorem dL_addEitherTerm_0 : decode cL_addEitherTerm 0 = .ok (.aload_n 3, 1) := by decide +kernel
theorem dL_addEitherTerm_1 : decode cL_addEitherTerm 1 = .ok (.iconst 0, 1) := by decide +kernel
theorem dL_addEitherTerm_2 : decode cL_addEitherTerm 2 = .ok (.aload_n 0, 1) := by decide +kernel
theorem dL_addEitherTerm_3 : decode cL_addEitherTerm 3 = .ok (.iload_n 1, 1) := by decide +kernel
theorem dL_addEitherTerm_4 : decode cL_addEitherTerm 4 = .ok (.iload_n 2, 1) := by decide +kernel
theorem dL_addEitherTerm_5 : decode cL_addEitherTerm 5 = .ok (.invokevirtual 48, 3) := by decide +kernel
theorem dL_addEitherTerm_8 : decode cL_addEitherTerm 8 = .ok (.i2l, 1) := by decide +kernel
theorem dL_addEitherTerm_9 : decode cL_addEitherTerm 9 = .ok (.lastore, 1) := by decide +kernel
theorem dL_addEitherTerm_10 : decode cL_addEitherTerm 10 = .ok (.goto 11, 3) := by decide +kernel
theorem dL_addEitherTerm_13 : decode cL_addEitherTerm 13 = .ok (.astore 4, 2) := by decide +kernel
theorem dL_addEitherTerm_15 : decode cL_addEitherTerm 15 = .ok (.iconst 1, 1) := by decide +kernel
theorem dL_addEitherTerm_16 : decode cL_addEitherTerm 16 = .ok (.ireturn, 1) := by decide +kernel
theorem dL_addEitherTerm_17 : decode cL_addEitherTerm 17 = .ok (.astore 4, 2) := by decide +kernel
theorem dL_addEitherTerm_19 : decode cL_addEitherTerm 19 = .ok (.iconst 2, 1) := by decide +kernel
theorem dL_addEitherTerm_20 : decode cL_addEitherTerm 20 = .ok (.ireturn, 1) := by decide +kernel
theorem dL_addEitherTerm_21 : decode cL_addEitherTerm 21 = .ok (.iconst 0, 1) := by decide +kernel
theorem dL_addEitherTerm_22 : decode cL_addEitherTerm 22 = .ok (.ireturn, 1) := by decide +kernel
theorem dL_addWithoutTerm_0 : decode cL_addWithoutTerm 0 = .ok (.aload_n 2, 1) := by decide +kernel
theorem dL_addWithoutTerm_1 : decode cL_addWithoutTerm 1 = .ok (.iconst 0, 1) := by decide +kernel
theorem dL_addWithoutTerm_2 : decode cL_addWithoutTerm 2 = .ok (.aload_n 0, 1) := by decide +kernel
theorem dL_addWithoutTerm_3 : decode cL_addWithoutTerm 3 = .ok (.iload_n 1, 1) := by decide +kernel
theorem dL_addWithoutTerm_4 : decode cL_addWithoutTerm 4 = .ok (.invokevirtual 51, 3) := by decide +kernel
theorem dL_addWithoutTerm_7 : decode cL_addWithoutTerm 7 = .ok (.i2l, 1) := by decide +kernel
theorem dL_addWithoutTerm_8 : decode cL_addWithoutTerm 8 = .ok (.lastore, 1) := by decide +kernel
theorem dL_addWithoutTerm_9 : decode cL_addWithoutTerm 9 = .ok (.goto 9, 3) := by decide +kernel
theorem dL_addWithoutTerm_12 : decode cL_addWithoutTerm 12 = .ok (.astore_n 3, 1) := by decide +kernel
theorem dL_addWithoutTerm_13 : decode cL_addWithoutTerm 13 = .ok (.iconst 1, 1) := by decide +kernel
theorem dL_addWithoutTerm_14 : decode cL_addWithoutTerm 14 = .ok (.ireturn, 1) := by decide +kernel
theorem dL_addWithoutTerm_15 : decode cL_addWithoutTerm 15 = .ok (.astore_n 3, 1) := by decide +kernel
theorem dL_addWithoutTerm_16 : decode cL_addWithoutTerm 16 = .ok (.iconst 2, 1) := by decide +kernel
theorem dL_addWithoutTerm_17 : decode cL_addWithoutTerm 17 = .ok (.ireturn, 1) := by decide +kernel
theorem dL_addWithoutTerm_18 : decode cL_addWithoutTerm 18 = .ok (.iconst 0, 1) := by decide +kernel
theorem dL_addWithoutTerm_19 : decode cL_addWithoutTerm 19 = .ok (.ireturn, 1) := by decide +kernel
theorem dL_hasParent_0 : decode cL_hasParent 0 = .ok (.aload_n 2, 1) := by decide +kernel
theorem dL_hasParent_1 : decode cL_hasParent 1 = .ok (.iconst 0, 1) := by decide +kernel
theorem dL_hasParent_2 : decode cL_hasParent 2 = .ok (.aload_n 0, 1) := by decide +kernel
theorem dL_hasParent_3 : decode cL_hasParent 3 = .ok (.iload_n 1, 1) := by decide +kernel
theorem dL_hasParent_4 : decode cL_hasParent 4 = .ok (.invokevirtual 54, 3) := by decide +kernel
theorem dL_hasParent_7 : decode cL_hasParent 7 = .ok (.ifCond .eq 7, 3) := by decide +kernel
theorem dL_hasParent_10 : decode cL_hasParent 10 = .ok (.lconst 1, 1) := by decide +kernel
theorem dL_hasParent_11 : decode cL_hasParent 11 = .ok (.goto 4, 3) := by decide +kernel
theorem dL_hasParent_14 : decode cL_hasParent 14 = .ok (.lconst 0, 1) := by decide +kernel
theorem dL_hasParent_15 : decode cL_hasParent 15 = .ok (.lastore, 1) := by decide +kernel
theorem dL_hasParent_16 : decode cL_hasParent 16 = .ok (.goto 6, 3) := by decide +kernel
theorem dL_hasParent_19 : decode cL_hasParent 19 = .ok (.astore_n 3, 1) := by decide +kernel
theorem dL_hasParent_20 : decode cL_hasParent 20 = .ok (.iconst 1, 1) := by decide +kernel
theorem dL_hasParent_21 : decode cL_hasParent 21 = .ok (.ireturn, 1) := by decide +kernel
theorem dL_hasParent_22 : decode cL_hasParent 22 = .ok (.iconst 0, 1) := by decide +kernel
theorem dL_hasParent_23 : decode cL_hasParent 23 = .ok (.ireturn, 1) := by decide +kernel
theorem dL_parentOf_0 : decode cL_parentOf 0 = .ok (.aload_n 2, 1) := by decide +kernel
theorem dL_parentOf_1 : decode cL_parentOf 1 = .ok (.iconst 0, 1) := by decide +kernel
theorem dL_parentOf_2 : decode cL_parentOf 2 = .ok (.aload_n 0, 1) := by decide +kernel
theorem dL_parentOf_3 : decode cL_parentOf 3 = .ok (.iload_n 1, 1) := by decide +kernel
theorem dL_parentOf_4 : decode cL_parentOf 4 = .ok (.invokevirtual 58, 3) := by decide +kernel
theorem dL_parentOf_7 : decode cL_parentOf 7 = .ok (.i2l, 1) := by decide +kernel
theorem dL_parentOf_8 : decode cL_parentOf 8 = .ok (.lastore, 1) := by decide +kernel
theorem dL_parentOf_9 : decode cL_parentOf 9 = .ok (.goto 9, 3) := by decide +kernel
theorem dL_parentOf_12 : decode cL_parentOf 12 = .ok (.astore_n 3, 1) := by decide +kernel
theorem dL_parentOf_13 : decode cL_parentOf 13 = .ok (.iconst 1, 1) := by decide +kernel
theorem dL_parentOf_14 : decode cL_parentOf 14 = .ok (.ireturn, 1) := by decide +kernel
theorem dL_parentOf_15 : decode cL_parentOf 15 = .ok (.astore_n 3, 1) := by decide +kernel
theorem dL_parentOf_16 : decode cL_parentOf 16 = .ok (.iconst 2, 1) := by decide +kernel
theorem dL_parentOf_17 : decode cL_parentOf 17 = .ok (.ireturn, 1) := by decide +kernel
theorem dL_parentOf_18 : decode cL_parentOf 18 = .ok (.iconst 0, 1) := by decide +kernel
theorem dL_parentOf_19 : decode cL_parentOf 19 = .ok (.ireturn, 1) := by decide +kernel
theorem dL_tagsAbove_0 : decode cL_tagsAbove 0 = .ok (.aload_n 2, 1) := by decide +kernel
theorem dL_tagsAbove_1 : decode cL_tagsAbove 1 = .ok (.iconst 0, 1) := by decide +kernel
theorem dL_tagsAbove_2 : decode cL_tagsAbove 2 = .ok (.aload_n 0, 1) := by decide +kernel
theorem dL_tagsAbove_3 : decode cL_tagsAbove 3 = .ok (.iload_n 1, 1) := by decide +kernel
theorem dL_tagsAbove_4 : decode cL_tagsAbove 4 = .ok (.invokevirtual 61, 3) := by decide +kernel
theorem dL_tagsAbove_7 : decode cL_tagsAbove 7 = .ok (.i2l, 1) := by decide +kernel
theorem dL_tagsAbove_8 : decode cL_tagsAbove 8 = .ok (.lastore, 1) := by decide +kernel
theorem dL_tagsAbove_9 : decode cL_tagsAbove 9 = .ok (.goto 6, 3) := by decide +kernel
theorem dL_tagsAbove_12 : decode cL_tagsAbove 12 = .ok (.astore_n 3, 1) := by decide +kernel
theorem dL_tagsAbove_13 : decode cL_tagsAbove 13 = .ok (.iconst 1, 1) := by decide +kernel
theorem dL_tagsAbove_14 : decode cL_tagsAbove 14 = .ok (.ireturn, 1) := by decide +kernel
theorem dL_tagsAbove_15 : decode cL_tagsAbove 15 = .ok (.iconst 0, 1) := by decide +kernel
theorem dL_tagsAbove_16 : decode cL_tagsAbove 16 = .ok (.ireturn, 1) := by decide +kernel
theorem dL_tagsBelow_0 : decode cL_tagsBelow 0 = .ok (.aload_n 2, 1) := by decide +kernel
theorem dL_tagsBelow_1 : decode cL_tagsBelow 1 = .ok (.iconst 0, 1) := by decide +kernel
theorem dL_tagsBelow_2 : decode cL_tagsBelow 2 = .ok (.aload_n 0, 1) := by decide +kernel
theorem dL_tagsBelow_3 : decode cL_tagsBelow 3 = .ok (.iload_n 1, 1) := by decide +kernel
theorem dL_tagsBelow_4 : decode cL_tagsBelow 4 = .ok (.invokevirtual 64, 3) := by decide +kernel
theorem dL_tagsBelow_7 : decode cL_tagsBelow 7 = .ok (.i2l, 1) := by decide +kernel
theorem dL_tagsBelow_8 : decode cL_tagsBelow 8 = .ok (.lastore, 1) := by decide +kernel
theorem dL_tagsBelow_9 : decode cL_tagsBelow 9 = .ok (.goto 6, 3) := by decide +kernel
theorem dL_tagsBelow_12 : decode cL_tagsBelow 12 = .ok (.astore_n 3, 1) := by decide +kernel
theorem dL_tagsBelow_13 : decode cL_tagsBelow 13 = .ok (.iconst 1, 1) := by decide +kernel
theorem dL_tagsBelow_14 : decode cL_tagsBelow 14 = .ok (.ireturn, 1) := by decide +kernel
theorem dL_tagsBelow_15 : decode cL_tagsBelow 15 = .ok (.iconst 0, 1) := by decide +kernel
theorem dL_tagsBelow_16 : decode cL_tagsBelow 16 = .ok (.ireturn, 1) := by decide +kernel
theorem dL_isBelow_0 : decode cL_isBelow 0 = .ok (.aload_n 3, 1) := by decide +kernel
theorem dL_isBelow_1 : decode cL_isBelow 1 = .ok (.iconst 0, 1) := by decide +kernel
theorem dL_isBelow_2 : decode cL_isBelow 2 = .ok (.aload_n 0, 1) := by decide +kernel
theorem dL_isBelow_3 : decode cL_isBelow 3 = .ok (.iload_n 1, 1) := by decide +kernel
theorem dL_isBelow_4 : decode cL_isBelow 4 = .ok (.iload_n 2, 1) := by decide +kernel
theorem dL_isBelow_5 : decode cL_isBelow 5 = .ok (.invokevirtual 67, 3) := by decide +kernel
theorem dL_isBelow_8 : decode cL_isBelow 8 = .ok (.ifCond .eq 7, 3) := by decide +kernel
theorem dL_isBelow_11 : decode cL_isBelow 11 = .ok (.lconst 1, 1) := by decide +kernel
theorem dL_isBelow_12 : decode cL_isBelow 12 = .ok (.goto 4, 3) := by decide +kernel
theorem dL_isBelow_15 : decode cL_isBelow 15 = .ok (.lconst 0, 1) := by decide +kernel
theorem dL_isBelow_16 : decode cL_isBelow 16 = .ok (.lastore, 1) := by decide +kernel
theorem dL_isBelow_17 : decode cL_isBelow 17 = .ok (.goto 7, 3) := by decide +kernel
theorem dL_isBelow_20 : decode cL_isBelow 20 = .ok (.astore 4, 2) := by decide +kernel
theorem dL_isBelow_22 : decode cL_isBelow 22 = .ok (.iconst 1, 1) := by decide +kernel
theorem dL_isBelow_23 : decode cL_isBelow 23 = .ok (.ireturn, 1) := by decide +kernel
theorem dL_isBelow_24 : decode cL_isBelow 24 = .ok (.iconst 0, 1) := by decide +kernel
theorem dL_isBelow_25 : decode cL_isBelow 25 = .ok (.ireturn, 1) := by decide +kernel
theorem dL_nearestAbove_0 : decode cL_nearestAbove 0 = .ok (.aload_n 3, 1) := by decide +kernel
theorem dL_nearestAbove_1 : decode cL_nearestAbove 1 = .ok (.iconst 0, 1) := by decide +kernel
end
section
theorem dL_nearestAbove_2 : decode cL_nearestAbove 2 = .ok (.aload_n 0, 1) := by decide +kernel
theorem dL_nearestAbove_3 : decode cL_nearestAbove 3 = .ok (.iload_n 1, 1) := by decide +kernel
theorem dL_nearestAbove_4 : decode cL_nearestAbove 4 = .ok (.iload_n 2, 1) := by decide +kernel
theorem dL_nearestAbove_5 : decode cL_nearestAbove 5 = .ok (.invokevirtual 71, 3) := by decide +kernel
theorem dL_nearestAbove_8 : decode cL_nearestAbove 8 = .ok (.i2l, 1) := by decide +kernel
theorem dL_nearestAbove_9 : decode cL_nearestAbove 9 = .ok (.lastore, 1) := by decide +kernel
theorem dL_nearestAbove_10 : decode cL_nearestAbove 10 = .ok (.goto 7, 3) := by decide +kernel
theorem dL_nearestAbove_13 : decode cL_nearestAbove 13 = .ok (.astore 4, 2) := by decide +kernel
theorem dL_nearestAbove_15 : decode cL_nearestAbove 15 = .ok (.iconst 1, 1) := by decide +kernel
theorem dL_nearestAbove_16 : decode cL_nearestAbove 16 = .ok (.ireturn, 1) := by decide +kernel
theorem dL_nearestAbove_17 : decode cL_nearestAbove 17 = .ok (.iconst 0, 1) := by decide +kernel
theorem dL_nearestAbove_18 : decode cL_nearestAbove 18 = .ok (.ireturn, 1) := by decide +kernel
theorem dL_dreamsWith_0 : decode cL_dreamsWith 0 = .ok (.aload_n 2, 1) := by decide +kernel
theorem dL_dreamsWith_1 : decode cL_dreamsWith 1 = .ok (.iconst 0, 1) := by decide +kernel
theorem dL_dreamsWith_2 : decode cL_dreamsWith 2 = .ok (.aload_n 0, 1) := by decide +kernel
theorem dL_dreamsWith_3 : decode cL_dreamsWith 3 = .ok (.iload_n 1, 1) := by decide +kernel
theorem dL_dreamsWith_4 : decode cL_dreamsWith 4 = .ok (.invokevirtual 74, 3) := by decide +kernel
theorem dL_dreamsWith_7 : decode cL_dreamsWith 7 = .ok (.i2l, 1) := by decide +kernel
theorem dL_dreamsWith_8 : decode cL_dreamsWith 8 = .ok (.lastore, 1) := by decide +kernel
theorem dL_dreamsWith_9 : decode cL_dreamsWith 9 = .ok (.goto 6, 3) := by decide +kernel
theorem dL_dreamsWith_12 : decode cL_dreamsWith 12 = .ok (.astore_n 3, 1) := by decide +kernel
theorem dL_dreamsWith_13 : decode cL_dreamsWith 13 = .ok (.iconst 1, 1) := by decide +kernel
theorem dL_dreamsWith_14 : decode cL_dreamsWith 14 = .ok (.ireturn, 1) := by decide +kernel
theorem dL_dreamsWith_15 : decode cL_dreamsWith 15 = .ok (.iconst 0, 1) := by decide +kernel
theorem dL_dreamsWith_16 : decode cL_dreamsWith 16 = .ok (.ireturn, 1) := by decide +kernel
theorem dL_hasOwnTag_0 : decode cL_hasOwnTag 0 = .ok (.aload_n 3, 1) := by decide +kernel
theorem dL_hasOwnTag_1 : decode cL_hasOwnTag 1 = .ok (.iconst 0, 1) := by decide +kernel
theorem dL_hasOwnTag_2 : decode cL_hasOwnTag 2 = .ok (.aload_n 0, 1) := by decide +kernel
theorem dL_hasOwnTag_3 : decode cL_hasOwnTag 3 = .ok (.iload_n 1, 1) := by decide +kernel
theorem dL_hasOwnTag_4 : decode cL_hasOwnTag 4 = .ok (.iload_n 2, 1) := by decide +kernel
theorem dL_hasOwnTag_5 : decode cL_hasOwnTag 5 = .ok (.invokevirtual 77, 3) := by decide +kernel
theorem dL_hasOwnTag_8 : decode cL_hasOwnTag 8 = .ok (.ifCond .eq 7, 3) := by decide +kernel
theorem dL_hasOwnTag_11 : decode cL_hasOwnTag 11 = .ok (.lconst 1, 1) := by decide +kernel
theorem dL_hasOwnTag_12 : decode cL_hasOwnTag 12 = .ok (.goto 4, 3) := by decide +kernel
theorem dL_hasOwnTag_15 : decode cL_hasOwnTag 15 = .ok (.lconst 0, 1) := by decide +kernel
theorem dL_hasOwnTag_16 : decode cL_hasOwnTag 16 = .ok (.lastore, 1) := by decide +kernel
theorem dL_hasOwnTag_17 : decode cL_hasOwnTag 17 = .ok (.goto 7, 3) := by decide +kernel
theorem dL_hasOwnTag_20 : decode cL_hasOwnTag 20 = .ok (.astore 4, 2) := by decide +kernel
theorem dL_hasOwnTag_22 : decode cL_hasOwnTag 22 = .ok (.iconst 1, 1) := by decide +kernel
theorem dL_hasOwnTag_23 : decode cL_hasOwnTag 23 = .ok (.ireturn, 1) := by decide +kernel
theorem dL_hasOwnTag_24 : decode cL_hasOwnTag 24 = .ok (.iconst 0, 1) := by decide +kernel
theorem dL_hasOwnTag_25 : decode cL_hasOwnTag 25 = .ok (.ireturn, 1) := by decide +kernel
theorem dL_hasTag_0 : decode cL_hasTag 0 = .ok (.aload_n 3, 1) := by decide +kernel
theorem dL_hasTag_1 : decode cL_hasTag 1 = .ok (.iconst 0, 1) := by decide +kernel
theorem dL_hasTag_2 : decode cL_hasTag 2 = .ok (.aload_n 0, 1) := by decide +kernel
theorem dL_hasTag_3 : decode cL_hasTag 3 = .ok (.iload_n 1, 1) := by decide +kernel
theorem dL_hasTag_4 : decode cL_hasTag 4 = .ok (.iload_n 2, 1) := by decide +kernel
theorem dL_hasTag_5 : decode cL_hasTag 5 = .ok (.invokevirtual 80, 3) := by decide +kernel
theorem dL_hasTag_8 : decode cL_hasTag 8 = .ok (.ifCond .eq 7, 3) := by decide +kernel
theorem dL_hasTag_11 : decode cL_hasTag 11 = .ok (.lconst 1, 1) := by decide +kernel
theorem dL_hasTag_12 : decode cL_hasTag 12 = .ok (.goto 4, 3) := by decide +kernel
theorem dL_hasTag_15 : decode cL_hasTag 15 = .ok (.lconst 0, 1) := by decide +kernel
theorem dL_hasTag_16 : decode cL_hasTag 16 = .ok (.lastore, 1) := by decide +kernel
theorem dL_hasTag_17 : decode cL_hasTag 17 = .ok (.goto 7, 3) := by decide +kernel
theorem dL_hasTag_20 : decode cL_hasTag 20 = .ok (.astore 4, 2) := by decide +kernel
theorem dL_hasTag_22 : decode cL_hasTag 22 = .ok (.iconst 1, 1) := by decide +kernel
theorem dL_hasTag_23 : decode cL_hasTag 23 = .ok (.ireturn, 1) := by decide +kernel
theorem dL_hasTag_24 : decode cL_hasTag 24 = .ok (.iconst 0, 1) := by decide +kernel
theorem dL_hasTag_25 : decode cL_hasTag 25 = .ok (.ireturn, 1) := by decide +kernel
theorem dL_tagsOf_0 : decode cL_tagsOf 0 = .ok (.aload_n 2, 1) := by decide +kernel
theorem dL_tagsOf_1 : decode cL_tagsOf 1 = .ok (.iconst 0, 1) := by decide +kernel
theorem dL_tagsOf_2 : decode cL_tagsOf 2 = .ok (.aload_n 0, 1) := by decide +kernel
theorem dL_tagsOf_3 : decode cL_tagsOf 3 = .ok (.iload_n 1, 1) := by decide +kernel
theorem dL_tagsOf_4 : decode cL_tagsOf 4 = .ok (.invokevirtual 83, 3) := by decide +kernel
theorem dL_tagsOf_7 : decode cL_tagsOf 7 = .ok (.i2l, 1) := by decide +kernel
theorem dL_tagsOf_8 : decode cL_tagsOf 8 = .ok (.lastore, 1) := by decide +kernel
theorem dL_tagsOf_9 : decode cL_tagsOf 9 = .ok (.goto 6, 3) := by decide +kernel
theorem dL_tagsOf_12 : decode cL_tagsOf 12 = .ok (.astore_n 3, 1) := by decide +kernel
theorem dL_tagsOf_13 : decode cL_tagsOf 13 = .ok (.iconst 1, 1) := by decide +kernel
theorem dL_tagsOf_14 : decode cL_tagsOf 14 = .ok (.ireturn, 1) := by decide +kernel
theorem dL_tagsOf_15 : decode cL_tagsOf 15 = .ok (.iconst 0, 1) := by decide +kernel
theorem dL_tagsOf_16 : decode cL_tagsOf 16 = .ok (.ireturn, 1) := by decide +kernel
theorem dL_vividnessOf_0 : decode cL_vividnessOf 0 = .ok (.aload_n 2, 1) := by decide +kernel
theorem dL_vividnessOf_1 : decode cL_vividnessOf 1 = .ok (.iconst 0, 1) := by decide +kernel
theorem dL_vividnessOf_2 : decode cL_vividnessOf 2 = .ok (.aload_n 0, 1) := by decide +kernel
theorem dL_vividnessOf_3 : decode cL_vividnessOf 3 = .ok (.iload_n 1, 1) := by decide +kernel
theorem dL_vividnessOf_4 : decode cL_vividnessOf 4 = .ok (.invokevirtual 86, 3) := by decide +kernel
theorem dL_vividnessOf_7 : decode cL_vividnessOf 7 = .ok (.i2l, 1) := by decide +kernel
theorem dL_vividnessOf_8 : decode cL_vividnessOf 8 = .ok (.lastore, 1) := by decide +kernel
theorem dL_vividnessOf_9 : decode cL_vividnessOf 9 = .ok (.goto 6, 3) := by decide +kernel
theorem dL_vividnessOf_12 : decode cL_vividnessOf 12 = .ok (.astore_n 3, 1) := by decide +kernel
theorem dL_vividnessOf_13 : decode cL_vividnessOf 13 = .ok (.iconst 1, 1) := by decide +kernel
theorem dL_vividnessOf_14 : decode cL_vividnessOf 14 = .ok (.ireturn, 1) := by decide +kernel
theorem dL_vividnessOf_15 : decode cL_vividnessOf 15 = .ok (.iconst 0, 1) := by decide +kernel
theorem dL_vividnessOf_16 : decode cL_vividnessOf 16 = .ok (.ireturn, 1) := by decide +kernel
theorem dL_nightOf_0 : decode cL_nightOf 0 = .ok (.aload_n 2, 1) := by decide +kernel
theorem dL_nightOf_1 : decode cL_nightOf 1 = .ok (.iconst 0, 1) := by decide +kernel
theorem dL_nightOf_2 : decode cL_nightOf 2 = .ok (.aload_n 0, 1) := by decide +kernel
theorem dL_nightOf_3 : decode cL_nightOf 3 = .ok (.iload_n 1, 1) := by decide +kernel
theorem dL_nightOf_4 : decode cL_nightOf 4 = .ok (.invokevirtual 89, 3) := by decide +kernel
theorem dL_nightOf_7 : decode cL_nightOf 7 = .ok (.i2l, 1) := by decide +kernel
theorem dL_nightOf_8 : decode cL_nightOf 8 = .ok (.lastore, 1) := by decide +kernel
theorem dL_nightOf_9 : decode cL_nightOf 9 = .ok (.goto 6, 3) := by decide +kernel
theorem dL_nightOf_12 : decode cL_nightOf 12 = .ok (.astore_n 3, 1) := by decide +kernel
theorem dL_nightOf_13 : decode cL_nightOf 13 = .ok (.iconst 1, 1) := by decide +kernel
theorem dL_nightOf_14 : decode cL_nightOf 14 = .ok (.ireturn, 1) := by decide +kernel
theorem dL_nightOf_15 : decode cL_nightOf 15 = .ok (.iconst 0, 1) := by decide +kernel
theorem dL_nightOf_16 : decode cL_nightOf 16 = .ok (.ireturn, 1) := by decide +kernel
theorem dL_matches_0 : decode cL_matches 0 = .ok (.aload_n 3, 1) := by decide +kernel
theorem dL_matches_1 : decode cL_matches 1 = .ok (.iconst 0, 1) := by decide +kernel
theorem dL_matches_2 : decode cL_matches 2 = .ok (.aload_n 0, 1) := by decide +kernel
theorem dL_matches_3 : decode cL_matches 3 = .ok (.iload_n 1, 1) := by decide +kernel
theorem dL_matches_4 : decode cL_matches 4 = .ok (.iload_n 2, 1) := by decide +kernel
theorem dL_matches_5 : decode cL_matches 5 = .ok (.invokevirtual 92, 3) := by decide +kernel
theorem dL_matches_8 : decode cL_matches 8 = .ok (.ifCond .eq 7, 3) := by decide +kernel
theorem dL_matches_11 : decode cL_matches 11 = .ok (.lconst 1, 1) := by decide +kernel
theorem dL_matches_12 : decode cL_matches 12 = .ok (.goto 4, 3) := by decide +kernel
theorem dL_matches_15 : decode cL_matches 15 = .ok (.lconst 0, 1) := by decide +kernel
theorem dL_matches_16 : decode cL_matches 16 = .ok (.lastore, 1) := by decide +kernel
theorem dL_matches_17 : decode cL_matches 17 = .ok (.goto 7, 3) := by decide +kernel
theorem dL_matches_20 : decode cL_matches 20 = .ok (.astore 4, 2) := by decide +kernel
theorem dL_matches_22 : decode cL_matches 22 = .ok (.iconst 1, 1) := by decide +kernel
theorem dL_matches_23 : decode cL_matches 23 = .ok (.ireturn, 1) := by decide +kernel
theorem dL_matches_24 : decode cL_matches 24 = .ok (.iconst 0, 1) := by decide +kernel
theorem dL_matches_25 : decode cL_matches 25 = .ok (.ireturn, 1) := by decide +kernel
theorem dL_matchesOf_0 : decode cL_matchesOf 0 = .ok (.aload_n 2, 1) := by decide +kernel
theorem dL_matchesOf_1 : decode cL_matchesOf 1 = .ok (.iconst 0, 1) := by decide +kernel
theorem dL_matchesOf_2 : decode cL_matchesOf 2 = .ok (.aload_n 0, 1) := by decide +kernel
theorem dL_matchesOf_3 : decode cL_matchesOf 3 = .ok (.iload_n 1, 1) := by decide +kernel
theorem dL_matchesOf_4 : decode cL_matchesOf 4 = .ok (.invokevirtual 95, 3) := by decide +kernel
theorem dL_matchesOf_7 : decode cL_matchesOf 7 = .ok (.i2l, 1) := by decide +kernel
theorem dL_matchesOf_8 : decode cL_matchesOf 8 = .ok (.lastore, 1) := by decide +kernel
theorem dL_matchesOf_9 : decode cL_matchesOf 9 = .ok (.goto 6, 3) := by decide +kernel
theorem dL_matchesOf_12 : decode cL_matchesOf 12 = .ok (.astore_n 3, 1) := by decide +kernel
theorem dL_matchesOf_13 : decode cL_matchesOf 13 = .ok (.iconst 1, 1) := by decide +kernel
theorem dL_matchesOf_14 : decode cL_matchesOf 14 = .ok (.ireturn, 1) := by decide +kernel
theorem dL_matchesOf_15 : decode cL_matchesOf 15 = .ok (.iconst 0, 1) := by decide +kernel
theorem dL_matchesOf_16 : decode cL_matchesOf 16 = .ok (.ireturn, 1) := by decide +kernel
theorem dL_mostVivid_0 : decode cL_mostVivid 0 = .ok (.aload_n 2, 1) := by decide +kernel
theorem dL_mostVivid_1 : decode cL_mostVivid 1 = .ok (.iconst 0, 1) := by decide +kernel
theorem dL_mostVivid_2 : decode cL_mostVivid 2 = .ok (.aload_n 0, 1) := by decide +kernel
theorem dL_mostVivid_3 : decode cL_mostVivid 3 = .ok (.iload_n 1, 1) := by decide +kernel
theorem dL_mostVivid_4 : decode cL_mostVivid 4 = .ok (.invokevirtual 98, 3) := by decide +kernel
theorem dL_mostVivid_7 : decode cL_mostVivid 7 = .ok (.i2l, 1) := by decide +kernel
theorem dL_mostVivid_8 : decode cL_mostVivid 8 = .ok (.lastore, 1) := by decide +kernel
theorem dL_mostVivid_9 : decode cL_mostVivid 9 = .ok (.goto 6, 3) := by decide +kernel
theorem dL_mostVivid_12 : decode cL_mostVivid 12 = .ok (.astore_n 3, 1) := by decide +kernel
theorem dL_mostVivid_13 : decode cL_mostVivid 13 = .ok (.iconst 1, 1) := by decide +kernel
theorem dL_mostVivid_14 : decode cL_mostVivid 14 = .ok (.ireturn, 1) := by decide +kernel
theorem dL_mostVivid_15 : decode cL_mostVivid 15 = .ok (.iconst 0, 1) := by decide +kernel
theorem dL_mostVivid_16 : decode cL_mostVivid 16 = .ok (.ireturn, 1) := by decide +kernel
theorem dL_commonTags_0 : decode cL_commonTags 0 = .ok (.aload_n 2, 1) := by decide +kernel
theorem dL_commonTags_1 : decode cL_commonTags 1 = .ok (.iconst 0, 1) := by decide +kernel
theorem dL_commonTags_2 : decode cL_commonTags 2 = .ok (.aload_n 0, 1) := by decide +kernel
theorem dL_commonTags_3 : decode cL_commonTags 3 = .ok (.iload_n 1, 1) := by decide +kernel
theorem dL_commonTags_4 : decode cL_commonTags 4 = .ok (.invokevirtual 101, 3) := by decide +kernel
theorem dL_commonTags_7 : decode cL_commonTags 7 = .ok (.i2l, 1) := by decide +kernel
theorem dL_commonTags_8 : decode cL_commonTags 8 = .ok (.lastore, 1) := by decide +kernel
theorem dL_commonTags_9 : decode cL_commonTags 9 = .ok (.goto 6, 3) := by decide +kernel
theorem dL_commonTags_12 : decode cL_commonTags 12 = .ok (.astore_n 3, 1) := by decide +kernel
theorem dL_commonTags_13 : decode cL_commonTags 13 = .ok (.iconst 1, 1) := by decide +kernel
theorem dL_commonTags_14 : decode cL_commonTags 14 = .ok (.ireturn, 1) := by decide +kernel
theorem dL_commonTags_15 : decode cL_commonTags 15 = .ok (.iconst 0, 1) := by decide +kernel
theorem dL_commonTags_16 : decode cL_commonTags 16 = .ok (.ireturn, 1) := by decide +kernel
theorem dL_matchSame_0 : decode cL_matchSame 0 = .ok (.aload_n 3, 1) := by decide +kernel
theorem dL_matchSame_1 : decode cL_matchSame 1 = .ok (.iconst 0, 1) := by decide +kernel
theorem dL_matchSame_2 : decode cL_matchSame 2 = .ok (.aload_n 0, 1) := by decide +kernel
theorem dL_matchSame_3 : decode cL_matchSame 3 = .ok (.iload_n 1, 1) := by decide +kernel
theorem dL_matchSame_4 : decode cL_matchSame 4 = .ok (.iload_n 2, 1) := by decide +kernel
theorem dL_matchSame_5 : decode cL_matchSame 5 = .ok (.invokevirtual 104, 3) := by decide +kernel
theorem dL_matchSame_8 : decode cL_matchSame 8 = .ok (.ifCond .eq 7, 3) := by decide +kernel
theorem dL_matchSame_11 : decode cL_matchSame 11 = .ok (.lconst 1, 1) := by decide +kernel
theorem dL_matchSame_12 : decode cL_matchSame 12 = .ok (.goto 4, 3) := by decide +kernel
theorem dL_matchSame_15 : decode cL_matchSame 15 = .ok (.lconst 0, 1) := by decide +kernel
theorem dL_matchSame_16 : decode cL_matchSame 16 = .ok (.lastore, 1) := by decide +kernel
theorem dL_matchSame_17 : decode cL_matchSame 17 = .ok (.goto 7, 3) := by decide +kernel
theorem dL_matchSame_20 : decode cL_matchSame 20 = .ok (.astore 4, 2) := by decide +kernel
theorem dL_matchSame_22 : decode cL_matchSame 22 = .ok (.iconst 1, 1) := by decide +kernel
theorem dL_matchSame_23 : decode cL_matchSame 23 = .ok (.ireturn, 1) := by decide +kernel
theorem dL_matchSame_24 : decode cL_matchSame 24 = .ok (.iconst 0, 1) := by decide +kernel
theorem dL_matchSame_25 : decode cL_matchSame 25 = .ok (.ireturn, 1) := by decide +kernel
theorem dL_coverSize_0 : decode cL_coverSize 0 = .ok (.aload_n 2, 1) := by decide +kernel
theorem dL_coverSize_1 : decode cL_coverSize 1 = .ok (.iconst 0, 1) := by decide +kernel
theorem dL_coverSize_2 : decode cL_coverSize 2 = .ok (.aload_n 0, 1) := by decide +kernel
theorem dL_coverSize_3 : decode cL_coverSize 3 = .ok (.iload_n 1, 1) := by decide +kernel
theorem dL_coverSize_4 : decode cL_coverSize 4 = .ok (.invokevirtual 107, 3) := by decide +kernel
theorem dL_coverSize_7 : decode cL_coverSize 7 = .ok (.i2l, 1) := by decide +kernel
theorem dL_coverSize_8 : decode cL_coverSize 8 = .ok (.lastore, 1) := by decide +kernel
theorem dL_coverSize_9 : decode cL_coverSize 9 = .ok (.goto 6, 3) := by decide +kernel
theorem dL_coverSize_12 : decode cL_coverSize 12 = .ok (.astore_n 3, 1) := by decide +kernel
theorem dL_coverSize_13 : decode cL_coverSize 13 = .ok (.iconst 1, 1) := by decide +kernel
theorem dL_coverSize_14 : decode cL_coverSize 14 = .ok (.ireturn, 1) := by decide +kernel
theorem dL_coverSize_15 : decode cL_coverSize 15 = .ok (.iconst 0, 1) := by decide +kernel
theorem dL_coverSize_16 : decode cL_coverSize 16 = .ok (.ireturn, 1) := by decide +kernel
theorem dL_coverTag_0 : decode cL_coverTag 0 = .ok (.aload_n 3, 1) := by decide +kernel
theorem dL_coverTag_1 : decode cL_coverTag 1 = .ok (.iconst 0, 1) := by decide +kernel
theorem dL_coverTag_2 : decode cL_coverTag 2 = .ok (.aload_n 0, 1) := by decide +kernel
theorem dL_coverTag_3 : decode cL_coverTag 3 = .ok (.iload_n 1, 1) := by decide +kernel
theorem dL_coverTag_4 : decode cL_coverTag 4 = .ok (.iload_n 2, 1) := by decide +kernel
theorem dL_coverTag_5 : decode cL_coverTag 5 = .ok (.invokevirtual 110, 3) := by decide +kernel
theorem dL_coverTag_8 : decode cL_coverTag 8 = .ok (.i2l, 1) := by decide +kernel
theorem dL_coverTag_9 : decode cL_coverTag 9 = .ok (.lastore, 1) := by decide +kernel
theorem dL_coverTag_10 : decode cL_coverTag 10 = .ok (.goto 7, 3) := by decide +kernel
theorem dL_coverTag_13 : decode cL_coverTag 13 = .ok (.astore 4, 2) := by decide +kernel
theorem dL_coverTag_15 : decode cL_coverTag 15 = .ok (.iconst 1, 1) := by decide +kernel
theorem dL_coverTag_16 : decode cL_coverTag 16 = .ok (.ireturn, 1) := by decide +kernel
theorem dL_coverTag_17 : decode cL_coverTag 17 = .ok (.iconst 0, 1) := by decide +kernel
theorem dL_coverTag_18 : decode cL_coverTag 18 = .ok (.ireturn, 1) := by decide +kernel
theorem dL_fadedAfter_0 : decode cL_fadedAfter 0 = .ok (.aload_n 2, 1) := by decide +kernel
theorem dL_fadedAfter_1 : decode cL_fadedAfter 1 = .ok (.iconst 0, 1) := by decide +kernel
theorem dL_fadedAfter_2 : decode cL_fadedAfter 2 = .ok (.aload_n 0, 1) := by decide +kernel
theorem dL_fadedAfter_3 : decode cL_fadedAfter 3 = .ok (.iload_n 1, 1) := by decide +kernel
theorem dL_fadedAfter_4 : decode cL_fadedAfter 4 = .ok (.invokevirtual 113, 3) := by decide +kernel
theorem dL_fadedAfter_7 : decode cL_fadedAfter 7 = .ok (.i2l, 1) := by decide +kernel
theorem dL_fadedAfter_8 : decode cL_fadedAfter 8 = .ok (.lastore, 1) := by decide +kernel
theorem dL_fadedAfter_9 : decode cL_fadedAfter 9 = .ok (.goto 6, 3) := by decide +kernel
theorem dL_fadedAfter_12 : decode cL_fadedAfter 12 = .ok (.astore_n 3, 1) := by decide +kernel
theorem dL_fadedAfter_13 : decode cL_fadedAfter 13 = .ok (.iconst 1, 1) := by decide +kernel
theorem dL_fadedAfter_14 : decode cL_fadedAfter 14 = .ok (.ireturn, 1) := by decide +kernel
theorem dL_fadedAfter_15 : decode cL_fadedAfter 15 = .ok (.iconst 0, 1) := by decide +kernel
theorem dL_fadedAfter_16 : decode cL_fadedAfter 16 = .ok (.ireturn, 1) := by decide +kernel
theorem dL_matchesIfUnder_0 : decode cL_matchesIfUnder 0 = .ok (.aload 4, 2) := by decide +kernel
theorem dL_matchesIfUnder_2 : decode cL_matchesIfUnder 2 = .ok (.iconst 0, 1) := by decide +kernel
theorem dL_matchesIfUnder_3 : decode cL_matchesIfUnder 3 = .ok (.aload_n 0, 1) := by decide +kernel
theorem dL_matchesIfUnder_4 : decode cL_matchesIfUnder 4 = .ok (.iload_n 1, 1) := by decide +kernel
theorem dL_matchesIfUnder_5 : decode cL_matchesIfUnder 5 = .ok (.iload_n 2, 1) := by decide +kernel
theorem dL_matchesIfUnder_6 : decode cL_matchesIfUnder 6 = .ok (.iload_n 3, 1) := by decide +kernel
theorem dL_matchesIfUnder_7 : decode cL_matchesIfUnder 7 = .ok (.invokevirtual 116, 3) := by decide +kernel
theorem dL_matchesIfUnder_10 : decode cL_matchesIfUnder 10 = .ok (.i2l, 1) := by decide +kernel
theorem dL_matchesIfUnder_11 : decode cL_matchesIfUnder 11 = .ok (.lastore, 1) := by decide +kernel
theorem dL_matchesIfUnder_12 : decode cL_matchesIfUnder 12 = .ok (.goto 15, 3) := by decide +kernel
theorem dL_matchesIfUnder_15 : decode cL_matchesIfUnder 15 = .ok (.astore 5, 2) := by decide +kernel
theorem dL_matchesIfUnder_17 : decode cL_matchesIfUnder 17 = .ok (.iconst 1, 1) := by decide +kernel
theorem dL_matchesIfUnder_18 : decode cL_matchesIfUnder 18 = .ok (.ireturn, 1) := by decide +kernel
theorem dL_matchesIfUnder_19 : decode cL_matchesIfUnder 19 = .ok (.astore 5, 2) := by decide +kernel
theorem dL_matchesIfUnder_21 : decode cL_matchesIfUnder 21 = .ok (.iconst 2, 1) := by decide +kernel
theorem dL_matchesIfUnder_22 : decode cL_matchesIfUnder 22 = .ok (.ireturn, 1) := by decide +kernel
theorem dL_matchesIfUnder_23 : decode cL_matchesIfUnder 23 = .ok (.astore 5, 2) := by decide +kernel
theorem dL_matchesIfUnder_25 : decode cL_matchesIfUnder 25 = .ok (.iconst 3, 1) := by decide +kernel
theorem dL_matchesIfUnder_26 : decode cL_matchesIfUnder 26 = .ok (.ireturn, 1) := by decide +kernel
theorem dL_matchesIfUnder_27 : decode cL_matchesIfUnder 27 = .ok (.iconst 0, 1) := by decide +kernel
theorem dL_matchesIfUnder_28 : decode cL_matchesIfUnder 28 = .ok (.ireturn, 1) := by decide +kernel
theorem dL_bestParent_0 : decode cL_bestParent 0 = .ok (.aload_n 3, 1) := by decide +kernel
theorem dL_bestParent_1 : decode cL_bestParent 1 = .ok (.iconst 0, 1) := by decide +kernel
theorem dL_bestParent_2 : decode cL_bestParent 2 = .ok (.aload_n 0, 1) := by decide +kernel
theorem dL_bestParent_3 : decode cL_bestParent 3 = .ok (.iload_n 1, 1) := by decide +kernel
theorem dL_bestParent_4 : decode cL_bestParent 4 = .ok (.iload_n 2, 1) := by decide +kernel
theorem dL_bestParent_5 : decode cL_bestParent 5 = .ok (.invokevirtual 120, 3) := by decide +kernel
theorem dL_bestParent_8 : decode cL_bestParent 8 = .ok (.i2l, 1) := by decide +kernel
theorem dL_bestParent_9 : decode cL_bestParent 9 = .ok (.lastore, 1) := by decide +kernel
theorem dL_bestParent_10 : decode cL_bestParent 10 = .ok (.goto 7, 3) := by decide +kernel
theorem dL_bestParent_13 : decode cL_bestParent 13 = .ok (.astore 4, 2) := by decide +kernel
theorem dL_bestParent_15 : decode cL_bestParent 15 = .ok (.iconst 1, 1) := by decide +kernel
theorem dL_bestParent_16 : decode cL_bestParent 16 = .ok (.ireturn, 1) := by decide +kernel
theorem dL_bestParent_17 : decode cL_bestParent 17 = .ok (.iconst 0, 1) := by decide +kernel
theorem dL_bestParent_18 : decode cL_bestParent 18 = .ok (.ireturn, 1) := by decide +kernel
theorem dL_law_0 : decode cL_law 0 = .ok (.new 8, 3) := by decide +kernel
theorem dL_law_3 : decode cL_law 3 = .ok (.dup, 1) := by decide +kernel
theorem dL_law_4 : decode cL_law 4 = .ok (.invokespecial 123, 3) := by decide +kernel
theorem dL_law_7 : decode cL_law 7 = .ok (.astore_n 1, 1) := by decide +kernel
theorem dL_law_8 : decode cL_law 8 = .ok (.new 124, 3) := by decide +kernel
theorem dL_law_11 : decode cL_law 11 = .ok (.dup, 1) := by decide +kernel
theorem dL_law_12 : decode cL_law 12 = .ok (.invokespecial 126, 3) := by decide +kernel
theorem dL_law_15 : decode cL_law 15 = .ok (.astore_n 2, 1) := by decide +kernel
theorem dL_law_16 : decode cL_law 16 = .ok (.iconst 1, 1) := by decide +kernel
theorem dL_law_17 : decode cL_law 17 = .ok (.newarray .long, 2) := by decide +kernel
theorem dL_law_19 : decode cL_law 19 = .ok (.astore_n 3, 1) := by decide +kernel
theorem dL_law_20 : decode cL_law 20 = .ok (.iconst 0, 1) := by decide +kernel
theorem dL_law_21 : decode cL_law 21 = .ok (.istore 4, 2) := by decide +kernel
theorem dL_law_23 : decode cL_law 23 = .ok (.iload 4, 2) := by decide +kernel
theorem dL_law_25 : decode cL_law 25 = .ok (.aload_n 0, 1) := by decide +kernel
theorem dL_law_26 : decode cL_law 26 = .ok (.arraylength, 1) := by decide +kernel
theorem dL_law_27 : decode cL_law 27 = .ok (.iconst 4, 1) := by decide +kernel
theorem dL_law_28 : decode cL_law 28 = .ok (.isub, 1) := by decide +kernel
theorem dL_law_29 : decode cL_law 29 = .ok (.if_icmp .gt 2468, 3) := by decide +kernel
theorem dL_law_32 : decode cL_law 32 = .ok (.aload_n 0, 1) := by decide +kernel
theorem dL_law_33 : decode cL_law 33 = .ok (.iload 4, 2) := by decide +kernel
theorem dL_law_35 : decode cL_law 35 = .ok (.iaload, 1) := by decide +kernel
theorem dL_law_36 : decode cL_law 36 = .ok (.bipush 63, 2) := by decide +kernel
theorem dL_law_38 : decode cL_law 38 = .ok (.iand, 1) := by decide +kernel
theorem dL_law_39 : decode cL_law 39 = .ok (.tableswitch 2452 0 41 #[181, 225, 293, 349, 417, 485, 553, 621, 677, 733, 801, 869, 925, 938, 1001, 1057, 1113, 1169, 1244, 1312, 1368, 1443, 1518, 1574, 1630, 1686, 1761, 1817, 1873, 1929, 2004, 2060, 2128, 2141, 2154, 2167, 2180, 2193, 2249, 2329, 2397, 2438], 181) := by decide +kernel
theorem dL_law_220 : decode cL_law 220 = .ok (.aload_n 1, 1) := by decide +kernel
theorem dL_law_221 : decode cL_law 221 = .ok (.aload_n 3, 1) := by decide +kernel
theorem dL_law_222 : decode cL_law 222 = .ok (.invokestatic 127, 3) := by decide +kernel
theorem dL_law_225 : decode cL_law 225 = .ok (.istore 5, 2) := by decide +kernel
theorem dL_law_227 : decode cL_law 227 = .ok (.aload_n 2, 1) := by decide +kernel
theorem dL_law_228 : decode cL_law 228 = .ok (.invokevirtual 132, 3) := by decide +kernel
theorem dL_law_231 : decode cL_law 231 = .ok (.istore 6, 2) := by decide +kernel
theorem dL_law_233 : decode cL_law 233 = .ok (.aload_n 2, 1) := by decide +kernel
theorem dL_law_234 : decode cL_law 234 = .ok (.invokevirtual 133, 3) := by decide +kernel
theorem dL_law_237 : decode cL_law 237 = .ok (.iload 5, 2) := by decide +kernel
theorem dL_law_239 : decode cL_law 239 = .ok (.if_icmp .eq 5, 3) := by decide +kernel
theorem dL_law_242 : decode cL_law 242 = .ok (.iconst 0, 1) := by decide +kernel
theorem dL_law_243 : decode cL_law 243 = .ok (.ireturn, 1) := by decide +kernel
theorem dL_law_244 : decode cL_law 244 = .ok (.iload 5, 2) := by decide +kernel
theorem dL_law_246 : decode cL_law 246 = .ok (.ifCond .ne 15, 3) := by decide +kernel
theorem dL_law_249 : decode cL_law 249 = .ok (.aload_n 3, 1) := by decide +kernel
theorem dL_law_250 : decode cL_law 250 = .ok (.iconst 0, 1) := by decide +kernel
theorem dL_law_251 : decode cL_law 251 = .ok (.laload, 1) := by decide +kernel
theorem dL_law_252 : decode cL_law 252 = .ok (.iload 6, 2) := by decide +kernel
theorem dL_law_254 : decode cL_law 254 = .ok (.i2l, 1) := by decide +kernel
theorem dL_law_255 : decode cL_law 255 = .ok (.lcmp, 1) := by decide +kernel
theorem dL_law_256 : decode cL_law 256 = .ok (.ifCond .eq 5, 3) := by decide +kernel
theorem dL_law_259 : decode cL_law 259 = .ok (.iconst 0, 1) := by decide +kernel
theorem dL_law_260 : decode cL_law 260 = .ok (.ireturn, 1) := by decide +kernel
theorem dL_law_261 : decode cL_law 261 = .ok (.goto 2230, 3) := by decide +kernel
theorem dL_law_264 : decode cL_law 264 = .ok (.aload_n 1, 1) := by decide +kernel
theorem dL_law_265 : decode cL_law 265 = .ok (.aload_n 0, 1) := by decide +kernel
theorem dL_law_266 : decode cL_law 266 = .ok (.iload 4, 2) := by decide +kernel
theorem dL_law_268 : decode cL_law 268 = .ok (.iconst 1, 1) := by decide +kernel
theorem dL_law_269 : decode cL_law 269 = .ok (.iadd, 1) := by decide +kernel
theorem dL_law_270 : decode cL_law 270 = .ok (.iaload, 1) := by decide +kernel
theorem dL_law_271 : decode cL_law 271 = .ok (.aload_n 0, 1) := by decide +kernel
theorem dL_law_272 : decode cL_law 272 = .ok (.iload 4, 2) := by decide +kernel
theorem dL_law_274 : decode cL_law 274 = .ok (.iconst 2, 1) := by decide +kernel
theorem dL_law_275 : decode cL_law 275 = .ok (.iadd, 1) := by decide +kernel
theorem dL_law_276 : decode cL_law 276 = .ok (.iaload, 1) := by decide +kernel
theorem dL_law_277 : decode cL_law 277 = .ok (.aload_n 3, 1) := by decide +kernel
theorem dL_law_278 : decode cL_law 278 = .ok (.invokestatic 136, 3) := by decide +kernel
theorem dL_law_281 : decode cL_law 281 = .ok (.istore 5, 2) := by decide +kernel
theorem dL_law_283 : decode cL_law 283 = .ok (.aload_n 2, 1) := by decide +kernel
theorem dL_law_284 : decode cL_law 284 = .ok (.aload_n 0, 1) := by decide +kernel
theorem dL_law_285 : decode cL_law 285 = .ok (.iload 4, 2) := by decide +kernel
theorem dL_law_287 : decode cL_law 287 = .ok (.iconst 1, 1) := by decide +kernel
theorem dL_law_288 : decode cL_law 288 = .ok (.iadd, 1) := by decide +kernel
theorem dL_law_289 : decode cL_law 289 = .ok (.iaload, 1) := by decide +kernel
theorem dL_law_290 : decode cL_law 290 = .ok (.aload_n 0, 1) := by decide +kernel
theorem dL_law_291 : decode cL_law 291 = .ok (.iload 4, 2) := by decide +kernel
theorem dL_law_293 : decode cL_law 293 = .ok (.iconst 2, 1) := by decide +kernel
theorem dL_law_294 : decode cL_law 294 = .ok (.iadd, 1) := by decide +kernel
theorem dL_law_295 : decode cL_law 295 = .ok (.iaload, 1) := by decide +kernel
theorem dL_law_296 : decode cL_law 296 = .ok (.invokevirtual 139, 3) := by decide +kernel
theorem dL_law_299 : decode cL_law 299 = .ok (.istore 6, 2) := by decide +kernel
theorem dL_law_301 : decode cL_law 301 = .ok (.aload_n 2, 1) := by decide +kernel
theorem dL_law_302 : decode cL_law 302 = .ok (.invokevirtual 133, 3) := by decide +kernel
theorem dL_law_305 : decode cL_law 305 = .ok (.iload 5, 2) := by decide +kernel
theorem dL_law_307 : decode cL_law 307 = .ok (.if_icmp .eq 5, 3) := by decide +kernel
theorem dL_law_310 : decode cL_law 310 = .ok (.iconst 0, 1) := by decide +kernel
theorem dL_law_311 : decode cL_law 311 = .ok (.ireturn, 1) := by decide +kernel
theorem dL_law_312 : decode cL_law 312 = .ok (.iload 5, 2) := by decide +kernel
theorem dL_law_314 : decode cL_law 314 = .ok (.ifCond .ne 15, 3) := by decide +kernel
theorem dL_law_317 : decode cL_law 317 = .ok (.aload_n 3, 1) := by decide +kernel
theorem dL_law_318 : decode cL_law 318 = .ok (.iconst 0, 1) := by decide +kernel
theorem dL_law_319 : decode cL_law 319 = .ok (.laload, 1) := by decide +kernel
theorem dL_law_320 : decode cL_law 320 = .ok (.iload 6, 2) := by decide +kernel
theorem dL_law_322 : decode cL_law 322 = .ok (.i2l, 1) := by decide +kernel
theorem dL_law_323 : decode cL_law 323 = .ok (.lcmp, 1) := by decide +kernel
theorem dL_law_324 : decode cL_law 324 = .ok (.ifCond .eq 5, 3) := by decide +kernel
theorem dL_law_327 : decode cL_law 327 = .ok (.iconst 0, 1) := by decide +kernel
theorem dL_law_328 : decode cL_law 328 = .ok (.ireturn, 1) := by decide +kernel
theorem dL_law_329 : decode cL_law 329 = .ok (.goto 2162, 3) := by decide +kernel
theorem dL_law_332 : decode cL_law 332 = .ok (.aload_n 1, 1) := by decide +kernel
theorem dL_law_333 : decode cL_law 333 = .ok (.aload_n 0, 1) := by decide +kernel
theorem dL_law_334 : decode cL_law 334 = .ok (.iload 4, 2) := by decide +kernel
theorem dL_law_336 : decode cL_law 336 = .ok (.iconst 1, 1) := by decide +kernel
theorem dL_law_337 : decode cL_law 337 = .ok (.iadd, 1) := by decide +kernel
theorem dL_law_338 : decode cL_law 338 = .ok (.iaload, 1) := by decide +kernel
theorem dL_law_339 : decode cL_law 339 = .ok (.aload_n 3, 1) := by decide +kernel
theorem dL_law_340 : decode cL_law 340 = .ok (.invokestatic 140, 3) := by decide +kernel
theorem dL_law_343 : decode cL_law 343 = .ok (.istore 5, 2) := by decide +kernel
theorem dL_law_345 : decode cL_law 345 = .ok (.aload_n 2, 1) := by decide +kernel
theorem dL_law_346 : decode cL_law 346 = .ok (.aload_n 0, 1) := by decide +kernel
theorem dL_law_347 : decode cL_law 347 = .ok (.iload 4, 2) := by decide +kernel
theorem dL_law_349 : decode cL_law 349 = .ok (.iconst 1, 1) := by decide +kernel
theorem dL_law_350 : decode cL_law 350 = .ok (.iadd, 1) := by decide +kernel
theorem dL_law_351 : decode cL_law 351 = .ok (.iaload, 1) := by decide +kernel
theorem dL_law_352 : decode cL_law 352 = .ok (.invokevirtual 143, 3) := by decide +kernel
theorem dL_law_355 : decode cL_law 355 = .ok (.istore 6, 2) := by decide +kernel
theorem dL_law_357 : decode cL_law 357 = .ok (.aload_n 2, 1) := by decide +kernel
theorem dL_law_358 : decode cL_law 358 = .ok (.invokevirtual 133, 3) := by decide +kernel
theorem dL_law_361 : decode cL_law 361 = .ok (.iload 5, 2) := by decide +kernel
theorem dL_law_363 : decode cL_law 363 = .ok (.if_icmp .eq 5, 3) := by decide +kernel
theorem dL_law_366 : decode cL_law 366 = .ok (.iconst 0, 1) := by decide +kernel
theorem dL_law_367 : decode cL_law 367 = .ok (.ireturn, 1) := by decide +kernel
theorem dL_law_368 : decode cL_law 368 = .ok (.iload 5, 2) := by decide +kernel
theorem dL_law_370 : decode cL_law 370 = .ok (.ifCond .ne 15, 3) := by decide +kernel
theorem dL_law_373 : decode cL_law 373 = .ok (.aload_n 3, 1) := by decide +kernel
theorem dL_law_374 : decode cL_law 374 = .ok (.iconst 0, 1) := by decide +kernel
theorem dL_law_375 : decode cL_law 375 = .ok (.laload, 1) := by decide +kernel
theorem dL_law_376 : decode cL_law 376 = .ok (.iload 6, 2) := by decide +kernel
theorem dL_law_378 : decode cL_law 378 = .ok (.i2l, 1) := by decide +kernel
theorem dL_law_379 : decode cL_law 379 = .ok (.lcmp, 1) := by decide +kernel
theorem dL_law_380 : decode cL_law 380 = .ok (.ifCond .eq 5, 3) := by decide +kernel
theorem dL_law_383 : decode cL_law 383 = .ok (.iconst 0, 1) := by decide +kernel
theorem dL_law_384 : decode cL_law 384 = .ok (.ireturn, 1) := by decide +kernel
theorem dL_law_385 : decode cL_law 385 = .ok (.goto 2106, 3) := by decide +kernel
theorem dL_law_388 : decode cL_law 388 = .ok (.aload_n 1, 1) := by decide +kernel
theorem dL_law_389 : decode cL_law 389 = .ok (.aload_n 0, 1) := by decide +kernel
theorem dL_law_390 : decode cL_law 390 = .ok (.iload 4, 2) := by decide +kernel
theorem dL_law_392 : decode cL_law 392 = .ok (.iconst 1, 1) := by decide +kernel
theorem dL_law_393 : decode cL_law 393 = .ok (.iadd, 1) := by decide +kernel
theorem dL_law_394 : decode cL_law 394 = .ok (.iaload, 1) := by decide +kernel
theorem dL_law_395 : decode cL_law 395 = .ok (.aload_n 0, 1) := by decide +kernel
theorem dL_law_396 : decode cL_law 396 = .ok (.iload 4, 2) := by decide +kernel
theorem dL_law_398 : decode cL_law 398 = .ok (.iconst 2, 1) := by decide +kernel
theorem dL_law_399 : decode cL_law 399 = .ok (.iadd, 1) := by decide +kernel
theorem dL_law_400 : decode cL_law 400 = .ok (.iaload, 1) := by decide +kernel
theorem dL_law_401 : decode cL_law 401 = .ok (.aload_n 3, 1) := by decide +kernel
theorem dL_law_402 : decode cL_law 402 = .ok (.invokestatic 144, 3) := by decide +kernel
theorem dL_law_405 : decode cL_law 405 = .ok (.istore 5, 2) := by decide +kernel
theorem dL_law_407 : decode cL_law 407 = .ok (.aload_n 2, 1) := by decide +kernel
theorem dL_law_408 : decode cL_law 408 = .ok (.aload_n 0, 1) := by decide +kernel
theorem dL_law_409 : decode cL_law 409 = .ok (.iload 4, 2) := by decide +kernel
theorem dL_law_411 : decode cL_law 411 = .ok (.iconst 1, 1) := by decide +kernel
theorem dL_law_412 : decode cL_law 412 = .ok (.iadd, 1) := by decide +kernel
theorem dL_law_413 : decode cL_law 413 = .ok (.iaload, 1) := by decide +kernel
theorem dL_law_414 : decode cL_law 414 = .ok (.aload_n 0, 1) := by decide +kernel
theorem dL_law_415 : decode cL_law 415 = .ok (.iload 4, 2) := by decide +kernel
theorem dL_law_417 : decode cL_law 417 = .ok (.iconst 2, 1) := by decide +kernel
theorem dL_law_418 : decode cL_law 418 = .ok (.iadd, 1) := by decide +kernel
theorem dL_law_419 : decode cL_law 419 = .ok (.iaload, 1) := by decide +kernel
theorem dL_law_420 : decode cL_law 420 = .ok (.invokevirtual 146, 3) := by decide +kernel
theorem dL_law_423 : decode cL_law 423 = .ok (.istore 6, 2) := by decide +kernel
theorem dL_law_425 : decode cL_law 425 = .ok (.aload_n 2, 1) := by decide +kernel
theorem dL_law_426 : decode cL_law 426 = .ok (.invokevirtual 133, 3) := by decide +kernel
theorem dL_law_429 : decode cL_law 429 = .ok (.iload 5, 2) := by decide +kernel
theorem dL_law_431 : decode cL_law 431 = .ok (.if_icmp .eq 5, 3) := by decide +kernel
theorem dL_law_434 : decode cL_law 434 = .ok (.iconst 0, 1) := by decide +kernel
theorem dL_law_435 : decode cL_law 435 = .ok (.ireturn, 1) := by decide +kernel
theorem dL_law_436 : decode cL_law 436 = .ok (.iload 5, 2) := by decide +kernel
theorem dL_law_438 : decode cL_law 438 = .ok (.ifCond .ne 15, 3) := by decide +kernel
theorem dL_law_441 : decode cL_law 441 = .ok (.aload_n 3, 1) := by decide +kernel
theorem dL_law_442 : decode cL_law 442 = .ok (.iconst 0, 1) := by decide +kernel
theorem dL_law_443 : decode cL_law 443 = .ok (.laload, 1) := by decide +kernel
theorem dL_law_444 : decode cL_law 444 = .ok (.iload 6, 2) := by decide +kernel
theorem dL_law_446 : decode cL_law 446 = .ok (.i2l, 1) := by decide +kernel
theorem dL_law_447 : decode cL_law 447 = .ok (.lcmp, 1) := by decide +kernel
theorem dL_law_448 : decode cL_law 448 = .ok (.ifCond .eq 5, 3) := by decide +kernel
theorem dL_law_451 : decode cL_law 451 = .ok (.iconst 0, 1) := by decide +kernel
theorem dL_law_452 : decode cL_law 452 = .ok (.ireturn, 1) := by decide +kernel
theorem dL_law_453 : decode cL_law 453 = .ok (.goto 2038, 3) := by decide +kernel
theorem dL_law_456 : decode cL_law 456 = .ok (.aload_n 1, 1) := by decide +kernel
theorem dL_law_457 : decode cL_law 457 = .ok (.aload_n 0, 1) := by decide +kernel
theorem dL_law_458 : decode cL_law 458 = .ok (.iload 4, 2) := by decide +kernel
theorem dL_law_460 : decode cL_law 460 = .ok (.iconst 1, 1) := by decide +kernel
theorem dL_law_461 : decode cL_law 461 = .ok (.iadd, 1) := by decide +kernel
theorem dL_law_462 : decode cL_law 462 = .ok (.iaload, 1) := by decide +kernel
theorem dL_law_463 : decode cL_law 463 = .ok (.aload_n 0, 1) := by decide +kernel
theorem dL_law_464 : decode cL_law 464 = .ok (.iload 4, 2) := by decide +kernel
theorem dL_law_466 : decode cL_law 466 = .ok (.iconst 2, 1) := by decide +kernel
theorem dL_law_467 : decode cL_law 467 = .ok (.iadd, 1) := by decide +kernel
theorem dL_law_468 : decode cL_law 468 = .ok (.iaload, 1) := by decide +kernel
theorem dL_law_469 : decode cL_law 469 = .ok (.aload_n 3, 1) := by decide +kernel
theorem dL_law_470 : decode cL_law 470 = .ok (.invokestatic 147, 3) := by decide +kernel
theorem dL_law_473 : decode cL_law 473 = .ok (.istore 5, 2) := by decide +kernel
theorem dL_law_475 : decode cL_law 475 = .ok (.aload_n 2, 1) := by decide +kernel
theorem dL_law_476 : decode cL_law 476 = .ok (.aload_n 0, 1) := by decide +kernel
theorem dL_law_477 : decode cL_law 477 = .ok (.iload 4, 2) := by decide +kernel
theorem dL_law_479 : decode cL_law 479 = .ok (.iconst 1, 1) := by decide +kernel
theorem dL_law_480 : decode cL_law 480 = .ok (.iadd, 1) := by decide +kernel
theorem dL_law_481 : decode cL_law 481 = .ok (.iaload, 1) := by decide +kernel
theorem dL_law_482 : decode cL_law 482 = .ok (.aload_n 0, 1) := by decide +kernel
theorem dL_law_483 : decode cL_law 483 = .ok (.iload 4, 2) := by decide +kernel
theorem dL_law_485 : decode cL_law 485 = .ok (.iconst 2, 1) := by decide +kernel
theorem dL_law_486 : decode cL_law 486 = .ok (.iadd, 1) := by decide +kernel
theorem dL_law_487 : decode cL_law 487 = .ok (.iaload, 1) := by decide +kernel
theorem dL_law_488 : decode cL_law 488 = .ok (.invokevirtual 149, 3) := by decide +kernel
theorem dL_law_491 : decode cL_law 491 = .ok (.istore 6, 2) := by decide +kernel
theorem dL_law_493 : decode cL_law 493 = .ok (.aload_n 2, 1) := by decide +kernel
theorem dL_law_494 : decode cL_law 494 = .ok (.invokevirtual 133, 3) := by decide +kernel
theorem dL_law_497 : decode cL_law 497 = .ok (.iload 5, 2) := by decide +kernel
theorem dL_law_499 : decode cL_law 499 = .ok (.if_icmp .eq 5, 3) := by decide +kernel
theorem dL_law_502 : decode cL_law 502 = .ok (.iconst 0, 1) := by decide +kernel
theorem dL_law_503 : decode cL_law 503 = .ok (.ireturn, 1) := by decide +kernel
theorem dL_law_504 : decode cL_law 504 = .ok (.iload 5, 2) := by decide +kernel
theorem dL_law_506 : decode cL_law 506 = .ok (.ifCond .ne 15, 3) := by decide +kernel
theorem dL_law_509 : decode cL_law 509 = .ok (.aload_n 3, 1) := by decide +kernel
theorem dL_law_510 : decode cL_law 510 = .ok (.iconst 0, 1) := by decide +kernel
theorem dL_law_511 : decode cL_law 511 = .ok (.laload, 1) := by decide +kernel
theorem dL_law_512 : decode cL_law 512 = .ok (.iload 6, 2) := by decide +kernel
theorem dL_law_514 : decode cL_law 514 = .ok (.i2l, 1) := by decide +kernel
theorem dL_law_515 : decode cL_law 515 = .ok (.lcmp, 1) := by decide +kernel
theorem dL_law_516 : decode cL_law 516 = .ok (.ifCond .eq 5, 3) := by decide +kernel
theorem dL_law_519 : decode cL_law 519 = .ok (.iconst 0, 1) := by decide +kernel
theorem dL_law_520 : decode cL_law 520 = .ok (.ireturn, 1) := by decide +kernel
theorem dL_law_521 : decode cL_law 521 = .ok (.goto 1970, 3) := by decide +kernel
theorem dL_law_524 : decode cL_law 524 = .ok (.aload_n 1, 1) := by decide +kernel
theorem dL_law_525 : decode cL_law 525 = .ok (.aload_n 0, 1) := by decide +kernel
theorem dL_law_526 : decode cL_law 526 = .ok (.iload 4, 2) := by decide +kernel
theorem dL_law_528 : decode cL_law 528 = .ok (.iconst 1, 1) := by decide +kernel
theorem dL_law_529 : decode cL_law 529 = .ok (.iadd, 1) := by decide +kernel
theorem dL_law_530 : decode cL_law 530 = .ok (.iaload, 1) := by decide +kernel
theorem dL_law_531 : decode cL_law 531 = .ok (.aload_n 0, 1) := by decide +kernel
theorem dL_law_532 : decode cL_law 532 = .ok (.iload 4, 2) := by decide +kernel
theorem dL_law_534 : decode cL_law 534 = .ok (.iconst 2, 1) := by decide +kernel
theorem dL_law_535 : decode cL_law 535 = .ok (.iadd, 1) := by decide +kernel
theorem dL_law_536 : decode cL_law 536 = .ok (.iaload, 1) := by decide +kernel
theorem dL_law_537 : decode cL_law 537 = .ok (.aload_n 3, 1) := by decide +kernel
theorem dL_law_538 : decode cL_law 538 = .ok (.invokestatic 150, 3) := by decide +kernel
theorem dL_law_541 : decode cL_law 541 = .ok (.istore 5, 2) := by decide +kernel
theorem dL_law_543 : decode cL_law 543 = .ok (.aload_n 2, 1) := by decide +kernel
theorem dL_law_544 : decode cL_law 544 = .ok (.aload_n 0, 1) := by decide +kernel
theorem dL_law_545 : decode cL_law 545 = .ok (.iload 4, 2) := by decide +kernel
theorem dL_law_547 : decode cL_law 547 = .ok (.iconst 1, 1) := by decide +kernel
theorem dL_law_548 : decode cL_law 548 = .ok (.iadd, 1) := by decide +kernel
theorem dL_law_549 : decode cL_law 549 = .ok (.iaload, 1) := by decide +kernel
theorem dL_law_550 : decode cL_law 550 = .ok (.aload_n 0, 1) := by decide +kernel
theorem dL_law_551 : decode cL_law 551 = .ok (.iload 4, 2) := by decide +kernel
theorem dL_law_553 : decode cL_law 553 = .ok (.iconst 2, 1) := by decide +kernel
theorem dL_law_554 : decode cL_law 554 = .ok (.iadd, 1) := by decide +kernel
theorem dL_law_555 : decode cL_law 555 = .ok (.iaload, 1) := by decide +kernel
theorem dL_law_556 : decode cL_law 556 = .ok (.invokevirtual 152, 3) := by decide +kernel
theorem dL_law_559 : decode cL_law 559 = .ok (.istore 6, 2) := by decide +kernel
theorem dL_law_561 : decode cL_law 561 = .ok (.aload_n 2, 1) := by decide +kernel
theorem dL_law_562 : decode cL_law 562 = .ok (.invokevirtual 133, 3) := by decide +kernel
theorem dL_law_565 : decode cL_law 565 = .ok (.iload 5, 2) := by decide +kernel
theorem dL_law_567 : decode cL_law 567 = .ok (.if_icmp .eq 5, 3) := by decide +kernel
theorem dL_law_570 : decode cL_law 570 = .ok (.iconst 0, 1) := by decide +kernel
theorem dL_law_571 : decode cL_law 571 = .ok (.ireturn, 1) := by decide +kernel
theorem dL_law_572 : decode cL_law 572 = .ok (.iload 5, 2) := by decide +kernel
theorem dL_law_574 : decode cL_law 574 = .ok (.ifCond .ne 15, 3) := by decide +kernel
theorem dL_law_577 : decode cL_law 577 = .ok (.aload_n 3, 1) := by decide +kernel
theorem dL_law_578 : decode cL_law 578 = .ok (.iconst 0, 1) := by decide +kernel
theorem dL_law_579 : decode cL_law 579 = .ok (.laload, 1) := by decide +kernel
theorem dL_law_580 : decode cL_law 580 = .ok (.iload 6, 2) := by decide +kernel
theorem dL_law_582 : decode cL_law 582 = .ok (.i2l, 1) := by decide +kernel
theorem dL_law_583 : decode cL_law 583 = .ok (.lcmp, 1) := by decide +kernel
theorem dL_law_584 : decode cL_law 584 = .ok (.ifCond .eq 5, 3) := by decide +kernel
theorem dL_law_587 : decode cL_law 587 = .ok (.iconst 0, 1) := by decide +kernel
theorem dL_law_588 : decode cL_law 588 = .ok (.ireturn, 1) := by decide +kernel
theorem dL_law_589 : decode cL_law 589 = .ok (.goto 1902, 3) := by decide +kernel
theorem dL_law_592 : decode cL_law 592 = .ok (.aload_n 1, 1) := by decide +kernel
theorem dL_law_593 : decode cL_law 593 = .ok (.aload_n 0, 1) := by decide +kernel
theorem dL_law_594 : decode cL_law 594 = .ok (.iload 4, 2) := by decide +kernel
theorem dL_law_596 : decode cL_law 596 = .ok (.iconst 1, 1) := by decide +kernel
theorem dL_law_597 : decode cL_law 597 = .ok (.iadd, 1) := by decide +kernel
theorem dL_law_598 : decode cL_law 598 = .ok (.iaload, 1) := by decide +kernel
theorem dL_law_599 : decode cL_law 599 = .ok (.aload_n 0, 1) := by decide +kernel
theorem dL_law_600 : decode cL_law 600 = .ok (.iload 4, 2) := by decide +kernel
theorem dL_law_602 : decode cL_law 602 = .ok (.iconst 2, 1) := by decide +kernel
theorem dL_law_603 : decode cL_law 603 = .ok (.iadd, 1) := by decide +kernel
theorem dL_law_604 : decode cL_law 604 = .ok (.iaload, 1) := by decide +kernel
theorem dL_law_605 : decode cL_law 605 = .ok (.aload_n 3, 1) := by decide +kernel
theorem dL_law_606 : decode cL_law 606 = .ok (.invokestatic 153, 3) := by decide +kernel
theorem dL_law_609 : decode cL_law 609 = .ok (.istore 5, 2) := by decide +kernel
theorem dL_law_611 : decode cL_law 611 = .ok (.aload_n 2, 1) := by decide +kernel
theorem dL_law_612 : decode cL_law 612 = .ok (.aload_n 0, 1) := by decide +kernel
theorem dL_law_613 : decode cL_law 613 = .ok (.iload 4, 2) := by decide +kernel
theorem dL_law_615 : decode cL_law 615 = .ok (.iconst 1, 1) := by decide +kernel
theorem dL_law_616 : decode cL_law 616 = .ok (.iadd, 1) := by decide +kernel
theorem dL_law_617 : decode cL_law 617 = .ok (.iaload, 1) := by decide +kernel
theorem dL_law_618 : decode cL_law 618 = .ok (.aload_n 0, 1) := by decide +kernel
theorem dL_law_619 : decode cL_law 619 = .ok (.iload 4, 2) := by decide +kernel
theorem dL_law_621 : decode cL_law 621 = .ok (.iconst 2, 1) := by decide +kernel
theorem dL_law_622 : decode cL_law 622 = .ok (.iadd, 1) := by decide +kernel
theorem dL_law_623 : decode cL_law 623 = .ok (.iaload, 1) := by decide +kernel
theorem dL_law_624 : decode cL_law 624 = .ok (.invokevirtual 155, 3) := by decide +kernel
theorem dL_law_627 : decode cL_law 627 = .ok (.istore 6, 2) := by decide +kernel
theorem dL_law_629 : decode cL_law 629 = .ok (.aload_n 2, 1) := by decide +kernel
theorem dL_law_630 : decode cL_law 630 = .ok (.invokevirtual 133, 3) := by decide +kernel
theorem dL_law_633 : decode cL_law 633 = .ok (.iload 5, 2) := by decide +kernel
theorem dL_law_635 : decode cL_law 635 = .ok (.if_icmp .eq 5, 3) := by decide +kernel
theorem dL_law_638 : decode cL_law 638 = .ok (.iconst 0, 1) := by decide +kernel
theorem dL_law_639 : decode cL_law 639 = .ok (.ireturn, 1) := by decide +kernel
theorem dL_law_640 : decode cL_law 640 = .ok (.iload 5, 2) := by decide +kernel
theorem dL_law_642 : decode cL_law 642 = .ok (.ifCond .ne 15, 3) := by decide +kernel
theorem dL_law_645 : decode cL_law 645 = .ok (.aload_n 3, 1) := by decide +kernel
theorem dL_law_646 : decode cL_law 646 = .ok (.iconst 0, 1) := by decide +kernel
theorem dL_law_647 : decode cL_law 647 = .ok (.laload, 1) := by decide +kernel
theorem dL_law_648 : decode cL_law 648 = .ok (.iload 6, 2) := by decide +kernel
theorem dL_law_650 : decode cL_law 650 = .ok (.i2l, 1) := by decide +kernel
theorem dL_law_651 : decode cL_law 651 = .ok (.lcmp, 1) := by decide +kernel
theorem dL_law_652 : decode cL_law 652 = .ok (.ifCond .eq 5, 3) := by decide +kernel
theorem dL_law_655 : decode cL_law 655 = .ok (.iconst 0, 1) := by decide +kernel
theorem dL_law_656 : decode cL_law 656 = .ok (.ireturn, 1) := by decide +kernel
theorem dL_law_657 : decode cL_law 657 = .ok (.goto 1834, 3) := by decide +kernel
theorem dL_law_660 : decode cL_law 660 = .ok (.aload_n 1, 1) := by decide +kernel
theorem dL_law_661 : decode cL_law 661 = .ok (.aload_n 0, 1) := by decide +kernel
theorem dL_law_662 : decode cL_law 662 = .ok (.iload 4, 2) := by decide +kernel
theorem dL_law_664 : decode cL_law 664 = .ok (.iconst 1, 1) := by decide +kernel
theorem dL_law_665 : decode cL_law 665 = .ok (.iadd, 1) := by decide +kernel
theorem dL_law_666 : decode cL_law 666 = .ok (.iaload, 1) := by decide +kernel
theorem dL_law_667 : decode cL_law 667 = .ok (.aload_n 3, 1) := by decide +kernel
theorem dL_law_668 : decode cL_law 668 = .ok (.invokestatic 156, 3) := by decide +kernel
theorem dL_law_671 : decode cL_law 671 = .ok (.istore 5, 2) := by decide +kernel
theorem dL_law_673 : decode cL_law 673 = .ok (.aload_n 2, 1) := by decide +kernel
theorem dL_law_674 : decode cL_law 674 = .ok (.aload_n 0, 1) := by decide +kernel
theorem dL_law_675 : decode cL_law 675 = .ok (.iload 4, 2) := by decide +kernel
theorem dL_law_677 : decode cL_law 677 = .ok (.iconst 1, 1) := by decide +kernel
theorem dL_law_678 : decode cL_law 678 = .ok (.iadd, 1) := by decide +kernel
theorem dL_law_679 : decode cL_law 679 = .ok (.iaload, 1) := by decide +kernel
theorem dL_law_680 : decode cL_law 680 = .ok (.invokevirtual 158, 3) := by decide +kernel
theorem dL_law_683 : decode cL_law 683 = .ok (.istore 6, 2) := by decide +kernel
theorem dL_law_685 : decode cL_law 685 = .ok (.aload_n 2, 1) := by decide +kernel
theorem dL_law_686 : decode cL_law 686 = .ok (.invokevirtual 133, 3) := by decide +kernel
theorem dL_law_689 : decode cL_law 689 = .ok (.iload 5, 2) := by decide +kernel
theorem dL_law_691 : decode cL_law 691 = .ok (.if_icmp .eq 5, 3) := by decide +kernel
theorem dL_law_694 : decode cL_law 694 = .ok (.iconst 0, 1) := by decide +kernel
theorem dL_law_695 : decode cL_law 695 = .ok (.ireturn, 1) := by decide +kernel
theorem dL_law_696 : decode cL_law 696 = .ok (.iload 5, 2) := by decide +kernel
theorem dL_law_698 : decode cL_law 698 = .ok (.ifCond .ne 15, 3) := by decide +kernel
theorem dL_law_701 : decode cL_law 701 = .ok (.aload_n 3, 1) := by decide +kernel
theorem dL_law_702 : decode cL_law 702 = .ok (.iconst 0, 1) := by decide +kernel
theorem dL_law_703 : decode cL_law 703 = .ok (.laload, 1) := by decide +kernel
theorem dL_law_704 : decode cL_law 704 = .ok (.iload 6, 2) := by decide +kernel
theorem dL_law_706 : decode cL_law 706 = .ok (.i2l, 1) := by decide +kernel
theorem dL_law_707 : decode cL_law 707 = .ok (.lcmp, 1) := by decide +kernel
theorem dL_law_708 : decode cL_law 708 = .ok (.ifCond .eq 5, 3) := by decide +kernel
theorem dL_law_711 : decode cL_law 711 = .ok (.iconst 0, 1) := by decide +kernel
theorem dL_law_712 : decode cL_law 712 = .ok (.ireturn, 1) := by decide +kernel
theorem dL_law_713 : decode cL_law 713 = .ok (.goto 1778, 3) := by decide +kernel
theorem dL_law_716 : decode cL_law 716 = .ok (.aload_n 1, 1) := by decide +kernel
theorem dL_law_717 : decode cL_law 717 = .ok (.aload_n 0, 1) := by decide +kernel
theorem dL_law_718 : decode cL_law 718 = .ok (.iload 4, 2) := by decide +kernel
theorem dL_law_720 : decode cL_law 720 = .ok (.iconst 1, 1) := by decide +kernel
theorem dL_law_721 : decode cL_law 721 = .ok (.iadd, 1) := by decide +kernel
theorem dL_law_722 : decode cL_law 722 = .ok (.iaload, 1) := by decide +kernel
theorem dL_law_723 : decode cL_law 723 = .ok (.aload_n 3, 1) := by decide +kernel
theorem dL_law_724 : decode cL_law 724 = .ok (.invokestatic 159, 3) := by decide +kernel
theorem dL_law_727 : decode cL_law 727 = .ok (.istore 5, 2) := by decide +kernel
theorem dL_law_729 : decode cL_law 729 = .ok (.aload_n 2, 1) := by decide +kernel
theorem dL_law_730 : decode cL_law 730 = .ok (.aload_n 0, 1) := by decide +kernel
theorem dL_law_731 : decode cL_law 731 = .ok (.iload 4, 2) := by decide +kernel
theorem dL_law_733 : decode cL_law 733 = .ok (.iconst 1, 1) := by decide +kernel
theorem dL_law_734 : decode cL_law 734 = .ok (.iadd, 1) := by decide +kernel
theorem dL_law_735 : decode cL_law 735 = .ok (.iaload, 1) := by decide +kernel
theorem dL_law_736 : decode cL_law 736 = .ok (.invokevirtual 161, 3) := by decide +kernel
theorem dL_law_739 : decode cL_law 739 = .ok (.istore 6, 2) := by decide +kernel
theorem dL_law_741 : decode cL_law 741 = .ok (.aload_n 2, 1) := by decide +kernel
theorem dL_law_742 : decode cL_law 742 = .ok (.invokevirtual 133, 3) := by decide +kernel
theorem dL_law_745 : decode cL_law 745 = .ok (.iload 5, 2) := by decide +kernel
theorem dL_law_747 : decode cL_law 747 = .ok (.if_icmp .eq 5, 3) := by decide +kernel
theorem dL_law_750 : decode cL_law 750 = .ok (.iconst 0, 1) := by decide +kernel
theorem dL_law_751 : decode cL_law 751 = .ok (.ireturn, 1) := by decide +kernel
theorem dL_law_752 : decode cL_law 752 = .ok (.iload 5, 2) := by decide +kernel
theorem dL_law_754 : decode cL_law 754 = .ok (.ifCond .ne 15, 3) := by decide +kernel
theorem dL_law_757 : decode cL_law 757 = .ok (.aload_n 3, 1) := by decide +kernel
theorem dL_law_758 : decode cL_law 758 = .ok (.iconst 0, 1) := by decide +kernel
theorem dL_law_759 : decode cL_law 759 = .ok (.laload, 1) := by decide +kernel
theorem dL_law_760 : decode cL_law 760 = .ok (.iload 6, 2) := by decide +kernel
theorem dL_law_762 : decode cL_law 762 = .ok (.i2l, 1) := by decide +kernel
theorem dL_law_763 : decode cL_law 763 = .ok (.lcmp, 1) := by decide +kernel
theorem dL_law_764 : decode cL_law 764 = .ok (.ifCond .eq 5, 3) := by decide +kernel
theorem dL_law_767 : decode cL_law 767 = .ok (.iconst 0, 1) := by decide +kernel
theorem dL_law_768 : decode cL_law 768 = .ok (.ireturn, 1) := by decide +kernel
theorem dL_law_769 : decode cL_law 769 = .ok (.goto 1722, 3) := by decide +kernel
theorem dL_law_772 : decode cL_law 772 = .ok (.aload_n 1, 1) := by decide +kernel
theorem dL_law_773 : decode cL_law 773 = .ok (.aload_n 0, 1) := by decide +kernel
theorem dL_law_774 : decode cL_law 774 = .ok (.iload 4, 2) := by decide +kernel
theorem dL_law_776 : decode cL_law 776 = .ok (.iconst 1, 1) := by decide +kernel
theorem dL_law_777 : decode cL_law 777 = .ok (.iadd, 1) := by decide +kernel
theorem dL_law_778 : decode cL_law 778 = .ok (.iaload, 1) := by decide +kernel
theorem dL_law_779 : decode cL_law 779 = .ok (.aload_n 0, 1) := by decide +kernel
theorem dL_law_780 : decode cL_law 780 = .ok (.iload 4, 2) := by decide +kernel
theorem dL_law_782 : decode cL_law 782 = .ok (.iconst 2, 1) := by decide +kernel
theorem dL_law_783 : decode cL_law 783 = .ok (.iadd, 1) := by decide +kernel
theorem dL_law_784 : decode cL_law 784 = .ok (.iaload, 1) := by decide +kernel
theorem dL_law_785 : decode cL_law 785 = .ok (.aload_n 3, 1) := by decide +kernel
theorem dL_law_786 : decode cL_law 786 = .ok (.invokestatic 162, 3) := by decide +kernel
theorem dL_law_789 : decode cL_law 789 = .ok (.istore 5, 2) := by decide +kernel
theorem dL_law_791 : decode cL_law 791 = .ok (.aload_n 2, 1) := by decide +kernel
theorem dL_law_792 : decode cL_law 792 = .ok (.aload_n 0, 1) := by decide +kernel
theorem dL_law_793 : decode cL_law 793 = .ok (.iload 4, 2) := by decide +kernel
theorem dL_law_795 : decode cL_law 795 = .ok (.iconst 1, 1) := by decide +kernel
theorem dL_law_796 : decode cL_law 796 = .ok (.iadd, 1) := by decide +kernel
theorem dL_law_797 : decode cL_law 797 = .ok (.iaload, 1) := by decide +kernel
theorem dL_law_798 : decode cL_law 798 = .ok (.aload_n 0, 1) := by decide +kernel
theorem dL_law_799 : decode cL_law 799 = .ok (.iload 4, 2) := by decide +kernel
theorem dL_law_801 : decode cL_law 801 = .ok (.iconst 2, 1) := by decide +kernel
theorem dL_law_802 : decode cL_law 802 = .ok (.iadd, 1) := by decide +kernel
theorem dL_law_803 : decode cL_law 803 = .ok (.iaload, 1) := by decide +kernel
theorem dL_law_804 : decode cL_law 804 = .ok (.invokevirtual 164, 3) := by decide +kernel
theorem dL_law_807 : decode cL_law 807 = .ok (.istore 6, 2) := by decide +kernel
theorem dL_law_809 : decode cL_law 809 = .ok (.aload_n 2, 1) := by decide +kernel
theorem dL_law_810 : decode cL_law 810 = .ok (.invokevirtual 133, 3) := by decide +kernel
theorem dL_law_813 : decode cL_law 813 = .ok (.iload 5, 2) := by decide +kernel
theorem dL_law_815 : decode cL_law 815 = .ok (.if_icmp .eq 5, 3) := by decide +kernel
theorem dL_law_818 : decode cL_law 818 = .ok (.iconst 0, 1) := by decide +kernel
theorem dL_law_819 : decode cL_law 819 = .ok (.ireturn, 1) := by decide +kernel
theorem dL_law_820 : decode cL_law 820 = .ok (.iload 5, 2) := by decide +kernel
theorem dL_law_822 : decode cL_law 822 = .ok (.ifCond .ne 15, 3) := by decide +kernel
theorem dL_law_825 : decode cL_law 825 = .ok (.aload_n 3, 1) := by decide +kernel
theorem dL_law_826 : decode cL_law 826 = .ok (.iconst 0, 1) := by decide +kernel
theorem dL_law_827 : decode cL_law 827 = .ok (.laload, 1) := by decide +kernel
theorem dL_law_828 : decode cL_law 828 = .ok (.iload 6, 2) := by decide +kernel
theorem dL_law_830 : decode cL_law 830 = .ok (.i2l, 1) := by decide +kernel
theorem dL_law_831 : decode cL_law 831 = .ok (.lcmp, 1) := by decide +kernel
theorem dL_law_832 : decode cL_law 832 = .ok (.ifCond .eq 5, 3) := by decide +kernel
theorem dL_law_835 : decode cL_law 835 = .ok (.iconst 0, 1) := by decide +kernel
theorem dL_law_836 : decode cL_law 836 = .ok (.ireturn, 1) := by decide +kernel
theorem dL_law_837 : decode cL_law 837 = .ok (.goto 1654, 3) := by decide +kernel
theorem dL_law_840 : decode cL_law 840 = .ok (.aload_n 1, 1) := by decide +kernel
theorem dL_law_841 : decode cL_law 841 = .ok (.aload_n 0, 1) := by decide +kernel
theorem dL_law_842 : decode cL_law 842 = .ok (.iload 4, 2) := by decide +kernel
theorem dL_law_844 : decode cL_law 844 = .ok (.iconst 1, 1) := by decide +kernel
theorem dL_law_845 : decode cL_law 845 = .ok (.iadd, 1) := by decide +kernel
theorem dL_law_846 : decode cL_law 846 = .ok (.iaload, 1) := by decide +kernel
theorem dL_law_847 : decode cL_law 847 = .ok (.aload_n 0, 1) := by decide +kernel
theorem dL_law_848 : decode cL_law 848 = .ok (.iload 4, 2) := by decide +kernel
theorem dL_law_850 : decode cL_law 850 = .ok (.iconst 2, 1) := by decide +kernel
theorem dL_law_851 : decode cL_law 851 = .ok (.iadd, 1) := by decide +kernel
theorem dL_law_852 : decode cL_law 852 = .ok (.iaload, 1) := by decide +kernel
theorem dL_law_853 : decode cL_law 853 = .ok (.aload_n 3, 1) := by decide +kernel
theorem dL_law_854 : decode cL_law 854 = .ok (.invokestatic 165, 3) := by decide +kernel
theorem dL_law_857 : decode cL_law 857 = .ok (.istore 5, 2) := by decide +kernel
theorem dL_law_859 : decode cL_law 859 = .ok (.aload_n 2, 1) := by decide +kernel
theorem dL_law_860 : decode cL_law 860 = .ok (.aload_n 0, 1) := by decide +kernel
theorem dL_law_861 : decode cL_law 861 = .ok (.iload 4, 2) := by decide +kernel
theorem dL_law_863 : decode cL_law 863 = .ok (.iconst 1, 1) := by decide +kernel
theorem dL_law_864 : decode cL_law 864 = .ok (.iadd, 1) := by decide +kernel
theorem dL_law_865 : decode cL_law 865 = .ok (.iaload, 1) := by decide +kernel
theorem dL_law_866 : decode cL_law 866 = .ok (.aload_n 0, 1) := by decide +kernel
theorem dL_law_867 : decode cL_law 867 = .ok (.iload 4, 2) := by decide +kernel
theorem dL_law_869 : decode cL_law 869 = .ok (.iconst 2, 1) := by decide +kernel
theorem dL_law_870 : decode cL_law 870 = .ok (.iadd, 1) := by decide +kernel
theorem dL_law_871 : decode cL_law 871 = .ok (.iaload, 1) := by decide +kernel
theorem dL_law_872 : decode cL_law 872 = .ok (.invokevirtual 167, 3) := by decide +kernel
theorem dL_law_875 : decode cL_law 875 = .ok (.istore 6, 2) := by decide +kernel
theorem dL_law_877 : decode cL_law 877 = .ok (.aload_n 2, 1) := by decide +kernel
theorem dL_law_878 : decode cL_law 878 = .ok (.invokevirtual 133, 3) := by decide +kernel
theorem dL_law_881 : decode cL_law 881 = .ok (.iload 5, 2) := by decide +kernel
theorem dL_law_883 : decode cL_law 883 = .ok (.if_icmp .eq 5, 3) := by decide +kernel
theorem dL_law_886 : decode cL_law 886 = .ok (.iconst 0, 1) := by decide +kernel
theorem dL_law_887 : decode cL_law 887 = .ok (.ireturn, 1) := by decide +kernel
theorem dL_law_888 : decode cL_law 888 = .ok (.iload 5, 2) := by decide +kernel
theorem dL_law_890 : decode cL_law 890 = .ok (.ifCond .ne 15, 3) := by decide +kernel
theorem dL_law_893 : decode cL_law 893 = .ok (.aload_n 3, 1) := by decide +kernel
theorem dL_law_894 : decode cL_law 894 = .ok (.iconst 0, 1) := by decide +kernel
theorem dL_law_895 : decode cL_law 895 = .ok (.laload, 1) := by decide +kernel
theorem dL_law_896 : decode cL_law 896 = .ok (.iload 6, 2) := by decide +kernel
theorem dL_law_898 : decode cL_law 898 = .ok (.i2l, 1) := by decide +kernel
theorem dL_law_899 : decode cL_law 899 = .ok (.lcmp, 1) := by decide +kernel
theorem dL_law_900 : decode cL_law 900 = .ok (.ifCond .eq 5, 3) := by decide +kernel
theorem dL_law_903 : decode cL_law 903 = .ok (.iconst 0, 1) := by decide +kernel
theorem dL_law_904 : decode cL_law 904 = .ok (.ireturn, 1) := by decide +kernel
theorem dL_law_905 : decode cL_law 905 = .ok (.goto 1586, 3) := by decide +kernel
theorem dL_law_908 : decode cL_law 908 = .ok (.aload_n 1, 1) := by decide +kernel
theorem dL_law_909 : decode cL_law 909 = .ok (.aload_n 0, 1) := by decide +kernel
theorem dL_law_910 : decode cL_law 910 = .ok (.iload 4, 2) := by decide +kernel
theorem dL_law_912 : decode cL_law 912 = .ok (.iconst 1, 1) := by decide +kernel
theorem dL_law_913 : decode cL_law 913 = .ok (.iadd, 1) := by decide +kernel
theorem dL_law_914 : decode cL_law 914 = .ok (.iaload, 1) := by decide +kernel
theorem dL_law_915 : decode cL_law 915 = .ok (.aload_n 3, 1) := by decide +kernel
theorem dL_law_916 : decode cL_law 916 = .ok (.invokestatic 168, 3) := by decide +kernel
theorem dL_law_919 : decode cL_law 919 = .ok (.istore 5, 2) := by decide +kernel
theorem dL_law_921 : decode cL_law 921 = .ok (.aload_n 2, 1) := by decide +kernel
theorem dL_law_922 : decode cL_law 922 = .ok (.aload_n 0, 1) := by decide +kernel
theorem dL_law_923 : decode cL_law 923 = .ok (.iload 4, 2) := by decide +kernel
theorem dL_law_925 : decode cL_law 925 = .ok (.iconst 1, 1) := by decide +kernel
theorem dL_law_926 : decode cL_law 926 = .ok (.iadd, 1) := by decide +kernel
theorem dL_law_927 : decode cL_law 927 = .ok (.iaload, 1) := by decide +kernel
theorem dL_law_928 : decode cL_law 928 = .ok (.invokevirtual 170, 3) := by decide +kernel
theorem dL_law_931 : decode cL_law 931 = .ok (.istore 6, 2) := by decide +kernel
theorem dL_law_933 : decode cL_law 933 = .ok (.aload_n 2, 1) := by decide +kernel
theorem dL_law_934 : decode cL_law 934 = .ok (.invokevirtual 133, 3) := by decide +kernel
theorem dL_law_937 : decode cL_law 937 = .ok (.iload 5, 2) := by decide +kernel
theorem dL_law_939 : decode cL_law 939 = .ok (.if_icmp .eq 5, 3) := by decide +kernel
theorem dL_law_942 : decode cL_law 942 = .ok (.iconst 0, 1) := by decide +kernel
theorem dL_law_943 : decode cL_law 943 = .ok (.ireturn, 1) := by decide +kernel
theorem dL_law_944 : decode cL_law 944 = .ok (.iload 5, 2) := by decide +kernel
theorem dL_law_946 : decode cL_law 946 = .ok (.ifCond .ne 15, 3) := by decide +kernel
theorem dL_law_949 : decode cL_law 949 = .ok (.aload_n 3, 1) := by decide +kernel
theorem dL_law_950 : decode cL_law 950 = .ok (.iconst 0, 1) := by decide +kernel
theorem dL_law_951 : decode cL_law 951 = .ok (.laload, 1) := by decide +kernel
theorem dL_law_952 : decode cL_law 952 = .ok (.iload 6, 2) := by decide +kernel
theorem dL_law_954 : decode cL_law 954 = .ok (.i2l, 1) := by decide +kernel
theorem dL_law_955 : decode cL_law 955 = .ok (.lcmp, 1) := by decide +kernel
theorem dL_law_956 : decode cL_law 956 = .ok (.ifCond .eq 5, 3) := by decide +kernel
theorem dL_law_959 : decode cL_law 959 = .ok (.iconst 0, 1) := by decide +kernel
theorem dL_law_960 : decode cL_law 960 = .ok (.ireturn, 1) := by decide +kernel
theorem dL_law_961 : decode cL_law 961 = .ok (.goto 1530, 3) := by decide +kernel
theorem dL_law_964 : decode cL_law 964 = .ok (.aload_n 1, 1) := by decide +kernel
theorem dL_law_965 : decode cL_law 965 = .ok (.invokevirtual 171, 3) := by decide +kernel
theorem dL_law_968 : decode cL_law 968 = .ok (.aload_n 2, 1) := by decide +kernel
theorem dL_law_969 : decode cL_law 969 = .ok (.invokevirtual 174, 3) := by decide +kernel
theorem dL_law_972 : decode cL_law 972 = .ok (.if_icmp .eq 1519, 3) := by decide +kernel
theorem dL_law_975 : decode cL_law 975 = .ok (.iconst 0, 1) := by decide +kernel
theorem dL_law_976 : decode cL_law 976 = .ok (.ireturn, 1) := by decide +kernel
theorem dL_law_977 : decode cL_law 977 = .ok (.aload_n 1, 1) := by decide +kernel
theorem dL_law_978 : decode cL_law 978 = .ok (.aload_n 0, 1) := by decide +kernel
theorem dL_law_979 : decode cL_law 979 = .ok (.iload 4, 2) := by decide +kernel
theorem dL_law_981 : decode cL_law 981 = .ok (.iconst 1, 1) := by decide +kernel
theorem dL_law_982 : decode cL_law 982 = .ok (.iadd, 1) := by decide +kernel
theorem dL_law_983 : decode cL_law 983 = .ok (.iaload, 1) := by decide +kernel
theorem dL_law_984 : decode cL_law 984 = .ok (.aload_n 3, 1) := by decide +kernel
theorem dL_law_985 : decode cL_law 985 = .ok (.invokestatic 175, 3) := by decide +kernel
theorem dL_law_988 : decode cL_law 988 = .ok (.istore 5, 2) := by decide +kernel
theorem dL_law_990 : decode cL_law 990 = .ok (.aload_n 2, 1) := by decide +kernel
theorem dL_law_991 : decode cL_law 991 = .ok (.aload_n 0, 1) := by decide +kernel
theorem dL_law_992 : decode cL_law 992 = .ok (.iload 4, 2) := by decide +kernel
theorem dL_law_994 : decode cL_law 994 = .ok (.iconst 1, 1) := by decide +kernel
theorem dL_law_995 : decode cL_law 995 = .ok (.iadd, 1) := by decide +kernel
theorem dL_law_996 : decode cL_law 996 = .ok (.iaload, 1) := by decide +kernel
theorem dL_law_997 : decode cL_law 997 = .ok (.invokevirtual 177, 3) := by decide +kernel
theorem dL_law_1000 : decode cL_law 1000 = .ok (.istore 6, 2) := by decide +kernel
theorem dL_law_1002 : decode cL_law 1002 = .ok (.aload_n 2, 1) := by decide +kernel
theorem dL_law_1003 : decode cL_law 1003 = .ok (.invokevirtual 133, 3) := by decide +kernel
theorem dL_law_1006 : decode cL_law 1006 = .ok (.iload 5, 2) := by decide +kernel
theorem dL_law_1008 : decode cL_law 1008 = .ok (.if_icmp .eq 5, 3) := by decide +kernel
theorem dL_law_1011 : decode cL_law 1011 = .ok (.iconst 0, 1) := by decide +kernel
theorem dL_law_1012 : decode cL_law 1012 = .ok (.ireturn, 1) := by decide +kernel
theorem dL_law_1013 : decode cL_law 1013 = .ok (.iload 5, 2) := by decide +kernel
theorem dL_law_1015 : decode cL_law 1015 = .ok (.ifCond .ne 22, 3) := by decide +kernel
theorem dL_law_1018 : decode cL_law 1018 = .ok (.aload_n 3, 1) := by decide +kernel
theorem dL_law_1019 : decode cL_law 1019 = .ok (.iconst 0, 1) := by decide +kernel
theorem dL_law_1020 : decode cL_law 1020 = .ok (.laload, 1) := by decide +kernel
theorem dL_law_1021 : decode cL_law 1021 = .ok (.iload 6, 2) := by decide +kernel
theorem dL_law_1023 : decode cL_law 1023 = .ok (.ifCond .eq 7, 3) := by decide +kernel
theorem dL_law_1026 : decode cL_law 1026 = .ok (.lconst 1, 1) := by decide +kernel
theorem dL_law_1027 : decode cL_law 1027 = .ok (.goto 4, 3) := by decide +kernel
theorem dL_law_1030 : decode cL_law 1030 = .ok (.lconst 0, 1) := by decide +kernel
theorem dL_law_1031 : decode cL_law 1031 = .ok (.lcmp, 1) := by decide +kernel
theorem dL_law_1032 : decode cL_law 1032 = .ok (.ifCond .eq 5, 3) := by decide +kernel
theorem dL_law_1035 : decode cL_law 1035 = .ok (.iconst 0, 1) := by decide +kernel
theorem dL_law_1036 : decode cL_law 1036 = .ok (.ireturn, 1) := by decide +kernel
theorem dL_law_1037 : decode cL_law 1037 = .ok (.goto 1454, 3) := by decide +kernel
theorem dL_law_1040 : decode cL_law 1040 = .ok (.aload_n 1, 1) := by decide +kernel
theorem dL_law_1041 : decode cL_law 1041 = .ok (.aload_n 0, 1) := by decide +kernel
theorem dL_law_1042 : decode cL_law 1042 = .ok (.iload 4, 2) := by decide +kernel
theorem dL_law_1044 : decode cL_law 1044 = .ok (.iconst 1, 1) := by decide +kernel
theorem dL_law_1045 : decode cL_law 1045 = .ok (.iadd, 1) := by decide +kernel
theorem dL_law_1046 : decode cL_law 1046 = .ok (.iaload, 1) := by decide +kernel
theorem dL_law_1047 : decode cL_law 1047 = .ok (.aload_n 3, 1) := by decide +kernel
theorem dL_law_1048 : decode cL_law 1048 = .ok (.invokestatic 178, 3) := by decide +kernel
theorem dL_law_1051 : decode cL_law 1051 = .ok (.istore 5, 2) := by decide +kernel
theorem dL_law_1053 : decode cL_law 1053 = .ok (.aload_n 2, 1) := by decide +kernel
theorem dL_law_1054 : decode cL_law 1054 = .ok (.aload_n 0, 1) := by decide +kernel
theorem dL_law_1055 : decode cL_law 1055 = .ok (.iload 4, 2) := by decide +kernel
theorem dL_law_1057 : decode cL_law 1057 = .ok (.iconst 1, 1) := by decide +kernel
theorem dL_law_1058 : decode cL_law 1058 = .ok (.iadd, 1) := by decide +kernel
theorem dL_law_1059 : decode cL_law 1059 = .ok (.iaload, 1) := by decide +kernel
theorem dL_law_1060 : decode cL_law 1060 = .ok (.invokevirtual 180, 3) := by decide +kernel
theorem dL_law_1063 : decode cL_law 1063 = .ok (.istore 6, 2) := by decide +kernel
theorem dL_law_1065 : decode cL_law 1065 = .ok (.aload_n 2, 1) := by decide +kernel
theorem dL_law_1066 : decode cL_law 1066 = .ok (.invokevirtual 133, 3) := by decide +kernel
theorem dL_law_1069 : decode cL_law 1069 = .ok (.iload 5, 2) := by decide +kernel
theorem dL_law_1071 : decode cL_law 1071 = .ok (.if_icmp .eq 5, 3) := by decide +kernel
theorem dL_law_1074 : decode cL_law 1074 = .ok (.iconst 0, 1) := by decide +kernel
theorem dL_law_1075 : decode cL_law 1075 = .ok (.ireturn, 1) := by decide +kernel
theorem dL_law_1076 : decode cL_law 1076 = .ok (.iload 5, 2) := by decide +kernel
theorem dL_law_1078 : decode cL_law 1078 = .ok (.ifCond .ne 15, 3) := by decide +kernel
theorem dL_law_1081 : decode cL_law 1081 = .ok (.aload_n 3, 1) := by decide +kernel
theorem dL_law_1082 : decode cL_law 1082 = .ok (.iconst 0, 1) := by decide +kernel
theorem dL_law_1083 : decode cL_law 1083 = .ok (.laload, 1) := by decide +kernel
theorem dL_law_1084 : decode cL_law 1084 = .ok (.iload 6, 2) := by decide +kernel
theorem dL_law_1086 : decode cL_law 1086 = .ok (.i2l, 1) := by decide +kernel
theorem dL_law_1087 : decode cL_law 1087 = .ok (.lcmp, 1) := by decide +kernel
theorem dL_law_1088 : decode cL_law 1088 = .ok (.ifCond .eq 5, 3) := by decide +kernel
theorem dL_law_1091 : decode cL_law 1091 = .ok (.iconst 0, 1) := by decide +kernel
theorem dL_law_1092 : decode cL_law 1092 = .ok (.ireturn, 1) := by decide +kernel
theorem dL_law_1093 : decode cL_law 1093 = .ok (.goto 1398, 3) := by decide +kernel
theorem dL_law_1096 : decode cL_law 1096 = .ok (.aload_n 1, 1) := by decide +kernel
theorem dL_law_1097 : decode cL_law 1097 = .ok (.aload_n 0, 1) := by decide +kernel
theorem dL_law_1098 : decode cL_law 1098 = .ok (.iload 4, 2) := by decide +kernel
theorem dL_law_1100 : decode cL_law 1100 = .ok (.iconst 1, 1) := by decide +kernel
theorem dL_law_1101 : decode cL_law 1101 = .ok (.iadd, 1) := by decide +kernel
theorem dL_law_1102 : decode cL_law 1102 = .ok (.iaload, 1) := by decide +kernel
theorem dL_law_1103 : decode cL_law 1103 = .ok (.aload_n 3, 1) := by decide +kernel
theorem dL_law_1104 : decode cL_law 1104 = .ok (.invokestatic 181, 3) := by decide +kernel
theorem dL_law_1107 : decode cL_law 1107 = .ok (.istore 5, 2) := by decide +kernel
theorem dL_law_1109 : decode cL_law 1109 = .ok (.aload_n 2, 1) := by decide +kernel
theorem dL_law_1110 : decode cL_law 1110 = .ok (.aload_n 0, 1) := by decide +kernel
theorem dL_law_1111 : decode cL_law 1111 = .ok (.iload 4, 2) := by decide +kernel
theorem dL_law_1113 : decode cL_law 1113 = .ok (.iconst 1, 1) := by decide +kernel
theorem dL_law_1114 : decode cL_law 1114 = .ok (.iadd, 1) := by decide +kernel
theorem dL_law_1115 : decode cL_law 1115 = .ok (.iaload, 1) := by decide +kernel
theorem dL_law_1116 : decode cL_law 1116 = .ok (.invokevirtual 183, 3) := by decide +kernel
theorem dL_law_1119 : decode cL_law 1119 = .ok (.istore 6, 2) := by decide +kernel
theorem dL_law_1121 : decode cL_law 1121 = .ok (.aload_n 2, 1) := by decide +kernel
theorem dL_law_1122 : decode cL_law 1122 = .ok (.invokevirtual 133, 3) := by decide +kernel
theorem dL_law_1125 : decode cL_law 1125 = .ok (.iload 5, 2) := by decide +kernel
theorem dL_law_1127 : decode cL_law 1127 = .ok (.if_icmp .eq 5, 3) := by decide +kernel
theorem dL_law_1130 : decode cL_law 1130 = .ok (.iconst 0, 1) := by decide +kernel
theorem dL_law_1131 : decode cL_law 1131 = .ok (.ireturn, 1) := by decide +kernel
theorem dL_law_1132 : decode cL_law 1132 = .ok (.iload 5, 2) := by decide +kernel
theorem dL_law_1134 : decode cL_law 1134 = .ok (.ifCond .ne 15, 3) := by decide +kernel
theorem dL_law_1137 : decode cL_law 1137 = .ok (.aload_n 3, 1) := by decide +kernel
theorem dL_law_1138 : decode cL_law 1138 = .ok (.iconst 0, 1) := by decide +kernel
theorem dL_law_1139 : decode cL_law 1139 = .ok (.laload, 1) := by decide +kernel
theorem dL_law_1140 : decode cL_law 1140 = .ok (.iload 6, 2) := by decide +kernel
theorem dL_law_1142 : decode cL_law 1142 = .ok (.i2l, 1) := by decide +kernel
theorem dL_law_1143 : decode cL_law 1143 = .ok (.lcmp, 1) := by decide +kernel
theorem dL_law_1144 : decode cL_law 1144 = .ok (.ifCond .eq 5, 3) := by decide +kernel
theorem dL_law_1147 : decode cL_law 1147 = .ok (.iconst 0, 1) := by decide +kernel
theorem dL_law_1148 : decode cL_law 1148 = .ok (.ireturn, 1) := by decide +kernel
theorem dL_law_1149 : decode cL_law 1149 = .ok (.goto 1342, 3) := by decide +kernel
theorem dL_law_1152 : decode cL_law 1152 = .ok (.aload_n 1, 1) := by decide +kernel
theorem dL_law_1153 : decode cL_law 1153 = .ok (.aload_n 0, 1) := by decide +kernel
theorem dL_law_1154 : decode cL_law 1154 = .ok (.iload 4, 2) := by decide +kernel
theorem dL_law_1156 : decode cL_law 1156 = .ok (.iconst 1, 1) := by decide +kernel
theorem dL_law_1157 : decode cL_law 1157 = .ok (.iadd, 1) := by decide +kernel
theorem dL_law_1158 : decode cL_law 1158 = .ok (.iaload, 1) := by decide +kernel
theorem dL_law_1159 : decode cL_law 1159 = .ok (.aload_n 3, 1) := by decide +kernel
theorem dL_law_1160 : decode cL_law 1160 = .ok (.invokestatic 184, 3) := by decide +kernel
theorem dL_law_1163 : decode cL_law 1163 = .ok (.istore 5, 2) := by decide +kernel
theorem dL_law_1165 : decode cL_law 1165 = .ok (.aload_n 2, 1) := by decide +kernel
theorem dL_law_1166 : decode cL_law 1166 = .ok (.aload_n 0, 1) := by decide +kernel
theorem dL_law_1167 : decode cL_law 1167 = .ok (.iload 4, 2) := by decide +kernel
theorem dL_law_1169 : decode cL_law 1169 = .ok (.iconst 1, 1) := by decide +kernel
theorem dL_law_1170 : decode cL_law 1170 = .ok (.iadd, 1) := by decide +kernel
theorem dL_law_1171 : decode cL_law 1171 = .ok (.iaload, 1) := by decide +kernel
theorem dL_law_1172 : decode cL_law 1172 = .ok (.invokevirtual 186, 3) := by decide +kernel
theorem dL_law_1175 : decode cL_law 1175 = .ok (.istore 6, 2) := by decide +kernel
theorem dL_law_1177 : decode cL_law 1177 = .ok (.aload_n 2, 1) := by decide +kernel
theorem dL_law_1178 : decode cL_law 1178 = .ok (.invokevirtual 133, 3) := by decide +kernel
theorem dL_law_1181 : decode cL_law 1181 = .ok (.iload 5, 2) := by decide +kernel
theorem dL_law_1183 : decode cL_law 1183 = .ok (.if_icmp .eq 5, 3) := by decide +kernel
theorem dL_law_1186 : decode cL_law 1186 = .ok (.iconst 0, 1) := by decide +kernel
theorem dL_law_1187 : decode cL_law 1187 = .ok (.ireturn, 1) := by decide +kernel
theorem dL_law_1188 : decode cL_law 1188 = .ok (.iload 5, 2) := by decide +kernel
theorem dL_law_1190 : decode cL_law 1190 = .ok (.ifCond .ne 15, 3) := by decide +kernel
theorem dL_law_1193 : decode cL_law 1193 = .ok (.aload_n 3, 1) := by decide +kernel
theorem dL_law_1194 : decode cL_law 1194 = .ok (.iconst 0, 1) := by decide +kernel
theorem dL_law_1195 : decode cL_law 1195 = .ok (.laload, 1) := by decide +kernel
theorem dL_law_1196 : decode cL_law 1196 = .ok (.iload 6, 2) := by decide +kernel
theorem dL_law_1198 : decode cL_law 1198 = .ok (.i2l, 1) := by decide +kernel
theorem dL_law_1199 : decode cL_law 1199 = .ok (.lcmp, 1) := by decide +kernel
theorem dL_law_1200 : decode cL_law 1200 = .ok (.ifCond .eq 5, 3) := by decide +kernel
theorem dL_law_1203 : decode cL_law 1203 = .ok (.iconst 0, 1) := by decide +kernel
theorem dL_law_1204 : decode cL_law 1204 = .ok (.ireturn, 1) := by decide +kernel
theorem dL_law_1205 : decode cL_law 1205 = .ok (.goto 1286, 3) := by decide +kernel
theorem dL_law_1208 : decode cL_law 1208 = .ok (.aload_n 1, 1) := by decide +kernel
theorem dL_law_1209 : decode cL_law 1209 = .ok (.aload_n 0, 1) := by decide +kernel
theorem dL_law_1210 : decode cL_law 1210 = .ok (.iload 4, 2) := by decide +kernel
theorem dL_law_1212 : decode cL_law 1212 = .ok (.iconst 1, 1) := by decide +kernel
theorem dL_law_1213 : decode cL_law 1213 = .ok (.iadd, 1) := by decide +kernel
theorem dL_law_1214 : decode cL_law 1214 = .ok (.iaload, 1) := by decide +kernel
theorem dL_law_1215 : decode cL_law 1215 = .ok (.aload_n 0, 1) := by decide +kernel
theorem dL_law_1216 : decode cL_law 1216 = .ok (.iload 4, 2) := by decide +kernel
theorem dL_law_1218 : decode cL_law 1218 = .ok (.iconst 2, 1) := by decide +kernel
theorem dL_law_1219 : decode cL_law 1219 = .ok (.iadd, 1) := by decide +kernel
theorem dL_law_1220 : decode cL_law 1220 = .ok (.iaload, 1) := by decide +kernel
theorem dL_law_1221 : decode cL_law 1221 = .ok (.aload_n 3, 1) := by decide +kernel
theorem dL_law_1222 : decode cL_law 1222 = .ok (.invokestatic 187, 3) := by decide +kernel
theorem dL_law_1225 : decode cL_law 1225 = .ok (.istore 5, 2) := by decide +kernel
theorem dL_law_1227 : decode cL_law 1227 = .ok (.aload_n 2, 1) := by decide +kernel
theorem dL_law_1228 : decode cL_law 1228 = .ok (.aload_n 0, 1) := by decide +kernel
theorem dL_law_1229 : decode cL_law 1229 = .ok (.iload 4, 2) := by decide +kernel
theorem dL_law_1231 : decode cL_law 1231 = .ok (.iconst 1, 1) := by decide +kernel
theorem dL_law_1232 : decode cL_law 1232 = .ok (.iadd, 1) := by decide +kernel
theorem dL_law_1233 : decode cL_law 1233 = .ok (.iaload, 1) := by decide +kernel
theorem dL_law_1234 : decode cL_law 1234 = .ok (.aload_n 0, 1) := by decide +kernel
theorem dL_law_1235 : decode cL_law 1235 = .ok (.iload 4, 2) := by decide +kernel
theorem dL_law_1237 : decode cL_law 1237 = .ok (.iconst 2, 1) := by decide +kernel
theorem dL_law_1238 : decode cL_law 1238 = .ok (.iadd, 1) := by decide +kernel
theorem dL_law_1239 : decode cL_law 1239 = .ok (.iaload, 1) := by decide +kernel
theorem dL_law_1240 : decode cL_law 1240 = .ok (.invokevirtual 189, 3) := by decide +kernel
theorem dL_law_1243 : decode cL_law 1243 = .ok (.istore 6, 2) := by decide +kernel
theorem dL_law_1245 : decode cL_law 1245 = .ok (.aload_n 2, 1) := by decide +kernel
theorem dL_law_1246 : decode cL_law 1246 = .ok (.invokevirtual 133, 3) := by decide +kernel
theorem dL_law_1249 : decode cL_law 1249 = .ok (.iload 5, 2) := by decide +kernel
theorem dL_law_1251 : decode cL_law 1251 = .ok (.if_icmp .eq 5, 3) := by decide +kernel
theorem dL_law_1254 : decode cL_law 1254 = .ok (.iconst 0, 1) := by decide +kernel
theorem dL_law_1255 : decode cL_law 1255 = .ok (.ireturn, 1) := by decide +kernel
theorem dL_law_1256 : decode cL_law 1256 = .ok (.iload 5, 2) := by decide +kernel
theorem dL_law_1258 : decode cL_law 1258 = .ok (.ifCond .ne 22, 3) := by decide +kernel
theorem dL_law_1261 : decode cL_law 1261 = .ok (.aload_n 3, 1) := by decide +kernel
theorem dL_law_1262 : decode cL_law 1262 = .ok (.iconst 0, 1) := by decide +kernel
theorem dL_law_1263 : decode cL_law 1263 = .ok (.laload, 1) := by decide +kernel
theorem dL_law_1264 : decode cL_law 1264 = .ok (.iload 6, 2) := by decide +kernel
theorem dL_law_1266 : decode cL_law 1266 = .ok (.ifCond .eq 7, 3) := by decide +kernel
theorem dL_law_1269 : decode cL_law 1269 = .ok (.lconst 1, 1) := by decide +kernel
theorem dL_law_1270 : decode cL_law 1270 = .ok (.goto 4, 3) := by decide +kernel
theorem dL_law_1273 : decode cL_law 1273 = .ok (.lconst 0, 1) := by decide +kernel
theorem dL_law_1274 : decode cL_law 1274 = .ok (.lcmp, 1) := by decide +kernel
theorem dL_law_1275 : decode cL_law 1275 = .ok (.ifCond .eq 5, 3) := by decide +kernel
theorem dL_law_1278 : decode cL_law 1278 = .ok (.iconst 0, 1) := by decide +kernel
theorem dL_law_1279 : decode cL_law 1279 = .ok (.ireturn, 1) := by decide +kernel
theorem dL_law_1280 : decode cL_law 1280 = .ok (.goto 1211, 3) := by decide +kernel
theorem dL_law_1283 : decode cL_law 1283 = .ok (.aload_n 1, 1) := by decide +kernel
theorem dL_law_1284 : decode cL_law 1284 = .ok (.aload_n 0, 1) := by decide +kernel
theorem dL_law_1285 : decode cL_law 1285 = .ok (.iload 4, 2) := by decide +kernel
theorem dL_law_1287 : decode cL_law 1287 = .ok (.iconst 1, 1) := by decide +kernel
theorem dL_law_1288 : decode cL_law 1288 = .ok (.iadd, 1) := by decide +kernel
theorem dL_law_1289 : decode cL_law 1289 = .ok (.iaload, 1) := by decide +kernel
theorem dL_law_1290 : decode cL_law 1290 = .ok (.aload_n 0, 1) := by decide +kernel
theorem dL_law_1291 : decode cL_law 1291 = .ok (.iload 4, 2) := by decide +kernel
theorem dL_law_1293 : decode cL_law 1293 = .ok (.iconst 2, 1) := by decide +kernel
theorem dL_law_1294 : decode cL_law 1294 = .ok (.iadd, 1) := by decide +kernel
theorem dL_law_1295 : decode cL_law 1295 = .ok (.iaload, 1) := by decide +kernel
theorem dL_law_1296 : decode cL_law 1296 = .ok (.aload_n 3, 1) := by decide +kernel
theorem dL_law_1297 : decode cL_law 1297 = .ok (.invokestatic 190, 3) := by decide +kernel
theorem dL_law_1300 : decode cL_law 1300 = .ok (.istore 5, 2) := by decide +kernel
theorem dL_law_1302 : decode cL_law 1302 = .ok (.aload_n 2, 1) := by decide +kernel
theorem dL_law_1303 : decode cL_law 1303 = .ok (.aload_n 0, 1) := by decide +kernel
theorem dL_law_1304 : decode cL_law 1304 = .ok (.iload 4, 2) := by decide +kernel
theorem dL_law_1306 : decode cL_law 1306 = .ok (.iconst 1, 1) := by decide +kernel
theorem dL_law_1307 : decode cL_law 1307 = .ok (.iadd, 1) := by decide +kernel
theorem dL_law_1308 : decode cL_law 1308 = .ok (.iaload, 1) := by decide +kernel
theorem dL_law_1309 : decode cL_law 1309 = .ok (.aload_n 0, 1) := by decide +kernel
theorem dL_law_1310 : decode cL_law 1310 = .ok (.iload 4, 2) := by decide +kernel
theorem dL_law_1312 : decode cL_law 1312 = .ok (.iconst 2, 1) := by decide +kernel
theorem dL_law_1313 : decode cL_law 1313 = .ok (.iadd, 1) := by decide +kernel
theorem dL_law_1314 : decode cL_law 1314 = .ok (.iaload, 1) := by decide +kernel
theorem dL_law_1315 : decode cL_law 1315 = .ok (.invokevirtual 192, 3) := by decide +kernel
theorem dL_law_1318 : decode cL_law 1318 = .ok (.istore 6, 2) := by decide +kernel
theorem dL_law_1320 : decode cL_law 1320 = .ok (.aload_n 2, 1) := by decide +kernel
theorem dL_law_1321 : decode cL_law 1321 = .ok (.invokevirtual 133, 3) := by decide +kernel
theorem dL_law_1324 : decode cL_law 1324 = .ok (.iload 5, 2) := by decide +kernel
theorem dL_law_1326 : decode cL_law 1326 = .ok (.if_icmp .eq 5, 3) := by decide +kernel
theorem dL_law_1329 : decode cL_law 1329 = .ok (.iconst 0, 1) := by decide +kernel
theorem dL_law_1330 : decode cL_law 1330 = .ok (.ireturn, 1) := by decide +kernel
theorem dL_law_1331 : decode cL_law 1331 = .ok (.iload 5, 2) := by decide +kernel
theorem dL_law_1333 : decode cL_law 1333 = .ok (.ifCond .ne 15, 3) := by decide +kernel
theorem dL_law_1336 : decode cL_law 1336 = .ok (.aload_n 3, 1) := by decide +kernel
theorem dL_law_1337 : decode cL_law 1337 = .ok (.iconst 0, 1) := by decide +kernel
theorem dL_law_1338 : decode cL_law 1338 = .ok (.laload, 1) := by decide +kernel
theorem dL_law_1339 : decode cL_law 1339 = .ok (.iload 6, 2) := by decide +kernel
theorem dL_law_1341 : decode cL_law 1341 = .ok (.i2l, 1) := by decide +kernel
theorem dL_law_1342 : decode cL_law 1342 = .ok (.lcmp, 1) := by decide +kernel
theorem dL_law_1343 : decode cL_law 1343 = .ok (.ifCond .eq 5, 3) := by decide +kernel
theorem dL_law_1346 : decode cL_law 1346 = .ok (.iconst 0, 1) := by decide +kernel
theorem dL_law_1347 : decode cL_law 1347 = .ok (.ireturn, 1) := by decide +kernel
theorem dL_law_1348 : decode cL_law 1348 = .ok (.goto 1143, 3) := by decide +kernel
theorem dL_law_1351 : decode cL_law 1351 = .ok (.aload_n 1, 1) := by decide +kernel
theorem dL_law_1352 : decode cL_law 1352 = .ok (.aload_n 0, 1) := by decide +kernel
theorem dL_law_1353 : decode cL_law 1353 = .ok (.iload 4, 2) := by decide +kernel
theorem dL_law_1355 : decode cL_law 1355 = .ok (.iconst 1, 1) := by decide +kernel
theorem dL_law_1356 : decode cL_law 1356 = .ok (.iadd, 1) := by decide +kernel
theorem dL_law_1357 : decode cL_law 1357 = .ok (.iaload, 1) := by decide +kernel
theorem dL_law_1358 : decode cL_law 1358 = .ok (.aload_n 3, 1) := by decide +kernel
theorem dL_law_1359 : decode cL_law 1359 = .ok (.invokestatic 193, 3) := by decide +kernel
theorem dL_law_1362 : decode cL_law 1362 = .ok (.istore 5, 2) := by decide +kernel
theorem dL_law_1364 : decode cL_law 1364 = .ok (.aload_n 2, 1) := by decide +kernel
theorem dL_law_1365 : decode cL_law 1365 = .ok (.aload_n 0, 1) := by decide +kernel
theorem dL_law_1366 : decode cL_law 1366 = .ok (.iload 4, 2) := by decide +kernel
theorem dL_law_1368 : decode cL_law 1368 = .ok (.iconst 1, 1) := by decide +kernel
theorem dL_law_1369 : decode cL_law 1369 = .ok (.iadd, 1) := by decide +kernel
theorem dL_law_1370 : decode cL_law 1370 = .ok (.iaload, 1) := by decide +kernel
theorem dL_law_1371 : decode cL_law 1371 = .ok (.invokevirtual 195, 3) := by decide +kernel
theorem dL_law_1374 : decode cL_law 1374 = .ok (.istore 6, 2) := by decide +kernel
theorem dL_law_1376 : decode cL_law 1376 = .ok (.aload_n 2, 1) := by decide +kernel
theorem dL_law_1377 : decode cL_law 1377 = .ok (.invokevirtual 133, 3) := by decide +kernel
theorem dL_law_1380 : decode cL_law 1380 = .ok (.iload 5, 2) := by decide +kernel
theorem dL_law_1382 : decode cL_law 1382 = .ok (.if_icmp .eq 5, 3) := by decide +kernel
theorem dL_law_1385 : decode cL_law 1385 = .ok (.iconst 0, 1) := by decide +kernel
theorem dL_law_1386 : decode cL_law 1386 = .ok (.ireturn, 1) := by decide +kernel
theorem dL_law_1387 : decode cL_law 1387 = .ok (.iload 5, 2) := by decide +kernel
theorem dL_law_1389 : decode cL_law 1389 = .ok (.ifCond .ne 15, 3) := by decide +kernel
theorem dL_law_1392 : decode cL_law 1392 = .ok (.aload_n 3, 1) := by decide +kernel
theorem dL_law_1393 : decode cL_law 1393 = .ok (.iconst 0, 1) := by decide +kernel
theorem dL_law_1394 : decode cL_law 1394 = .ok (.laload, 1) := by decide +kernel
theorem dL_law_1395 : decode cL_law 1395 = .ok (.iload 6, 2) := by decide +kernel
theorem dL_law_1397 : decode cL_law 1397 = .ok (.i2l, 1) := by decide +kernel
theorem dL_law_1398 : decode cL_law 1398 = .ok (.lcmp, 1) := by decide +kernel
theorem dL_law_1399 : decode cL_law 1399 = .ok (.ifCond .eq 5, 3) := by decide +kernel
theorem dL_law_1402 : decode cL_law 1402 = .ok (.iconst 0, 1) := by decide +kernel
theorem dL_law_1403 : decode cL_law 1403 = .ok (.ireturn, 1) := by decide +kernel
theorem dL_law_1404 : decode cL_law 1404 = .ok (.goto 1087, 3) := by decide +kernel
theorem dL_law_1407 : decode cL_law 1407 = .ok (.aload_n 1, 1) := by decide +kernel
theorem dL_law_1408 : decode cL_law 1408 = .ok (.aload_n 0, 1) := by decide +kernel
theorem dL_law_1409 : decode cL_law 1409 = .ok (.iload 4, 2) := by decide +kernel
theorem dL_law_1411 : decode cL_law 1411 = .ok (.iconst 1, 1) := by decide +kernel
theorem dL_law_1412 : decode cL_law 1412 = .ok (.iadd, 1) := by decide +kernel
theorem dL_law_1413 : decode cL_law 1413 = .ok (.iaload, 1) := by decide +kernel
theorem dL_law_1414 : decode cL_law 1414 = .ok (.aload_n 0, 1) := by decide +kernel
theorem dL_law_1415 : decode cL_law 1415 = .ok (.iload 4, 2) := by decide +kernel
theorem dL_law_1417 : decode cL_law 1417 = .ok (.iconst 2, 1) := by decide +kernel
theorem dL_law_1418 : decode cL_law 1418 = .ok (.iadd, 1) := by decide +kernel
theorem dL_law_1419 : decode cL_law 1419 = .ok (.iaload, 1) := by decide +kernel
theorem dL_law_1420 : decode cL_law 1420 = .ok (.aload_n 3, 1) := by decide +kernel
theorem dL_law_1421 : decode cL_law 1421 = .ok (.invokestatic 196, 3) := by decide +kernel
theorem dL_law_1424 : decode cL_law 1424 = .ok (.istore 5, 2) := by decide +kernel
theorem dL_law_1426 : decode cL_law 1426 = .ok (.aload_n 2, 1) := by decide +kernel
theorem dL_law_1427 : decode cL_law 1427 = .ok (.aload_n 0, 1) := by decide +kernel
theorem dL_law_1428 : decode cL_law 1428 = .ok (.iload 4, 2) := by decide +kernel
theorem dL_law_1430 : decode cL_law 1430 = .ok (.iconst 1, 1) := by decide +kernel
theorem dL_law_1431 : decode cL_law 1431 = .ok (.iadd, 1) := by decide +kernel
theorem dL_law_1432 : decode cL_law 1432 = .ok (.iaload, 1) := by decide +kernel
theorem dL_law_1433 : decode cL_law 1433 = .ok (.aload_n 0, 1) := by decide +kernel
theorem dL_law_1434 : decode cL_law 1434 = .ok (.iload 4, 2) := by decide +kernel
theorem dL_law_1436 : decode cL_law 1436 = .ok (.iconst 2, 1) := by decide +kernel
theorem dL_law_1437 : decode cL_law 1437 = .ok (.iadd, 1) := by decide +kernel
theorem dL_law_1438 : decode cL_law 1438 = .ok (.iaload, 1) := by decide +kernel
theorem dL_law_1439 : decode cL_law 1439 = .ok (.invokevirtual 198, 3) := by decide +kernel
theorem dL_law_1442 : decode cL_law 1442 = .ok (.istore 6, 2) := by decide +kernel
theorem dL_law_1444 : decode cL_law 1444 = .ok (.aload_n 2, 1) := by decide +kernel
theorem dL_law_1445 : decode cL_law 1445 = .ok (.invokevirtual 133, 3) := by decide +kernel
theorem dL_law_1448 : decode cL_law 1448 = .ok (.iload 5, 2) := by decide +kernel
theorem dL_law_1450 : decode cL_law 1450 = .ok (.if_icmp .eq 5, 3) := by decide +kernel
theorem dL_law_1453 : decode cL_law 1453 = .ok (.iconst 0, 1) := by decide +kernel
theorem dL_law_1454 : decode cL_law 1454 = .ok (.ireturn, 1) := by decide +kernel
theorem dL_law_1455 : decode cL_law 1455 = .ok (.iload 5, 2) := by decide +kernel
theorem dL_law_1457 : decode cL_law 1457 = .ok (.ifCond .ne 22, 3) := by decide +kernel
theorem dL_law_1460 : decode cL_law 1460 = .ok (.aload_n 3, 1) := by decide +kernel
theorem dL_law_1461 : decode cL_law 1461 = .ok (.iconst 0, 1) := by decide +kernel
theorem dL_law_1462 : decode cL_law 1462 = .ok (.laload, 1) := by decide +kernel
theorem dL_law_1463 : decode cL_law 1463 = .ok (.iload 6, 2) := by decide +kernel
theorem dL_law_1465 : decode cL_law 1465 = .ok (.ifCond .eq 7, 3) := by decide +kernel
theorem dL_law_1468 : decode cL_law 1468 = .ok (.lconst 1, 1) := by decide +kernel
theorem dL_law_1469 : decode cL_law 1469 = .ok (.goto 4, 3) := by decide +kernel
theorem dL_law_1472 : decode cL_law 1472 = .ok (.lconst 0, 1) := by decide +kernel
theorem dL_law_1473 : decode cL_law 1473 = .ok (.lcmp, 1) := by decide +kernel
theorem dL_law_1474 : decode cL_law 1474 = .ok (.ifCond .eq 5, 3) := by decide +kernel
theorem dL_law_1477 : decode cL_law 1477 = .ok (.iconst 0, 1) := by decide +kernel
theorem dL_law_1478 : decode cL_law 1478 = .ok (.ireturn, 1) := by decide +kernel
theorem dL_law_1479 : decode cL_law 1479 = .ok (.goto 1012, 3) := by decide +kernel
theorem dL_law_1482 : decode cL_law 1482 = .ok (.aload_n 1, 1) := by decide +kernel
theorem dL_law_1483 : decode cL_law 1483 = .ok (.aload_n 0, 1) := by decide +kernel
theorem dL_law_1484 : decode cL_law 1484 = .ok (.iload 4, 2) := by decide +kernel
theorem dL_law_1486 : decode cL_law 1486 = .ok (.iconst 1, 1) := by decide +kernel
theorem dL_law_1487 : decode cL_law 1487 = .ok (.iadd, 1) := by decide +kernel
theorem dL_law_1488 : decode cL_law 1488 = .ok (.iaload, 1) := by decide +kernel
theorem dL_law_1489 : decode cL_law 1489 = .ok (.aload_n 0, 1) := by decide +kernel
theorem dL_law_1490 : decode cL_law 1490 = .ok (.iload 4, 2) := by decide +kernel
theorem dL_law_1492 : decode cL_law 1492 = .ok (.iconst 2, 1) := by decide +kernel
theorem dL_law_1493 : decode cL_law 1493 = .ok (.iadd, 1) := by decide +kernel
theorem dL_law_1494 : decode cL_law 1494 = .ok (.iaload, 1) := by decide +kernel
theorem dL_law_1495 : decode cL_law 1495 = .ok (.aload_n 3, 1) := by decide +kernel
theorem dL_law_1496 : decode cL_law 1496 = .ok (.invokestatic 199, 3) := by decide +kernel
theorem dL_law_1499 : decode cL_law 1499 = .ok (.istore 5, 2) := by decide +kernel
theorem dL_law_1501 : decode cL_law 1501 = .ok (.aload_n 2, 1) := by decide +kernel
theorem dL_law_1502 : decode cL_law 1502 = .ok (.aload_n 0, 1) := by decide +kernel
theorem dL_law_1503 : decode cL_law 1503 = .ok (.iload 4, 2) := by decide +kernel
theorem dL_law_1505 : decode cL_law 1505 = .ok (.iconst 1, 1) := by decide +kernel
theorem dL_law_1506 : decode cL_law 1506 = .ok (.iadd, 1) := by decide +kernel
theorem dL_law_1507 : decode cL_law 1507 = .ok (.iaload, 1) := by decide +kernel
theorem dL_law_1508 : decode cL_law 1508 = .ok (.aload_n 0, 1) := by decide +kernel
theorem dL_law_1509 : decode cL_law 1509 = .ok (.iload 4, 2) := by decide +kernel
theorem dL_law_1511 : decode cL_law 1511 = .ok (.iconst 2, 1) := by decide +kernel
theorem dL_law_1512 : decode cL_law 1512 = .ok (.iadd, 1) := by decide +kernel
theorem dL_law_1513 : decode cL_law 1513 = .ok (.iaload, 1) := by decide +kernel
theorem dL_law_1514 : decode cL_law 1514 = .ok (.invokevirtual 201, 3) := by decide +kernel
theorem dL_law_1517 : decode cL_law 1517 = .ok (.istore 6, 2) := by decide +kernel
theorem dL_law_1519 : decode cL_law 1519 = .ok (.aload_n 2, 1) := by decide +kernel
theorem dL_law_1520 : decode cL_law 1520 = .ok (.invokevirtual 133, 3) := by decide +kernel
theorem dL_law_1523 : decode cL_law 1523 = .ok (.iload 5, 2) := by decide +kernel
theorem dL_law_1525 : decode cL_law 1525 = .ok (.if_icmp .eq 5, 3) := by decide +kernel
theorem dL_law_1528 : decode cL_law 1528 = .ok (.iconst 0, 1) := by decide +kernel
theorem dL_law_1529 : decode cL_law 1529 = .ok (.ireturn, 1) := by decide +kernel
theorem dL_law_1530 : decode cL_law 1530 = .ok (.iload 5, 2) := by decide +kernel
theorem dL_law_1532 : decode cL_law 1532 = .ok (.ifCond .ne 22, 3) := by decide +kernel
theorem dL_law_1535 : decode cL_law 1535 = .ok (.aload_n 3, 1) := by decide +kernel
theorem dL_law_1536 : decode cL_law 1536 = .ok (.iconst 0, 1) := by decide +kernel
theorem dL_law_1537 : decode cL_law 1537 = .ok (.laload, 1) := by decide +kernel
theorem dL_law_1538 : decode cL_law 1538 = .ok (.iload 6, 2) := by decide +kernel
theorem dL_law_1540 : decode cL_law 1540 = .ok (.ifCond .eq 7, 3) := by decide +kernel
theorem dL_law_1543 : decode cL_law 1543 = .ok (.lconst 1, 1) := by decide +kernel
theorem dL_law_1544 : decode cL_law 1544 = .ok (.goto 4, 3) := by decide +kernel
theorem dL_law_1547 : decode cL_law 1547 = .ok (.lconst 0, 1) := by decide +kernel
theorem dL_law_1548 : decode cL_law 1548 = .ok (.lcmp, 1) := by decide +kernel
theorem dL_law_1549 : decode cL_law 1549 = .ok (.ifCond .eq 5, 3) := by decide +kernel
theorem dL_law_1552 : decode cL_law 1552 = .ok (.iconst 0, 1) := by decide +kernel
theorem dL_law_1553 : decode cL_law 1553 = .ok (.ireturn, 1) := by decide +kernel
theorem dL_law_1554 : decode cL_law 1554 = .ok (.goto 937, 3) := by decide +kernel
theorem dL_law_1557 : decode cL_law 1557 = .ok (.aload_n 1, 1) := by decide +kernel
theorem dL_law_1558 : decode cL_law 1558 = .ok (.aload_n 0, 1) := by decide +kernel
theorem dL_law_1559 : decode cL_law 1559 = .ok (.iload 4, 2) := by decide +kernel
theorem dL_law_1561 : decode cL_law 1561 = .ok (.iconst 1, 1) := by decide +kernel
theorem dL_law_1562 : decode cL_law 1562 = .ok (.iadd, 1) := by decide +kernel
theorem dL_law_1563 : decode cL_law 1563 = .ok (.iaload, 1) := by decide +kernel
theorem dL_law_1564 : decode cL_law 1564 = .ok (.aload_n 3, 1) := by decide +kernel
theorem dL_law_1565 : decode cL_law 1565 = .ok (.invokestatic 202, 3) := by decide +kernel
theorem dL_law_1568 : decode cL_law 1568 = .ok (.istore 5, 2) := by decide +kernel
theorem dL_law_1570 : decode cL_law 1570 = .ok (.aload_n 2, 1) := by decide +kernel
theorem dL_law_1571 : decode cL_law 1571 = .ok (.aload_n 0, 1) := by decide +kernel
theorem dL_law_1572 : decode cL_law 1572 = .ok (.iload 4, 2) := by decide +kernel
theorem dL_law_1574 : decode cL_law 1574 = .ok (.iconst 1, 1) := by decide +kernel
theorem dL_law_1575 : decode cL_law 1575 = .ok (.iadd, 1) := by decide +kernel
theorem dL_law_1576 : decode cL_law 1576 = .ok (.iaload, 1) := by decide +kernel
theorem dL_law_1577 : decode cL_law 1577 = .ok (.invokevirtual 204, 3) := by decide +kernel
theorem dL_law_1580 : decode cL_law 1580 = .ok (.istore 6, 2) := by decide +kernel
theorem dL_law_1582 : decode cL_law 1582 = .ok (.aload_n 2, 1) := by decide +kernel
theorem dL_law_1583 : decode cL_law 1583 = .ok (.invokevirtual 133, 3) := by decide +kernel
theorem dL_law_1586 : decode cL_law 1586 = .ok (.iload 5, 2) := by decide +kernel
theorem dL_law_1588 : decode cL_law 1588 = .ok (.if_icmp .eq 5, 3) := by decide +kernel
theorem dL_law_1591 : decode cL_law 1591 = .ok (.iconst 0, 1) := by decide +kernel
theorem dL_law_1592 : decode cL_law 1592 = .ok (.ireturn, 1) := by decide +kernel
theorem dL_law_1593 : decode cL_law 1593 = .ok (.iload 5, 2) := by decide +kernel
theorem dL_law_1595 : decode cL_law 1595 = .ok (.ifCond .ne 15, 3) := by decide +kernel
theorem dL_law_1598 : decode cL_law 1598 = .ok (.aload_n 3, 1) := by decide +kernel
theorem dL_law_1599 : decode cL_law 1599 = .ok (.iconst 0, 1) := by decide +kernel
theorem dL_law_1600 : decode cL_law 1600 = .ok (.laload, 1) := by decide +kernel
theorem dL_law_1601 : decode cL_law 1601 = .ok (.iload 6, 2) := by decide +kernel
theorem dL_law_1603 : decode cL_law 1603 = .ok (.i2l, 1) := by decide +kernel
theorem dL_law_1604 : decode cL_law 1604 = .ok (.lcmp, 1) := by decide +kernel
theorem dL_law_1605 : decode cL_law 1605 = .ok (.ifCond .eq 5, 3) := by decide +kernel
theorem dL_law_1608 : decode cL_law 1608 = .ok (.iconst 0, 1) := by decide +kernel
theorem dL_law_1609 : decode cL_law 1609 = .ok (.ireturn, 1) := by decide +kernel
theorem dL_law_1610 : decode cL_law 1610 = .ok (.goto 881, 3) := by decide +kernel
theorem dL_law_1613 : decode cL_law 1613 = .ok (.aload_n 1, 1) := by decide +kernel
theorem dL_law_1614 : decode cL_law 1614 = .ok (.aload_n 0, 1) := by decide +kernel
theorem dL_law_1615 : decode cL_law 1615 = .ok (.iload 4, 2) := by decide +kernel
theorem dL_law_1617 : decode cL_law 1617 = .ok (.iconst 1, 1) := by decide +kernel
theorem dL_law_1618 : decode cL_law 1618 = .ok (.iadd, 1) := by decide +kernel
theorem dL_law_1619 : decode cL_law 1619 = .ok (.iaload, 1) := by decide +kernel
theorem dL_law_1620 : decode cL_law 1620 = .ok (.aload_n 3, 1) := by decide +kernel
theorem dL_law_1621 : decode cL_law 1621 = .ok (.invokestatic 205, 3) := by decide +kernel
theorem dL_law_1624 : decode cL_law 1624 = .ok (.istore 5, 2) := by decide +kernel
theorem dL_law_1626 : decode cL_law 1626 = .ok (.aload_n 2, 1) := by decide +kernel
theorem dL_law_1627 : decode cL_law 1627 = .ok (.aload_n 0, 1) := by decide +kernel
theorem dL_law_1628 : decode cL_law 1628 = .ok (.iload 4, 2) := by decide +kernel
theorem dL_law_1630 : decode cL_law 1630 = .ok (.iconst 1, 1) := by decide +kernel
theorem dL_law_1631 : decode cL_law 1631 = .ok (.iadd, 1) := by decide +kernel
theorem dL_law_1632 : decode cL_law 1632 = .ok (.iaload, 1) := by decide +kernel
theorem dL_law_1633 : decode cL_law 1633 = .ok (.invokevirtual 207, 3) := by decide +kernel
theorem dL_law_1636 : decode cL_law 1636 = .ok (.istore 6, 2) := by decide +kernel
theorem dL_law_1638 : decode cL_law 1638 = .ok (.aload_n 2, 1) := by decide +kernel
theorem dL_law_1639 : decode cL_law 1639 = .ok (.invokevirtual 133, 3) := by decide +kernel
theorem dL_law_1642 : decode cL_law 1642 = .ok (.iload 5, 2) := by decide +kernel
theorem dL_law_1644 : decode cL_law 1644 = .ok (.if_icmp .eq 5, 3) := by decide +kernel
theorem dL_law_1647 : decode cL_law 1647 = .ok (.iconst 0, 1) := by decide +kernel
theorem dL_law_1648 : decode cL_law 1648 = .ok (.ireturn, 1) := by decide +kernel
theorem dL_law_1649 : decode cL_law 1649 = .ok (.iload 5, 2) := by decide +kernel
theorem dL_law_1651 : decode cL_law 1651 = .ok (.ifCond .ne 15, 3) := by decide +kernel
theorem dL_law_1654 : decode cL_law 1654 = .ok (.aload_n 3, 1) := by decide +kernel
theorem dL_law_1655 : decode cL_law 1655 = .ok (.iconst 0, 1) := by decide +kernel
theorem dL_law_1656 : decode cL_law 1656 = .ok (.laload, 1) := by decide +kernel
theorem dL_law_1657 : decode cL_law 1657 = .ok (.iload 6, 2) := by decide +kernel
theorem dL_law_1659 : decode cL_law 1659 = .ok (.i2l, 1) := by decide +kernel
theorem dL_law_1660 : decode cL_law 1660 = .ok (.lcmp, 1) := by decide +kernel
theorem dL_law_1661 : decode cL_law 1661 = .ok (.ifCond .eq 5, 3) := by decide +kernel
theorem dL_law_1664 : decode cL_law 1664 = .ok (.iconst 0, 1) := by decide +kernel
theorem dL_law_1665 : decode cL_law 1665 = .ok (.ireturn, 1) := by decide +kernel
theorem dL_law_1666 : decode cL_law 1666 = .ok (.goto 825, 3) := by decide +kernel
theorem dL_law_1669 : decode cL_law 1669 = .ok (.aload_n 1, 1) := by decide +kernel
theorem dL_law_1670 : decode cL_law 1670 = .ok (.aload_n 0, 1) := by decide +kernel
theorem dL_law_1671 : decode cL_law 1671 = .ok (.iload 4, 2) := by decide +kernel
theorem dL_law_1673 : decode cL_law 1673 = .ok (.iconst 1, 1) := by decide +kernel
theorem dL_law_1674 : decode cL_law 1674 = .ok (.iadd, 1) := by decide +kernel
theorem dL_law_1675 : decode cL_law 1675 = .ok (.iaload, 1) := by decide +kernel
theorem dL_law_1676 : decode cL_law 1676 = .ok (.aload_n 3, 1) := by decide +kernel
theorem dL_law_1677 : decode cL_law 1677 = .ok (.invokestatic 208, 3) := by decide +kernel
theorem dL_law_1680 : decode cL_law 1680 = .ok (.istore 5, 2) := by decide +kernel
theorem dL_law_1682 : decode cL_law 1682 = .ok (.aload_n 2, 1) := by decide +kernel
theorem dL_law_1683 : decode cL_law 1683 = .ok (.aload_n 0, 1) := by decide +kernel
theorem dL_law_1684 : decode cL_law 1684 = .ok (.iload 4, 2) := by decide +kernel
theorem dL_law_1686 : decode cL_law 1686 = .ok (.iconst 1, 1) := by decide +kernel
theorem dL_law_1687 : decode cL_law 1687 = .ok (.iadd, 1) := by decide +kernel
theorem dL_law_1688 : decode cL_law 1688 = .ok (.iaload, 1) := by decide +kernel
theorem dL_law_1689 : decode cL_law 1689 = .ok (.invokevirtual 210, 3) := by decide +kernel
theorem dL_law_1692 : decode cL_law 1692 = .ok (.istore 6, 2) := by decide +kernel
theorem dL_law_1694 : decode cL_law 1694 = .ok (.aload_n 2, 1) := by decide +kernel
theorem dL_law_1695 : decode cL_law 1695 = .ok (.invokevirtual 133, 3) := by decide +kernel
theorem dL_law_1698 : decode cL_law 1698 = .ok (.iload 5, 2) := by decide +kernel
theorem dL_law_1700 : decode cL_law 1700 = .ok (.if_icmp .eq 5, 3) := by decide +kernel
theorem dL_law_1703 : decode cL_law 1703 = .ok (.iconst 0, 1) := by decide +kernel
theorem dL_law_1704 : decode cL_law 1704 = .ok (.ireturn, 1) := by decide +kernel
theorem dL_law_1705 : decode cL_law 1705 = .ok (.iload 5, 2) := by decide +kernel
theorem dL_law_1707 : decode cL_law 1707 = .ok (.ifCond .ne 15, 3) := by decide +kernel
theorem dL_law_1710 : decode cL_law 1710 = .ok (.aload_n 3, 1) := by decide +kernel
theorem dL_law_1711 : decode cL_law 1711 = .ok (.iconst 0, 1) := by decide +kernel
theorem dL_law_1712 : decode cL_law 1712 = .ok (.laload, 1) := by decide +kernel
theorem dL_law_1713 : decode cL_law 1713 = .ok (.iload 6, 2) := by decide +kernel
theorem dL_law_1715 : decode cL_law 1715 = .ok (.i2l, 1) := by decide +kernel
theorem dL_law_1716 : decode cL_law 1716 = .ok (.lcmp, 1) := by decide +kernel
theorem dL_law_1717 : decode cL_law 1717 = .ok (.ifCond .eq 5, 3) := by decide +kernel
theorem dL_law_1720 : decode cL_law 1720 = .ok (.iconst 0, 1) := by decide +kernel
theorem dL_law_1721 : decode cL_law 1721 = .ok (.ireturn, 1) := by decide +kernel
theorem dL_law_1722 : decode cL_law 1722 = .ok (.goto 769, 3) := by decide +kernel
theorem dL_law_1725 : decode cL_law 1725 = .ok (.aload_n 1, 1) := by decide +kernel
theorem dL_law_1726 : decode cL_law 1726 = .ok (.aload_n 0, 1) := by decide +kernel
theorem dL_law_1727 : decode cL_law 1727 = .ok (.iload 4, 2) := by decide +kernel
theorem dL_law_1729 : decode cL_law 1729 = .ok (.iconst 1, 1) := by decide +kernel
theorem dL_law_1730 : decode cL_law 1730 = .ok (.iadd, 1) := by decide +kernel
theorem dL_law_1731 : decode cL_law 1731 = .ok (.iaload, 1) := by decide +kernel
theorem dL_law_1732 : decode cL_law 1732 = .ok (.aload_n 0, 1) := by decide +kernel
theorem dL_law_1733 : decode cL_law 1733 = .ok (.iload 4, 2) := by decide +kernel
theorem dL_law_1735 : decode cL_law 1735 = .ok (.iconst 2, 1) := by decide +kernel
theorem dL_law_1736 : decode cL_law 1736 = .ok (.iadd, 1) := by decide +kernel
theorem dL_law_1737 : decode cL_law 1737 = .ok (.iaload, 1) := by decide +kernel
theorem dL_law_1738 : decode cL_law 1738 = .ok (.aload_n 3, 1) := by decide +kernel
theorem dL_law_1739 : decode cL_law 1739 = .ok (.invokestatic 211, 3) := by decide +kernel
theorem dL_law_1742 : decode cL_law 1742 = .ok (.istore 5, 2) := by decide +kernel
theorem dL_law_1744 : decode cL_law 1744 = .ok (.aload_n 2, 1) := by decide +kernel
theorem dL_law_1745 : decode cL_law 1745 = .ok (.aload_n 0, 1) := by decide +kernel
theorem dL_law_1746 : decode cL_law 1746 = .ok (.iload 4, 2) := by decide +kernel
theorem dL_law_1748 : decode cL_law 1748 = .ok (.iconst 1, 1) := by decide +kernel
theorem dL_law_1749 : decode cL_law 1749 = .ok (.iadd, 1) := by decide +kernel
theorem dL_law_1750 : decode cL_law 1750 = .ok (.iaload, 1) := by decide +kernel
theorem dL_law_1751 : decode cL_law 1751 = .ok (.aload_n 0, 1) := by decide +kernel
theorem dL_law_1752 : decode cL_law 1752 = .ok (.iload 4, 2) := by decide +kernel
theorem dL_law_1754 : decode cL_law 1754 = .ok (.iconst 2, 1) := by decide +kernel
theorem dL_law_1755 : decode cL_law 1755 = .ok (.iadd, 1) := by decide +kernel
theorem dL_law_1756 : decode cL_law 1756 = .ok (.iaload, 1) := by decide +kernel
theorem dL_law_1757 : decode cL_law 1757 = .ok (.invokevirtual 213, 3) := by decide +kernel
theorem dL_law_1760 : decode cL_law 1760 = .ok (.istore 6, 2) := by decide +kernel
theorem dL_law_1762 : decode cL_law 1762 = .ok (.aload_n 2, 1) := by decide +kernel
theorem dL_law_1763 : decode cL_law 1763 = .ok (.invokevirtual 133, 3) := by decide +kernel
theorem dL_law_1766 : decode cL_law 1766 = .ok (.iload 5, 2) := by decide +kernel
theorem dL_law_1768 : decode cL_law 1768 = .ok (.if_icmp .eq 5, 3) := by decide +kernel
theorem dL_law_1771 : decode cL_law 1771 = .ok (.iconst 0, 1) := by decide +kernel
theorem dL_law_1772 : decode cL_law 1772 = .ok (.ireturn, 1) := by decide +kernel
theorem dL_law_1773 : decode cL_law 1773 = .ok (.iload 5, 2) := by decide +kernel
theorem dL_law_1775 : decode cL_law 1775 = .ok (.ifCond .ne 22, 3) := by decide +kernel
theorem dL_law_1778 : decode cL_law 1778 = .ok (.aload_n 3, 1) := by decide +kernel
theorem dL_law_1779 : decode cL_law 1779 = .ok (.iconst 0, 1) := by decide +kernel
theorem dL_law_1780 : decode cL_law 1780 = .ok (.laload, 1) := by decide +kernel
theorem dL_law_1781 : decode cL_law 1781 = .ok (.iload 6, 2) := by decide +kernel
theorem dL_law_1783 : decode cL_law 1783 = .ok (.ifCond .eq 7, 3) := by decide +kernel
theorem dL_law_1786 : decode cL_law 1786 = .ok (.lconst 1, 1) := by decide +kernel
theorem dL_law_1787 : decode cL_law 1787 = .ok (.goto 4, 3) := by decide +kernel
theorem dL_law_1790 : decode cL_law 1790 = .ok (.lconst 0, 1) := by decide +kernel
theorem dL_law_1791 : decode cL_law 1791 = .ok (.lcmp, 1) := by decide +kernel
theorem dL_law_1792 : decode cL_law 1792 = .ok (.ifCond .eq 5, 3) := by decide +kernel
theorem dL_law_1795 : decode cL_law 1795 = .ok (.iconst 0, 1) := by decide +kernel
theorem dL_law_1796 : decode cL_law 1796 = .ok (.ireturn, 1) := by decide +kernel
theorem dL_law_1797 : decode cL_law 1797 = .ok (.goto 694, 3) := by decide +kernel
theorem dL_law_1800 : decode cL_law 1800 = .ok (.aload_n 1, 1) := by decide +kernel
theorem dL_law_1801 : decode cL_law 1801 = .ok (.aload_n 0, 1) := by decide +kernel
theorem dL_law_1802 : decode cL_law 1802 = .ok (.iload 4, 2) := by decide +kernel
theorem dL_law_1804 : decode cL_law 1804 = .ok (.iconst 1, 1) := by decide +kernel
theorem dL_law_1805 : decode cL_law 1805 = .ok (.iadd, 1) := by decide +kernel
theorem dL_law_1806 : decode cL_law 1806 = .ok (.iaload, 1) := by decide +kernel
theorem dL_law_1807 : decode cL_law 1807 = .ok (.aload_n 3, 1) := by decide +kernel
theorem dL_law_1808 : decode cL_law 1808 = .ok (.invokestatic 214, 3) := by decide +kernel
theorem dL_law_1811 : decode cL_law 1811 = .ok (.istore 5, 2) := by decide +kernel
theorem dL_law_1813 : decode cL_law 1813 = .ok (.aload_n 2, 1) := by decide +kernel
theorem dL_law_1814 : decode cL_law 1814 = .ok (.aload_n 0, 1) := by decide +kernel
theorem dL_law_1815 : decode cL_law 1815 = .ok (.iload 4, 2) := by decide +kernel
theorem dL_law_1817 : decode cL_law 1817 = .ok (.iconst 1, 1) := by decide +kernel
theorem dL_law_1818 : decode cL_law 1818 = .ok (.iadd, 1) := by decide +kernel
theorem dL_law_1819 : decode cL_law 1819 = .ok (.iaload, 1) := by decide +kernel
theorem dL_law_1820 : decode cL_law 1820 = .ok (.invokevirtual 216, 3) := by decide +kernel
theorem dL_law_1823 : decode cL_law 1823 = .ok (.istore 6, 2) := by decide +kernel
theorem dL_law_1825 : decode cL_law 1825 = .ok (.aload_n 2, 1) := by decide +kernel
theorem dL_law_1826 : decode cL_law 1826 = .ok (.invokevirtual 133, 3) := by decide +kernel
theorem dL_law_1829 : decode cL_law 1829 = .ok (.iload 5, 2) := by decide +kernel
theorem dL_law_1831 : decode cL_law 1831 = .ok (.if_icmp .eq 5, 3) := by decide +kernel
theorem dL_law_1834 : decode cL_law 1834 = .ok (.iconst 0, 1) := by decide +kernel
theorem dL_law_1835 : decode cL_law 1835 = .ok (.ireturn, 1) := by decide +kernel
theorem dL_law_1836 : decode cL_law 1836 = .ok (.iload 5, 2) := by decide +kernel
theorem dL_law_1838 : decode cL_law 1838 = .ok (.ifCond .ne 15, 3) := by decide +kernel
theorem dL_law_1841 : decode cL_law 1841 = .ok (.aload_n 3, 1) := by decide +kernel
theorem dL_law_1842 : decode cL_law 1842 = .ok (.iconst 0, 1) := by decide +kernel
theorem dL_law_1843 : decode cL_law 1843 = .ok (.laload, 1) := by decide +kernel
theorem dL_law_1844 : decode cL_law 1844 = .ok (.iload 6, 2) := by decide +kernel
theorem dL_law_1846 : decode cL_law 1846 = .ok (.i2l, 1) := by decide +kernel
theorem dL_law_1847 : decode cL_law 1847 = .ok (.lcmp, 1) := by decide +kernel
theorem dL_law_1848 : decode cL_law 1848 = .ok (.ifCond .eq 5, 3) := by decide +kernel
theorem dL_law_1851 : decode cL_law 1851 = .ok (.iconst 0, 1) := by decide +kernel
theorem dL_law_1852 : decode cL_law 1852 = .ok (.ireturn, 1) := by decide +kernel
theorem dL_law_1853 : decode cL_law 1853 = .ok (.goto 638, 3) := by decide +kernel
theorem dL_law_1856 : decode cL_law 1856 = .ok (.aload_n 1, 1) := by decide +kernel
theorem dL_law_1857 : decode cL_law 1857 = .ok (.aload_n 0, 1) := by decide +kernel
theorem dL_law_1858 : decode cL_law 1858 = .ok (.iload 4, 2) := by decide +kernel
theorem dL_law_1860 : decode cL_law 1860 = .ok (.iconst 1, 1) := by decide +kernel
theorem dL_law_1861 : decode cL_law 1861 = .ok (.iadd, 1) := by decide +kernel
theorem dL_law_1862 : decode cL_law 1862 = .ok (.iaload, 1) := by decide +kernel
theorem dL_law_1863 : decode cL_law 1863 = .ok (.aload_n 3, 1) := by decide +kernel
theorem dL_law_1864 : decode cL_law 1864 = .ok (.invokestatic 217, 3) := by decide +kernel
theorem dL_law_1867 : decode cL_law 1867 = .ok (.istore 5, 2) := by decide +kernel
theorem dL_law_1869 : decode cL_law 1869 = .ok (.aload_n 2, 1) := by decide +kernel
theorem dL_law_1870 : decode cL_law 1870 = .ok (.aload_n 0, 1) := by decide +kernel
theorem dL_law_1871 : decode cL_law 1871 = .ok (.iload 4, 2) := by decide +kernel
theorem dL_law_1873 : decode cL_law 1873 = .ok (.iconst 1, 1) := by decide +kernel
theorem dL_law_1874 : decode cL_law 1874 = .ok (.iadd, 1) := by decide +kernel
theorem dL_law_1875 : decode cL_law 1875 = .ok (.iaload, 1) := by decide +kernel
theorem dL_law_1876 : decode cL_law 1876 = .ok (.invokevirtual 219, 3) := by decide +kernel
theorem dL_law_1879 : decode cL_law 1879 = .ok (.istore 6, 2) := by decide +kernel
theorem dL_law_1881 : decode cL_law 1881 = .ok (.aload_n 2, 1) := by decide +kernel
theorem dL_law_1882 : decode cL_law 1882 = .ok (.invokevirtual 133, 3) := by decide +kernel
theorem dL_law_1885 : decode cL_law 1885 = .ok (.iload 5, 2) := by decide +kernel
theorem dL_law_1887 : decode cL_law 1887 = .ok (.if_icmp .eq 5, 3) := by decide +kernel
theorem dL_law_1890 : decode cL_law 1890 = .ok (.iconst 0, 1) := by decide +kernel
theorem dL_law_1891 : decode cL_law 1891 = .ok (.ireturn, 1) := by decide +kernel
theorem dL_law_1892 : decode cL_law 1892 = .ok (.iload 5, 2) := by decide +kernel
theorem dL_law_1894 : decode cL_law 1894 = .ok (.ifCond .ne 15, 3) := by decide +kernel
theorem dL_law_1897 : decode cL_law 1897 = .ok (.aload_n 3, 1) := by decide +kernel
theorem dL_law_1898 : decode cL_law 1898 = .ok (.iconst 0, 1) := by decide +kernel
theorem dL_law_1899 : decode cL_law 1899 = .ok (.laload, 1) := by decide +kernel
theorem dL_law_1900 : decode cL_law 1900 = .ok (.iload 6, 2) := by decide +kernel
theorem dL_law_1902 : decode cL_law 1902 = .ok (.i2l, 1) := by decide +kernel
theorem dL_law_1903 : decode cL_law 1903 = .ok (.lcmp, 1) := by decide +kernel
theorem dL_law_1904 : decode cL_law 1904 = .ok (.ifCond .eq 5, 3) := by decide +kernel
theorem dL_law_1907 : decode cL_law 1907 = .ok (.iconst 0, 1) := by decide +kernel
theorem dL_law_1908 : decode cL_law 1908 = .ok (.ireturn, 1) := by decide +kernel
theorem dL_law_1909 : decode cL_law 1909 = .ok (.goto 582, 3) := by decide +kernel
theorem dL_law_1912 : decode cL_law 1912 = .ok (.aload_n 1, 1) := by decide +kernel
theorem dL_law_1913 : decode cL_law 1913 = .ok (.aload_n 0, 1) := by decide +kernel
theorem dL_law_1914 : decode cL_law 1914 = .ok (.iload 4, 2) := by decide +kernel
theorem dL_law_1916 : decode cL_law 1916 = .ok (.iconst 1, 1) := by decide +kernel
theorem dL_law_1917 : decode cL_law 1917 = .ok (.iadd, 1) := by decide +kernel
theorem dL_law_1918 : decode cL_law 1918 = .ok (.iaload, 1) := by decide +kernel
theorem dL_law_1919 : decode cL_law 1919 = .ok (.aload_n 3, 1) := by decide +kernel
theorem dL_law_1920 : decode cL_law 1920 = .ok (.invokestatic 220, 3) := by decide +kernel
theorem dL_law_1923 : decode cL_law 1923 = .ok (.istore 5, 2) := by decide +kernel
theorem dL_law_1925 : decode cL_law 1925 = .ok (.aload_n 2, 1) := by decide +kernel
theorem dL_law_1926 : decode cL_law 1926 = .ok (.aload_n 0, 1) := by decide +kernel
theorem dL_law_1927 : decode cL_law 1927 = .ok (.iload 4, 2) := by decide +kernel
theorem dL_law_1929 : decode cL_law 1929 = .ok (.iconst 1, 1) := by decide +kernel
theorem dL_law_1930 : decode cL_law 1930 = .ok (.iadd, 1) := by decide +kernel
theorem dL_law_1931 : decode cL_law 1931 = .ok (.iaload, 1) := by decide +kernel
theorem dL_law_1932 : decode cL_law 1932 = .ok (.invokevirtual 222, 3) := by decide +kernel
theorem dL_law_1935 : decode cL_law 1935 = .ok (.istore 6, 2) := by decide +kernel
theorem dL_law_1937 : decode cL_law 1937 = .ok (.aload_n 2, 1) := by decide +kernel
theorem dL_law_1938 : decode cL_law 1938 = .ok (.invokevirtual 133, 3) := by decide +kernel
theorem dL_law_1941 : decode cL_law 1941 = .ok (.iload 5, 2) := by decide +kernel
theorem dL_law_1943 : decode cL_law 1943 = .ok (.if_icmp .eq 5, 3) := by decide +kernel
theorem dL_law_1946 : decode cL_law 1946 = .ok (.iconst 0, 1) := by decide +kernel
theorem dL_law_1947 : decode cL_law 1947 = .ok (.ireturn, 1) := by decide +kernel
theorem dL_law_1948 : decode cL_law 1948 = .ok (.iload 5, 2) := by decide +kernel
theorem dL_law_1950 : decode cL_law 1950 = .ok (.ifCond .ne 15, 3) := by decide +kernel
theorem dL_law_1953 : decode cL_law 1953 = .ok (.aload_n 3, 1) := by decide +kernel
theorem dL_law_1954 : decode cL_law 1954 = .ok (.iconst 0, 1) := by decide +kernel
theorem dL_law_1955 : decode cL_law 1955 = .ok (.laload, 1) := by decide +kernel
theorem dL_law_1956 : decode cL_law 1956 = .ok (.iload 6, 2) := by decide +kernel
theorem dL_law_1958 : decode cL_law 1958 = .ok (.i2l, 1) := by decide +kernel
theorem dL_law_1959 : decode cL_law 1959 = .ok (.lcmp, 1) := by decide +kernel
theorem dL_law_1960 : decode cL_law 1960 = .ok (.ifCond .eq 5, 3) := by decide +kernel
theorem dL_law_1963 : decode cL_law 1963 = .ok (.iconst 0, 1) := by decide +kernel
theorem dL_law_1964 : decode cL_law 1964 = .ok (.ireturn, 1) := by decide +kernel
theorem dL_law_1965 : decode cL_law 1965 = .ok (.goto 526, 3) := by decide +kernel
theorem dL_law_1968 : decode cL_law 1968 = .ok (.aload_n 1, 1) := by decide +kernel
theorem dL_law_1969 : decode cL_law 1969 = .ok (.aload_n 0, 1) := by decide +kernel
theorem dL_law_1970 : decode cL_law 1970 = .ok (.iload 4, 2) := by decide +kernel
theorem dL_law_1972 : decode cL_law 1972 = .ok (.iconst 1, 1) := by decide +kernel
theorem dL_law_1973 : decode cL_law 1973 = .ok (.iadd, 1) := by decide +kernel
theorem dL_law_1974 : decode cL_law 1974 = .ok (.iaload, 1) := by decide +kernel
theorem dL_law_1975 : decode cL_law 1975 = .ok (.aload_n 0, 1) := by decide +kernel
theorem dL_law_1976 : decode cL_law 1976 = .ok (.iload 4, 2) := by decide +kernel
theorem dL_law_1978 : decode cL_law 1978 = .ok (.iconst 2, 1) := by decide +kernel
theorem dL_law_1979 : decode cL_law 1979 = .ok (.iadd, 1) := by decide +kernel
theorem dL_law_1980 : decode cL_law 1980 = .ok (.iaload, 1) := by decide +kernel
theorem dL_law_1981 : decode cL_law 1981 = .ok (.aload_n 3, 1) := by decide +kernel
theorem dL_law_1982 : decode cL_law 1982 = .ok (.invokestatic 223, 3) := by decide +kernel
theorem dL_law_1985 : decode cL_law 1985 = .ok (.istore 5, 2) := by decide +kernel
theorem dL_law_1987 : decode cL_law 1987 = .ok (.aload_n 2, 1) := by decide +kernel
theorem dL_law_1988 : decode cL_law 1988 = .ok (.aload_n 0, 1) := by decide +kernel
theorem dL_law_1989 : decode cL_law 1989 = .ok (.iload 4, 2) := by decide +kernel
theorem dL_law_1991 : decode cL_law 1991 = .ok (.iconst 1, 1) := by decide +kernel
theorem dL_law_1992 : decode cL_law 1992 = .ok (.iadd, 1) := by decide +kernel
theorem dL_law_1993 : decode cL_law 1993 = .ok (.iaload, 1) := by decide +kernel
theorem dL_law_1994 : decode cL_law 1994 = .ok (.aload_n 0, 1) := by decide +kernel
theorem dL_law_1995 : decode cL_law 1995 = .ok (.iload 4, 2) := by decide +kernel
theorem dL_law_1997 : decode cL_law 1997 = .ok (.iconst 2, 1) := by decide +kernel
theorem dL_law_1998 : decode cL_law 1998 = .ok (.iadd, 1) := by decide +kernel
theorem dL_law_1999 : decode cL_law 1999 = .ok (.iaload, 1) := by decide +kernel
theorem dL_law_2000 : decode cL_law 2000 = .ok (.invokevirtual 225, 3) := by decide +kernel
theorem dL_law_2003 : decode cL_law 2003 = .ok (.istore 6, 2) := by decide +kernel
theorem dL_law_2005 : decode cL_law 2005 = .ok (.aload_n 2, 1) := by decide +kernel
theorem dL_law_2006 : decode cL_law 2006 = .ok (.invokevirtual 133, 3) := by decide +kernel
theorem dL_law_2009 : decode cL_law 2009 = .ok (.iload 5, 2) := by decide +kernel
theorem dL_law_2011 : decode cL_law 2011 = .ok (.if_icmp .eq 5, 3) := by decide +kernel
theorem dL_law_2014 : decode cL_law 2014 = .ok (.iconst 0, 1) := by decide +kernel
theorem dL_law_2015 : decode cL_law 2015 = .ok (.ireturn, 1) := by decide +kernel
theorem dL_law_2016 : decode cL_law 2016 = .ok (.iload 5, 2) := by decide +kernel
theorem dL_law_2018 : decode cL_law 2018 = .ok (.ifCond .ne 22, 3) := by decide +kernel
theorem dL_law_2021 : decode cL_law 2021 = .ok (.aload_n 3, 1) := by decide +kernel
theorem dL_law_2022 : decode cL_law 2022 = .ok (.iconst 0, 1) := by decide +kernel
theorem dL_law_2023 : decode cL_law 2023 = .ok (.laload, 1) := by decide +kernel
theorem dL_law_2024 : decode cL_law 2024 = .ok (.iload 6, 2) := by decide +kernel
theorem dL_law_2026 : decode cL_law 2026 = .ok (.ifCond .eq 7, 3) := by decide +kernel
theorem dL_law_2029 : decode cL_law 2029 = .ok (.lconst 1, 1) := by decide +kernel
theorem dL_law_2030 : decode cL_law 2030 = .ok (.goto 4, 3) := by decide +kernel
theorem dL_law_2033 : decode cL_law 2033 = .ok (.lconst 0, 1) := by decide +kernel
theorem dL_law_2034 : decode cL_law 2034 = .ok (.lcmp, 1) := by decide +kernel
theorem dL_law_2035 : decode cL_law 2035 = .ok (.ifCond .eq 5, 3) := by decide +kernel
theorem dL_law_2038 : decode cL_law 2038 = .ok (.iconst 0, 1) := by decide +kernel
theorem dL_law_2039 : decode cL_law 2039 = .ok (.ireturn, 1) := by decide +kernel
theorem dL_law_2040 : decode cL_law 2040 = .ok (.goto 451, 3) := by decide +kernel
theorem dL_law_2043 : decode cL_law 2043 = .ok (.aload_n 1, 1) := by decide +kernel
theorem dL_law_2044 : decode cL_law 2044 = .ok (.aload_n 0, 1) := by decide +kernel
theorem dL_law_2045 : decode cL_law 2045 = .ok (.iload 4, 2) := by decide +kernel
theorem dL_law_2047 : decode cL_law 2047 = .ok (.iconst 1, 1) := by decide +kernel
theorem dL_law_2048 : decode cL_law 2048 = .ok (.iadd, 1) := by decide +kernel
theorem dL_law_2049 : decode cL_law 2049 = .ok (.iaload, 1) := by decide +kernel
theorem dL_law_2050 : decode cL_law 2050 = .ok (.aload_n 3, 1) := by decide +kernel
theorem dL_law_2051 : decode cL_law 2051 = .ok (.invokestatic 226, 3) := by decide +kernel
theorem dL_law_2054 : decode cL_law 2054 = .ok (.istore 5, 2) := by decide +kernel
theorem dL_law_2056 : decode cL_law 2056 = .ok (.aload_n 2, 1) := by decide +kernel
theorem dL_law_2057 : decode cL_law 2057 = .ok (.aload_n 0, 1) := by decide +kernel
theorem dL_law_2058 : decode cL_law 2058 = .ok (.iload 4, 2) := by decide +kernel
theorem dL_law_2060 : decode cL_law 2060 = .ok (.iconst 1, 1) := by decide +kernel
theorem dL_law_2061 : decode cL_law 2061 = .ok (.iadd, 1) := by decide +kernel
theorem dL_law_2062 : decode cL_law 2062 = .ok (.iaload, 1) := by decide +kernel
theorem dL_law_2063 : decode cL_law 2063 = .ok (.invokevirtual 228, 3) := by decide +kernel
theorem dL_law_2066 : decode cL_law 2066 = .ok (.istore 6, 2) := by decide +kernel
theorem dL_law_2068 : decode cL_law 2068 = .ok (.aload_n 2, 1) := by decide +kernel
theorem dL_law_2069 : decode cL_law 2069 = .ok (.invokevirtual 133, 3) := by decide +kernel
theorem dL_law_2072 : decode cL_law 2072 = .ok (.iload 5, 2) := by decide +kernel
theorem dL_law_2074 : decode cL_law 2074 = .ok (.if_icmp .eq 5, 3) := by decide +kernel
theorem dL_law_2077 : decode cL_law 2077 = .ok (.iconst 0, 1) := by decide +kernel
theorem dL_law_2078 : decode cL_law 2078 = .ok (.ireturn, 1) := by decide +kernel
theorem dL_law_2079 : decode cL_law 2079 = .ok (.iload 5, 2) := by decide +kernel
theorem dL_law_2081 : decode cL_law 2081 = .ok (.ifCond .ne 15, 3) := by decide +kernel
theorem dL_law_2084 : decode cL_law 2084 = .ok (.aload_n 3, 1) := by decide +kernel
theorem dL_law_2085 : decode cL_law 2085 = .ok (.iconst 0, 1) := by decide +kernel
theorem dL_law_2086 : decode cL_law 2086 = .ok (.laload, 1) := by decide +kernel
theorem dL_law_2087 : decode cL_law 2087 = .ok (.iload 6, 2) := by decide +kernel
theorem dL_law_2089 : decode cL_law 2089 = .ok (.i2l, 1) := by decide +kernel
theorem dL_law_2090 : decode cL_law 2090 = .ok (.lcmp, 1) := by decide +kernel
theorem dL_law_2091 : decode cL_law 2091 = .ok (.ifCond .eq 5, 3) := by decide +kernel
theorem dL_law_2094 : decode cL_law 2094 = .ok (.iconst 0, 1) := by decide +kernel
theorem dL_law_2095 : decode cL_law 2095 = .ok (.ireturn, 1) := by decide +kernel
theorem dL_law_2096 : decode cL_law 2096 = .ok (.goto 395, 3) := by decide +kernel
theorem dL_law_2099 : decode cL_law 2099 = .ok (.aload_n 1, 1) := by decide +kernel
theorem dL_law_2100 : decode cL_law 2100 = .ok (.aload_n 0, 1) := by decide +kernel
theorem dL_law_2101 : decode cL_law 2101 = .ok (.iload 4, 2) := by decide +kernel
theorem dL_law_2103 : decode cL_law 2103 = .ok (.iconst 1, 1) := by decide +kernel
theorem dL_law_2104 : decode cL_law 2104 = .ok (.iadd, 1) := by decide +kernel
theorem dL_law_2105 : decode cL_law 2105 = .ok (.iaload, 1) := by decide +kernel
theorem dL_law_2106 : decode cL_law 2106 = .ok (.aload_n 0, 1) := by decide +kernel
theorem dL_law_2107 : decode cL_law 2107 = .ok (.iload 4, 2) := by decide +kernel
theorem dL_law_2109 : decode cL_law 2109 = .ok (.iconst 2, 1) := by decide +kernel
theorem dL_law_2110 : decode cL_law 2110 = .ok (.iadd, 1) := by decide +kernel
theorem dL_law_2111 : decode cL_law 2111 = .ok (.iaload, 1) := by decide +kernel
theorem dL_law_2112 : decode cL_law 2112 = .ok (.aload_n 3, 1) := by decide +kernel
theorem dL_law_2113 : decode cL_law 2113 = .ok (.invokestatic 229, 3) := by decide +kernel
theorem dL_law_2116 : decode cL_law 2116 = .ok (.istore 5, 2) := by decide +kernel
theorem dL_law_2118 : decode cL_law 2118 = .ok (.aload_n 2, 1) := by decide +kernel
theorem dL_law_2119 : decode cL_law 2119 = .ok (.aload_n 0, 1) := by decide +kernel
theorem dL_law_2120 : decode cL_law 2120 = .ok (.iload 4, 2) := by decide +kernel
theorem dL_law_2122 : decode cL_law 2122 = .ok (.iconst 1, 1) := by decide +kernel
theorem dL_law_2123 : decode cL_law 2123 = .ok (.iadd, 1) := by decide +kernel
theorem dL_law_2124 : decode cL_law 2124 = .ok (.iaload, 1) := by decide +kernel
theorem dL_law_2125 : decode cL_law 2125 = .ok (.aload_n 0, 1) := by decide +kernel
theorem dL_law_2126 : decode cL_law 2126 = .ok (.iload 4, 2) := by decide +kernel
theorem dL_law_2128 : decode cL_law 2128 = .ok (.iconst 2, 1) := by decide +kernel
theorem dL_law_2129 : decode cL_law 2129 = .ok (.iadd, 1) := by decide +kernel
theorem dL_law_2130 : decode cL_law 2130 = .ok (.iaload, 1) := by decide +kernel
theorem dL_law_2131 : decode cL_law 2131 = .ok (.invokevirtual 231, 3) := by decide +kernel
theorem dL_law_2134 : decode cL_law 2134 = .ok (.istore 6, 2) := by decide +kernel
theorem dL_law_2136 : decode cL_law 2136 = .ok (.aload_n 2, 1) := by decide +kernel
theorem dL_law_2137 : decode cL_law 2137 = .ok (.invokevirtual 133, 3) := by decide +kernel
theorem dL_law_2140 : decode cL_law 2140 = .ok (.iload 5, 2) := by decide +kernel
theorem dL_law_2142 : decode cL_law 2142 = .ok (.if_icmp .eq 5, 3) := by decide +kernel
theorem dL_law_2145 : decode cL_law 2145 = .ok (.iconst 0, 1) := by decide +kernel
theorem dL_law_2146 : decode cL_law 2146 = .ok (.ireturn, 1) := by decide +kernel
theorem dL_law_2147 : decode cL_law 2147 = .ok (.iload 5, 2) := by decide +kernel
theorem dL_law_2149 : decode cL_law 2149 = .ok (.ifCond .ne 15, 3) := by decide +kernel
theorem dL_law_2152 : decode cL_law 2152 = .ok (.aload_n 3, 1) := by decide +kernel
theorem dL_law_2153 : decode cL_law 2153 = .ok (.iconst 0, 1) := by decide +kernel
theorem dL_law_2154 : decode cL_law 2154 = .ok (.laload, 1) := by decide +kernel
theorem dL_law_2155 : decode cL_law 2155 = .ok (.iload 6, 2) := by decide +kernel
theorem dL_law_2157 : decode cL_law 2157 = .ok (.i2l, 1) := by decide +kernel
theorem dL_law_2158 : decode cL_law 2158 = .ok (.lcmp, 1) := by decide +kernel
theorem dL_law_2159 : decode cL_law 2159 = .ok (.ifCond .eq 5, 3) := by decide +kernel
theorem dL_law_2162 : decode cL_law 2162 = .ok (.iconst 0, 1) := by decide +kernel
theorem dL_law_2163 : decode cL_law 2163 = .ok (.ireturn, 1) := by decide +kernel
theorem dL_law_2164 : decode cL_law 2164 = .ok (.goto 327, 3) := by decide +kernel
theorem dL_law_2167 : decode cL_law 2167 = .ok (.aload_n 1, 1) := by decide +kernel
theorem dL_law_2168 : decode cL_law 2168 = .ok (.invokevirtual 232, 3) := by decide +kernel
theorem dL_law_2171 : decode cL_law 2171 = .ok (.aload_n 2, 1) := by decide +kernel
theorem dL_law_2172 : decode cL_law 2172 = .ok (.invokevirtual 235, 3) := by decide +kernel
theorem dL_law_2175 : decode cL_law 2175 = .ok (.if_icmp .eq 316, 3) := by decide +kernel
theorem dL_law_2178 : decode cL_law 2178 = .ok (.iconst 0, 1) := by decide +kernel
theorem dL_law_2179 : decode cL_law 2179 = .ok (.ireturn, 1) := by decide +kernel
theorem dL_law_2180 : decode cL_law 2180 = .ok (.aload_n 1, 1) := by decide +kernel
theorem dL_law_2181 : decode cL_law 2181 = .ok (.invokevirtual 236, 3) := by decide +kernel
theorem dL_law_2184 : decode cL_law 2184 = .ok (.aload_n 2, 1) := by decide +kernel
theorem dL_law_2185 : decode cL_law 2185 = .ok (.invokevirtual 239, 3) := by decide +kernel
theorem dL_law_2188 : decode cL_law 2188 = .ok (.if_icmp .eq 303, 3) := by decide +kernel
theorem dL_law_2191 : decode cL_law 2191 = .ok (.iconst 0, 1) := by decide +kernel
theorem dL_law_2192 : decode cL_law 2192 = .ok (.ireturn, 1) := by decide +kernel
theorem dL_law_2193 : decode cL_law 2193 = .ok (.aload_n 1, 1) := by decide +kernel
theorem dL_law_2194 : decode cL_law 2194 = .ok (.invokevirtual 240, 3) := by decide +kernel
theorem dL_law_2197 : decode cL_law 2197 = .ok (.aload_n 2, 1) := by decide +kernel
theorem dL_law_2198 : decode cL_law 2198 = .ok (.invokevirtual 243, 3) := by decide +kernel
theorem dL_law_2201 : decode cL_law 2201 = .ok (.if_icmp .eq 290, 3) := by decide +kernel
theorem dL_law_2204 : decode cL_law 2204 = .ok (.iconst 0, 1) := by decide +kernel
theorem dL_law_2205 : decode cL_law 2205 = .ok (.ireturn, 1) := by decide +kernel
theorem dL_law_2206 : decode cL_law 2206 = .ok (.aload_n 1, 1) := by decide +kernel
theorem dL_law_2207 : decode cL_law 2207 = .ok (.invokevirtual 244, 3) := by decide +kernel
theorem dL_law_2210 : decode cL_law 2210 = .ok (.aload_n 2, 1) := by decide +kernel
theorem dL_law_2211 : decode cL_law 2211 = .ok (.invokevirtual 247, 3) := by decide +kernel
theorem dL_law_2214 : decode cL_law 2214 = .ok (.if_icmp .eq 277, 3) := by decide +kernel
theorem dL_law_2217 : decode cL_law 2217 = .ok (.iconst 0, 1) := by decide +kernel
theorem dL_law_2218 : decode cL_law 2218 = .ok (.ireturn, 1) := by decide +kernel
theorem dL_law_2219 : decode cL_law 2219 = .ok (.aload_n 1, 1) := by decide +kernel
theorem dL_law_2220 : decode cL_law 2220 = .ok (.invokevirtual 248, 3) := by decide +kernel
theorem dL_law_2223 : decode cL_law 2223 = .ok (.aload_n 2, 1) := by decide +kernel
theorem dL_law_2224 : decode cL_law 2224 = .ok (.invokevirtual 251, 3) := by decide +kernel
theorem dL_law_2227 : decode cL_law 2227 = .ok (.if_icmp .eq 264, 3) := by decide +kernel
theorem dL_law_2230 : decode cL_law 2230 = .ok (.iconst 0, 1) := by decide +kernel
theorem dL_law_2231 : decode cL_law 2231 = .ok (.ireturn, 1) := by decide +kernel
theorem dL_law_2232 : decode cL_law 2232 = .ok (.aload_n 1, 1) := by decide +kernel
theorem dL_law_2233 : decode cL_law 2233 = .ok (.aload_n 0, 1) := by decide +kernel
theorem dL_law_2234 : decode cL_law 2234 = .ok (.iload 4, 2) := by decide +kernel
theorem dL_law_2236 : decode cL_law 2236 = .ok (.iconst 1, 1) := by decide +kernel
theorem dL_law_2237 : decode cL_law 2237 = .ok (.iadd, 1) := by decide +kernel
theorem dL_law_2238 : decode cL_law 2238 = .ok (.iaload, 1) := by decide +kernel
theorem dL_law_2239 : decode cL_law 2239 = .ok (.aload_n 3, 1) := by decide +kernel
theorem dL_law_2240 : decode cL_law 2240 = .ok (.invokestatic 252, 3) := by decide +kernel
theorem dL_law_2243 : decode cL_law 2243 = .ok (.istore 5, 2) := by decide +kernel
theorem dL_law_2245 : decode cL_law 2245 = .ok (.aload_n 2, 1) := by decide +kernel
theorem dL_law_2246 : decode cL_law 2246 = .ok (.aload_n 0, 1) := by decide +kernel
theorem dL_law_2247 : decode cL_law 2247 = .ok (.iload 4, 2) := by decide +kernel
theorem dL_law_2249 : decode cL_law 2249 = .ok (.iconst 1, 1) := by decide +kernel
theorem dL_law_2250 : decode cL_law 2250 = .ok (.iadd, 1) := by decide +kernel
theorem dL_law_2251 : decode cL_law 2251 = .ok (.iaload, 1) := by decide +kernel
theorem dL_law_2252 : decode cL_law 2252 = .ok (.invokevirtual 254, 3) := by decide +kernel
theorem dL_law_2255 : decode cL_law 2255 = .ok (.istore 6, 2) := by decide +kernel
theorem dL_law_2257 : decode cL_law 2257 = .ok (.aload_n 2, 1) := by decide +kernel
theorem dL_law_2258 : decode cL_law 2258 = .ok (.invokevirtual 133, 3) := by decide +kernel
theorem dL_law_2261 : decode cL_law 2261 = .ok (.iload 5, 2) := by decide +kernel
theorem dL_law_2263 : decode cL_law 2263 = .ok (.if_icmp .eq 5, 3) := by decide +kernel
theorem dL_law_2266 : decode cL_law 2266 = .ok (.iconst 0, 1) := by decide +kernel
theorem dL_law_2267 : decode cL_law 2267 = .ok (.ireturn, 1) := by decide +kernel
theorem dL_law_2268 : decode cL_law 2268 = .ok (.iload 5, 2) := by decide +kernel
theorem dL_law_2270 : decode cL_law 2270 = .ok (.ifCond .ne 15, 3) := by decide +kernel
theorem dL_law_2273 : decode cL_law 2273 = .ok (.aload_n 3, 1) := by decide +kernel
theorem dL_law_2274 : decode cL_law 2274 = .ok (.iconst 0, 1) := by decide +kernel
theorem dL_law_2275 : decode cL_law 2275 = .ok (.laload, 1) := by decide +kernel
theorem dL_law_2276 : decode cL_law 2276 = .ok (.iload 6, 2) := by decide +kernel
theorem dL_law_2278 : decode cL_law 2278 = .ok (.i2l, 1) := by decide +kernel
theorem dL_law_2279 : decode cL_law 2279 = .ok (.lcmp, 1) := by decide +kernel
theorem dL_law_2280 : decode cL_law 2280 = .ok (.ifCond .eq 5, 3) := by decide +kernel
theorem dL_law_2283 : decode cL_law 2283 = .ok (.iconst 0, 1) := by decide +kernel
theorem dL_law_2284 : decode cL_law 2284 = .ok (.ireturn, 1) := by decide +kernel
theorem dL_law_2285 : decode cL_law 2285 = .ok (.goto 206, 3) := by decide +kernel
theorem dL_law_2288 : decode cL_law 2288 = .ok (.aload_n 1, 1) := by decide +kernel
theorem dL_law_2289 : decode cL_law 2289 = .ok (.aload_n 0, 1) := by decide +kernel
theorem dL_law_2290 : decode cL_law 2290 = .ok (.iload 4, 2) := by decide +kernel
theorem dL_law_2292 : decode cL_law 2292 = .ok (.iconst 1, 1) := by decide +kernel
theorem dL_law_2293 : decode cL_law 2293 = .ok (.iadd, 1) := by decide +kernel
theorem dL_law_2294 : decode cL_law 2294 = .ok (.iaload, 1) := by decide +kernel
theorem dL_law_2295 : decode cL_law 2295 = .ok (.aload_n 0, 1) := by decide +kernel
theorem dL_law_2296 : decode cL_law 2296 = .ok (.iload 4, 2) := by decide +kernel
theorem dL_law_2298 : decode cL_law 2298 = .ok (.iconst 2, 1) := by decide +kernel
theorem dL_law_2299 : decode cL_law 2299 = .ok (.iadd, 1) := by decide +kernel
theorem dL_law_2300 : decode cL_law 2300 = .ok (.iaload, 1) := by decide +kernel
theorem dL_law_2301 : decode cL_law 2301 = .ok (.aload_n 0, 1) := by decide +kernel
theorem dL_law_2302 : decode cL_law 2302 = .ok (.iload 4, 2) := by decide +kernel
theorem dL_law_2304 : decode cL_law 2304 = .ok (.iconst 3, 1) := by decide +kernel
theorem dL_law_2305 : decode cL_law 2305 = .ok (.iadd, 1) := by decide +kernel
theorem dL_law_2306 : decode cL_law 2306 = .ok (.iaload, 1) := by decide +kernel
theorem dL_law_2307 : decode cL_law 2307 = .ok (.aload_n 3, 1) := by decide +kernel
theorem dL_law_2308 : decode cL_law 2308 = .ok (.invokestatic 255, 3) := by decide +kernel
theorem dL_law_2311 : decode cL_law 2311 = .ok (.istore 5, 2) := by decide +kernel
theorem dL_law_2313 : decode cL_law 2313 = .ok (.aload_n 2, 1) := by decide +kernel
theorem dL_law_2314 : decode cL_law 2314 = .ok (.aload_n 0, 1) := by decide +kernel
theorem dL_law_2315 : decode cL_law 2315 = .ok (.iload 4, 2) := by decide +kernel
theorem dL_law_2317 : decode cL_law 2317 = .ok (.iconst 1, 1) := by decide +kernel
theorem dL_law_2318 : decode cL_law 2318 = .ok (.iadd, 1) := by decide +kernel
theorem dL_law_2319 : decode cL_law 2319 = .ok (.iaload, 1) := by decide +kernel
theorem dL_law_2320 : decode cL_law 2320 = .ok (.aload_n 0, 1) := by decide +kernel
theorem dL_law_2321 : decode cL_law 2321 = .ok (.iload 4, 2) := by decide +kernel
theorem dL_law_2323 : decode cL_law 2323 = .ok (.iconst 2, 1) := by decide +kernel
theorem dL_law_2324 : decode cL_law 2324 = .ok (.iadd, 1) := by decide +kernel
theorem dL_law_2325 : decode cL_law 2325 = .ok (.iaload, 1) := by decide +kernel
theorem dL_law_2326 : decode cL_law 2326 = .ok (.aload_n 0, 1) := by decide +kernel
theorem dL_law_2327 : decode cL_law 2327 = .ok (.iload 4, 2) := by decide +kernel
theorem dL_law_2329 : decode cL_law 2329 = .ok (.iconst 3, 1) := by decide +kernel
theorem dL_law_2330 : decode cL_law 2330 = .ok (.iadd, 1) := by decide +kernel
theorem dL_law_2331 : decode cL_law 2331 = .ok (.iaload, 1) := by decide +kernel
theorem dL_law_2332 : decode cL_law 2332 = .ok (.invokevirtual 258, 3) := by decide +kernel
theorem dL_law_2335 : decode cL_law 2335 = .ok (.istore 6, 2) := by decide +kernel
theorem dL_law_2337 : decode cL_law 2337 = .ok (.aload_n 2, 1) := by decide +kernel
theorem dL_law_2338 : decode cL_law 2338 = .ok (.invokevirtual 133, 3) := by decide +kernel
theorem dL_law_2341 : decode cL_law 2341 = .ok (.iload 5, 2) := by decide +kernel
theorem dL_law_2343 : decode cL_law 2343 = .ok (.if_icmp .eq 5, 3) := by decide +kernel
theorem dL_law_2346 : decode cL_law 2346 = .ok (.iconst 0, 1) := by decide +kernel
theorem dL_law_2347 : decode cL_law 2347 = .ok (.ireturn, 1) := by decide +kernel
theorem dL_law_2348 : decode cL_law 2348 = .ok (.iload 5, 2) := by decide +kernel
theorem dL_law_2350 : decode cL_law 2350 = .ok (.ifCond .ne 15, 3) := by decide +kernel
theorem dL_law_2353 : decode cL_law 2353 = .ok (.aload_n 3, 1) := by decide +kernel
theorem dL_law_2354 : decode cL_law 2354 = .ok (.iconst 0, 1) := by decide +kernel
theorem dL_law_2355 : decode cL_law 2355 = .ok (.laload, 1) := by decide +kernel
theorem dL_law_2356 : decode cL_law 2356 = .ok (.iload 6, 2) := by decide +kernel
theorem dL_law_2358 : decode cL_law 2358 = .ok (.i2l, 1) := by decide +kernel
theorem dL_law_2359 : decode cL_law 2359 = .ok (.lcmp, 1) := by decide +kernel
theorem dL_law_2360 : decode cL_law 2360 = .ok (.ifCond .eq 5, 3) := by decide +kernel
theorem dL_law_2363 : decode cL_law 2363 = .ok (.iconst 0, 1) := by decide +kernel
theorem dL_law_2364 : decode cL_law 2364 = .ok (.ireturn, 1) := by decide +kernel
theorem dL_law_2365 : decode cL_law 2365 = .ok (.goto 126, 3) := by decide +kernel
theorem dL_law_2368 : decode cL_law 2368 = .ok (.aload_n 1, 1) := by decide +kernel
theorem dL_law_2369 : decode cL_law 2369 = .ok (.aload_n 0, 1) := by decide +kernel
theorem dL_law_2370 : decode cL_law 2370 = .ok (.iload 4, 2) := by decide +kernel
theorem dL_law_2372 : decode cL_law 2372 = .ok (.iconst 1, 1) := by decide +kernel
theorem dL_law_2373 : decode cL_law 2373 = .ok (.iadd, 1) := by decide +kernel
theorem dL_law_2374 : decode cL_law 2374 = .ok (.iaload, 1) := by decide +kernel
theorem dL_law_2375 : decode cL_law 2375 = .ok (.aload_n 0, 1) := by decide +kernel
theorem dL_law_2376 : decode cL_law 2376 = .ok (.iload 4, 2) := by decide +kernel
theorem dL_law_2378 : decode cL_law 2378 = .ok (.iconst 2, 1) := by decide +kernel
theorem dL_law_2379 : decode cL_law 2379 = .ok (.iadd, 1) := by decide +kernel
theorem dL_law_2380 : decode cL_law 2380 = .ok (.iaload, 1) := by decide +kernel
theorem dL_law_2381 : decode cL_law 2381 = .ok (.aload_n 3, 1) := by decide +kernel
theorem dL_law_2382 : decode cL_law 2382 = .ok (.invokestatic 259, 3) := by decide +kernel
theorem dL_law_2385 : decode cL_law 2385 = .ok (.istore 5, 2) := by decide +kernel
theorem dL_law_2387 : decode cL_law 2387 = .ok (.aload_n 2, 1) := by decide +kernel
theorem dL_law_2388 : decode cL_law 2388 = .ok (.aload_n 0, 1) := by decide +kernel
theorem dL_law_2389 : decode cL_law 2389 = .ok (.iload 4, 2) := by decide +kernel
theorem dL_law_2391 : decode cL_law 2391 = .ok (.iconst 1, 1) := by decide +kernel
theorem dL_law_2392 : decode cL_law 2392 = .ok (.iadd, 1) := by decide +kernel
theorem dL_law_2393 : decode cL_law 2393 = .ok (.iaload, 1) := by decide +kernel
theorem dL_law_2394 : decode cL_law 2394 = .ok (.aload_n 0, 1) := by decide +kernel
theorem dL_law_2395 : decode cL_law 2395 = .ok (.iload 4, 2) := by decide +kernel
theorem dL_law_2397 : decode cL_law 2397 = .ok (.iconst 2, 1) := by decide +kernel
theorem dL_law_2398 : decode cL_law 2398 = .ok (.iadd, 1) := by decide +kernel
theorem dL_law_2399 : decode cL_law 2399 = .ok (.iaload, 1) := by decide +kernel
theorem dL_law_2400 : decode cL_law 2400 = .ok (.invokevirtual 261, 3) := by decide +kernel
theorem dL_law_2403 : decode cL_law 2403 = .ok (.istore 6, 2) := by decide +kernel
theorem dL_law_2405 : decode cL_law 2405 = .ok (.aload_n 2, 1) := by decide +kernel
theorem dL_law_2406 : decode cL_law 2406 = .ok (.invokevirtual 133, 3) := by decide +kernel
theorem dL_law_2409 : decode cL_law 2409 = .ok (.iload 5, 2) := by decide +kernel
theorem dL_law_2411 : decode cL_law 2411 = .ok (.if_icmp .eq 5, 3) := by decide +kernel
theorem dL_law_2414 : decode cL_law 2414 = .ok (.iconst 0, 1) := by decide +kernel
theorem dL_law_2415 : decode cL_law 2415 = .ok (.ireturn, 1) := by decide +kernel
theorem dL_law_2416 : decode cL_law 2416 = .ok (.iload 5, 2) := by decide +kernel
theorem dL_law_2418 : decode cL_law 2418 = .ok (.ifCond .ne 15, 3) := by decide +kernel
theorem dL_law_2421 : decode cL_law 2421 = .ok (.aload_n 3, 1) := by decide +kernel
theorem dL_law_2422 : decode cL_law 2422 = .ok (.iconst 0, 1) := by decide +kernel
theorem dL_law_2423 : decode cL_law 2423 = .ok (.laload, 1) := by decide +kernel
theorem dL_law_2424 : decode cL_law 2424 = .ok (.iload 6, 2) := by decide +kernel
theorem dL_law_2426 : decode cL_law 2426 = .ok (.i2l, 1) := by decide +kernel
theorem dL_law_2427 : decode cL_law 2427 = .ok (.lcmp, 1) := by decide +kernel
theorem dL_law_2428 : decode cL_law 2428 = .ok (.ifCond .eq 5, 3) := by decide +kernel
theorem dL_law_2431 : decode cL_law 2431 = .ok (.iconst 0, 1) := by decide +kernel
theorem dL_law_2432 : decode cL_law 2432 = .ok (.ireturn, 1) := by decide +kernel
theorem dL_law_2433 : decode cL_law 2433 = .ok (.goto 58, 3) := by decide +kernel
theorem dL_law_2436 : decode cL_law 2436 = .ok (.aload_n 1, 1) := by decide +kernel
theorem dL_law_2437 : decode cL_law 2437 = .ok (.invokevirtual 262, 3) := by decide +kernel
theorem dL_law_2440 : decode cL_law 2440 = .ok (.dstore 5, 2) := by decide +kernel
theorem dL_law_2442 : decode cL_law 2442 = .ok (.aload_n 2, 1) := by decide +kernel
theorem dL_law_2443 : decode cL_law 2443 = .ok (.invokevirtual 266, 3) := by decide +kernel
theorem dL_law_2446 : decode cL_law 2446 = .ok (.dstore 7, 2) := by decide +kernel
theorem dL_law_2448 : decode cL_law 2448 = .ok (.dload 5, 2) := by decide +kernel
theorem dL_law_2450 : decode cL_law 2450 = .ok (.dload 7, 2) := by decide +kernel
theorem dL_law_2452 : decode cL_law 2452 = .ok (.dcmp .l, 1) := by decide +kernel
theorem dL_law_2453 : decode cL_law 2453 = .ok (.ifCond .eq 21, 3) := by decide +kernel
theorem dL_law_2456 : decode cL_law 2456 = .ok (.dload 5, 2) := by decide +kernel
theorem dL_law_2458 : decode cL_law 2458 = .ok (.dload 5, 2) := by decide +kernel
theorem dL_law_2460 : decode cL_law 2460 = .ok (.dcmp .l, 1) := by decide +kernel
theorem dL_law_2461 : decode cL_law 2461 = .ok (.ifCond .eq 11, 3) := by decide +kernel
theorem dL_law_2464 : decode cL_law 2464 = .ok (.dload 7, 2) := by decide +kernel
theorem dL_law_2466 : decode cL_law 2466 = .ok (.dload 7, 2) := by decide +kernel
theorem dL_law_2468 : decode cL_law 2468 = .ok (.dcmp .l, 1) := by decide +kernel
theorem dL_law_2469 : decode cL_law 2469 = .ok (.ifCond .ne 5, 3) := by decide +kernel
theorem dL_law_2472 : decode cL_law 2472 = .ok (.iconst 0, 1) := by decide +kernel
theorem dL_law_2473 : decode cL_law 2473 = .ok (.ireturn, 1) := by decide +kernel
theorem dL_law_2474 : decode cL_law 2474 = .ok (.goto 17, 3) := by decide +kernel
theorem dL_law_2477 : decode cL_law 2477 = .ok (.aload_n 1, 1) := by decide +kernel
theorem dL_law_2478 : decode cL_law 2478 = .ok (.invokevirtual 267, 3) := by decide +kernel
theorem dL_law_2481 : decode cL_law 2481 = .ok (.aload_n 2, 1) := by decide +kernel
theorem dL_law_2482 : decode cL_law 2482 = .ok (.invokevirtual 271, 3) := by decide +kernel
theorem dL_law_2485 : decode cL_law 2485 = .ok (.lcmp, 1) := by decide +kernel
theorem dL_law_2486 : decode cL_law 2486 = .ok (.ifCond .eq 5, 3) := by decide +kernel
theorem dL_law_2489 : decode cL_law 2489 = .ok (.iconst 0, 1) := by decide +kernel
theorem dL_law_2490 : decode cL_law 2490 = .ok (.ireturn, 1) := by decide +kernel
theorem dL_law_2491 : decode cL_law 2491 = .ok (.iinc 4 4, 3) := by decide +kernel
theorem dL_law_2494 : decode cL_law 2494 = .ok (.goto (-2471), 3) := by decide +kernel
theorem dL_law_2497 : decode cL_law 2497 = .ok (.iconst 1, 1) := by decide +kernel
theorem dL_law_2498 : decode cL_law 2498 = .ok (.ireturn, 1) := by decide +kernel
end
section
/-- the words that stand under every warming, of all the tables -/
def XALL : List Cond := lw_tbl.filter goodWord
def nwOK : Cond → Bool
  | .fieldLinkNest .. => true
  | .methodLinkNest .. => true
  | .castable .. => true
  | .declares _ => true
  | _ => false
def NW : List Cond := lw_tbl.filter nwOK
theorem xall {w : Cond} (i : Nat) (h : tables_1[i]? = some w) (g : goodWord w = true) : w ∈ XALL := List.mem_filter.mpr ⟨List.mem_append_right _ (List.mem_of_getElem? h), g⟩
theorem nwall {w : Cond} (i : Nat) (h : tables_1[i]? = some w) (g : nwOK w = true) : w ∈ NW := List.mem_filter.mpr ⟨List.mem_append_right _ (List.mem_of_getElem? h), g⟩
theorem xsel {w : Cond} (i : Nat) (h : (k2_sels lw_privs)[i]? = some w) (g : goodWord w = true) : w ∈ XALL := List.mem_filter.mpr ⟨List.mem_append_left _ (List.mem_of_getElem? h), g⟩
theorem XALL_tbl {w : Cond} (h : w ∈ XALL) : w ∈ lw_tbl := (List.mem_filter.mp h).1
theorem NW_tbl {w : Cond} (h : w ∈ NW) : w ∈ lw_tbl := (List.mem_filter.mp h).1
theorem XALL_good {w : Cond} (h : w ∈ XALL) : goodWord w = true := (List.mem_filter.mp h).2
theorem XALL_in {w : Cond} (h : w ∈ XALL) : GoodIn XALL (w :: XALL) := fun v hv => by
  rcases List.mem_cons.mp hv with rfl | hv
  · exact ⟨h, good_of_word (XALL_good h)⟩
  · exact ⟨hv, good_of_word (XALL_good hv)⟩
theorem kz_L : Cond.initialized RL ∈ XALL := xall 0 (by decide +kernel) (by decide +kernel)
theorem kz_X3 : Cond.initialized RX3 ∈ XALL := xall 1 (by decide +kernel) (by decide +kernel)
theorem kz_X1 : Cond.initialized RX1 ∈ XALL := xall 2 (by decide +kernel) (by decide +kernel)
theorem kz_X2 : Cond.initialized RX2 ∈ XALL := xall 3 (by decide +kernel) (by decide +kernel)
theorem kz_X0 : Cond.initialized RX0 ∈ XALL := xall 4 (by decide +kernel) (by decide +kernel)
theorem kz_X4 : Cond.initialized RX4 ∈ XALL := xall 5 (by decide +kernel) (by decide +kernel)
theorem kz_Throwable : Cond.initialized "java/lang/Throwable" ∈ XALL := xall 6 (by decide +kernel) (by decide +kernel)
theorem kz_Exception : Cond.initialized "java/lang/Exception" ∈ XALL := xall 7 (by decide +kernel) (by decide +kernel)
theorem kz_RuntimeException : Cond.initialized "java/lang/RuntimeException" ∈ XALL := xall 8 (by decide +kernel) (by decide +kernel)
theorem kz_IllegalStateException : Cond.initialized "java/lang/IllegalStateException" ∈ XALL := xall 9 (by decide +kernel) (by decide +kernel)
theorem kz_IndexOutOfBoundsException : Cond.initialized "java/lang/IndexOutOfBoundsException" ∈ XALL := xall 10 (by decide +kernel) (by decide +kernel)
theorem kz_IllegalArgumentException : Cond.initialized "java/lang/IllegalArgumentException" ∈ XALL := xall 11 (by decide +kernel) (by decide +kernel)
theorem kz_J6 : Cond.initialized RJ6 ∈ XALL := xall 12 (by decide +kernel) (by decide +kernel)
theorem kz_J9 : Cond.initialized RJ9 ∈ XALL := xall 13 (by decide +kernel) (by decide +kernel)
theorem kl_L_8 : Cond.classLink RL 8 "DreamLedger" ∈ XALL := xall 14 (by decide +kernel) (by decide +kernel)
theorem kq_X3 : Cond.instantiable RX3 9 ∈ XALL := xall 15 (by decide +kernel) (by decide +kernel)
theorem km_L_123 : Cond.methodLink RL 123 yX3_init ∈ XALL := xall 16 (by decide +kernel) (by decide +kernel)
theorem ki_yX3_init : Cond.instanceMethod yX3_init ∈ XALL := xall 17 (by decide +kernel) (by decide +kernel)
theorem kc_yX3_init : Cond.code yX3_init cX3_init 1 none ∈ XALL := xall 18 (by decide +kernel) (by decide +kernel)
theorem km_X3_1 : Cond.methodLink RX3 1 objectInit ∈ XALL := xall 19 (by decide +kernel) (by decide +kernel)
theorem ki_objectInit : Cond.instanceMethod objectInit ∈ XALL := xall 20 (by decide +kernel) (by decide +kernel)
theorem kc_objectInit : Cond.code objectInit ⟨#[0xb1]⟩ 1 none ∈ XALL := xall 21 (by decide +kernel) (by decide +kernel)
theorem kl_X3_7 : Cond.classLink RX3 7 "DreamLedger$TagTree" ∈ XALL := xall 22 (by decide +kernel) (by decide +kernel)
theorem kq_X1 : Cond.instantiable RX1 3 ∈ XALL := xall 23 (by decide +kernel) (by decide +kernel)
theorem kmN_X3_9 : Cond.methodLinkNest RX3 9 yX1_init RX3 ∈ NW := nwall 24 (by decide +kernel) rfl
theorem ki_yX1_init : Cond.instanceMethod yX1_init ∈ XALL := xall 25 (by decide +kernel) (by decide +kernel)
theorem kc_yX1_init : Cond.code yX1_init cX1_init 1 none ∈ XALL := xall 26 (by decide +kernel) (by decide +kernel)
theorem km_X1_3 : Cond.methodLink RX1 3 objectInit ∈ XALL := xall 27 (by decide +kernel) (by decide +kernel)
theorem kf_X1_9 : Cond.fieldLink RX1 9 "DreamLedger$TagTree" "parents" "[I" ∈ XALL := xall 28 (by decide +kernel) (by decide +kernel)
theorem kfN_X3_73 : Cond.fieldLinkNest RX3 73 "DreamLedger$TagTree" "parents" "[I" RX3 ∈ NW := nwall 29 (by decide +kernel) rfl
theorem kf_X1_15 : Cond.fieldLink RX1 15 "DreamLedger$TagTree" "lines" "[I" ∈ XALL := xall 30 (by decide +kernel) (by decide +kernel)
theorem kfN_X3_142 : Cond.fieldLinkNest RX3 142 "DreamLedger$TagTree" "lines" "[I" RX3 ∈ NW := nwall 31 (by decide +kernel) rfl
theorem kf_X1_18 : Cond.fieldLink RX1 18 "DreamLedger$TagTree" "count" "I" ∈ XALL := xall 32 (by decide +kernel) (by decide +kernel)
theorem kfN_X3_43 : Cond.fieldLinkNest RX3 43 "DreamLedger$TagTree" "count" "I" RX3 ∈ NW := nwall 33 (by decide +kernel) rfl
theorem ka_int : Cond.arrayClass .int ∈ XALL := xall 41 (by decide +kernel) (by decide +kernel)
theorem kl_X3_16 : Cond.classLink RX3 16 "DreamLedger$TermList" ∈ XALL := xall 42 (by decide +kernel) (by decide +kernel)
theorem kq_X2 : Cond.instantiable RX2 5 ∈ XALL := xall 43 (by decide +kernel) (by decide +kernel)
theorem kmN_X3_18 : Cond.methodLinkNest RX3 18 yX2_init RX3 ∈ NW := nwall 44 (by decide +kernel) rfl
theorem ki_yX2_init : Cond.instanceMethod yX2_init ∈ XALL := xall 45 (by decide +kernel) (by decide +kernel)
theorem kc_yX2_init : Cond.code yX2_init cX2_init 1 none ∈ XALL := xall 46 (by decide +kernel) (by decide +kernel)
theorem km_X2_3 : Cond.methodLink RX2 3 objectInit ∈ XALL := xall 47 (by decide +kernel) (by decide +kernel)
theorem kf_X2_9 : Cond.fieldLink RX2 9 "DreamLedger$TermList" "kinds" "[I" ∈ XALL := xall 48 (by decide +kernel) (by decide +kernel)
theorem kfN_X3_221 : Cond.fieldLinkNest RX3 221 "DreamLedger$TermList" "kinds" "[I" RX3 ∈ NW := nwall 49 (by decide +kernel) rfl
theorem kf_X2_15 : Cond.fieldLink RX2 15 "DreamLedger$TermList" "firsts" "[I" ∈ XALL := xall 50 (by decide +kernel) (by decide +kernel)
theorem kfN_X3_224 : Cond.fieldLinkNest RX3 224 "DreamLedger$TermList" "firsts" "[I" RX3 ∈ NW := nwall 51 (by decide +kernel) rfl
theorem kf_X2_18 : Cond.fieldLink RX2 18 "DreamLedger$TermList" "seconds" "[I" ∈ XALL := xall 52 (by decide +kernel) (by decide +kernel)
theorem kf_X2_21 : Cond.fieldLink RX2 21 "DreamLedger$TermList" "matched" "[I" ∈ XALL := xall 53 (by decide +kernel) (by decide +kernel)
theorem kfN_X3_151 : Cond.fieldLinkNest RX3 151 "DreamLedger$TermList" "matched" "[I" RX3 ∈ NW := nwall 54 (by decide +kernel) rfl
theorem kf_X2_24 : Cond.fieldLink RX2 24 "DreamLedger$TermList" "count" "I" ∈ XALL := xall 55 (by decide +kernel) (by decide +kernel)
theorem kfN_X3_135 : Cond.fieldLinkNest RX3 135 "DreamLedger$TermList" "count" "I" RX3 ∈ NW := nwall 56 (by decide +kernel) rfl
theorem kl_X3_23 : Cond.classLink RX3 23 "DreamLedger$CoverSearch" ∈ XALL := xall 68 (by decide +kernel) (by decide +kernel)
theorem kq_X0 : Cond.instantiable RX0 2 ∈ XALL := xall 69 (by decide +kernel) (by decide +kernel)
theorem kmN_X3_25 : Cond.methodLinkNest RX3 25 yX0_init RX3 ∈ NW := nwall 70 (by decide +kernel) rfl
theorem ki_yX0_init : Cond.instanceMethod yX0_init ∈ XALL := xall 71 (by decide +kernel) (by decide +kernel)
theorem kc_yX0_init : Cond.code yX0_init cX0_init 1 none ∈ XALL := xall 72 (by decide +kernel) (by decide +kernel)
theorem km_X0_3 : Cond.methodLink RX0 3 objectInit ∈ XALL := xall 73 (by decide +kernel) (by decide +kernel)
theorem kf_X0_9 : Cond.fieldLink RX0 9 "DreamLedger$CoverSearch" "dreamsWithTag" "[I" ∈ XALL := xall 74 (by decide +kernel) (by decide +kernel)
theorem kfN_X3_242 : Cond.fieldLinkNest RX3 242 "DreamLedger$CoverSearch" "dreamsWithTag" "[I" RX3 ∈ NW := nwall 75 (by decide +kernel) rfl
theorem kf_X0_15 : Cond.fieldLink RX0 15 "DreamLedger$CoverSearch" "coverable" "[I" ∈ XALL := xall 76 (by decide +kernel) (by decide +kernel)
theorem kf_X3_10 : Cond.fieldLink RX3 10 "DreamLedger" "tagTree" "LDreamLedger$TagTree;" ∈ XALL := xall 82 (by decide +kernel) (by decide +kernel)
theorem kf_X3_19 : Cond.fieldLink RX3 19 "DreamLedger" "termList" "LDreamLedger$TermList;" ∈ XALL := xall 83 (by decide +kernel) (by decide +kernel)
theorem kf_X3_26 : Cond.fieldLink RX3 26 "DreamLedger" "coverSearch" "LDreamLedger$CoverSearch;" ∈ XALL := xall 84 (by decide +kernel) (by decide +kernel)
theorem kf_X3_30 : Cond.fieldLink RX3 30 "DreamLedger" "ownTags" "[I" ∈ XALL := xall 85 (by decide +kernel) (by decide +kernel)
theorem kf_X3_34 : Cond.fieldLink RX3 34 "DreamLedger" "tagSets" "[I" ∈ XALL := xall 86 (by decide +kernel) (by decide +kernel)
theorem kf_X3_37 : Cond.fieldLink RX3 37 "DreamLedger" "vividnesses" "[I" ∈ XALL := xall 87 (by decide +kernel) (by decide +kernel)
theorem kf_X3_40 : Cond.fieldLink RX3 40 "DreamLedger" "writtenIn" "[I" ∈ XALL := xall 88 (by decide +kernel) (by decide +kernel)
theorem kf_X3_84 : Cond.fieldLink RX3 84 "DreamLedger" "dreamCount" "I" ∈ XALL := xall 89 (by decide +kernel) (by decide +kernel)
theorem kf_X3_89 : Cond.fieldLink RX3 89 "DreamLedger" "nightCount" "I" ∈ XALL := xall 90 (by decide +kernel) (by decide +kernel)
theorem km_L_171 : Cond.methodLink RL 171 yX3_clearTerms ∈ XALL := xall 110 (by decide +kernel) (by decide +kernel)
theorem ki_yX3_clearTerms : Cond.instanceMethod yX3_clearTerms ∈ XALL := xall 111 (by decide +kernel) (by decide +kernel)
theorem ks_yX3_clearTerms : Cond.selects RX3 yX3_clearTerms yX3_clearTerms ∈ XALL := xall 112 (by decide +kernel) (by decide +kernel)
theorem kc_yX3_clearTerms : Cond.code yX3_clearTerms cX3_clearTerms 2 (some .int) ∈ XALL := xall 113 (by decide +kernel) (by decide +kernel)
theorem km_L_232 : Cond.methodLink RL 232 yX3_tags ∈ XALL := xall 114 (by decide +kernel) (by decide +kernel)
theorem ki_yX3_tags : Cond.instanceMethod yX3_tags ∈ XALL := xall 115 (by decide +kernel) (by decide +kernel)
theorem ks_yX3_tags : Cond.selects RX3 yX3_tags yX3_tags ∈ XALL := xall 116 (by decide +kernel) (by decide +kernel)
theorem kc_yX3_tags : Cond.code yX3_tags cX3_tags 1 (some .int) ∈ XALL := xall 117 (by decide +kernel) (by decide +kernel)
theorem km_L_236 : Cond.methodLink RL 236 yX3_dreams ∈ XALL := xall 118 (by decide +kernel) (by decide +kernel)
theorem ki_yX3_dreams : Cond.instanceMethod yX3_dreams ∈ XALL := xall 119 (by decide +kernel) (by decide +kernel)
theorem ks_yX3_dreams : Cond.selects RX3 yX3_dreams yX3_dreams ∈ XALL := xall 120 (by decide +kernel) (by decide +kernel)
theorem kc_yX3_dreams : Cond.code yX3_dreams cX3_dreams 1 (some .int) ∈ XALL := xall 121 (by decide +kernel) (by decide +kernel)
theorem km_L_240 : Cond.methodLink RL 240 yX3_terms ∈ XALL := xall 122 (by decide +kernel) (by decide +kernel)
theorem ki_yX3_terms : Cond.instanceMethod yX3_terms ∈ XALL := xall 123 (by decide +kernel) (by decide +kernel)
theorem ks_yX3_terms : Cond.selects RX3 yX3_terms yX3_terms ∈ XALL := xall 124 (by decide +kernel) (by decide +kernel)
theorem kc_yX3_terms : Cond.code yX3_terms cX3_terms 1 (some .int) ∈ XALL := xall 125 (by decide +kernel) (by decide +kernel)
theorem km_L_244 : Cond.methodLink RL 244 yX3_nights ∈ XALL := xall 126 (by decide +kernel) (by decide +kernel)
theorem ki_yX3_nights : Cond.instanceMethod yX3_nights ∈ XALL := xall 127 (by decide +kernel) (by decide +kernel)
theorem ks_yX3_nights : Cond.selects RX3 yX3_nights yX3_nights ∈ XALL := xall 128 (by decide +kernel) (by decide +kernel)
theorem kc_yX3_nights : Cond.code yX3_nights cX3_nights 1 (some .int) ∈ XALL := xall 129 (by decide +kernel) (by decide +kernel)
theorem km_L_248 : Cond.methodLink RL 248 yX3_fadedDreams ∈ XALL := xall 130 (by decide +kernel) (by decide +kernel)
theorem ki_yX3_fadedDreams : Cond.instanceMethod yX3_fadedDreams ∈ XALL := xall 131 (by decide +kernel) (by decide +kernel)
theorem ks_yX3_fadedDreams : Cond.selects RX3 yX3_fadedDreams yX3_fadedDreams ∈ XALL := xall 132 (by decide +kernel) (by decide +kernel)
theorem kc_yX3_fadedDreams : Cond.code yX3_fadedDreams cX3_fadedDreams 1 (some .int) ∈ XALL := xall 133 (by decide +kernel) (by decide +kernel)
theorem km_X3_122 : Cond.methodLink RX3 122 yX3_countFadedAfter ∈ XALL := xall 134 (by decide +kernel) (by decide +kernel)
theorem ki_yX3_countFadedAfter : Cond.instanceMethod yX3_countFadedAfter ∈ XALL := xall 136 (by decide +kernel) (by decide +kernel)
theorem kc_yX3_countFadedAfter : Cond.code yX3_countFadedAfter cX3_countFadedAfter 4 (some .int) ∈ XALL := xall 137 (by decide +kernel) (by decide +kernel)
theorem km_X3_118 : Cond.methodLink RX3 118 yX3_vividnessAfter ∈ XALL := xall 138 (by decide +kernel) (by decide +kernel)
theorem ki_yX3_vividnessAfter : Cond.instanceMethod yX3_vividnessAfter ∈ XALL := xall 140 (by decide +kernel) (by decide +kernel)
theorem kc_yX3_vividnessAfter : Cond.code yX3_vividnessAfter cX3_vividnessAfter 4 (some .int) ∈ XALL := xall 141 (by decide +kernel) (by decide +kernel)
theorem km_X3_233 : Cond.methodLink RX3 233 yX3_ownTagsOfLatest ∈ XALL := xall 142 (by decide +kernel) (by decide +kernel)
theorem ki_yX3_ownTagsOfLatest : Cond.instanceMethod yX3_ownTagsOfLatest ∈ XALL := xall 144 (by decide +kernel) (by decide +kernel)
theorem kc_yX3_ownTagsOfLatest : Cond.code yX3_ownTagsOfLatest cX3_ownTagsOfLatest 1 (some .int) ∈ XALL := xall 145 (by decide +kernel) (by decide +kernel)
theorem km_X3_236 : Cond.methodLink RX3 236 yJ9_max_7cf53 ∈ XALL := xall 146 (by decide +kernel) (by decide +kernel)
theorem kt_yJ9_max_7cf53 : Cond.static yJ9_max_7cf53 ∈ XALL := xall 147 (by decide +kernel) (by decide +kernel)
theorem kc_yJ9_max_7cf53 : Cond.code yJ9_max_7cf53 cJ9_max_7cf53 2 (some .int) ∈ XALL := xall 148 (by decide +kernel) (by decide +kernel)
theorem km_L_262 : Cond.methodLink RL 262 yX3_meanVividness ∈ XALL := xall 149 (by decide +kernel) (by decide +kernel)
theorem ki_yX3_meanVividness : Cond.instanceMethod yX3_meanVividness ∈ XALL := xall 150 (by decide +kernel) (by decide +kernel)
theorem ks_yX3_meanVividness : Cond.selects RX3 yX3_meanVividness yX3_meanVividness ∈ XALL := xall 151 (by decide +kernel) (by decide +kernel)
theorem kc_yX3_meanVividness : Cond.code yX3_meanVividness cX3_meanVividness 3 (some .double) ∈ XALL := xall 152 (by decide +kernel) (by decide +kernel)
theorem km_L_267 : Cond.methodLink RL 267 yX3_digest ∈ XALL := xall 153 (by decide +kernel) (by decide +kernel)
theorem ki_yX3_digest : Cond.instanceMethod yX3_digest ∈ XALL := xall 154 (by decide +kernel) (by decide +kernel)
theorem ks_yX3_digest : Cond.selects RX3 yX3_digest yX3_digest ∈ XALL := xall 155 (by decide +kernel) (by decide +kernel)
theorem kc_yX3_digest : Cond.code yX3_digest cX3_digest 4 (some .long) ∈ XALL := xall 156 (by decide +kernel) (by decide +kernel)
theorem kk_X3_177 : Cond.constantLong RX3 177 (1867) ∈ XALL := xall 157 (by decide +kernel) (by decide +kernel)
theorem km_X3_179 : Cond.methodLink RX3 179 yX3_digested ∈ XALL := xall 158 (by decide +kernel) (by decide +kernel)
theorem kt_yX3_digested : Cond.static yX3_digested ∈ XALL := xall 159 (by decide +kernel) (by decide +kernel)
theorem kc_yX3_digested : Cond.code yX3_digested cX3_digested 4 (some .long) ∈ XALL := xall 160 (by decide +kernel) (by decide +kernel)
theorem kk_X3_252 : Cond.constantLong RX3 252 (31) ∈ XALL := xall 161 (by decide +kernel) (by decide +kernel)
theorem km_X3_183 : Cond.methodLink RX3 183 yX3_digestedTag ∈ XALL := xall 162 (by decide +kernel) (by decide +kernel)
theorem ki_yX3_digestedTag : Cond.instanceMethod yX3_digestedTag ∈ XALL := xall 164 (by decide +kernel) (by decide +kernel)
theorem kc_yX3_digestedTag : Cond.code yX3_digestedTag cX3_digestedTag 6 (some .long) ∈ XALL := xall 165 (by decide +kernel) (by decide +kernel)
theorem kmN_X3_65 : Cond.methodLinkNest RX3 65 yX1_countAbove RX3 ∈ NW := nwall 166 (by decide +kernel) rfl
theorem ki_yX1_countAbove : Cond.instanceMethod yX1_countAbove ∈ XALL := xall 168 (by decide +kernel) (by decide +kernel)
theorem kc_yX1_countAbove : Cond.code yX1_countAbove cX1_countAbove 2 (some .int) ∈ XALL := xall 169 (by decide +kernel) (by decide +kernel)
theorem km_X1_37 : Cond.methodLink RX1 37 yJ6_bitCount_0f7a4 ∈ XALL := xall 170 (by decide +kernel) (by decide +kernel)
theorem kt_yJ6_bitCount_0f7a4 : Cond.static yJ6_bitCount_0f7a4 ∈ XALL := xall 171 (by decide +kernel) (by decide +kernel)
theorem kc_yJ6_bitCount_0f7a4 : Cond.code yJ6_bitCount_0f7a4 cJ6_bitCount_0f7a4 1 (some .int) ∈ XALL := xall 172 (by decide +kernel) (by decide +kernel)
theorem kk_J6_265 : Cond.constant RJ6 265 (1431655765) ∈ XALL := xall 173 (by decide +kernel) (by decide +kernel)
theorem kk_J6_266 : Cond.constant RJ6 266 (858993459) ∈ XALL := xall 174 (by decide +kernel) (by decide +kernel)
theorem kk_J6_267 : Cond.constant RJ6 267 (252645135) ∈ XALL := xall 175 (by decide +kernel) (by decide +kernel)
theorem kmN_X3_136 : Cond.methodLinkNest RX3 136 yX1_countBelow RX3 ∈ NW := nwall 176 (by decide +kernel) rfl
theorem ki_yX1_countBelow : Cond.instanceMethod yX1_countBelow ∈ XALL := xall 178 (by decide +kernel) (by decide +kernel)
theorem kc_yX1_countBelow : Cond.code yX1_countBelow cX1_countBelow 4 (some .int) ∈ XALL := xall 179 (by decide +kernel) (by decide +kernel)
theorem km_X1_34 : Cond.methodLink RX1 34 yX1_standsBelow ∈ XALL := xall 180 (by decide +kernel) (by decide +kernel)
theorem ki_yX1_standsBelow : Cond.instanceMethod yX1_standsBelow ∈ XALL := xall 182 (by decide +kernel) (by decide +kernel)
theorem kc_yX1_standsBelow : Cond.code yX1_standsBelow cX1_standsBelow 3 (some .boolean) ∈ XALL := xall 183 (by decide +kernel) (by decide +kernel)
theorem kmN_X1_30 : Cond.methodLinkNest RX1 30 yX3_isIn RX3 ∈ NW := nwall 184 (by decide +kernel) rfl
theorem kt_yX3_isIn : Cond.static yX3_isIn ∈ XALL := xall 185 (by decide +kernel) (by decide +kernel)
theorem kc_yX3_isIn : Cond.code yX3_isIn cX3_isIn 2 (some .boolean) ∈ XALL := xall 186 (by decide +kernel) (by decide +kernel)
theorem km_X3_148 : Cond.methodLink RX3 148 yX3_dreamsHaving ∈ XALL := xall 187 (by decide +kernel) (by decide +kernel)
theorem ki_yX3_dreamsHaving : Cond.instanceMethod yX3_dreamsHaving ∈ XALL := xall 189 (by decide +kernel) (by decide +kernel)
theorem kc_yX3_dreamsHaving : Cond.code yX3_dreamsHaving cX3_dreamsHaving 4 (some .int) ∈ XALL := xall 190 (by decide +kernel) (by decide +kernel)
theorem km_X3_98 : Cond.methodLink RX3 98 yX3_isIn ∈ XALL := xall 191 (by decide +kernel) (by decide +kernel)
theorem km_X3_104 : Cond.methodLink RX3 104 yJ6_bitCount_0f7a4 ∈ XALL := xall 192 (by decide +kernel) (by decide +kernel)
theorem km_X3_187 : Cond.methodLink RX3 187 yX3_digestedDream ∈ XALL := xall 193 (by decide +kernel) (by decide +kernel)
theorem ki_yX3_digestedDream : Cond.instanceMethod yX3_digestedDream ∈ XALL := xall 195 (by decide +kernel) (by decide +kernel)
theorem kc_yX3_digestedDream : Cond.code yX3_digestedDream cX3_digestedDream 6 (some .long) ∈ XALL := xall 196 (by decide +kernel) (by decide +kernel)
theorem km_X3_248 : Cond.methodLink RX3 248 yX3_digestedSet ∈ XALL := xall 197 (by decide +kernel) (by decide +kernel)
theorem kt_yX3_digestedSet : Cond.static yX3_digestedSet ∈ XALL := xall 198 (by decide +kernel) (by decide +kernel)
theorem kc_yX3_digestedSet : Cond.code yX3_digestedSet cX3_digestedSet 7 (some .long) ∈ XALL := xall 199 (by decide +kernel) (by decide +kernel)
theorem km_X3_190 : Cond.methodLink RX3 190 yX3_digestedTerm ∈ XALL := xall 200 (by decide +kernel) (by decide +kernel)
theorem ki_yX3_digestedTerm : Cond.instanceMethod yX3_digestedTerm ∈ XALL := xall 202 (by decide +kernel) (by decide +kernel)
theorem kc_yX3_digestedTerm : Cond.code yX3_digestedTerm cX3_digestedTerm 9 (some .long) ∈ XALL := xall 203 (by decide +kernel) (by decide +kernel)
theorem km_X3_160 : Cond.methodLink RX3 160 yX3_smallestCover ∈ XALL := xall 204 (by decide +kernel) (by decide +kernel)
theorem ki_yX3_smallestCover : Cond.instanceMethod yX3_smallestCover ∈ XALL := xall 206 (by decide +kernel) (by decide +kernel)
theorem kc_yX3_smallestCover : Cond.code yX3_smallestCover cX3_smallestCover 4 (some .int) ∈ XALL := xall 207 (by decide +kernel) (by decide +kernel)
theorem kmN_X3_245 : Cond.methodLinkNest RX3 245 yX0_smallestOf RX3 ∈ NW := nwall 208 (by decide +kernel) rfl
theorem ki_yX0_smallestOf : Cond.instanceMethod yX0_smallestOf ∈ XALL := xall 210 (by decide +kernel) (by decide +kernel)
theorem kc_yX0_smallestOf : Cond.code yX0_smallestOf cX0_smallestOf 4 (some .int) ∈ XALL := xall 211 (by decide +kernel) (by decide +kernel)
theorem km_X0_18 : Cond.methodLink RX0 18 yX0_coverFrom ∈ XALL := xall 212 (by decide +kernel) (by decide +kernel)
theorem kt_yX0_coverFrom : Cond.static yX0_coverFrom ∈ XALL := xall 213 (by decide +kernel) (by decide +kernel)
theorem kc_yX0_coverFrom : Cond.code yX0_coverFrom cX0_coverFrom 7 (some .int) ∈ XALL := xall 214 (by decide +kernel) (by decide +kernel)
theorem km_X3_154 : Cond.methodLink RX3 154 yX3_mostVividOf ∈ XALL := xall 215 (by decide +kernel) (by decide +kernel)
theorem ki_yX3_mostVividOf : Cond.instanceMethod yX3_mostVividOf ∈ XALL := xall 217 (by decide +kernel) (by decide +kernel)
theorem kc_yX3_mostVividOf : Cond.code yX3_mostVividOf cX3_mostVividOf 5 (some .int) ∈ XALL := xall 218 (by decide +kernel) (by decide +kernel)
theorem km_X3_157 : Cond.methodLink RX3 157 yX3_tagsSharedBy ∈ XALL := xall 219 (by decide +kernel) (by decide +kernel)
theorem ki_yX3_tagsSharedBy : Cond.instanceMethod yX3_tagsSharedBy ∈ XALL := xall 221 (by decide +kernel) (by decide +kernel)
theorem kc_yX3_tagsSharedBy : Cond.code yX3_tagsSharedBy cX3_tagsSharedBy 4 (some .int) ∈ XALL := xall 222 (by decide +kernel) (by decide +kernel)
theorem kk_X3_241 : Cond.constant RX3 241 (65535) ∈ XALL := xall 223 (by decide +kernel) (by decide +kernel)
theorem km_L_127 : Cond.methodLink RL 127 yL_addTag ∈ XALL := xall 224 (by decide +kernel) (by decide +kernel)
theorem kt_yL_addTag : Cond.static yL_addTag ∈ XALL := xall 225 (by decide +kernel) (by decide +kernel)
theorem kw_yL_addTag : Cond.codeWith yL_addTag cL_addTag 3 (some .int) [(0, 8, 11, 13)] ∈ XALL := xall 226 (by decide +kernel) (by decide +kernel)
theorem kl_L_13 : Cond.classLink RL 13 "java/lang/IllegalStateException" ∈ XALL := xall 227 (by decide +kernel) (by decide +kernel)
theorem km_L_7 : Cond.methodLink RL 7 yX3_addTag ∈ XALL := xall 228 (by decide +kernel) (by decide +kernel)
theorem ki_yX3_addTag : Cond.instanceMethod yX3_addTag ∈ XALL := xall 229 (by decide +kernel) (by decide +kernel)
theorem ks_yX3_addTag : Cond.selects RX3 yX3_addTag yX3_addTag ∈ XALL := xall 230 (by decide +kernel) (by decide +kernel)
theorem kc_yX3_addTag : Cond.code yX3_addTag cX3_addTag 1 (some .int) ∈ XALL := xall 231 (by decide +kernel) (by decide +kernel)
theorem kl_X3_47 : Cond.classLink RX3 47 "java/lang/IllegalStateException" ∈ XALL := xall 232 (by decide +kernel) (by decide +kernel)
theorem ka_byte : Cond.arrayClass .byte ∈ XALL := xall 299 (by decide +kernel) (by decide +kernel)
theorem kmN_X3_54 : Cond.methodLinkNest RX3 54 yX1_grow RX3 ∈ NW := nwall 300 (by decide +kernel) rfl
theorem ki_yX1_grow : Cond.instanceMethod yX1_grow ∈ XALL := xall 302 (by decide +kernel) (by decide +kernel)
theorem kc_yX1_grow : Cond.code yX1_grow cX1_grow 2 (some .int) ∈ XALL := xall 303 (by decide +kernel) (by decide +kernel)
theorem km_X1_22 : Cond.methodLink RX1 22 yX1_hang ∈ XALL := xall 304 (by decide +kernel) (by decide +kernel)
theorem ki_yX1_hang : Cond.instanceMethod yX1_hang ∈ XALL := xall 306 (by decide +kernel) (by decide +kernel)
theorem kc_yX1_hang : Cond.code yX1_hang cX1_hang 4 none ∈ XALL := xall 307 (by decide +kernel) (by decide +kernel)
theorem km_X1_26 : Cond.methodLink RX1 26 yX1_lineFrom ∈ XALL := xall 308 (by decide +kernel) (by decide +kernel)
theorem ki_yX1_lineFrom : Cond.instanceMethod yX1_lineFrom ∈ XALL := xall 310 (by decide +kernel) (by decide +kernel)
theorem kc_yX1_lineFrom : Cond.code yX1_lineFrom cX1_lineFrom 5 (some .int) ∈ XALL := xall 311 (by decide +kernel) (by decide +kernel)
theorem km_L_136 : Cond.methodLink RL 136 yL_putUnder ∈ XALL := xall 312 (by decide +kernel) (by decide +kernel)
theorem kt_yL_putUnder : Cond.static yL_putUnder ∈ XALL := xall 313 (by decide +kernel) (by decide +kernel)
theorem kw_yL_putUnder : Cond.codeWith yL_putUnder cL_putUnder 5 (some .int) [(0, 10, 13, 19), (0, 10, 17, 21), (0, 10, 21, 13)] ∈ XALL := xall 314 (by decide +kernel) (by decide +kernel)
theorem kl_L_19 : Cond.classLink RL 19 "java/lang/IndexOutOfBoundsException" ∈ XALL := xall 315 (by decide +kernel) (by decide +kernel)
theorem kl_L_21 : Cond.classLink RL 21 "java/lang/IllegalArgumentException" ∈ XALL := xall 316 (by decide +kernel) (by decide +kernel)
theorem km_L_15 : Cond.methodLink RL 15 yX3_putUnder ∈ XALL := xall 317 (by decide +kernel) (by decide +kernel)
theorem ki_yX3_putUnder : Cond.instanceMethod yX3_putUnder ∈ XALL := xall 318 (by decide +kernel) (by decide +kernel)
theorem ks_yX3_putUnder : Cond.selects RX3 yX3_putUnder yX3_putUnder ∈ XALL := xall 319 (by decide +kernel) (by decide +kernel)
theorem kc_yX3_putUnder : Cond.code yX3_putUnder cX3_putUnder 3 (some .int) ∈ XALL := xall 320 (by decide +kernel) (by decide +kernel)
theorem km_X3_58 : Cond.methodLink RX3 58 yX3_requirePlaceUnder ∈ XALL := xall 321 (by decide +kernel) (by decide +kernel)
theorem ki_yX3_requirePlaceUnder : Cond.instanceMethod yX3_requirePlaceUnder ∈ XALL := xall 323 (by decide +kernel) (by decide +kernel)
theorem kc_yX3_requirePlaceUnder : Cond.code yX3_requirePlaceUnder cX3_requirePlaceUnder 3 none ∈ XALL := xall 324 (by decide +kernel) (by decide +kernel)
theorem km_X3_76 : Cond.methodLink RX3 76 yX3_requireTag ∈ XALL := xall 325 (by decide +kernel) (by decide +kernel)
theorem ki_yX3_requireTag : Cond.instanceMethod yX3_requireTag ∈ XALL := xall 327 (by decide +kernel) (by decide +kernel)
theorem kc_yX3_requireTag : Cond.code yX3_requireTag cX3_requireTag 2 none ∈ XALL := xall 328 (by decide +kernel) (by decide +kernel)
theorem kl_X3_166 : Cond.classLink RX3 166 "java/lang/IndexOutOfBoundsException" ∈ XALL := xall 329 (by decide +kernel) (by decide +kernel)
theorem kl_X3_79 : Cond.classLink RX3 79 "java/lang/IllegalArgumentException" ∈ XALL := xall 345 (by decide +kernel) (by decide +kernel)
theorem kmN_X3_174 : Cond.methodLinkNest RX3 174 yX1_canHang RX3 ∈ NW := nwall 361 (by decide +kernel) rfl
theorem ki_yX1_canHang : Cond.instanceMethod yX1_canHang ∈ XALL := xall 363 (by decide +kernel) (by decide +kernel)
theorem kc_yX1_canHang : Cond.code yX1_canHang cX1_canHang 3 (some .boolean) ∈ XALL := xall 364 (by decide +kernel) (by decide +kernel)
theorem km_X3_62 : Cond.methodLink RX3 62 yX3_moveTag ∈ XALL := xall 366 (by decide +kernel) (by decide +kernel)
theorem ki_yX3_moveTag : Cond.instanceMethod yX3_moveTag ∈ XALL := xall 368 (by decide +kernel) (by decide +kernel)
theorem kc_yX3_moveTag : Cond.code yX3_moveTag cX3_moveTag 4 none ∈ XALL := xall 369 (by decide +kernel) (by decide +kernel)
theorem kmN_X3_209 : Cond.methodLinkNest RX3 209 yX1_hang RX3 ∈ NW := nwall 370 (by decide +kernel) rfl
theorem kmN_X3_212 : Cond.methodLinkNest RX3 212 yX1_linesOf RX3 ∈ NW := nwall 371 (by decide +kernel) rfl
theorem ki_yX1_linesOf : Cond.instanceMethod yX1_linesOf ∈ XALL := xall 373 (by decide +kernel) (by decide +kernel)
theorem kc_yX1_linesOf : Cond.code yX1_linesOf cX1_linesOf 4 (some .int) ∈ XALL := xall 374 (by decide +kernel) (by decide +kernel)
theorem km_X3_215 : Cond.methodLink RX3 215 yX3_rematchTerms ∈ XALL := xall 375 (by decide +kernel) (by decide +kernel)
theorem ki_yX3_rematchTerms : Cond.instanceMethod yX3_rematchTerms ∈ XALL := xall 377 (by decide +kernel) (by decide +kernel)
theorem kc_yX3_rematchTerms : Cond.code yX3_rematchTerms cX3_rematchTerms 2 none ∈ XALL := xall 378 (by decide +kernel) (by decide +kernel)
theorem km_X3_227 : Cond.methodLink RX3 227 yX3_allDreams ∈ XALL := xall 379 (by decide +kernel) (by decide +kernel)
theorem ki_yX3_allDreams : Cond.instanceMethod yX3_allDreams ∈ XALL := xall 381 (by decide +kernel) (by decide +kernel)
theorem kc_yX3_allDreams : Cond.code yX3_allDreams cX3_allDreams 1 (some .int) ∈ XALL := xall 382 (by decide +kernel) (by decide +kernel)
theorem kmN_X3_230 : Cond.methodLinkNest RX3 230 yX2_combine RX3 ∈ NW := nwall 383 (by decide +kernel) rfl
theorem ki_yX2_combine : Cond.instanceMethod yX2_combine ∈ XALL := xall 385 (by decide +kernel) (by decide +kernel)
theorem kc_yX2_combine : Cond.code yX2_combine cX2_combine 5 none ∈ XALL := xall 386 (by decide +kernel) (by decide +kernel)
theorem km_X2_28 : Cond.methodLink RX2 28 yX2_matchedAhead ∈ XALL := xall 387 (by decide +kernel) (by decide +kernel)
theorem ki_yX2_matchedAhead : Cond.instanceMethod yX2_matchedAhead ∈ XALL := xall 389 (by decide +kernel) (by decide +kernel)
theorem kc_yX2_matchedAhead : Cond.code yX2_matchedAhead cX2_matchedAhead 3 (some .int) ∈ XALL := xall 390 (by decide +kernel) (by decide +kernel)
theorem km_L_140 : Cond.methodLink RL 140 yL_freeTag ∈ XALL := xall 391 (by decide +kernel) (by decide +kernel)
theorem kt_yL_freeTag : Cond.static yL_freeTag ∈ XALL := xall 392 (by decide +kernel) (by decide +kernel)
theorem kw_yL_freeTag : Cond.codeWith yL_freeTag cL_freeTag 4 (some .int) [(0, 9, 12, 19), (0, 9, 15, 13)] ∈ XALL := xall 393 (by decide +kernel) (by decide +kernel)
theorem km_L_23 : Cond.methodLink RL 23 yX3_freeTag ∈ XALL := xall 394 (by decide +kernel) (by decide +kernel)
theorem ki_yX3_freeTag : Cond.instanceMethod yX3_freeTag ∈ XALL := xall 395 (by decide +kernel) (by decide +kernel)
theorem ks_yX3_freeTag : Cond.selects RX3 yX3_freeTag yX3_freeTag ∈ XALL := xall 396 (by decide +kernel) (by decide +kernel)
theorem kc_yX3_freeTag : Cond.code yX3_freeTag cX3_freeTag 3 (some .int) ∈ XALL := xall 397 (by decide +kernel) (by decide +kernel)
theorem km_X3_69 : Cond.methodLink RX3 69 yX3_requireParent ∈ XALL := xall 398 (by decide +kernel) (by decide +kernel)
theorem ki_yX3_requireParent : Cond.instanceMethod yX3_requireParent ∈ XALL := xall 400 (by decide +kernel) (by decide +kernel)
theorem kc_yX3_requireParent : Cond.code yX3_requireParent cX3_requireParent 2 none ∈ XALL := xall 401 (by decide +kernel) (by decide +kernel)
theorem km_L_144 : Cond.methodLink RL 144 yL_addDream ∈ XALL := xall 403 (by decide +kernel) (by decide +kernel)
theorem kt_yL_addDream : Cond.static yL_addDream ∈ XALL := xall 404 (by decide +kernel) (by decide +kernel)
theorem kw_yL_addDream : Cond.codeWith yL_addDream cL_addDream 5 (some .int) [(0, 10, 13, 19), (0, 10, 17, 21), (0, 10, 21, 13)] ∈ XALL := xall 405 (by decide +kernel) (by decide +kernel)
theorem km_L_27 : Cond.methodLink RL 27 yX3_addDream ∈ XALL := xall 406 (by decide +kernel) (by decide +kernel)
theorem ki_yX3_addDream : Cond.instanceMethod yX3_addDream ∈ XALL := xall 407 (by decide +kernel) (by decide +kernel)
theorem ks_yX3_addDream : Cond.selects RX3 yX3_addDream yX3_addDream ∈ XALL := xall 408 (by decide +kernel) (by decide +kernel)
theorem kc_yX3_addDream : Cond.code yX3_addDream cX3_addDream 4 (some .int) ∈ XALL := xall 409 (by decide +kernel) (by decide +kernel)
theorem km_X3_92 : Cond.methodLink RX3 92 yX3_setOwnTags ∈ XALL := xall 412 (by decide +kernel) (by decide +kernel)
theorem ki_yX3_setOwnTags : Cond.instanceMethod yX3_setOwnTags ∈ XALL := xall 414 (by decide +kernel) (by decide +kernel)
theorem kc_yX3_setOwnTags : Cond.code yX3_setOwnTags cX3_setOwnTags 3 none ∈ XALL := xall 415 (by decide +kernel) (by decide +kernel)
theorem km_L_147 : Cond.methodLink RL 147 yL_tagDream ∈ XALL := xall 416 (by decide +kernel) (by decide +kernel)
theorem kt_yL_tagDream : Cond.static yL_tagDream ∈ XALL := xall 417 (by decide +kernel) (by decide +kernel)
theorem kw_yL_tagDream : Cond.codeWith yL_tagDream cL_tagDream 5 (some .int) [(0, 10, 13, 19), (0, 10, 17, 13)] ∈ XALL := xall 418 (by decide +kernel) (by decide +kernel)
theorem km_L_30 : Cond.methodLink RL 30 yX3_tagDream ∈ XALL := xall 419 (by decide +kernel) (by decide +kernel)
theorem ki_yX3_tagDream : Cond.instanceMethod yX3_tagDream ∈ XALL := xall 420 (by decide +kernel) (by decide +kernel)
theorem ks_yX3_tagDream : Cond.selects RX3 yX3_tagDream yX3_tagDream ∈ XALL := xall 421 (by decide +kernel) (by decide +kernel)
theorem kc_yX3_tagDream : Cond.code yX3_tagDream cX3_tagDream 3 (some .int) ∈ XALL := xall 422 (by decide +kernel) (by decide +kernel)
theorem km_X3_95 : Cond.methodLink RX3 95 yX3_requireDream ∈ XALL := xall 423 (by decide +kernel) (by decide +kernel)
theorem ki_yX3_requireDream : Cond.instanceMethod yX3_requireDream ∈ XALL := xall 425 (by decide +kernel) (by decide +kernel)
theorem kc_yX3_requireDream : Cond.code yX3_requireDream cX3_requireDream 2 none ∈ XALL := xall 426 (by decide +kernel) (by decide +kernel)
theorem km_L_150 : Cond.methodLink RL 150 yL_untagDream ∈ XALL := xall 429 (by decide +kernel) (by decide +kernel)
theorem kt_yL_untagDream : Cond.static yL_untagDream ∈ XALL := xall 430 (by decide +kernel) (by decide +kernel)
theorem kw_yL_untagDream : Cond.codeWith yL_untagDream cL_untagDream 5 (some .int) [(0, 10, 13, 19), (0, 10, 17, 13)] ∈ XALL := xall 431 (by decide +kernel) (by decide +kernel)
theorem km_L_33 : Cond.methodLink RL 33 yX3_untagDream ∈ XALL := xall 432 (by decide +kernel) (by decide +kernel)
theorem ki_yX3_untagDream : Cond.instanceMethod yX3_untagDream ∈ XALL := xall 433 (by decide +kernel) (by decide +kernel)
theorem ks_yX3_untagDream : Cond.selects RX3 yX3_untagDream yX3_untagDream ∈ XALL := xall 434 (by decide +kernel) (by decide +kernel)
theorem kc_yX3_untagDream : Cond.code yX3_untagDream cX3_untagDream 3 (some .int) ∈ XALL := xall 435 (by decide +kernel) (by decide +kernel)
theorem km_L_153 : Cond.methodLink RL 153 yL_recall ∈ XALL := xall 438 (by decide +kernel) (by decide +kernel)
theorem kt_yL_recall : Cond.static yL_recall ∈ XALL := xall 439 (by decide +kernel) (by decide +kernel)
theorem kw_yL_recall : Cond.codeWith yL_recall cL_recall 5 (some .int) [(0, 10, 13, 19), (0, 10, 17, 21)] ∈ XALL := xall 440 (by decide +kernel) (by decide +kernel)
theorem km_L_36 : Cond.methodLink RL 36 yX3_recall ∈ XALL := xall 441 (by decide +kernel) (by decide +kernel)
theorem ki_yX3_recall : Cond.instanceMethod yX3_recall ∈ XALL := xall 442 (by decide +kernel) (by decide +kernel)
theorem ks_yX3_recall : Cond.selects RX3 yX3_recall yX3_recall ∈ XALL := xall 443 (by decide +kernel) (by decide +kernel)
theorem kc_yX3_recall : Cond.code yX3_recall cX3_recall 4 (some .int) ∈ XALL := xall 444 (by decide +kernel) (by decide +kernel)
theorem km_L_156 : Cond.methodLink RL 156 yL_passNights ∈ XALL := xall 446 (by decide +kernel) (by decide +kernel)
theorem kt_yL_passNights : Cond.static yL_passNights ∈ XALL := xall 447 (by decide +kernel) (by decide +kernel)
theorem kw_yL_passNights : Cond.codeWith yL_passNights cL_passNights 4 (some .int) [(0, 9, 12, 21)] ∈ XALL := xall 448 (by decide +kernel) (by decide +kernel)
theorem km_L_39 : Cond.methodLink RL 39 yX3_passNights ∈ XALL := xall 449 (by decide +kernel) (by decide +kernel)
theorem ki_yX3_passNights : Cond.instanceMethod yX3_passNights ∈ XALL := xall 450 (by decide +kernel) (by decide +kernel)
theorem ks_yX3_passNights : Cond.selects RX3 yX3_passNights yX3_passNights ∈ XALL := xall 451 (by decide +kernel) (by decide +kernel)
theorem kc_yX3_passNights : Cond.code yX3_passNights cX3_passNights 3 (some .int) ∈ XALL := xall 452 (by decide +kernel) (by decide +kernel)
theorem km_X3_115 : Cond.methodLink RX3 115 yX3_requireNights ∈ XALL := xall 453 (by decide +kernel) (by decide +kernel)
theorem ki_yX3_requireNights : Cond.instanceMethod yX3_requireNights ∈ XALL := xall 455 (by decide +kernel) (by decide +kernel)
theorem kc_yX3_requireNights : Cond.code yX3_requireNights cX3_requireNights 2 none ∈ XALL := xall 456 (by decide +kernel) (by decide +kernel)
theorem km_L_159 : Cond.methodLink RL 159 yL_addTagTerm ∈ XALL := xall 458 (by decide +kernel) (by decide +kernel)
theorem kt_yL_addTagTerm : Cond.static yL_addTagTerm ∈ XALL := xall 459 (by decide +kernel) (by decide +kernel)
theorem kw_yL_addTagTerm : Cond.codeWith yL_addTagTerm cL_addTagTerm 4 (some .int) [(0, 9, 12, 19), (0, 9, 15, 13)] ∈ XALL := xall 460 (by decide +kernel) (by decide +kernel)
theorem km_L_42 : Cond.methodLink RL 42 yX3_addTagTerm ∈ XALL := xall 461 (by decide +kernel) (by decide +kernel)
theorem ki_yX3_addTagTerm : Cond.instanceMethod yX3_addTagTerm ∈ XALL := xall 462 (by decide +kernel) (by decide +kernel)
theorem ks_yX3_addTagTerm : Cond.selects RX3 yX3_addTagTerm yX3_addTagTerm ∈ XALL := xall 463 (by decide +kernel) (by decide +kernel)
theorem kc_yX3_addTagTerm : Cond.code yX3_addTagTerm cX3_addTagTerm 2 (some .int) ∈ XALL := xall 464 (by decide +kernel) (by decide +kernel)
theorem km_X3_125 : Cond.methodLink RX3 125 yX3_requireRoomForTerm ∈ XALL := xall 465 (by decide +kernel) (by decide +kernel)
theorem ki_yX3_requireRoomForTerm : Cond.instanceMethod yX3_requireRoomForTerm ∈ XALL := xall 467 (by decide +kernel) (by decide +kernel)
theorem kc_yX3_requireRoomForTerm : Cond.code yX3_requireRoomForTerm cX3_requireRoomForTerm 1 none ∈ XALL := xall 468 (by decide +kernel) (by decide +kernel)
theorem km_X3_128 : Cond.methodLink RX3 128 yX3_addTerm ∈ XALL := xall 470 (by decide +kernel) (by decide +kernel)
theorem ki_yX3_addTerm : Cond.instanceMethod yX3_addTerm ∈ XALL := xall 472 (by decide +kernel) (by decide +kernel)
theorem kc_yX3_addTerm : Cond.code yX3_addTerm cX3_addTerm 5 (some .int) ∈ XALL := xall 473 (by decide +kernel) (by decide +kernel)
theorem kmN_X3_218 : Cond.methodLinkNest RX3 218 yX2_add RX3 ∈ NW := nwall 474 (by decide +kernel) rfl
theorem ki_yX2_add : Cond.instanceMethod yX2_add ∈ XALL := xall 476 (by decide +kernel) (by decide +kernel)
theorem kc_yX2_add : Cond.code yX2_add cX2_add 5 (some .int) ∈ XALL := xall 477 (by decide +kernel) (by decide +kernel)
theorem km_L_162 : Cond.methodLink RL 162 yL_addBothTerm ∈ XALL := xall 478 (by decide +kernel) (by decide +kernel)
theorem kt_yL_addBothTerm : Cond.static yL_addBothTerm ∈ XALL := xall 479 (by decide +kernel) (by decide +kernel)
theorem kw_yL_addBothTerm : Cond.codeWith yL_addBothTerm cL_addBothTerm 5 (some .int) [(0, 10, 13, 19), (0, 10, 17, 13)] ∈ XALL := xall 480 (by decide +kernel) (by decide +kernel)
theorem km_L_45 : Cond.methodLink RL 45 yX3_addBothTerm ∈ XALL := xall 481 (by decide +kernel) (by decide +kernel)
theorem ki_yX3_addBothTerm : Cond.instanceMethod yX3_addBothTerm ∈ XALL := xall 482 (by decide +kernel) (by decide +kernel)
theorem ks_yX3_addBothTerm : Cond.selects RX3 yX3_addBothTerm yX3_addBothTerm ∈ XALL := xall 483 (by decide +kernel) (by decide +kernel)
theorem kc_yX3_addBothTerm : Cond.code yX3_addBothTerm cX3_addBothTerm 3 (some .int) ∈ XALL := xall 484 (by decide +kernel) (by decide +kernel)
theorem km_X3_132 : Cond.methodLink RX3 132 yX3_requireTerm ∈ XALL := xall 485 (by decide +kernel) (by decide +kernel)
theorem ki_yX3_requireTerm : Cond.instanceMethod yX3_requireTerm ∈ XALL := xall 487 (by decide +kernel) (by decide +kernel)
theorem kc_yX3_requireTerm : Cond.code yX3_requireTerm cX3_requireTerm 2 none ∈ XALL := xall 488 (by decide +kernel) (by decide +kernel)
theorem km_L_165 : Cond.methodLink RL 165 yL_addEitherTerm ∈ XALL := xall 490 (by decide +kernel) (by decide +kernel)
theorem kt_yL_addEitherTerm : Cond.static yL_addEitherTerm ∈ XALL := xall 491 (by decide +kernel) (by decide +kernel)
theorem kw_yL_addEitherTerm : Cond.codeWith yL_addEitherTerm cL_addEitherTerm 5 (some .int) [(0, 10, 13, 19), (0, 10, 17, 13)] ∈ XALL := xall 492 (by decide +kernel) (by decide +kernel)
theorem km_L_48 : Cond.methodLink RL 48 yX3_addEitherTerm ∈ XALL := xall 493 (by decide +kernel) (by decide +kernel)
theorem ki_yX3_addEitherTerm : Cond.instanceMethod yX3_addEitherTerm ∈ XALL := xall 494 (by decide +kernel) (by decide +kernel)
theorem ks_yX3_addEitherTerm : Cond.selects RX3 yX3_addEitherTerm yX3_addEitherTerm ∈ XALL := xall 495 (by decide +kernel) (by decide +kernel)
theorem kc_yX3_addEitherTerm : Cond.code yX3_addEitherTerm cX3_addEitherTerm 3 (some .int) ∈ XALL := xall 496 (by decide +kernel) (by decide +kernel)
theorem km_L_168 : Cond.methodLink RL 168 yL_addWithoutTerm ∈ XALL := xall 497 (by decide +kernel) (by decide +kernel)
theorem kt_yL_addWithoutTerm : Cond.static yL_addWithoutTerm ∈ XALL := xall 498 (by decide +kernel) (by decide +kernel)
theorem kw_yL_addWithoutTerm : Cond.codeWith yL_addWithoutTerm cL_addWithoutTerm 4 (some .int) [(0, 9, 12, 19), (0, 9, 15, 13)] ∈ XALL := xall 499 (by decide +kernel) (by decide +kernel)
theorem km_L_51 : Cond.methodLink RL 51 yX3_addWithoutTerm ∈ XALL := xall 500 (by decide +kernel) (by decide +kernel)
theorem ki_yX3_addWithoutTerm : Cond.instanceMethod yX3_addWithoutTerm ∈ XALL := xall 501 (by decide +kernel) (by decide +kernel)
theorem ks_yX3_addWithoutTerm : Cond.selects RX3 yX3_addWithoutTerm yX3_addWithoutTerm ∈ XALL := xall 502 (by decide +kernel) (by decide +kernel)
theorem kc_yX3_addWithoutTerm : Cond.code yX3_addWithoutTerm cX3_addWithoutTerm 2 (some .int) ∈ XALL := xall 503 (by decide +kernel) (by decide +kernel)
theorem km_L_175 : Cond.methodLink RL 175 yL_hasParent ∈ XALL := xall 504 (by decide +kernel) (by decide +kernel)
theorem kt_yL_hasParent : Cond.static yL_hasParent ∈ XALL := xall 505 (by decide +kernel) (by decide +kernel)
theorem kw_yL_hasParent : Cond.codeWith yL_hasParent cL_hasParent 4 (some .int) [(0, 16, 19, 19)] ∈ XALL := xall 506 (by decide +kernel) (by decide +kernel)
theorem km_L_54 : Cond.methodLink RL 54 yX3_hasParent ∈ XALL := xall 507 (by decide +kernel) (by decide +kernel)
theorem ki_yX3_hasParent : Cond.instanceMethod yX3_hasParent ∈ XALL := xall 508 (by decide +kernel) (by decide +kernel)
theorem ks_yX3_hasParent : Cond.selects RX3 yX3_hasParent yX3_hasParent ∈ XALL := xall 509 (by decide +kernel) (by decide +kernel)
theorem kc_yX3_hasParent : Cond.code yX3_hasParent cX3_hasParent 2 (some .boolean) ∈ XALL := xall 510 (by decide +kernel) (by decide +kernel)
theorem km_L_178 : Cond.methodLink RL 178 yL_parentOf ∈ XALL := xall 511 (by decide +kernel) (by decide +kernel)
theorem kt_yL_parentOf : Cond.static yL_parentOf ∈ XALL := xall 512 (by decide +kernel) (by decide +kernel)
theorem kw_yL_parentOf : Cond.codeWith yL_parentOf cL_parentOf 4 (some .int) [(0, 9, 12, 19), (0, 9, 15, 13)] ∈ XALL := xall 513 (by decide +kernel) (by decide +kernel)
theorem km_L_58 : Cond.methodLink RL 58 yX3_parentOf ∈ XALL := xall 514 (by decide +kernel) (by decide +kernel)
theorem ki_yX3_parentOf : Cond.instanceMethod yX3_parentOf ∈ XALL := xall 515 (by decide +kernel) (by decide +kernel)
theorem ks_yX3_parentOf : Cond.selects RX3 yX3_parentOf yX3_parentOf ∈ XALL := xall 516 (by decide +kernel) (by decide +kernel)
theorem kc_yX3_parentOf : Cond.code yX3_parentOf cX3_parentOf 2 (some .int) ∈ XALL := xall 517 (by decide +kernel) (by decide +kernel)
theorem km_L_181 : Cond.methodLink RL 181 yL_tagsAbove ∈ XALL := xall 518 (by decide +kernel) (by decide +kernel)
theorem kt_yL_tagsAbove : Cond.static yL_tagsAbove ∈ XALL := xall 519 (by decide +kernel) (by decide +kernel)
theorem kw_yL_tagsAbove : Cond.codeWith yL_tagsAbove cL_tagsAbove 4 (some .int) [(0, 9, 12, 19)] ∈ XALL := xall 520 (by decide +kernel) (by decide +kernel)
theorem km_L_61 : Cond.methodLink RL 61 yX3_tagsAbove ∈ XALL := xall 521 (by decide +kernel) (by decide +kernel)
theorem ki_yX3_tagsAbove : Cond.instanceMethod yX3_tagsAbove ∈ XALL := xall 522 (by decide +kernel) (by decide +kernel)
theorem ks_yX3_tagsAbove : Cond.selects RX3 yX3_tagsAbove yX3_tagsAbove ∈ XALL := xall 523 (by decide +kernel) (by decide +kernel)
theorem kc_yX3_tagsAbove : Cond.code yX3_tagsAbove cX3_tagsAbove 2 (some .int) ∈ XALL := xall 524 (by decide +kernel) (by decide +kernel)
theorem km_L_184 : Cond.methodLink RL 184 yL_tagsBelow ∈ XALL := xall 525 (by decide +kernel) (by decide +kernel)
theorem kt_yL_tagsBelow : Cond.static yL_tagsBelow ∈ XALL := xall 526 (by decide +kernel) (by decide +kernel)
theorem kw_yL_tagsBelow : Cond.codeWith yL_tagsBelow cL_tagsBelow 4 (some .int) [(0, 9, 12, 19)] ∈ XALL := xall 527 (by decide +kernel) (by decide +kernel)
theorem km_L_64 : Cond.methodLink RL 64 yX3_tagsBelow ∈ XALL := xall 528 (by decide +kernel) (by decide +kernel)
theorem ki_yX3_tagsBelow : Cond.instanceMethod yX3_tagsBelow ∈ XALL := xall 529 (by decide +kernel) (by decide +kernel)
theorem ks_yX3_tagsBelow : Cond.selects RX3 yX3_tagsBelow yX3_tagsBelow ∈ XALL := xall 530 (by decide +kernel) (by decide +kernel)
theorem kc_yX3_tagsBelow : Cond.code yX3_tagsBelow cX3_tagsBelow 2 (some .int) ∈ XALL := xall 531 (by decide +kernel) (by decide +kernel)
theorem km_L_187 : Cond.methodLink RL 187 yL_isBelow ∈ XALL := xall 532 (by decide +kernel) (by decide +kernel)
theorem kt_yL_isBelow : Cond.static yL_isBelow ∈ XALL := xall 533 (by decide +kernel) (by decide +kernel)
theorem kw_yL_isBelow : Cond.codeWith yL_isBelow cL_isBelow 5 (some .int) [(0, 17, 20, 19)] ∈ XALL := xall 534 (by decide +kernel) (by decide +kernel)
theorem km_L_67 : Cond.methodLink RL 67 yX3_isBelow ∈ XALL := xall 535 (by decide +kernel) (by decide +kernel)
theorem ki_yX3_isBelow : Cond.instanceMethod yX3_isBelow ∈ XALL := xall 536 (by decide +kernel) (by decide +kernel)
theorem ks_yX3_isBelow : Cond.selects RX3 yX3_isBelow yX3_isBelow ∈ XALL := xall 537 (by decide +kernel) (by decide +kernel)
theorem kc_yX3_isBelow : Cond.code yX3_isBelow cX3_isBelow 3 (some .boolean) ∈ XALL := xall 538 (by decide +kernel) (by decide +kernel)
theorem kmN_X3_139 : Cond.methodLinkNest RX3 139 yX1_standsBelow RX3 ∈ NW := nwall 539 (by decide +kernel) rfl
theorem km_L_190 : Cond.methodLink RL 190 yL_nearestAbove ∈ XALL := xall 540 (by decide +kernel) (by decide +kernel)
theorem kt_yL_nearestAbove : Cond.static yL_nearestAbove ∈ XALL := xall 541 (by decide +kernel) (by decide +kernel)
theorem kw_yL_nearestAbove : Cond.codeWith yL_nearestAbove cL_nearestAbove 5 (some .int) [(0, 10, 13, 19)] ∈ XALL := xall 542 (by decide +kernel) (by decide +kernel)
theorem km_L_71 : Cond.methodLink RL 71 yX3_nearestAbove ∈ XALL := xall 543 (by decide +kernel) (by decide +kernel)
theorem ki_yX3_nearestAbove : Cond.instanceMethod yX3_nearestAbove ∈ XALL := xall 544 (by decide +kernel) (by decide +kernel)
theorem ks_yX3_nearestAbove : Cond.selects RX3 yX3_nearestAbove yX3_nearestAbove ∈ XALL := xall 545 (by decide +kernel) (by decide +kernel)
theorem kc_yX3_nearestAbove : Cond.code yX3_nearestAbove cX3_nearestAbove 3 (some .int) ∈ XALL := xall 546 (by decide +kernel) (by decide +kernel)
theorem kmN_X3_145 : Cond.methodLinkNest RX3 145 yX1_lowestOf RX3 ∈ NW := nwall 547 (by decide +kernel) rfl
theorem ki_yX1_lowestOf : Cond.instanceMethod yX1_lowestOf ∈ XALL := xall 549 (by decide +kernel) (by decide +kernel)
theorem kc_yX1_lowestOf : Cond.code yX1_lowestOf cX1_lowestOf 5 (some .int) ∈ XALL := xall 550 (by decide +kernel) (by decide +kernel)
theorem km_X1_42 : Cond.methodLink RX1 42 yX1_countAbove ∈ XALL := xall 551 (by decide +kernel) (by decide +kernel)
theorem km_L_193 : Cond.methodLink RL 193 yL_dreamsWith ∈ XALL := xall 552 (by decide +kernel) (by decide +kernel)
theorem kt_yL_dreamsWith : Cond.static yL_dreamsWith ∈ XALL := xall 553 (by decide +kernel) (by decide +kernel)
theorem kw_yL_dreamsWith : Cond.codeWith yL_dreamsWith cL_dreamsWith 4 (some .int) [(0, 9, 12, 19)] ∈ XALL := xall 554 (by decide +kernel) (by decide +kernel)
theorem km_L_74 : Cond.methodLink RL 74 yX3_dreamsWith ∈ XALL := xall 555 (by decide +kernel) (by decide +kernel)
theorem ki_yX3_dreamsWith : Cond.instanceMethod yX3_dreamsWith ∈ XALL := xall 556 (by decide +kernel) (by decide +kernel)
theorem ks_yX3_dreamsWith : Cond.selects RX3 yX3_dreamsWith yX3_dreamsWith ∈ XALL := xall 557 (by decide +kernel) (by decide +kernel)
theorem kc_yX3_dreamsWith : Cond.code yX3_dreamsWith cX3_dreamsWith 2 (some .int) ∈ XALL := xall 558 (by decide +kernel) (by decide +kernel)
theorem km_L_196 : Cond.methodLink RL 196 yL_hasOwnTag ∈ XALL := xall 559 (by decide +kernel) (by decide +kernel)
theorem kt_yL_hasOwnTag : Cond.static yL_hasOwnTag ∈ XALL := xall 560 (by decide +kernel) (by decide +kernel)
theorem kw_yL_hasOwnTag : Cond.codeWith yL_hasOwnTag cL_hasOwnTag 5 (some .int) [(0, 17, 20, 19)] ∈ XALL := xall 561 (by decide +kernel) (by decide +kernel)
theorem km_L_77 : Cond.methodLink RL 77 yX3_hasOwnTag ∈ XALL := xall 562 (by decide +kernel) (by decide +kernel)
theorem ki_yX3_hasOwnTag : Cond.instanceMethod yX3_hasOwnTag ∈ XALL := xall 563 (by decide +kernel) (by decide +kernel)
theorem ks_yX3_hasOwnTag : Cond.selects RX3 yX3_hasOwnTag yX3_hasOwnTag ∈ XALL := xall 564 (by decide +kernel) (by decide +kernel)
theorem kc_yX3_hasOwnTag : Cond.code yX3_hasOwnTag cX3_hasOwnTag 3 (some .boolean) ∈ XALL := xall 565 (by decide +kernel) (by decide +kernel)
theorem km_L_199 : Cond.methodLink RL 199 yL_hasTag ∈ XALL := xall 566 (by decide +kernel) (by decide +kernel)
theorem kt_yL_hasTag : Cond.static yL_hasTag ∈ XALL := xall 567 (by decide +kernel) (by decide +kernel)
theorem kw_yL_hasTag : Cond.codeWith yL_hasTag cL_hasTag 5 (some .int) [(0, 17, 20, 19)] ∈ XALL := xall 568 (by decide +kernel) (by decide +kernel)
theorem km_L_80 : Cond.methodLink RL 80 yX3_hasTag ∈ XALL := xall 569 (by decide +kernel) (by decide +kernel)
theorem ki_yX3_hasTag : Cond.instanceMethod yX3_hasTag ∈ XALL := xall 570 (by decide +kernel) (by decide +kernel)
theorem ks_yX3_hasTag : Cond.selects RX3 yX3_hasTag yX3_hasTag ∈ XALL := xall 571 (by decide +kernel) (by decide +kernel)
theorem kc_yX3_hasTag : Cond.code yX3_hasTag cX3_hasTag 3 (some .boolean) ∈ XALL := xall 572 (by decide +kernel) (by decide +kernel)
theorem km_L_202 : Cond.methodLink RL 202 yL_tagsOf ∈ XALL := xall 573 (by decide +kernel) (by decide +kernel)
theorem kt_yL_tagsOf : Cond.static yL_tagsOf ∈ XALL := xall 574 (by decide +kernel) (by decide +kernel)
theorem kw_yL_tagsOf : Cond.codeWith yL_tagsOf cL_tagsOf 4 (some .int) [(0, 9, 12, 19)] ∈ XALL := xall 575 (by decide +kernel) (by decide +kernel)
theorem km_L_83 : Cond.methodLink RL 83 yX3_tagsOf ∈ XALL := xall 576 (by decide +kernel) (by decide +kernel)
theorem ki_yX3_tagsOf : Cond.instanceMethod yX3_tagsOf ∈ XALL := xall 577 (by decide +kernel) (by decide +kernel)
theorem ks_yX3_tagsOf : Cond.selects RX3 yX3_tagsOf yX3_tagsOf ∈ XALL := xall 578 (by decide +kernel) (by decide +kernel)
theorem kc_yX3_tagsOf : Cond.code yX3_tagsOf cX3_tagsOf 2 (some .int) ∈ XALL := xall 579 (by decide +kernel) (by decide +kernel)
theorem km_L_205 : Cond.methodLink RL 205 yL_vividnessOf ∈ XALL := xall 580 (by decide +kernel) (by decide +kernel)
theorem kt_yL_vividnessOf : Cond.static yL_vividnessOf ∈ XALL := xall 581 (by decide +kernel) (by decide +kernel)
theorem kw_yL_vividnessOf : Cond.codeWith yL_vividnessOf cL_vividnessOf 4 (some .int) [(0, 9, 12, 19)] ∈ XALL := xall 582 (by decide +kernel) (by decide +kernel)
theorem km_L_86 : Cond.methodLink RL 86 yX3_vividnessOf ∈ XALL := xall 583 (by decide +kernel) (by decide +kernel)
theorem ki_yX3_vividnessOf : Cond.instanceMethod yX3_vividnessOf ∈ XALL := xall 584 (by decide +kernel) (by decide +kernel)
theorem ks_yX3_vividnessOf : Cond.selects RX3 yX3_vividnessOf yX3_vividnessOf ∈ XALL := xall 585 (by decide +kernel) (by decide +kernel)
theorem kc_yX3_vividnessOf : Cond.code yX3_vividnessOf cX3_vividnessOf 2 (some .int) ∈ XALL := xall 586 (by decide +kernel) (by decide +kernel)
theorem km_L_208 : Cond.methodLink RL 208 yL_nightOf ∈ XALL := xall 587 (by decide +kernel) (by decide +kernel)
theorem kt_yL_nightOf : Cond.static yL_nightOf ∈ XALL := xall 588 (by decide +kernel) (by decide +kernel)
theorem kw_yL_nightOf : Cond.codeWith yL_nightOf cL_nightOf 4 (some .int) [(0, 9, 12, 19)] ∈ XALL := xall 589 (by decide +kernel) (by decide +kernel)
theorem km_L_89 : Cond.methodLink RL 89 yX3_nightOf ∈ XALL := xall 590 (by decide +kernel) (by decide +kernel)
theorem ki_yX3_nightOf : Cond.instanceMethod yX3_nightOf ∈ XALL := xall 591 (by decide +kernel) (by decide +kernel)
theorem ks_yX3_nightOf : Cond.selects RX3 yX3_nightOf yX3_nightOf ∈ XALL := xall 592 (by decide +kernel) (by decide +kernel)
theorem kc_yX3_nightOf : Cond.code yX3_nightOf cX3_nightOf 2 (some .int) ∈ XALL := xall 593 (by decide +kernel) (by decide +kernel)
theorem km_L_211 : Cond.methodLink RL 211 yL_matches ∈ XALL := xall 594 (by decide +kernel) (by decide +kernel)
theorem kt_yL_matches : Cond.static yL_matches ∈ XALL := xall 595 (by decide +kernel) (by decide +kernel)
theorem kw_yL_matches : Cond.codeWith yL_matches cL_matches 5 (some .int) [(0, 17, 20, 19)] ∈ XALL := xall 596 (by decide +kernel) (by decide +kernel)
theorem km_L_92 : Cond.methodLink RL 92 yX3_matches ∈ XALL := xall 597 (by decide +kernel) (by decide +kernel)
theorem ki_yX3_matches : Cond.instanceMethod yX3_matches ∈ XALL := xall 598 (by decide +kernel) (by decide +kernel)
theorem ks_yX3_matches : Cond.selects RX3 yX3_matches yX3_matches ∈ XALL := xall 599 (by decide +kernel) (by decide +kernel)
theorem kc_yX3_matches : Cond.code yX3_matches cX3_matches 3 (some .boolean) ∈ XALL := xall 600 (by decide +kernel) (by decide +kernel)
theorem km_L_214 : Cond.methodLink RL 214 yL_matchesOf ∈ XALL := xall 601 (by decide +kernel) (by decide +kernel)
theorem kt_yL_matchesOf : Cond.static yL_matchesOf ∈ XALL := xall 602 (by decide +kernel) (by decide +kernel)
theorem kw_yL_matchesOf : Cond.codeWith yL_matchesOf cL_matchesOf 4 (some .int) [(0, 9, 12, 19)] ∈ XALL := xall 603 (by decide +kernel) (by decide +kernel)
theorem km_L_95 : Cond.methodLink RL 95 yX3_matchesOf ∈ XALL := xall 604 (by decide +kernel) (by decide +kernel)
theorem ki_yX3_matchesOf : Cond.instanceMethod yX3_matchesOf ∈ XALL := xall 605 (by decide +kernel) (by decide +kernel)
theorem ks_yX3_matchesOf : Cond.selects RX3 yX3_matchesOf yX3_matchesOf ∈ XALL := xall 606 (by decide +kernel) (by decide +kernel)
theorem kc_yX3_matchesOf : Cond.code yX3_matchesOf cX3_matchesOf 2 (some .int) ∈ XALL := xall 607 (by decide +kernel) (by decide +kernel)
theorem km_L_217 : Cond.methodLink RL 217 yL_mostVivid ∈ XALL := xall 608 (by decide +kernel) (by decide +kernel)
theorem kt_yL_mostVivid : Cond.static yL_mostVivid ∈ XALL := xall 609 (by decide +kernel) (by decide +kernel)
theorem kw_yL_mostVivid : Cond.codeWith yL_mostVivid cL_mostVivid 4 (some .int) [(0, 9, 12, 19)] ∈ XALL := xall 610 (by decide +kernel) (by decide +kernel)
theorem km_L_98 : Cond.methodLink RL 98 yX3_mostVivid ∈ XALL := xall 611 (by decide +kernel) (by decide +kernel)
theorem ki_yX3_mostVivid : Cond.instanceMethod yX3_mostVivid ∈ XALL := xall 612 (by decide +kernel) (by decide +kernel)
theorem ks_yX3_mostVivid : Cond.selects RX3 yX3_mostVivid yX3_mostVivid ∈ XALL := xall 613 (by decide +kernel) (by decide +kernel)
theorem kc_yX3_mostVivid : Cond.code yX3_mostVivid cX3_mostVivid 2 (some .int) ∈ XALL := xall 614 (by decide +kernel) (by decide +kernel)
theorem km_L_220 : Cond.methodLink RL 220 yL_commonTags ∈ XALL := xall 615 (by decide +kernel) (by decide +kernel)
theorem kt_yL_commonTags : Cond.static yL_commonTags ∈ XALL := xall 616 (by decide +kernel) (by decide +kernel)
theorem kw_yL_commonTags : Cond.codeWith yL_commonTags cL_commonTags 4 (some .int) [(0, 9, 12, 19)] ∈ XALL := xall 617 (by decide +kernel) (by decide +kernel)
theorem km_L_101 : Cond.methodLink RL 101 yX3_commonTags ∈ XALL := xall 618 (by decide +kernel) (by decide +kernel)
theorem ki_yX3_commonTags : Cond.instanceMethod yX3_commonTags ∈ XALL := xall 619 (by decide +kernel) (by decide +kernel)
theorem ks_yX3_commonTags : Cond.selects RX3 yX3_commonTags yX3_commonTags ∈ XALL := xall 620 (by decide +kernel) (by decide +kernel)
theorem kc_yX3_commonTags : Cond.code yX3_commonTags cX3_commonTags 2 (some .int) ∈ XALL := xall 621 (by decide +kernel) (by decide +kernel)
theorem km_L_223 : Cond.methodLink RL 223 yL_matchSame ∈ XALL := xall 622 (by decide +kernel) (by decide +kernel)
theorem kt_yL_matchSame : Cond.static yL_matchSame ∈ XALL := xall 623 (by decide +kernel) (by decide +kernel)
theorem kw_yL_matchSame : Cond.codeWith yL_matchSame cL_matchSame 5 (some .int) [(0, 17, 20, 19)] ∈ XALL := xall 624 (by decide +kernel) (by decide +kernel)
theorem km_L_104 : Cond.methodLink RL 104 yX3_matchSame ∈ XALL := xall 625 (by decide +kernel) (by decide +kernel)
theorem ki_yX3_matchSame : Cond.instanceMethod yX3_matchSame ∈ XALL := xall 626 (by decide +kernel) (by decide +kernel)
theorem ks_yX3_matchSame : Cond.selects RX3 yX3_matchSame yX3_matchSame ∈ XALL := xall 627 (by decide +kernel) (by decide +kernel)
theorem kc_yX3_matchSame : Cond.code yX3_matchSame cX3_matchSame 3 (some .boolean) ∈ XALL := xall 628 (by decide +kernel) (by decide +kernel)
theorem km_L_226 : Cond.methodLink RL 226 yL_coverSize ∈ XALL := xall 629 (by decide +kernel) (by decide +kernel)
theorem kt_yL_coverSize : Cond.static yL_coverSize ∈ XALL := xall 630 (by decide +kernel) (by decide +kernel)
theorem kw_yL_coverSize : Cond.codeWith yL_coverSize cL_coverSize 4 (some .int) [(0, 9, 12, 19)] ∈ XALL := xall 631 (by decide +kernel) (by decide +kernel)
theorem km_L_107 : Cond.methodLink RL 107 yX3_coverSize ∈ XALL := xall 632 (by decide +kernel) (by decide +kernel)
theorem ki_yX3_coverSize : Cond.instanceMethod yX3_coverSize ∈ XALL := xall 633 (by decide +kernel) (by decide +kernel)
theorem ks_yX3_coverSize : Cond.selects RX3 yX3_coverSize yX3_coverSize ∈ XALL := xall 634 (by decide +kernel) (by decide +kernel)
theorem kc_yX3_coverSize : Cond.code yX3_coverSize cX3_coverSize 2 (some .int) ∈ XALL := xall 635 (by decide +kernel) (by decide +kernel)
theorem km_L_229 : Cond.methodLink RL 229 yL_coverTag ∈ XALL := xall 636 (by decide +kernel) (by decide +kernel)
theorem kt_yL_coverTag : Cond.static yL_coverTag ∈ XALL := xall 637 (by decide +kernel) (by decide +kernel)
theorem kw_yL_coverTag : Cond.codeWith yL_coverTag cL_coverTag 5 (some .int) [(0, 10, 13, 19)] ∈ XALL := xall 638 (by decide +kernel) (by decide +kernel)
theorem km_L_110 : Cond.methodLink RL 110 yX3_coverTag ∈ XALL := xall 639 (by decide +kernel) (by decide +kernel)
theorem ki_yX3_coverTag : Cond.instanceMethod yX3_coverTag ∈ XALL := xall 640 (by decide +kernel) (by decide +kernel)
theorem ks_yX3_coverTag : Cond.selects RX3 yX3_coverTag yX3_coverTag ∈ XALL := xall 641 (by decide +kernel) (by decide +kernel)
theorem kc_yX3_coverTag : Cond.code yX3_coverTag cX3_coverTag 4 (some .int) ∈ XALL := xall 642 (by decide +kernel) (by decide +kernel)
theorem km_X3_163 : Cond.methodLink RX3 163 yX3_memberAt ∈ XALL := xall 643 (by decide +kernel) (by decide +kernel)
theorem kt_yX3_memberAt : Cond.static yX3_memberAt ∈ XALL := xall 644 (by decide +kernel) (by decide +kernel)
theorem kc_yX3_memberAt : Cond.code yX3_memberAt cX3_memberAt 4 (some .int) ∈ XALL := xall 645 (by decide +kernel) (by decide +kernel)
theorem km_L_252 : Cond.methodLink RL 252 yL_fadedAfter ∈ XALL := xall 647 (by decide +kernel) (by decide +kernel)
theorem kt_yL_fadedAfter : Cond.static yL_fadedAfter ∈ XALL := xall 648 (by decide +kernel) (by decide +kernel)
theorem kw_yL_fadedAfter : Cond.codeWith yL_fadedAfter cL_fadedAfter 4 (some .int) [(0, 9, 12, 21)] ∈ XALL := xall 649 (by decide +kernel) (by decide +kernel)
theorem km_L_113 : Cond.methodLink RL 113 yX3_fadedAfter ∈ XALL := xall 650 (by decide +kernel) (by decide +kernel)
theorem ki_yX3_fadedAfter : Cond.instanceMethod yX3_fadedAfter ∈ XALL := xall 651 (by decide +kernel) (by decide +kernel)
theorem ks_yX3_fadedAfter : Cond.selects RX3 yX3_fadedAfter yX3_fadedAfter ∈ XALL := xall 652 (by decide +kernel) (by decide +kernel)
theorem kc_yX3_fadedAfter : Cond.code yX3_fadedAfter cX3_fadedAfter 2 (some .int) ∈ XALL := xall 653 (by decide +kernel) (by decide +kernel)
theorem km_L_255 : Cond.methodLink RL 255 yL_matchesIfUnder ∈ XALL := xall 654 (by decide +kernel) (by decide +kernel)
theorem kt_yL_matchesIfUnder : Cond.static yL_matchesIfUnder ∈ XALL := xall 655 (by decide +kernel) (by decide +kernel)
theorem kw_yL_matchesIfUnder : Cond.codeWith yL_matchesIfUnder cL_matchesIfUnder 6 (some .int) [(0, 12, 15, 19), (0, 12, 19, 21), (0, 12, 23, 13)] ∈ XALL := xall 656 (by decide +kernel) (by decide +kernel)
theorem km_L_116 : Cond.methodLink RL 116 yX3_matchesIfUnder ∈ XALL := xall 657 (by decide +kernel) (by decide +kernel)
theorem ki_yX3_matchesIfUnder : Cond.instanceMethod yX3_matchesIfUnder ∈ XALL := xall 658 (by decide +kernel) (by decide +kernel)
theorem ks_yX3_matchesIfUnder : Cond.selects RX3 yX3_matchesIfUnder yX3_matchesIfUnder ∈ XALL := xall 659 (by decide +kernel) (by decide +kernel)
theorem kc_yX3_matchesIfUnder : Cond.code yX3_matchesIfUnder cX3_matchesIfUnder 4 (some .int) ∈ XALL := xall 660 (by decide +kernel) (by decide +kernel)
theorem km_X3_171 : Cond.methodLink RX3 171 yX3_countMatchedIfUnder ∈ XALL := xall 661 (by decide +kernel) (by decide +kernel)
theorem ki_yX3_countMatchedIfUnder : Cond.instanceMethod yX3_countMatchedIfUnder ∈ XALL := xall 663 (by decide +kernel) (by decide +kernel)
theorem kc_yX3_countMatchedIfUnder : Cond.code yX3_countMatchedIfUnder cX3_countMatchedIfUnder 6 (some .int) ∈ XALL := xall 664 (by decide +kernel) (by decide +kernel)
theorem km_L_259 : Cond.methodLink RL 259 yL_bestParent ∈ XALL := xall 665 (by decide +kernel) (by decide +kernel)
theorem kt_yL_bestParent : Cond.static yL_bestParent ∈ XALL := xall 666 (by decide +kernel) (by decide +kernel)
theorem kw_yL_bestParent : Cond.codeWith yL_bestParent cL_bestParent 5 (some .int) [(0, 10, 13, 19)] ∈ XALL := xall 667 (by decide +kernel) (by decide +kernel)
theorem km_L_120 : Cond.methodLink RL 120 yX3_bestParent ∈ XALL := xall 668 (by decide +kernel) (by decide +kernel)
theorem ki_yX3_bestParent : Cond.instanceMethod yX3_bestParent ∈ XALL := xall 669 (by decide +kernel) (by decide +kernel)
theorem ks_yX3_bestParent : Cond.selects RX3 yX3_bestParent yX3_bestParent ∈ XALL := xall 670 (by decide +kernel) (by decide +kernel)
theorem kc_yX3_bestParent : Cond.code yX3_bestParent cX3_bestParent 7 (some .int) ∈ XALL := xall 671 (by decide +kernel) (by decide +kernel)
theorem kl_L_124 : Cond.classLink RL 124 "DreamLedgerModel" ∈ XALL := xall 672 (by decide +kernel) (by decide +kernel)
theorem kq_X4 : Cond.instantiable RX4 16 ∈ XALL := xall 673 (by decide +kernel) (by decide +kernel)
theorem km_L_126 : Cond.methodLink RL 126 yX4_init ∈ XALL := xall 674 (by decide +kernel) (by decide +kernel)
theorem ki_yX4_init : Cond.instanceMethod yX4_init ∈ XALL := xall 675 (by decide +kernel) (by decide +kernel)
theorem kc_yX4_init : Cond.code yX4_init cX4_init 1 none ∈ XALL := xall 676 (by decide +kernel) (by decide +kernel)
theorem km_X4_1 : Cond.methodLink RX4 1 objectInit ∈ XALL := xall 677 (by decide +kernel) (by decide +kernel)
theorem kf_X4_40 : Cond.fieldLink RX4 40 "DreamLedgerModel" "thrown" "I" ∈ XALL := xall 678 (by decide +kernel) (by decide +kernel)
theorem kf_X4_44 : Cond.fieldLink RX4 44 "DreamLedgerModel" "tags" "I" ∈ XALL := xall 679 (by decide +kernel) (by decide +kernel)
theorem kf_X4_51 : Cond.fieldLink RX4 51 "DreamLedgerModel" "dreams" "I" ∈ XALL := xall 680 (by decide +kernel) (by decide +kernel)
theorem kf_X4_54 : Cond.fieldLink RX4 54 "DreamLedgerModel" "terms" "I" ∈ XALL := xall 681 (by decide +kernel) (by decide +kernel)
theorem kf_X4_81 : Cond.fieldLink RX4 81 "DreamLedgerModel" "nights" "I" ∈ XALL := xall 682 (by decide +kernel) (by decide +kernel)
theorem kf_X4_9 : Cond.fieldLink RX4 9 "DreamLedgerModel" "parent" "[I" ∈ XALL := xall 683 (by decide +kernel) (by decide +kernel)
theorem kf_X4_13 : Cond.fieldLink RX4 13 "DreamLedgerModel" "own" "[I" ∈ XALL := xall 684 (by decide +kernel) (by decide +kernel)
theorem kf_X4_16 : Cond.fieldLink RX4 16 "DreamLedgerModel" "vivid" "[I" ∈ XALL := xall 685 (by decide +kernel) (by decide +kernel)
theorem kf_X4_19 : Cond.fieldLink RX4 19 "DreamLedgerModel" "night" "[I" ∈ XALL := xall 686 (by decide +kernel) (by decide +kernel)
theorem kf_X4_22 : Cond.fieldLink RX4 22 "DreamLedgerModel" "kind" "[I" ∈ XALL := xall 687 (by decide +kernel) (by decide +kernel)
theorem kf_X4_25 : Cond.fieldLink RX4 25 "DreamLedgerModel" "first" "[I" ∈ XALL := xall 688 (by decide +kernel) (by decide +kernel)
theorem kf_X4_28 : Cond.fieldLink RX4 28 "DreamLedgerModel" "second" "[I" ∈ XALL := xall 689 (by decide +kernel) (by decide +kernel)
theorem kf_X4_31 : Cond.fieldLink RX4 31 "DreamLedgerModel" "has" "[I" ∈ XALL := xall 690 (by decide +kernel) (by decide +kernel)
theorem kf_X4_34 : Cond.fieldLink RX4 34 "DreamLedgerModel" "with" "[I" ∈ XALL := xall 691 (by decide +kernel) (by decide +kernel)
theorem kf_X4_37 : Cond.fieldLink RX4 37 "DreamLedgerModel" "match" "[I" ∈ XALL := xall 692 (by decide +kernel) (by decide +kernel)
theorem kf_X4_127 : Cond.fieldLink RX4 127 "DreamLedgerModel" "chosen" "I" ∈ XALL := xall 693 (by decide +kernel) (by decide +kernel)
theorem km_L_133 : Cond.methodLink RL 133 yX4_thrown ∈ XALL := xall 727 (by decide +kernel) (by decide +kernel)
theorem ki_yX4_thrown : Cond.instanceMethod yX4_thrown ∈ XALL := xall 728 (by decide +kernel) (by decide +kernel)
theorem ks_yX4_thrown : Cond.selects RX4 yX4_thrown yX4_thrown ∈ XALL := xall 729 (by decide +kernel) (by decide +kernel)
theorem kc_yX4_thrown : Cond.code yX4_thrown cX4_thrown 1 (some .int) ∈ XALL := xall 730 (by decide +kernel) (by decide +kernel)
theorem km_L_132 : Cond.methodLink RL 132 yX4_addTag ∈ XALL := xall 731 (by decide +kernel) (by decide +kernel)
theorem ki_yX4_addTag : Cond.instanceMethod yX4_addTag ∈ XALL := xall 732 (by decide +kernel) (by decide +kernel)
theorem ks_yX4_addTag : Cond.selects RX4 yX4_addTag yX4_addTag ∈ XALL := xall 733 (by decide +kernel) (by decide +kernel)
theorem kc_yX4_addTag : Cond.code yX4_addTag cX4_addTag 1 (some .int) ∈ XALL := xall 734 (by decide +kernel) (by decide +kernel)
theorem km_X4_68 : Cond.methodLink RX4 68 yX4_fail ∈ XALL := xall 735 (by decide +kernel) (by decide +kernel)
theorem ki_yX4_fail : Cond.instanceMethod yX4_fail ∈ XALL := xall 737 (by decide +kernel) (by decide +kernel)
theorem kc_yX4_fail : Cond.code yX4_fail cX4_fail 2 (some .int) ∈ XALL := xall 738 (by decide +kernel) (by decide +kernel)
theorem km_L_139 : Cond.methodLink RL 139 yX4_putUnder ∈ XALL := xall 739 (by decide +kernel) (by decide +kernel)
theorem ki_yX4_putUnder : Cond.instanceMethod yX4_putUnder ∈ XALL := xall 740 (by decide +kernel) (by decide +kernel)
theorem ks_yX4_putUnder : Cond.selects RX4 yX4_putUnder yX4_putUnder ∈ XALL := xall 741 (by decide +kernel) (by decide +kernel)
theorem kc_yX4_putUnder : Cond.code yX4_putUnder cX4_putUnder 3 (some .int) ∈ XALL := xall 742 (by decide +kernel) (by decide +kernel)
theorem km_X4_75 : Cond.methodLink RX4 75 yX4_canPut ∈ XALL := xall 743 (by decide +kernel) (by decide +kernel)
theorem ki_yX4_canPut : Cond.instanceMethod yX4_canPut ∈ XALL := xall 745 (by decide +kernel) (by decide +kernel)
theorem kc_yX4_canPut : Cond.code yX4_canPut cX4_canPut 3 (some .boolean) ∈ XALL := xall 746 (by decide +kernel) (by decide +kernel)
theorem km_X4_71 : Cond.methodLink RX4 71 yX4_isTag ∈ XALL := xall 747 (by decide +kernel) (by decide +kernel)
theorem ki_yX4_isTag : Cond.instanceMethod yX4_isTag ∈ XALL := xall 749 (by decide +kernel) (by decide +kernel)
theorem kc_yX4_isTag : Cond.code yX4_isTag cX4_isTag 2 (some .boolean) ∈ XALL := xall 750 (by decide +kernel) (by decide +kernel)
theorem km_X4_47 : Cond.methodLink RX4 47 yX4_isIn ∈ XALL := xall 751 (by decide +kernel) (by decide +kernel)
theorem kt_yX4_isIn : Cond.static yX4_isIn ∈ XALL := xall 752 (by decide +kernel) (by decide +kernel)
theorem kc_yX4_isIn : Cond.code yX4_isIn cX4_isIn 3 (some .boolean) ∈ XALL := xall 753 (by decide +kernel) (by decide +kernel)
theorem km_X4_65 : Cond.methodLink RX4 65 yX4_below ∈ XALL := xall 754 (by decide +kernel) (by decide +kernel)
theorem ki_yX4_below : Cond.instanceMethod yX4_below ∈ XALL := xall 756 (by decide +kernel) (by decide +kernel)
theorem kc_yX4_below : Cond.code yX4_below cX4_below 3 (some .boolean) ∈ XALL := xall 757 (by decide +kernel) (by decide +kernel)
theorem km_X4_57 : Cond.methodLink RX4 57 yX4_above ∈ XALL := xall 758 (by decide +kernel) (by decide +kernel)
theorem ki_yX4_above : Cond.instanceMethod yX4_above ∈ XALL := xall 760 (by decide +kernel) (by decide +kernel)
theorem kc_yX4_above : Cond.code yX4_above cX4_above 4 (some .int) ∈ XALL := xall 761 (by decide +kernel) (by decide +kernel)
theorem km_X4_61 : Cond.methodLink RX4 61 yX4_is ∈ XALL := xall 762 (by decide +kernel) (by decide +kernel)
theorem kt_yX4_is : Cond.static yX4_is ∈ XALL := xall 763 (by decide +kernel) (by decide +kernel)
theorem kc_yX4_is : Cond.code yX4_is cX4_is 2 (some .boolean) ∈ XALL := xall 764 (by decide +kernel) (by decide +kernel)
theorem km_X4_78 : Cond.methodLink RX4 78 yX4_many ∈ XALL := xall 765 (by decide +kernel) (by decide +kernel)
theorem kt_yX4_many : Cond.static yX4_many ∈ XALL := xall 766 (by decide +kernel) (by decide +kernel)
theorem kc_yX4_many : Cond.code yX4_many cX4_many 3 (some .int) ∈ XALL := xall 767 (by decide +kernel) (by decide +kernel)
theorem km_L_143 : Cond.methodLink RL 143 yX4_freeTag ∈ XALL := xall 768 (by decide +kernel) (by decide +kernel)
theorem ki_yX4_freeTag : Cond.instanceMethod yX4_freeTag ∈ XALL := xall 769 (by decide +kernel) (by decide +kernel)
theorem ks_yX4_freeTag : Cond.selects RX4 yX4_freeTag yX4_freeTag ∈ XALL := xall 770 (by decide +kernel) (by decide +kernel)
theorem kc_yX4_freeTag : Cond.code yX4_freeTag cX4_freeTag 3 (some .int) ∈ XALL := xall 771 (by decide +kernel) (by decide +kernel)
theorem km_L_146 : Cond.methodLink RL 146 yX4_addDream ∈ XALL := xall 772 (by decide +kernel) (by decide +kernel)
theorem ki_yX4_addDream : Cond.instanceMethod yX4_addDream ∈ XALL := xall 773 (by decide +kernel) (by decide +kernel)
theorem ks_yX4_addDream : Cond.selects RX4 yX4_addDream yX4_addDream ∈ XALL := xall 774 (by decide +kernel) (by decide +kernel)
theorem kc_yX4_addDream : Cond.code yX4_addDream cX4_addDream 3 (some .int) ∈ XALL := xall 775 (by decide +kernel) (by decide +kernel)
theorem km_L_149 : Cond.methodLink RL 149 yX4_tagDream ∈ XALL := xall 776 (by decide +kernel) (by decide +kernel)
theorem ki_yX4_tagDream : Cond.instanceMethod yX4_tagDream ∈ XALL := xall 777 (by decide +kernel) (by decide +kernel)
theorem ks_yX4_tagDream : Cond.selects RX4 yX4_tagDream yX4_tagDream ∈ XALL := xall 778 (by decide +kernel) (by decide +kernel)
theorem kc_yX4_tagDream : Cond.code yX4_tagDream cX4_tagDream 3 (some .int) ∈ XALL := xall 779 (by decide +kernel) (by decide +kernel)
theorem km_X4_84 : Cond.methodLink RX4 84 yX4_isDream ∈ XALL := xall 780 (by decide +kernel) (by decide +kernel)
theorem ki_yX4_isDream : Cond.instanceMethod yX4_isDream ∈ XALL := xall 782 (by decide +kernel) (by decide +kernel)
theorem kc_yX4_isDream : Cond.code yX4_isDream cX4_isDream 2 (some .boolean) ∈ XALL := xall 783 (by decide +kernel) (by decide +kernel)
theorem km_X4_87 : Cond.methodLink RX4 87 yX4_changed ∈ XALL := xall 784 (by decide +kernel) (by decide +kernel)
theorem ki_yX4_changed : Cond.instanceMethod yX4_changed ∈ XALL := xall 786 (by decide +kernel) (by decide +kernel)
theorem kc_yX4_changed : Cond.code yX4_changed cX4_changed 3 (some .int) ∈ XALL := xall 787 (by decide +kernel) (by decide +kernel)
theorem km_L_152 : Cond.methodLink RL 152 yX4_untagDream ∈ XALL := xall 788 (by decide +kernel) (by decide +kernel)
theorem ki_yX4_untagDream : Cond.instanceMethod yX4_untagDream ∈ XALL := xall 789 (by decide +kernel) (by decide +kernel)
theorem ks_yX4_untagDream : Cond.selects RX4 yX4_untagDream yX4_untagDream ∈ XALL := xall 790 (by decide +kernel) (by decide +kernel)
theorem kc_yX4_untagDream : Cond.code yX4_untagDream cX4_untagDream 3 (some .int) ∈ XALL := xall 791 (by decide +kernel) (by decide +kernel)
theorem km_L_155 : Cond.methodLink RL 155 yX4_recall ∈ XALL := xall 792 (by decide +kernel) (by decide +kernel)
theorem ki_yX4_recall : Cond.instanceMethod yX4_recall ∈ XALL := xall 793 (by decide +kernel) (by decide +kernel)
theorem ks_yX4_recall : Cond.selects RX4 yX4_recall yX4_recall ∈ XALL := xall 794 (by decide +kernel) (by decide +kernel)
theorem kc_yX4_recall : Cond.code yX4_recall cX4_recall 4 (some .int) ∈ XALL := xall 795 (by decide +kernel) (by decide +kernel)
theorem km_L_158 : Cond.methodLink RL 158 yX4_passNights ∈ XALL := xall 796 (by decide +kernel) (by decide +kernel)
theorem ki_yX4_passNights : Cond.instanceMethod yX4_passNights ∈ XALL := xall 797 (by decide +kernel) (by decide +kernel)
theorem ks_yX4_passNights : Cond.selects RX4 yX4_passNights yX4_passNights ∈ XALL := xall 798 (by decide +kernel) (by decide +kernel)
theorem kc_yX4_passNights : Cond.code yX4_passNights cX4_passNights 3 (some .int) ∈ XALL := xall 799 (by decide +kernel) (by decide +kernel)
theorem km_X4_96 : Cond.methodLink RX4 96 yX4_later ∈ XALL := xall 800 (by decide +kernel) (by decide +kernel)
theorem ki_yX4_later : Cond.instanceMethod yX4_later ∈ XALL := xall 802 (by decide +kernel) (by decide +kernel)
theorem kc_yX4_later : Cond.code yX4_later cX4_later 4 (some .int) ∈ XALL := xall 803 (by decide +kernel) (by decide +kernel)
theorem km_X4_91 : Cond.methodLink RX4 91 yJ9_max_7cf53 ∈ XALL := xall 804 (by decide +kernel) (by decide +kernel)
theorem km_X4_99 : Cond.methodLink RX4 99 yX4_faded ∈ XALL := xall 805 (by decide +kernel) (by decide +kernel)
theorem ki_yX4_faded : Cond.instanceMethod yX4_faded ∈ XALL := xall 807 (by decide +kernel) (by decide +kernel)
theorem kc_yX4_faded : Cond.code yX4_faded cX4_faded 4 (some .int) ∈ XALL := xall 808 (by decide +kernel) (by decide +kernel)
theorem km_L_161 : Cond.methodLink RL 161 yX4_addTagTerm ∈ XALL := xall 809 (by decide +kernel) (by decide +kernel)
theorem ki_yX4_addTagTerm : Cond.instanceMethod yX4_addTagTerm ∈ XALL := xall 810 (by decide +kernel) (by decide +kernel)
theorem ks_yX4_addTagTerm : Cond.selects RX4 yX4_addTagTerm yX4_addTagTerm ∈ XALL := xall 811 (by decide +kernel) (by decide +kernel)
theorem kc_yX4_addTagTerm : Cond.code yX4_addTagTerm cX4_addTagTerm 2 (some .int) ∈ XALL := xall 812 (by decide +kernel) (by decide +kernel)
theorem km_X4_102 : Cond.methodLink RX4 102 yX4_add ∈ XALL := xall 813 (by decide +kernel) (by decide +kernel)
theorem ki_yX4_add : Cond.instanceMethod yX4_add ∈ XALL := xall 815 (by decide +kernel) (by decide +kernel)
theorem kc_yX4_add : Cond.code yX4_add cX4_add 4 (some .int) ∈ XALL := xall 816 (by decide +kernel) (by decide +kernel)
theorem km_L_164 : Cond.methodLink RL 164 yX4_addBothTerm ∈ XALL := xall 817 (by decide +kernel) (by decide +kernel)
theorem ki_yX4_addBothTerm : Cond.instanceMethod yX4_addBothTerm ∈ XALL := xall 818 (by decide +kernel) (by decide +kernel)
theorem ks_yX4_addBothTerm : Cond.selects RX4 yX4_addBothTerm yX4_addBothTerm ∈ XALL := xall 819 (by decide +kernel) (by decide +kernel)
theorem kc_yX4_addBothTerm : Cond.code yX4_addBothTerm cX4_addBothTerm 3 (some .int) ∈ XALL := xall 820 (by decide +kernel) (by decide +kernel)
theorem km_X4_106 : Cond.methodLink RX4 106 yX4_isTerm ∈ XALL := xall 821 (by decide +kernel) (by decide +kernel)
theorem ki_yX4_isTerm : Cond.instanceMethod yX4_isTerm ∈ XALL := xall 823 (by decide +kernel) (by decide +kernel)
theorem kc_yX4_isTerm : Cond.code yX4_isTerm cX4_isTerm 2 (some .boolean) ∈ XALL := xall 824 (by decide +kernel) (by decide +kernel)
theorem km_L_167 : Cond.methodLink RL 167 yX4_addEitherTerm ∈ XALL := xall 825 (by decide +kernel) (by decide +kernel)
theorem ki_yX4_addEitherTerm : Cond.instanceMethod yX4_addEitherTerm ∈ XALL := xall 826 (by decide +kernel) (by decide +kernel)
theorem ks_yX4_addEitherTerm : Cond.selects RX4 yX4_addEitherTerm yX4_addEitherTerm ∈ XALL := xall 827 (by decide +kernel) (by decide +kernel)
theorem kc_yX4_addEitherTerm : Cond.code yX4_addEitherTerm cX4_addEitherTerm 3 (some .int) ∈ XALL := xall 828 (by decide +kernel) (by decide +kernel)
theorem km_L_170 : Cond.methodLink RL 170 yX4_addWithoutTerm ∈ XALL := xall 829 (by decide +kernel) (by decide +kernel)
theorem ki_yX4_addWithoutTerm : Cond.instanceMethod yX4_addWithoutTerm ∈ XALL := xall 830 (by decide +kernel) (by decide +kernel)
theorem ks_yX4_addWithoutTerm : Cond.selects RX4 yX4_addWithoutTerm yX4_addWithoutTerm ∈ XALL := xall 831 (by decide +kernel) (by decide +kernel)
theorem kc_yX4_addWithoutTerm : Cond.code yX4_addWithoutTerm cX4_addWithoutTerm 2 (some .int) ∈ XALL := xall 832 (by decide +kernel) (by decide +kernel)
theorem km_L_174 : Cond.methodLink RL 174 yX4_clearTerms ∈ XALL := xall 833 (by decide +kernel) (by decide +kernel)
theorem ki_yX4_clearTerms : Cond.instanceMethod yX4_clearTerms ∈ XALL := xall 834 (by decide +kernel) (by decide +kernel)
theorem ks_yX4_clearTerms : Cond.selects RX4 yX4_clearTerms yX4_clearTerms ∈ XALL := xall 835 (by decide +kernel) (by decide +kernel)
theorem kc_yX4_clearTerms : Cond.code yX4_clearTerms cX4_clearTerms 2 (some .int) ∈ XALL := xall 836 (by decide +kernel) (by decide +kernel)
theorem km_L_177 : Cond.methodLink RL 177 yX4_hasParent ∈ XALL := xall 837 (by decide +kernel) (by decide +kernel)
theorem ki_yX4_hasParent : Cond.instanceMethod yX4_hasParent ∈ XALL := xall 838 (by decide +kernel) (by decide +kernel)
theorem ks_yX4_hasParent : Cond.selects RX4 yX4_hasParent yX4_hasParent ∈ XALL := xall 839 (by decide +kernel) (by decide +kernel)
theorem kc_yX4_hasParent : Cond.code yX4_hasParent cX4_hasParent 2 (some .boolean) ∈ XALL := xall 840 (by decide +kernel) (by decide +kernel)
theorem km_X4_109 : Cond.methodLink RX4 109 yX4_failed ∈ XALL := xall 841 (by decide +kernel) (by decide +kernel)
theorem ki_yX4_failed : Cond.instanceMethod yX4_failed ∈ XALL := xall 843 (by decide +kernel) (by decide +kernel)
theorem kc_yX4_failed : Cond.code yX4_failed cX4_failed 2 (some .boolean) ∈ XALL := xall 844 (by decide +kernel) (by decide +kernel)
theorem km_L_180 : Cond.methodLink RL 180 yX4_parentOf ∈ XALL := xall 845 (by decide +kernel) (by decide +kernel)
theorem ki_yX4_parentOf : Cond.instanceMethod yX4_parentOf ∈ XALL := xall 846 (by decide +kernel) (by decide +kernel)
theorem ks_yX4_parentOf : Cond.selects RX4 yX4_parentOf yX4_parentOf ∈ XALL := xall 847 (by decide +kernel) (by decide +kernel)
theorem kc_yX4_parentOf : Cond.code yX4_parentOf cX4_parentOf 2 (some .int) ∈ XALL := xall 848 (by decide +kernel) (by decide +kernel)
theorem km_L_183 : Cond.methodLink RL 183 yX4_tagsAbove ∈ XALL := xall 849 (by decide +kernel) (by decide +kernel)
theorem ki_yX4_tagsAbove : Cond.instanceMethod yX4_tagsAbove ∈ XALL := xall 850 (by decide +kernel) (by decide +kernel)
theorem ks_yX4_tagsAbove : Cond.selects RX4 yX4_tagsAbove yX4_tagsAbove ∈ XALL := xall 851 (by decide +kernel) (by decide +kernel)
theorem kc_yX4_tagsAbove : Cond.code yX4_tagsAbove cX4_tagsAbove 2 (some .int) ∈ XALL := xall 852 (by decide +kernel) (by decide +kernel)
theorem km_L_186 : Cond.methodLink RL 186 yX4_tagsBelow ∈ XALL := xall 853 (by decide +kernel) (by decide +kernel)
theorem ki_yX4_tagsBelow : Cond.instanceMethod yX4_tagsBelow ∈ XALL := xall 854 (by decide +kernel) (by decide +kernel)
theorem ks_yX4_tagsBelow : Cond.selects RX4 yX4_tagsBelow yX4_tagsBelow ∈ XALL := xall 855 (by decide +kernel) (by decide +kernel)
theorem kc_yX4_tagsBelow : Cond.code yX4_tagsBelow cX4_tagsBelow 2 (some .int) ∈ XALL := xall 856 (by decide +kernel) (by decide +kernel)
theorem km_X4_112 : Cond.methodLink RX4 112 yX4_tagsUnder ∈ XALL := xall 857 (by decide +kernel) (by decide +kernel)
theorem ki_yX4_tagsUnder : Cond.instanceMethod yX4_tagsUnder ∈ XALL := xall 859 (by decide +kernel) (by decide +kernel)
theorem kc_yX4_tagsUnder : Cond.code yX4_tagsUnder cX4_tagsUnder 4 (some .int) ∈ XALL := xall 860 (by decide +kernel) (by decide +kernel)
theorem km_L_189 : Cond.methodLink RL 189 yX4_isBelow ∈ XALL := xall 861 (by decide +kernel) (by decide +kernel)
theorem ki_yX4_isBelow : Cond.instanceMethod yX4_isBelow ∈ XALL := xall 862 (by decide +kernel) (by decide +kernel)
theorem ks_yX4_isBelow : Cond.selects RX4 yX4_isBelow yX4_isBelow ∈ XALL := xall 863 (by decide +kernel) (by decide +kernel)
theorem kc_yX4_isBelow : Cond.code yX4_isBelow cX4_isBelow 3 (some .boolean) ∈ XALL := xall 864 (by decide +kernel) (by decide +kernel)
theorem km_L_192 : Cond.methodLink RL 192 yX4_nearestAbove ∈ XALL := xall 865 (by decide +kernel) (by decide +kernel)
theorem ki_yX4_nearestAbove : Cond.instanceMethod yX4_nearestAbove ∈ XALL := xall 866 (by decide +kernel) (by decide +kernel)
theorem ks_yX4_nearestAbove : Cond.selects RX4 yX4_nearestAbove yX4_nearestAbove ∈ XALL := xall 867 (by decide +kernel) (by decide +kernel)
theorem kc_yX4_nearestAbove : Cond.code yX4_nearestAbove cX4_nearestAbove 6 (some .int) ∈ XALL := xall 868 (by decide +kernel) (by decide +kernel)
theorem km_L_195 : Cond.methodLink RL 195 yX4_dreamsWith ∈ XALL := xall 869 (by decide +kernel) (by decide +kernel)
theorem ki_yX4_dreamsWith : Cond.instanceMethod yX4_dreamsWith ∈ XALL := xall 870 (by decide +kernel) (by decide +kernel)
theorem ks_yX4_dreamsWith : Cond.selects RX4 yX4_dreamsWith yX4_dreamsWith ∈ XALL := xall 871 (by decide +kernel) (by decide +kernel)
theorem kc_yX4_dreamsWith : Cond.code yX4_dreamsWith cX4_dreamsWith 2 (some .int) ∈ XALL := xall 872 (by decide +kernel) (by decide +kernel)
theorem km_X4_115 : Cond.methodLink RX4 115 yX4_reckon ∈ XALL := xall 873 (by decide +kernel) (by decide +kernel)
theorem ki_yX4_reckon : Cond.instanceMethod yX4_reckon ∈ XALL := xall 875 (by decide +kernel) (by decide +kernel)
theorem kc_yX4_reckon : Cond.code yX4_reckon cX4_reckon 3 none ∈ XALL := xall 876 (by decide +kernel) (by decide +kernel)
theorem km_L_198 : Cond.methodLink RL 198 yX4_hasOwnTag ∈ XALL := xall 877 (by decide +kernel) (by decide +kernel)
theorem ki_yX4_hasOwnTag : Cond.instanceMethod yX4_hasOwnTag ∈ XALL := xall 878 (by decide +kernel) (by decide +kernel)
theorem ks_yX4_hasOwnTag : Cond.selects RX4 yX4_hasOwnTag yX4_hasOwnTag ∈ XALL := xall 879 (by decide +kernel) (by decide +kernel)
theorem kc_yX4_hasOwnTag : Cond.code yX4_hasOwnTag cX4_hasOwnTag 3 (some .boolean) ∈ XALL := xall 880 (by decide +kernel) (by decide +kernel)
theorem km_L_201 : Cond.methodLink RL 201 yX4_hasTag ∈ XALL := xall 881 (by decide +kernel) (by decide +kernel)
theorem ki_yX4_hasTag : Cond.instanceMethod yX4_hasTag ∈ XALL := xall 882 (by decide +kernel) (by decide +kernel)
theorem ks_yX4_hasTag : Cond.selects RX4 yX4_hasTag yX4_hasTag ∈ XALL := xall 883 (by decide +kernel) (by decide +kernel)
theorem kc_yX4_hasTag : Cond.code yX4_hasTag cX4_hasTag 3 (some .boolean) ∈ XALL := xall 884 (by decide +kernel) (by decide +kernel)
theorem km_L_204 : Cond.methodLink RL 204 yX4_tagsOf ∈ XALL := xall 885 (by decide +kernel) (by decide +kernel)
theorem ki_yX4_tagsOf : Cond.instanceMethod yX4_tagsOf ∈ XALL := xall 886 (by decide +kernel) (by decide +kernel)
theorem ks_yX4_tagsOf : Cond.selects RX4 yX4_tagsOf yX4_tagsOf ∈ XALL := xall 887 (by decide +kernel) (by decide +kernel)
theorem kc_yX4_tagsOf : Cond.code yX4_tagsOf cX4_tagsOf 2 (some .int) ∈ XALL := xall 888 (by decide +kernel) (by decide +kernel)
theorem km_L_207 : Cond.methodLink RL 207 yX4_vividnessOf ∈ XALL := xall 889 (by decide +kernel) (by decide +kernel)
theorem ki_yX4_vividnessOf : Cond.instanceMethod yX4_vividnessOf ∈ XALL := xall 890 (by decide +kernel) (by decide +kernel)
theorem ks_yX4_vividnessOf : Cond.selects RX4 yX4_vividnessOf yX4_vividnessOf ∈ XALL := xall 891 (by decide +kernel) (by decide +kernel)
theorem kc_yX4_vividnessOf : Cond.code yX4_vividnessOf cX4_vividnessOf 2 (some .int) ∈ XALL := xall 892 (by decide +kernel) (by decide +kernel)
theorem km_L_210 : Cond.methodLink RL 210 yX4_nightOf ∈ XALL := xall 893 (by decide +kernel) (by decide +kernel)
theorem ki_yX4_nightOf : Cond.instanceMethod yX4_nightOf ∈ XALL := xall 894 (by decide +kernel) (by decide +kernel)
theorem ks_yX4_nightOf : Cond.selects RX4 yX4_nightOf yX4_nightOf ∈ XALL := xall 895 (by decide +kernel) (by decide +kernel)
theorem kc_yX4_nightOf : Cond.code yX4_nightOf cX4_nightOf 2 (some .int) ∈ XALL := xall 896 (by decide +kernel) (by decide +kernel)
theorem km_L_213 : Cond.methodLink RL 213 yX4_matches ∈ XALL := xall 897 (by decide +kernel) (by decide +kernel)
theorem ki_yX4_matches : Cond.instanceMethod yX4_matches ∈ XALL := xall 898 (by decide +kernel) (by decide +kernel)
theorem ks_yX4_matches : Cond.selects RX4 yX4_matches yX4_matches ∈ XALL := xall 899 (by decide +kernel) (by decide +kernel)
theorem kc_yX4_matches : Cond.code yX4_matches cX4_matches 3 (some .boolean) ∈ XALL := xall 900 (by decide +kernel) (by decide +kernel)
theorem km_L_216 : Cond.methodLink RL 216 yX4_matchesOf ∈ XALL := xall 901 (by decide +kernel) (by decide +kernel)
theorem ki_yX4_matchesOf : Cond.instanceMethod yX4_matchesOf ∈ XALL := xall 902 (by decide +kernel) (by decide +kernel)
theorem ks_yX4_matchesOf : Cond.selects RX4 yX4_matchesOf yX4_matchesOf ∈ XALL := xall 903 (by decide +kernel) (by decide +kernel)
theorem kc_yX4_matchesOf : Cond.code yX4_matchesOf cX4_matchesOf 2 (some .int) ∈ XALL := xall 904 (by decide +kernel) (by decide +kernel)
theorem km_L_219 : Cond.methodLink RL 219 yX4_mostVivid ∈ XALL := xall 905 (by decide +kernel) (by decide +kernel)
theorem ki_yX4_mostVivid : Cond.instanceMethod yX4_mostVivid ∈ XALL := xall 906 (by decide +kernel) (by decide +kernel)
theorem ks_yX4_mostVivid : Cond.selects RX4 yX4_mostVivid yX4_mostVivid ∈ XALL := xall 907 (by decide +kernel) (by decide +kernel)
theorem kc_yX4_mostVivid : Cond.code yX4_mostVivid cX4_mostVivid 2 (some .int) ∈ XALL := xall 908 (by decide +kernel) (by decide +kernel)
theorem km_X4_118 : Cond.methodLink RX4 118 yX4_brightest ∈ XALL := xall 909 (by decide +kernel) (by decide +kernel)
theorem ki_yX4_brightest : Cond.instanceMethod yX4_brightest ∈ XALL := xall 911 (by decide +kernel) (by decide +kernel)
theorem kc_yX4_brightest : Cond.code yX4_brightest cX4_brightest 4 (some .int) ∈ XALL := xall 912 (by decide +kernel) (by decide +kernel)
theorem km_L_222 : Cond.methodLink RL 222 yX4_commonTags ∈ XALL := xall 913 (by decide +kernel) (by decide +kernel)
theorem ki_yX4_commonTags : Cond.instanceMethod yX4_commonTags ∈ XALL := xall 914 (by decide +kernel) (by decide +kernel)
theorem ks_yX4_commonTags : Cond.selects RX4 yX4_commonTags yX4_commonTags ∈ XALL := xall 915 (by decide +kernel) (by decide +kernel)
theorem kc_yX4_commonTags : Cond.code yX4_commonTags cX4_commonTags 2 (some .int) ∈ XALL := xall 916 (by decide +kernel) (by decide +kernel)
theorem km_X4_121 : Cond.methodLink RX4 121 yX4_common ∈ XALL := xall 917 (by decide +kernel) (by decide +kernel)
theorem ki_yX4_common : Cond.instanceMethod yX4_common ∈ XALL := xall 919 (by decide +kernel) (by decide +kernel)
theorem kc_yX4_common : Cond.code yX4_common cX4_common 4 (some .int) ∈ XALL := xall 920 (by decide +kernel) (by decide +kernel)
theorem km_L_225 : Cond.methodLink RL 225 yX4_matchSame ∈ XALL := xall 921 (by decide +kernel) (by decide +kernel)
theorem ki_yX4_matchSame : Cond.instanceMethod yX4_matchSame ∈ XALL := xall 922 (by decide +kernel) (by decide +kernel)
theorem ks_yX4_matchSame : Cond.selects RX4 yX4_matchSame yX4_matchSame ∈ XALL := xall 923 (by decide +kernel) (by decide +kernel)
theorem kc_yX4_matchSame : Cond.code yX4_matchSame cX4_matchSame 3 (some .boolean) ∈ XALL := xall 924 (by decide +kernel) (by decide +kernel)
theorem km_L_228 : Cond.methodLink RL 228 yX4_coverSize ∈ XALL := xall 925 (by decide +kernel) (by decide +kernel)
theorem ki_yX4_coverSize : Cond.instanceMethod yX4_coverSize ∈ XALL := xall 926 (by decide +kernel) (by decide +kernel)
theorem ks_yX4_coverSize : Cond.selects RX4 yX4_coverSize yX4_coverSize ∈ XALL := xall 927 (by decide +kernel) (by decide +kernel)
theorem kc_yX4_coverSize : Cond.code yX4_coverSize cX4_coverSize 2 (some .int) ∈ XALL := xall 928 (by decide +kernel) (by decide +kernel)
theorem km_X4_133 : Cond.methodLink RX4 133 yX4_cover ∈ XALL := xall 929 (by decide +kernel) (by decide +kernel)
theorem ki_yX4_cover : Cond.instanceMethod yX4_cover ∈ XALL := xall 931 (by decide +kernel) (by decide +kernel)
theorem kc_yX4_cover : Cond.code yX4_cover cX4_cover 3 (some .int) ∈ XALL := xall 932 (by decide +kernel) (by decide +kernel)
theorem km_X4_130 : Cond.methodLink RX4 130 yX4_covers ∈ XALL := xall 933 (by decide +kernel) (by decide +kernel)
theorem ki_yX4_covers : Cond.instanceMethod yX4_covers ∈ XALL := xall 935 (by decide +kernel) (by decide +kernel)
theorem kc_yX4_covers : Cond.code yX4_covers cX4_covers 5 (some .boolean) ∈ XALL := xall 936 (by decide +kernel) (by decide +kernel)
theorem km_X4_124 : Cond.methodLink RX4 124 yX4_apart ∈ XALL := xall 937 (by decide +kernel) (by decide +kernel)
theorem ki_yX4_apart : Cond.instanceMethod yX4_apart ∈ XALL := xall 939 (by decide +kernel) (by decide +kernel)
theorem kc_yX4_apart : Cond.code yX4_apart cX4_apart 5 (some .int) ∈ XALL := xall 940 (by decide +kernel) (by decide +kernel)
theorem km_L_231 : Cond.methodLink RL 231 yX4_coverTag ∈ XALL := xall 941 (by decide +kernel) (by decide +kernel)
theorem ki_yX4_coverTag : Cond.instanceMethod yX4_coverTag ∈ XALL := xall 942 (by decide +kernel) (by decide +kernel)
theorem ks_yX4_coverTag : Cond.selects RX4 yX4_coverTag yX4_coverTag ∈ XALL := xall 943 (by decide +kernel) (by decide +kernel)
theorem kc_yX4_coverTag : Cond.code yX4_coverTag cX4_coverTag 5 (some .int) ∈ XALL := xall 944 (by decide +kernel) (by decide +kernel)
theorem km_L_235 : Cond.methodLink RL 235 yX4_tags ∈ XALL := xall 945 (by decide +kernel) (by decide +kernel)
theorem ki_yX4_tags : Cond.instanceMethod yX4_tags ∈ XALL := xall 946 (by decide +kernel) (by decide +kernel)
theorem ks_yX4_tags : Cond.selects RX4 yX4_tags yX4_tags ∈ XALL := xall 947 (by decide +kernel) (by decide +kernel)
theorem kc_yX4_tags : Cond.code yX4_tags cX4_tags 1 (some .int) ∈ XALL := xall 948 (by decide +kernel) (by decide +kernel)
theorem km_L_239 : Cond.methodLink RL 239 yX4_dreams ∈ XALL := xall 949 (by decide +kernel) (by decide +kernel)
theorem ki_yX4_dreams : Cond.instanceMethod yX4_dreams ∈ XALL := xall 950 (by decide +kernel) (by decide +kernel)
theorem ks_yX4_dreams : Cond.selects RX4 yX4_dreams yX4_dreams ∈ XALL := xall 951 (by decide +kernel) (by decide +kernel)
theorem kc_yX4_dreams : Cond.code yX4_dreams cX4_dreams 1 (some .int) ∈ XALL := xall 952 (by decide +kernel) (by decide +kernel)
theorem km_L_243 : Cond.methodLink RL 243 yX4_terms ∈ XALL := xall 953 (by decide +kernel) (by decide +kernel)
theorem ki_yX4_terms : Cond.instanceMethod yX4_terms ∈ XALL := xall 954 (by decide +kernel) (by decide +kernel)
theorem ks_yX4_terms : Cond.selects RX4 yX4_terms yX4_terms ∈ XALL := xall 955 (by decide +kernel) (by decide +kernel)
theorem kc_yX4_terms : Cond.code yX4_terms cX4_terms 1 (some .int) ∈ XALL := xall 956 (by decide +kernel) (by decide +kernel)
theorem km_L_247 : Cond.methodLink RL 247 yX4_nights ∈ XALL := xall 957 (by decide +kernel) (by decide +kernel)
theorem ki_yX4_nights : Cond.instanceMethod yX4_nights ∈ XALL := xall 958 (by decide +kernel) (by decide +kernel)
theorem ks_yX4_nights : Cond.selects RX4 yX4_nights yX4_nights ∈ XALL := xall 959 (by decide +kernel) (by decide +kernel)
theorem kc_yX4_nights : Cond.code yX4_nights cX4_nights 1 (some .int) ∈ XALL := xall 960 (by decide +kernel) (by decide +kernel)
theorem km_L_251 : Cond.methodLink RL 251 yX4_fadedDreams ∈ XALL := xall 961 (by decide +kernel) (by decide +kernel)
theorem ki_yX4_fadedDreams : Cond.instanceMethod yX4_fadedDreams ∈ XALL := xall 962 (by decide +kernel) (by decide +kernel)
theorem ks_yX4_fadedDreams : Cond.selects RX4 yX4_fadedDreams yX4_fadedDreams ∈ XALL := xall 963 (by decide +kernel) (by decide +kernel)
theorem kc_yX4_fadedDreams : Cond.code yX4_fadedDreams cX4_fadedDreams 1 (some .int) ∈ XALL := xall 964 (by decide +kernel) (by decide +kernel)
theorem km_L_254 : Cond.methodLink RL 254 yX4_fadedAfter ∈ XALL := xall 965 (by decide +kernel) (by decide +kernel)
theorem ki_yX4_fadedAfter : Cond.instanceMethod yX4_fadedAfter ∈ XALL := xall 966 (by decide +kernel) (by decide +kernel)
theorem ks_yX4_fadedAfter : Cond.selects RX4 yX4_fadedAfter yX4_fadedAfter ∈ XALL := xall 967 (by decide +kernel) (by decide +kernel)
theorem kc_yX4_fadedAfter : Cond.code yX4_fadedAfter cX4_fadedAfter 2 (some .int) ∈ XALL := xall 968 (by decide +kernel) (by decide +kernel)
theorem km_L_258 : Cond.methodLink RL 258 yX4_matchesIfUnder ∈ XALL := xall 969 (by decide +kernel) (by decide +kernel)
theorem ki_yX4_matchesIfUnder : Cond.instanceMethod yX4_matchesIfUnder ∈ XALL := xall 970 (by decide +kernel) (by decide +kernel)
theorem ks_yX4_matchesIfUnder : Cond.selects RX4 yX4_matchesIfUnder yX4_matchesIfUnder ∈ XALL := xall 971 (by decide +kernel) (by decide +kernel)
theorem kc_yX4_matchesIfUnder : Cond.code yX4_matchesIfUnder cX4_matchesIfUnder 4 (some .int) ∈ XALL := xall 972 (by decide +kernel) (by decide +kernel)
theorem km_X4_136 : Cond.methodLink RX4 136 yX4_matchesWith ∈ XALL := xall 973 (by decide +kernel) (by decide +kernel)
theorem ki_yX4_matchesWith : Cond.instanceMethod yX4_matchesWith ∈ XALL := xall 975 (by decide +kernel) (by decide +kernel)
theorem kc_yX4_matchesWith : Cond.code yX4_matchesWith cX4_matchesWith 5 (some .int) ∈ XALL := xall 976 (by decide +kernel) (by decide +kernel)
theorem km_L_261 : Cond.methodLink RL 261 yX4_bestParent ∈ XALL := xall 977 (by decide +kernel) (by decide +kernel)
theorem ki_yX4_bestParent : Cond.instanceMethod yX4_bestParent ∈ XALL := xall 978 (by decide +kernel) (by decide +kernel)
theorem ks_yX4_bestParent : Cond.selects RX4 yX4_bestParent yX4_bestParent ∈ XALL := xall 979 (by decide +kernel) (by decide +kernel)
theorem kc_yX4_bestParent : Cond.code yX4_bestParent cX4_bestParent 7 (some .int) ∈ XALL := xall 980 (by decide +kernel) (by decide +kernel)
theorem km_L_266 : Cond.methodLink RL 266 yX4_meanVividness ∈ XALL := xall 981 (by decide +kernel) (by decide +kernel)
theorem ki_yX4_meanVividness : Cond.instanceMethod yX4_meanVividness ∈ XALL := xall 982 (by decide +kernel) (by decide +kernel)
theorem ks_yX4_meanVividness : Cond.selects RX4 yX4_meanVividness yX4_meanVividness ∈ XALL := xall 983 (by decide +kernel) (by decide +kernel)
theorem kc_yX4_meanVividness : Cond.code yX4_meanVividness cX4_meanVividness 3 (some .double) ∈ XALL := xall 984 (by decide +kernel) (by decide +kernel)
theorem km_L_271 : Cond.methodLink RL 271 yX4_digest ∈ XALL := xall 985 (by decide +kernel) (by decide +kernel)
theorem ki_yX4_digest : Cond.instanceMethod yX4_digest ∈ XALL := xall 986 (by decide +kernel) (by decide +kernel)
theorem ks_yX4_digest : Cond.selects RX4 yX4_digest yX4_digest ∈ XALL := xall 987 (by decide +kernel) (by decide +kernel)
theorem kc_yX4_digest : Cond.code yX4_digest cX4_digest 8 (some .long) ∈ XALL := xall 988 (by decide +kernel) (by decide +kernel)
theorem kk_X4_139 : Cond.constantLong RX4 139 (1867) ∈ XALL := xall 989 (by decide +kernel) (by decide +kernel)
theorem kk_X4_141 : Cond.constantLong RX4 141 (31) ∈ XALL := xall 990 (by decide +kernel) (by decide +kernel)
theorem ka_long : Cond.arrayClass .long ∈ XALL := xall 991 (by decide +kernel) (by decide +kernel)
theorem ks_yX3_countFadedAfter : Cond.selects RX3 yX3_countFadedAfter yX3_countFadedAfter ∈ XALL := xsel 0 (by decide +kernel) rfl
theorem ks_yX3_vividnessAfter : Cond.selects RX3 yX3_vividnessAfter yX3_vividnessAfter ∈ XALL := xsel 1 (by decide +kernel) rfl
theorem ks_yX3_ownTagsOfLatest : Cond.selects RX3 yX3_ownTagsOfLatest yX3_ownTagsOfLatest ∈ XALL := xsel 2 (by decide +kernel) rfl
theorem ks_yX3_digestedTag : Cond.selects RX3 yX3_digestedTag yX3_digestedTag ∈ XALL := xsel 3 (by decide +kernel) rfl
theorem ks_yX1_countAbove : Cond.selects RX1 yX1_countAbove yX1_countAbove ∈ XALL := xsel 4 (by decide +kernel) rfl
theorem ks_yX1_countBelow : Cond.selects RX1 yX1_countBelow yX1_countBelow ∈ XALL := xsel 5 (by decide +kernel) rfl
theorem ks_yX1_standsBelow : Cond.selects RX1 yX1_standsBelow yX1_standsBelow ∈ XALL := xsel 6 (by decide +kernel) rfl
theorem ks_yX3_dreamsHaving : Cond.selects RX3 yX3_dreamsHaving yX3_dreamsHaving ∈ XALL := xsel 7 (by decide +kernel) rfl
theorem ks_yX3_digestedDream : Cond.selects RX3 yX3_digestedDream yX3_digestedDream ∈ XALL := xsel 8 (by decide +kernel) rfl
theorem ks_yX3_digestedTerm : Cond.selects RX3 yX3_digestedTerm yX3_digestedTerm ∈ XALL := xsel 9 (by decide +kernel) rfl
theorem ks_yX3_smallestCover : Cond.selects RX3 yX3_smallestCover yX3_smallestCover ∈ XALL := xsel 10 (by decide +kernel) rfl
theorem ks_yX0_smallestOf : Cond.selects RX0 yX0_smallestOf yX0_smallestOf ∈ XALL := xsel 11 (by decide +kernel) rfl
theorem ks_yX3_mostVividOf : Cond.selects RX3 yX3_mostVividOf yX3_mostVividOf ∈ XALL := xsel 12 (by decide +kernel) rfl
theorem ks_yX3_tagsSharedBy : Cond.selects RX3 yX3_tagsSharedBy yX3_tagsSharedBy ∈ XALL := xsel 13 (by decide +kernel) rfl
theorem ks_yX1_grow : Cond.selects RX1 yX1_grow yX1_grow ∈ XALL := xsel 15 (by decide +kernel) rfl
theorem ks_yX1_hang : Cond.selects RX1 yX1_hang yX1_hang ∈ XALL := xsel 16 (by decide +kernel) rfl
theorem ks_yX1_lineFrom : Cond.selects RX1 yX1_lineFrom yX1_lineFrom ∈ XALL := xsel 17 (by decide +kernel) rfl
theorem ks_yX3_requirePlaceUnder : Cond.selects RX3 yX3_requirePlaceUnder yX3_requirePlaceUnder ∈ XALL := xsel 18 (by decide +kernel) rfl
theorem ks_yX3_requireTag : Cond.selects RX3 yX3_requireTag yX3_requireTag ∈ XALL := xsel 19 (by decide +kernel) rfl
theorem ks_yX1_canHang : Cond.selects RX1 yX1_canHang yX1_canHang ∈ XALL := xsel 20 (by decide +kernel) rfl
theorem ks_yX3_moveTag : Cond.selects RX3 yX3_moveTag yX3_moveTag ∈ XALL := xsel 21 (by decide +kernel) rfl
theorem ks_yX1_linesOf : Cond.selects RX1 yX1_linesOf yX1_linesOf ∈ XALL := xsel 22 (by decide +kernel) rfl
theorem ks_yX3_rematchTerms : Cond.selects RX3 yX3_rematchTerms yX3_rematchTerms ∈ XALL := xsel 23 (by decide +kernel) rfl
theorem ks_yX3_allDreams : Cond.selects RX3 yX3_allDreams yX3_allDreams ∈ XALL := xsel 24 (by decide +kernel) rfl
theorem ks_yX2_combine : Cond.selects RX2 yX2_combine yX2_combine ∈ XALL := xsel 25 (by decide +kernel) rfl
theorem ks_yX2_matchedAhead : Cond.selects RX2 yX2_matchedAhead yX2_matchedAhead ∈ XALL := xsel 26 (by decide +kernel) rfl
theorem ks_yX3_requireParent : Cond.selects RX3 yX3_requireParent yX3_requireParent ∈ XALL := xsel 27 (by decide +kernel) rfl
theorem ks_yX3_setOwnTags : Cond.selects RX3 yX3_setOwnTags yX3_setOwnTags ∈ XALL := xsel 28 (by decide +kernel) rfl
theorem ks_yX3_requireDream : Cond.selects RX3 yX3_requireDream yX3_requireDream ∈ XALL := xsel 29 (by decide +kernel) rfl
theorem ks_yX3_requireNights : Cond.selects RX3 yX3_requireNights yX3_requireNights ∈ XALL := xsel 30 (by decide +kernel) rfl
theorem ks_yX3_requireRoomForTerm : Cond.selects RX3 yX3_requireRoomForTerm yX3_requireRoomForTerm ∈ XALL := xsel 31 (by decide +kernel) rfl
theorem ks_yX3_addTerm : Cond.selects RX3 yX3_addTerm yX3_addTerm ∈ XALL := xsel 32 (by decide +kernel) rfl
theorem ks_yX2_add : Cond.selects RX2 yX2_add yX2_add ∈ XALL := xsel 33 (by decide +kernel) rfl
theorem ks_yX3_requireTerm : Cond.selects RX3 yX3_requireTerm yX3_requireTerm ∈ XALL := xsel 34 (by decide +kernel) rfl
theorem ks_yX1_lowestOf : Cond.selects RX1 yX1_lowestOf yX1_lowestOf ∈ XALL := xsel 35 (by decide +kernel) rfl
theorem ks_yX3_countMatchedIfUnder : Cond.selects RX3 yX3_countMatchedIfUnder yX3_countMatchedIfUnder ∈ XALL := xsel 36 (by decide +kernel) rfl
theorem ks_yX4_fail : Cond.selects RX4 yX4_fail yX4_fail ∈ XALL := xsel 37 (by decide +kernel) rfl
theorem ks_yX4_canPut : Cond.selects RX4 yX4_canPut yX4_canPut ∈ XALL := xsel 38 (by decide +kernel) rfl
theorem ks_yX4_isTag : Cond.selects RX4 yX4_isTag yX4_isTag ∈ XALL := xsel 39 (by decide +kernel) rfl
theorem ks_yX4_below : Cond.selects RX4 yX4_below yX4_below ∈ XALL := xsel 40 (by decide +kernel) rfl
theorem ks_yX4_above : Cond.selects RX4 yX4_above yX4_above ∈ XALL := xsel 41 (by decide +kernel) rfl
theorem ks_yX4_isDream : Cond.selects RX4 yX4_isDream yX4_isDream ∈ XALL := xsel 42 (by decide +kernel) rfl
theorem ks_yX4_changed : Cond.selects RX4 yX4_changed yX4_changed ∈ XALL := xsel 43 (by decide +kernel) rfl
theorem ks_yX4_later : Cond.selects RX4 yX4_later yX4_later ∈ XALL := xsel 44 (by decide +kernel) rfl
theorem ks_yX4_faded : Cond.selects RX4 yX4_faded yX4_faded ∈ XALL := xsel 45 (by decide +kernel) rfl
theorem ks_yX4_add : Cond.selects RX4 yX4_add yX4_add ∈ XALL := xsel 46 (by decide +kernel) rfl
theorem ks_yX4_isTerm : Cond.selects RX4 yX4_isTerm yX4_isTerm ∈ XALL := xsel 47 (by decide +kernel) rfl
theorem ks_yX4_failed : Cond.selects RX4 yX4_failed yX4_failed ∈ XALL := xsel 48 (by decide +kernel) rfl
theorem ks_yX4_tagsUnder : Cond.selects RX4 yX4_tagsUnder yX4_tagsUnder ∈ XALL := xsel 49 (by decide +kernel) rfl
theorem ks_yX4_reckon : Cond.selects RX4 yX4_reckon yX4_reckon ∈ XALL := xsel 50 (by decide +kernel) rfl
theorem ks_yX4_brightest : Cond.selects RX4 yX4_brightest yX4_brightest ∈ XALL := xsel 51 (by decide +kernel) rfl
theorem ks_yX4_common : Cond.selects RX4 yX4_common yX4_common ∈ XALL := xsel 52 (by decide +kernel) rfl
theorem ks_yX4_cover : Cond.selects RX4 yX4_cover yX4_cover ∈ XALL := xsel 53 (by decide +kernel) rfl
theorem ks_yX4_covers : Cond.selects RX4 yX4_covers yX4_covers ∈ XALL := xsel 54 (by decide +kernel) rfl
theorem ks_yX4_apart : Cond.selects RX4 yX4_apart yX4_apart ∈ XALL := xsel 55 (by decide +kernel) rfl
theorem ks_yX4_matchesWith : Cond.selects RX4 yX4_matchesWith yX4_matchesWith ∈ XALL := xsel 56 (by decide +kernel) rfl
end
section
/-! THE STATE: rows of ints by a number; a scalar is a row's place 0 -/
abbrev St : Type := Nat → Nat → Int32
def up (S : St) (k j : Nat) (v : Int32) : St := fun a => if a = k then upd (S a) j v else S a
def ld (S : St) (k n : Nat) (x : Int32) : Option Int32 := if x < 0 ∨ n ≤ x.toNatClampNeg then none else some (S k x.toNatClampNeg)
def sto (S : St) (k n : Nat) (x v : Int32) : Option St := if x < 0 ∨ n ≤ x.toNatClampNeg then none else some (up S k x.toNatClampNeg v)
def zg (v : Int32) : Option Int32 := if v = 0 ∨ v = 1 then some v else none
theorem ld_some {S : St} {k n : Nat} {x v : Int32} (h : ld S k n x = some v) : vp_in x n ∧ S k x.toNatClampNeg = v := by
  unfold ld at h
  split at h
  · cases h
  · rename_i h1
    exact ⟨h1, Option.some.inj h⟩
theorem sto_some {S S' : St} {k n : Nat} {x v : Int32} (h : sto S k n x v = some S') : vp_in x n ∧ up S k x.toNatClampNeg v = S' := by
  unfold sto at h
  split at h
  · cases h
  · rename_i h1
    exact ⟨h1, Option.some.inj h⟩
theorem zg_some {v w : Int32} (h : zg v = some w) : v = w ∧ (w = 0 ∨ w = 1) := by
  unfold zg at h
  split at h
  · rename_i h1
    cases h
    exact ⟨rfl, h1⟩
  · cases h
theorem zg_nar {w : Int32} (h : w = 0 ∨ w = 1) : narrow .boolean (.int w) = .int w := by
  rcases h with rfl | rfl <;> rfl
theorem bnd {α β : Type} {x : Option α} {f : α → Option β} {r : β} (h : x.bind f = some r) : ∃ a, x = some a ∧ f a = some r := Option.bind_eq_some_iff.mp h
theorem ift {α : Type} {c : Prop} [Decidable c] {a b : α} {r : α} (hc : c) (h : (if c then a else b) = r) : a = r := by rw [if_pos hc] at h; exact h
theorem iff_ {α : Type} {c : Prop} [Decidable c] {a b : α} {r : α} (hc : ¬ c) (h : (if c then a else b) = r) : b = r := by rw [if_neg hc] at h; exact h
/-! THE WORLDS -/
def xw (cI : ClassId) (q : Nat → Nat) (S : St) : va_W :=
  [(q 0, .inr (3, [.ref (q 1), .ref (q 2), .ref (q 3), .ref (q 4), .ref (q 5), .ref (q 6), .ref (q 7), .int (S 12 0), .int (S 13 0)])),
   (q 1, .inr (1, [.ref (q 8), .ref (q 9), .int (S 14 0)])),
   (q 2, .inr (2, [.ref (q 10), .ref (q 11), .ref (q 12), .ref (q 13), .int (S 15 0)])),
   (q 3, .inr (0, [.ref (q 14), .ref (q 15)])),
   (q 4, .inl (cI, 24, .inl (S 0))), (q 5, .inl (cI, 24, .inl (S 1))), (q 6, .inl (cI, 24, .inl (S 2))), (q 7, .inl (cI, 24, .inl (S 3))),
   (q 8, .inl (cI, 16, .inl (S 4))), (q 9, .inl (cI, 16, .inl (S 5))), (q 10, .inl (cI, 20, .inl (S 6))), (q 11, .inl (cI, 20, .inl (S 7))),
   (q 12, .inl (cI, 20, .inl (S 8))), (q 13, .inl (cI, 20, .inl (S 9))), (q 14, .inl (cI, 16, .inl (S 10))), (q 15, .inl (cI, 17, .inl (S 11)))]
def mw (cI : ClassId) (q : Nat → Nat) (S : St) : va_W :=
  [(q 0, .inr (4, [.int (S 10 0), .int (S 11 0), .int (S 12 0), .int (S 13 0), .int (S 14 0), .ref (q 1), .ref (q 2), .ref (q 3), .ref (q 4), .ref (q 5), .ref (q 6), .ref (q 7), .ref (q 8), .ref (q 9), .ref (q 10), .int (S 15 0)])),
   (q 1, .inl (cI, 16, .inl (S 0))), (q 2, .inl (cI, 24, .inl (S 1))), (q 3, .inl (cI, 24, .inl (S 2))), (q 4, .inl (cI, 24, .inl (S 3))),
   (q 5, .inl (cI, 20, .inl (S 4))), (q 6, .inl (cI, 20, .inl (S 5))), (q 7, .inl (cI, 20, .inl (S 6))), (q 8, .inl (cI, 24, .inl (S 7))),
   (q 9, .inl (cI, 16, .inl (S 8))), (q 10, .inl (cI, 20, .inl (S 9)))]
/-- the model's world with one row more (five places), while its digest makes it -/
def mw5 (cI : ClassId) (q : Nat → Nat) (S : St) : va_W :=
  [(q 0, .inr (4, [.int (S 10 0), .int (S 11 0), .int (S 12 0), .int (S 13 0), .int (S 14 0), .ref (q 1), .ref (q 2), .ref (q 3), .ref (q 4), .ref (q 5), .ref (q 6), .ref (q 7), .ref (q 8), .ref (q 9), .ref (q 10), .int (S 15 0)])),
   (q 1, .inl (cI, 16, .inl (S 0))), (q 2, .inl (cI, 24, .inl (S 1))), (q 3, .inl (cI, 24, .inl (S 2))), (q 4, .inl (cI, 24, .inl (S 3))),
   (q 5, .inl (cI, 20, .inl (S 4))), (q 6, .inl (cI, 20, .inl (S 5))), (q 7, .inl (cI, 20, .inl (S 6))), (q 8, .inl (cI, 24, .inl (S 7))),
   (q 9, .inl (cI, 16, .inl (S 8))), (q 10, .inl (cI, 20, .inl (S 9))), (q 11, .inl (cI, 5, .inl (S 16)))]
theorem xw_adr {cI : ClassId} {q : Nat → Nat} (S S' : St) : (xw cI q S).map Prod.fst = (xw cI q S').map Prod.fst := rfl
theorem mw_adr {cI : ClassId} {q : Nat → Nat} (S S' : St) : (mw cI q S).map Prod.fst = (mw cI q S').map Prod.fst := rfl
theorem inW0 : ∀ w ∈ u_ws RX0 TX0 2, w ∈ XALL := fun w h => List.mem_filter.mpr ⟨(by decide +kernel : ∀ w ∈ u_ws RX0 TX0 2, w ∈ lw_tbl) w h, (by decide +kernel : ∀ w ∈ u_ws RX0 TX0 2, goodWord w = true) w h⟩
theorem inW1 : ∀ w ∈ u_ws RX1 TX1 3, w ∈ XALL := fun w h => List.mem_filter.mpr ⟨(by decide +kernel : ∀ w ∈ u_ws RX1 TX1 3, w ∈ lw_tbl) w h, (by decide +kernel : ∀ w ∈ u_ws RX1 TX1 3, goodWord w = true) w h⟩
theorem inW2 : ∀ w ∈ u_ws RX2 TX2 5, w ∈ XALL := fun w h => List.mem_filter.mpr ⟨(by decide +kernel : ∀ w ∈ u_ws RX2 TX2 5, w ∈ lw_tbl) w h, (by decide +kernel : ∀ w ∈ u_ws RX2 TX2 5, goodWord w = true) w h⟩
theorem inW3 : ∀ w ∈ u_ws RX3 TX3 9, w ∈ XALL := fun w h => List.mem_filter.mpr ⟨(by decide +kernel : ∀ w ∈ u_ws RX3 TX3 9, w ∈ lw_tbl) w h, (by decide +kernel : ∀ w ∈ u_ws RX3 TX3 9, goodWord w = true) w h⟩
theorem inW4 : ∀ w ∈ u_ws RX4 TX4 16, w ∈ XALL := fun w h => List.mem_filter.mpr ⟨(by decide +kernel : ∀ w ∈ u_ws RX4 TX4 16, w ∈ lw_tbl) w h, (by decide +kernel : ∀ w ∈ u_ws RX4 TX4 16, goodWord w = true) w h⟩
/-! WHAT TRAVELS BESIDE THE WORLD: words of the nest, the texts -/
def STRL : List (Nat × String) := [(102, "the tag is one of the dream's own"), (109, "the tag is none of the dream's own"), (111, "the tag is the only one of the dream's own"), (113, "the vividness is not 0 to 9"), (168, "the cover has no such place"), (193, "there is no such tag"), (195, "there is no such dream"), (197, "there is no such term"), (199, "the tag has no parent"), (201, "both tags are the same"), (203, "the parent is below the tag"), (205, "the nights are not 1 to 30"), (207, "there are 20 terms"), (49, "there are 16 tags"), (81, "the vividness is not 1 to 9"), (87, "there are 24 dreams")]
def xEnv (U : State) : Prop := (∀ w ∈ NW, va_Nw w U) ∧ ∀ t ∈ STRL, ∃ a : Nat, vk_R RX3 t.1 t.2 a U
theorem nw_warm {w : Cond} (hw : nwOK w = true) {s U : State} (hW : s.WarmedH U.vm) (h : va_Nw w s) : va_Nw w U := by
  cases w <;> first | (exact va_Nw.warmF hW h) | (exact va_Nw.warmM hW h) | (exact va_Nw.warmC hW h) | (exact va_Nw.warmD hW h) | (exact absurd hw (by simp [nwOK]))
theorem xEnv.warm {s U : State} (hW : s.WarmedH U.vm) (h : xEnv s) : xEnv U :=
  ⟨fun w hw => nw_warm (List.mem_filter.mp hw).2 hW (h.1 w hw), fun t ht => by obtain ⟨a, ha⟩ := h.2 t ht; exact ⟨a, vk_R.warm hW ha⟩⟩
theorem nw_on {w : Cond} (hw : nwOK w = true) : w.onTables = true := by
  cases w <;> first | rfl | (exact absurd hw (by simp [nwOK]))
theorem xEnv.same {s U : State} (hW : s.vm = U.vm) (h : xEnv s) : xEnv U :=
  ⟨fun w hw => va_Nw.same (nw_on (List.mem_filter.mp hw).2) hW (h.1 w hw), fun t ht => by obtain ⟨a, ha⟩ := h.2 t ht; exact ⟨a, vk_R.same hW.symm ha⟩⟩
def gE (D : va_G) (cI : ClassId) (s : State) : Prop := va_K D vwCl [(cI, .int)] s ∧ xEnv s
def gPre (D : va_G) (cI : ClassId) (ws : va_W) (sz : Nat) (U : State) : Prop :=
  U.heap.size = sz ∧ va_P D vwCl ws U.heap ∧ va_K D vwCl [(cI, .int)] U ∧ va_D (fun _ => True) ws ∧ xEnv U
def gW (D : va_G) (ws0 ws : va_W) (s : State) (H : Heap) (locs : List Loc) : Prop :=
  va_P D vwCl ws H ∧ va_D (va_A ws0 s.heap.size) ws ∧ va_S (va_A ws0 s.heap.size) s.heap H locs
theorem gPre_blind {D : va_G} {cI : ClassId} {ws : va_W} {sz : Nat} {av : List Value} : FrameBlind (va_Pc av (gPre D cI ws sz)) := by
  intro a U g mk h
  obtain ⟨h0, h1, h2, h3, h4, h5⟩ := h
  exact ⟨h0, h1, h2, va_K.moved (u := U) (U := U.calling g mk a) (Vm.Alike.refl U.vm) h3, h4, xEnv.same (s := U) (U := U.calling g mk a) rfl h5⟩
theorem g_start {D : va_G} {cI : ClassId} {ws : va_W} {sz : Nat} {s : State} (h : gPre D cI ws sz s) : gE D cI s ∧ gW D ws ws s s.heap [] ∧ s.heap.size = sz :=
  ⟨⟨h.2.2.1, h.2.2.2.2⟩, ⟨h.2.1, h.2.2.2.1.self, va_S.rf⟩, h.1⟩
theorem adr_get {ws ws' : va_W} (h : ws.map Prod.fst = ws'.map Prod.fst) {k : Nat} {a : Nat} {e : va_E} (hk : ws'[k]? = some (a, e)) : ∃ e', ws[k]? = some (a, e') := by
  have h1 : (ws.map Prod.fst)[k]? = some a := by rw [h, List.getElem?_map, hk]; rfl
  rw [List.getElem?_map] at h1
  cases h2 : ws[k]? with
  | none => rw [h2] at h1; cases h1
  | some x =>
    rw [h2] at h1
    obtain ⟨a', e'⟩ := x
    have : a' = a := Option.some.inj h1
    subst this
    exact ⟨e', rfl⟩
theorem gD {A : Nat → Prop} {ws ws' : va_W} (h : ws.map Prod.fst = ws'.map Prod.fst) (hD : va_D A ws) : va_D A ws' := by
  refine ⟨fun i j x y hi hj hxy => ?_, fun k x hk => ?_⟩
  · obtain ⟨a, e⟩ := x
    obtain ⟨b, f⟩ := y
    obtain ⟨e', h1⟩ := adr_get h hi
    obtain ⟨f', h2⟩ := adr_get h hj
    exact hD.1 i j _ _ h1 h2 hxy
  · obtain ⟨a, e⟩ := x
    obtain ⟨e', h1⟩ := adr_get h hk
    exact hD.2 k (a, e') h1
theorem gF {A : Nat → Prop} {ws : va_W} {H0 H : Heap} {locs : List Loc} (hD : va_D A ws) (hS : va_S A H0 H locs) (hA : ∀ q, H0.size ≤ q → A q) : ∀ q, va_A ws H.size q → A q := by
  intro q h
  rcases h with ⟨k, e, h⟩ | h
  · exact hD.2 k (q, e) h
  · exact hA q (Nat.le_trans hS.1 h)
theorem gW.A {D : va_G} {ws0 ws : va_W} {s : State} {H : Heap} {locs : List Loc} (h : gW D ws0 ws s H locs) : ∀ q, va_A ws H.size q → va_A ws0 s.heap.size q :=
  gF h.2.1 h.2.2 (fun _ h => Or.inr h)
theorem gW.F {D : va_G} {ws0 ws : va_W} {s t : State} {H : Heap} {locs : List Loc} (h : gW D ws0 ws s H locs) (ht : t.heap = H) : va_F (va_A ws0 s.heap.size) s t := h.2.2.F ht
theorem gPre_of {D : va_G} {cI : ClassId} {ws0 ws : va_W} {s U : State} {H : Heap} {locs : List Loc} (E : gE D cI s) (h : gW D ws0 ws s H locs) (hU : U.heap = H) (hW : s.WarmedH U.vm) : gPre D cI ws H.size U :=
  ⟨by rw [hU], by rw [hU]; exact h.1, va_K.moved hW.alike E.1, h.2.1.weaken (fun _ _ _ _ => trivial), xEnv.warm hW E.2⟩
/-- what stands throughout a method's walk -/
def Ctx (p : Program) (s : State) (m : MethodId) (args : Array Value) (meth : Method) (c : Code) (cc : ByteArray) (nL : Nat) (own : String) (ret : Option FieldType) : Prop :=
  p.tables.exec = Jvm.exec ∧ c.code = cc ∧ c.maxLocals = nL ∧ s.vm.findClass own = some m.cls ∧ (∀ w ∈ XALL, w.before args s = true) ∧ meth.sig.returnType = ret ∧ meth.locks = false
theorem Ctx.fix {p : Program} {s : State} {m : MethodId} {args : Array Value} {meth : Method} {c : Code} {cc : ByteArray} {nL : Nat} {own : String} {ret : Option FieldType} (h : Ctx p s m args meth c cc nL own ret) : CallFix p m c cc nL s args XALL own := ⟨h.1, h.2.1, h.2.2.1, h.2.2.2.1, h.2.2.2.2.1⟩
theorem Ctx.of {p : Program} {l : Launch} {y : MethodName} {rm : Room} {cc : ByteArray} {maxL : Nat} {ret : Option FieldType} {e : Env} {s s₁ : State} {m : MethodId} {args : Array Value} {below : List Frame} {meth : Method} {c : Code} {w : Cond} {own : String}
    (B : BodyLoose p l y (headSpec (w :: XALL) rm) cc maxL ret e s m args below meth c s₁) (hml : c.maxLocals = maxL) (ho : own = y.cls) : Ctx p s m args meth c cc maxL own ret :=
  ⟨B.exec, B.bytes, hml, by rw [ho]; exact findClass_of_methodNamed B.named, fun w h => atoms_spec (ws := _ :: XALL) B.pre w (List.mem_cons_of_mem _ h), B.returns, B.notSynchronized⟩
/-- a method that can be called: its words -/
def Fct (y : MethodName) (bytes : ByteArray) (maxL : Nat) (ret : Option FieldType) (n : Nat) : Prop :=
  Cond.code y bytes maxL ret ∈ XALL ∧ Cond.initialized y.cls ∈ XALL ∧ y.cls ≠ "java/lang/invoke/MethodHandle" ∧ y.cls ≠ "java/lang/invoke/VarHandle" ∧ (parseMethodDescriptor y.desc).map (fun d => d.parameters.length) = some n
def FctV (y : MethodName) (bytes : ByteArray) (maxL : Nat) (ret : Option FieldType) (n : Nat) : Prop :=
  Fct y bytes maxL ret n ∧ Cond.instanceMethod y ∈ XALL ∧ Cond.selects y.cls y y ∈ XALL
def FctS (y : MethodName) (bytes : ByteArray) (maxL : Nat) (ret : Option FieldType) (n : Nat) : Prop :=
  Fct y bytes maxL ret n ∧ Cond.static y ∈ XALL
section BASE
variable {p : Program} {l : Launch} {e : Env} {R : Room} {s : State} {m : MethodId} {args : Array Value} {below : List Frame} {meth : Method} {c : Code} {H : Heap} {locs : List Loc} {cells slots : Nat} {Q : State → Prop}
variable {cc bytes : ByteArray} {nL maxL : Nat} {own : String} {ret rt : Option FieldType} {D : va_G} {cI : ClassId} {pc : Nat} {ls : Array Slot} {rest st0 : List Value}
theorem topi_b {x y : Int32} (h : some x = some y) (k : W p l e R s m args below meth c H locs cells slots Q (F0 m pc ls (.int y :: rest))) : W p l e R s m args below meth c H locs cells slots Q (F0 m pc ls (.int x :: rest)) := by cases h; exact k
theorem topl_b {x y : Int64} (h : some x = some y) (k : W p l e R s m args below meth c H locs cells slots Q (F0 m pc ls (.long y :: rest))) : W p l e R s m args below meth c H locs cells slots Q (F0 m pc ls (.long x :: rest)) := by cases h; exact k
theorem inc1 {x y : Int32} (h : some (x + 1) = some y) : x + Int32.ofInt 1 = y := Option.some.inj h
theorem fct_B {y : MethodName} {n index : Nat} {rm : Room} (C : Ctx p s m args meth c cc nL own ret) (F : Fct y bytes maxL rt n) (hk : Cond.methodLink own index y ∈ XALL) (hR : rm.frames + 1 ≤ R.frames ∧ 8 + (maxL + 11) + rm.locals ≤ R.locals) :
    CallB R s args own index y bytes maxL rt (Cond.code y bytes maxL rt :: XALL) rm rm.cells rm.slots n :=
  callB_of n C.2.2.2.2.1 (XALL_in F.1) rfl rfl rfl (C.2.2.2.2.1 _ F.2.1) (C.2.2.2.2.1 _ hk) F.2.2 hR
theorem fct_N {y : MethodName} {n index : Nat} {rm : Room} {host : String} (C : Ctx p s m args meth c cc nL own ret) (E : gE D cI s) (F : Fct y bytes maxL rt n) (hk : Cond.methodLinkNest own index y host ∈ NW) (hR : rm.frames + 1 ≤ R.frames ∧ 8 + (maxL + 11) + rm.locals ≤ R.locals) :
    va_CN R s args own index y host bytes maxL rt (Cond.code y bytes maxL rt :: XALL) rm rm.cells rm.slots n :=
  va_cnB n C.2.2.2.2.1 (XALL_in F.1) rfl rfl rfl (E.2.1 _ hk) (C.2.2.2.2.1 _ F.2.1) F.2.2 hR
variable {wf : St → va_W} {S : St} {ws0 : va_W} {b : Nat} {As : List Value} {rm : Room} {y : MethodName} {n index : Nat} {Qc : Array Value → State → Outcome → State → Prop} {XC : String → State → State → Prop} {free : Addr → Prop} {host : String}
/-- the run of a method of the own class (private or public), of an object of the world -/
theorem g_runV (C : Ctx p s m args meth c cc nL own ret) (E : gE D cI s) {ws : va_W} (hw : gW D ws0 ws s H locs) (F : FctV y bytes maxL rt n) (hM : Met l y (Cond.code y bytes maxL rt :: XALL) rm (va_Pc (.ref b :: As) (gPre D cI ws H.size)) Qc rm.cells rm.slots free) (hk : Cond.methodLink own index y ∈ XALL)
    (q0 : Nat) {ci : Nat} {fs : List Value} {T : u_T} {N : Nat} (he : ws[q0]? = some (b, .inr (ci, fs))) (hc : vwCl[ci]? = some (y.cls, T, N)) (hn : As.length = n) (hsize : ls.size = nL) (hst : st0 = As.reverse ++ .ref b :: rest) (hr8 : (rest.map fun v => v.category).sum ≤ 8) (hR : rm.frames + 1 ≤ R.frames ∧ 8 + (maxL + 11) + rm.locals ≤ R.locals) (hf : cells + rm.cells ≤ R.cells ∧ slots + rm.slots ≤ R.slots) (hdg : decode cc pc = .ok (.invokevirtual index, 3)) :
    va_Run p l e R s m args below meth c H locs cells slots rm.cells rm.slots (F0 m pc ls st0) rest (Qc (Value.ref b :: As).toArray) free :=
  va_runV C.fix hM ⟨fct_B C F.1 hk hR, C.2.2.2.2.1 _ F.2.1, C.2.2.2.2.1 _ F.2.2⟩ ⟨gPre_blind, va_recv (q := (y.cls, T, N)) E.1 hw.1 hc he, fun U hU hW => ⟨rfl, gPre_of E hw hU hW⟩⟩ rfl hn hsize hst (lv_room hr8) hdg hf
theorem g_runVN (C : Ctx p s m args meth c cc nL own ret) (E : gE D cI s) {ws : va_W} (hw : gW D ws0 ws s H locs) (F : FctV y bytes maxL rt n) (hM : Met l y (Cond.code y bytes maxL rt :: XALL) rm (va_Pc (.ref b :: As) (gPre D cI ws H.size)) Qc rm.cells rm.slots free) (hk : Cond.methodLinkNest own index y host ∈ NW)
    (q0 : Nat) {ci : Nat} {fs : List Value} {T : u_T} {N : Nat} (he : ws[q0]? = some (b, .inr (ci, fs))) (hc : vwCl[ci]? = some (y.cls, T, N)) (hn : As.length = n) (hsize : ls.size = nL) (hst : st0 = As.reverse ++ .ref b :: rest) (hr8 : (rest.map fun v => v.category).sum ≤ 8) (hR : rm.frames + 1 ≤ R.frames ∧ 8 + (maxL + 11) + rm.locals ≤ R.locals) (hf : cells + rm.cells ≤ R.cells ∧ slots + rm.slots ≤ R.slots) (hdg : decode cc pc = .ok (.invokevirtual index, 3)) :
    va_Run p l e R s m args below meth c H locs cells slots rm.cells rm.slots (F0 m pc ls st0) rest (Qc (Value.ref b :: As).toArray) free :=
  va_runVN C.fix hM ⟨fct_N C E F.1 hk hR, C.2.2.2.2.1 _ F.2.1, C.2.2.2.2.1 _ F.2.2⟩ ⟨gPre_blind, va_recv (q := (y.cls, T, N)) E.1 hw.1 hc he, fun U hU hW => ⟨rfl, gPre_of E hw hU hW⟩⟩ rfl hn hsize hst (lv_room hr8) hdg hf
/-- a static method that looks at the world -/
theorem g_runS (C : Ctx p s m args meth c cc nL own ret) (E : gE D cI s) {ws : va_W} (hw : gW D ws0 ws s H locs) (F : FctS y bytes maxL rt n) (hM : Met l y (Cond.code y bytes maxL rt :: XALL) rm (va_Pc As (gPre D cI ws H.size)) Qc rm.cells rm.slots free) (hk : Cond.methodLink own index y ∈ XALL)
    (hn : As.length = n) (hsize : ls.size = nL) (hst : st0 = As.reverse ++ rest) (hr8 : (rest.map fun v => v.category).sum ≤ 8) (hR : rm.frames + 1 ≤ R.frames ∧ 8 + (maxL + 11) + rm.locals ≤ R.locals) (hf : cells + rm.cells ≤ R.cells ∧ slots + rm.slots ≤ R.slots) (hdg : decode cc pc = .ok (.invokestatic index, 3)) :
    va_Run p l e R s m args below meth c H locs cells slots rm.cells rm.slots (F0 m pc ls st0) rest (Qc As.toArray) free :=
  va_runS C.fix hM ⟨fct_B C F.1 hk hR, C.2.2.2.2.1 _ F.2⟩ ⟨gPre_blind, fun U hU hW => ⟨rfl, gPre_of E hw hU hW⟩⟩ rfl hn hsize hst (lv_room hr8) hdg hf
/-- a static method without a world -/
theorem tru_blind {av : List Value} : FrameBlind (va_Pc av (fun _ => True)) := fun _ _ _ _ h => h
theorem g_run0 (C : Ctx p s m args meth c cc nL own ret) (F : FctS y bytes maxL rt n) (hM : Met l y (Cond.code y bytes maxL rt :: XALL) rm (va_Pc As (fun _ => True)) Qc rm.cells rm.slots free) (hk : Cond.methodLink own index y ∈ XALL)
    (hn : As.length = n) (hsize : ls.size = nL) (hst : st0 = As.reverse ++ rest) (hr8 : (rest.map fun v => v.category).sum ≤ 8) (hR : rm.frames + 1 ≤ R.frames ∧ 8 + (maxL + 11) + rm.locals ≤ R.locals) (hf : cells + rm.cells ≤ R.cells ∧ slots + rm.slots ≤ R.slots) (hdg : decode cc pc = .ok (.invokestatic index, 3)) :
    va_Run p l e R s m args below meth c H locs cells slots rm.cells rm.slots (F0 m pc ls st0) rest (Qc As.toArray) free :=
  va_runS C.fix hM ⟨fct_B C F.1 hk hR, C.2.2.2.2.1 _ F.2⟩ ⟨tru_blind, fun U hU hW => ⟨rfl, trivial⟩⟩ rfl hn hsize hst (lv_room hr8) hdg hf
theorem g_run0N (C : Ctx p s m args meth c cc nL own ret) (E : gE D cI s) (F : FctS y bytes maxL rt n) (hM : Met l y (Cond.code y bytes maxL rt :: XALL) rm (va_Pc As (fun _ => True)) Qc rm.cells rm.slots free) (hk : Cond.methodLinkNest own index y host ∈ NW)
    (hn : As.length = n) (hsize : ls.size = nL) (hst : st0 = As.reverse ++ rest) (hr8 : (rest.map fun v => v.category).sum ≤ 8) (hR : rm.frames + 1 ≤ R.frames ∧ 8 + (maxL + 11) + rm.locals ≤ R.locals) (hf : cells + rm.cells ≤ R.cells ∧ slots + rm.slots ≤ R.slots) (hdg : decode cc pc = .ok (.invokestatic index, 3)) :
    va_Run p l e R s m args below meth c H locs cells slots rm.cells rm.slots (F0 m pc ls st0) rest (Qc As.toArray) free :=
  va_runSN C.fix hM ⟨fct_N C E F.1 hk hR, C.2.2.2.2.1 _ F.2, trivial⟩ ⟨tru_blind, fun U hU hW => ⟨rfl, trivial⟩⟩ rfl hn hsize hst (lv_room hr8) hdg hf
/-! behind a call -/
theorem gW_call {wf : St → va_W} {S S1 : St} {H1 : Heap} {locs1 : List Loc} {t : State} (ha : ∀ S S', (wf S).map Prod.fst = (wf S').map Prod.fst) (hw : gW D ws0 (wf S) s H locs) (ht : t.heap = H1) (hB : va_P D vwCl (wf S1) t.heap) (hS : va_S (va_A ws0 s.heap.size) s.heap H1 locs1) : gW D ws0 (wf S1) s H1 locs1 :=
  ⟨by rw [← ht]; exact hB, gD (ha S S1) hw.2.1, hS⟩
theorem gW_keep {ws : va_W} {H1 : Heap} {locs1 : List Loc} (hw : gW D ws0 ws s H locs) (hk : ∀ q : Nat, q < H.size → ¬ False → H1[q]? = H[q]?) (hS : va_S (va_A ws0 s.heap.size) s.heap H1 locs1) : gW D ws0 ws s H1 locs1 :=
  ⟨hw.1.kept (fun k q hq => hk q.1 (hw.1 k q hq).lt (fun h => h)), hw.2.1, hS⟩
variable {a : Array Value} {mc ms : Nat}
theorem g_ci (ha : ∀ S S', (wf S).map Prod.fst = (wf S').map Prod.fst) (hw : gW D ws0 (wf S) s H locs) {post : Int32 → St → Prop} (hr : va_Run p l e R s m args below meth c H locs cells slots mc ms (F0 m pc ls st0) rest (va_Qi post (fun u t => va_P D vwCl (wf u) t.heap) (va_A (wf S) H.size) a) (va_A (wf S) H.size))
    (kk : ∀ (r : Int32) (u : St), post r u → ∀ (H : Heap) (locs : List Loc), gW D ws0 (wf u) s H locs → W p l e R s m args below meth c H locs (cells + mc) (slots + ms) Q (F0 m (pc + 3) ls (.int r :: rest))) : W p l e R s m args below meth c H locs cells slots Q (F0 m pc ls st0) :=
  va_calli hr hw.2.2 (fun q _ h => hw.A q h) hw.A (fun r u t H1 locs1 ht _ hp hB _ _ hS => kk r u hp H1 locs1 (gW_call ha hw ht hB hS))
theorem g_cl (ha : ∀ S S', (wf S).map Prod.fst = (wf S').map Prod.fst) (hw : gW D ws0 (wf S) s H locs) {post : Int64 → St → Prop} (hr : va_Run p l e R s m args below meth c H locs cells slots mc ms (F0 m pc ls st0) rest (va_Ql post (fun u t => va_P D vwCl (wf u) t.heap) (va_A (wf S) H.size) a) (va_A (wf S) H.size))
    (kk : ∀ (r : Int64) (u : St), post r u → ∀ (H : Heap) (locs : List Loc), gW D ws0 (wf u) s H locs → W p l e R s m args below meth c H locs (cells + mc) (slots + ms) Q (F0 m (pc + 3) ls (.long r :: rest))) : W p l e R s m args below meth c H locs cells slots Q (F0 m pc ls st0) :=
  va_calll hr hw.2.2 (fun q _ h => hw.A q h) hw.A (fun r u t H1 locs1 ht _ hp hB _ _ hS => kk r u hp H1 locs1 (gW_call ha hw ht hB hS))
theorem g_cv (ha : ∀ S S', (wf S).map Prod.fst = (wf S').map Prod.fst) (hw : gW D ws0 (wf S) s H locs) {post : St → Prop} (hr : va_Run p l e R s m args below meth c H locs cells slots mc ms (F0 m pc ls st0) rest (va_Qv post (fun u t => va_P D vwCl (wf u) t.heap) (va_A (wf S) H.size) a) (va_A (wf S) H.size))
    (kk : ∀ (u : St), post u → ∀ (H : Heap) (locs : List Loc), gW D ws0 (wf u) s H locs → W p l e R s m args below meth c H locs (cells + mc) (slots + ms) Q (F0 m (pc + 3) ls rest)) : W p l e R s m args below meth c H locs cells slots Q (F0 m pc ls st0) :=
  va_callv hr hw.2.2 (fun q _ h => hw.A q h) hw.A (fun u t H1 locs1 ht _ hp hB _ _ hS => kk u hp H1 locs1 (gW_call ha hw ht hB hS))
theorem g_ci0 {ws : va_W} (hw : gW D ws0 ws s H locs) {post : Int32 → Unit → Prop} (hr : va_Run p l e R s m args below meth c H locs cells slots mc ms (F0 m pc ls st0) rest (va_Qi post (fun _ _ => True) (fun _ => False) a) (fun _ => False))
    (kk : ∀ (r : Int32), post r () → ∀ (H : Heap) (locs : List Loc), gW D ws0 ws s H locs → W p l e R s m args below meth c H locs (cells + mc) (slots + ms) Q (F0 m (pc + 3) ls (.int r :: rest))) : W p l e R s m args below meth c H locs cells slots Q (F0 m pc ls st0) :=
  va_calli hr hw.2.2 (fun q _ h => h.elim) (fun q h => h.elim) (fun r u t H1 locs1 _ _ hp _ _ hk hS => kk r hp H1 locs1 (gW_keep hw hk hS))
theorem g_cl0 {ws : va_W} (hw : gW D ws0 ws s H locs) {post : Int64 → Unit → Prop} (hr : va_Run p l e R s m args below meth c H locs cells slots mc ms (F0 m pc ls st0) rest (va_Ql post (fun _ _ => True) (fun _ => False) a) (fun _ => False))
    (kk : ∀ (r : Int64), post r () → ∀ (H : Heap) (locs : List Loc), gW D ws0 ws s H locs → W p l e R s m args below meth c H locs (cells + mc) (slots + ms) Q (F0 m (pc + 3) ls (.long r :: rest))) : W p l e R s m args below meth c H locs cells slots Q (F0 m pc ls st0) :=
  va_calll hr hw.2.2 (fun q _ h => h.elim) (fun q h => h.elim) (fun r u t H1 locs1 _ _ hp _ _ hk hS => kk r hp H1 locs1 (gW_keep hw hk hS))
/-- the same in a walk that has no world: only 'va_S' with nothing of its own -/
def zS (s : State) (H : Heap) (locs : List Loc) : Prop := va_S (fun _ => False) s.heap H locs
theorem g_ci00 (hS : zS s H locs) {post : Int32 → Unit → Prop} (hr : va_Run p l e R s m args below meth c H locs cells slots mc ms (F0 m pc ls st0) rest (va_Qi post (fun _ _ => True) (fun _ => False) a) (fun _ => False))
    (kk : ∀ (r : Int32), post r () → ∀ (H : Heap) (locs : List Loc), zS s H locs → W p l e R s m args below meth c H locs (cells + mc) (slots + ms) Q (F0 m (pc + 3) ls (.int r :: rest))) : W p l e R s m args below meth c H locs cells slots Q (F0 m pc ls st0) :=
  va_calli hr hS (fun q _ h => h) (fun q h => h) (fun r u t H1 locs1 _ _ hp _ _ _ hS => kk r hp H1 locs1 hS)
theorem g_cl00 (hS : zS s H locs) {post : Int64 → Unit → Prop} (hr : va_Run p l e R s m args below meth c H locs cells slots mc ms (F0 m pc ls st0) rest (va_Ql post (fun _ _ => True) (fun _ => False) a) (fun _ => False))
    (kk : ∀ (r : Int64), post r () → ∀ (H : Heap) (locs : List Loc), zS s H locs → W p l e R s m args below meth c H locs (cells + mc) (slots + ms) Q (F0 m (pc + 3) ls (.long r :: rest))) : W p l e R s m args below meth c H locs cells slots Q (F0 m pc ls st0) :=
  va_calll hr hS (fun q _ h => h) (fun q h => h) (fun r u t H1 locs1 _ _ hp _ _ _ hS => kk r hp H1 locs1 hS)
/-! fields and rows of the world -/
theorem g_get (C : Ctx p s m args meth c cc nL own ret) (E : gE D cI s) {ws : va_W} (hw : gW D ws0 ws s H locs) {Cn : String} {T : u_T} {N ci : Nat} {b : Nat} (hin : ∀ w ∈ u_ws Cn T N, w ∈ XALL) (q0 : Nat) {fs : List Value} (he : ws[q0]? = some (b, .inr (ci, fs))) (hc : vwCl[ci]? = some (Cn, T, N)) (k : Nat) (hk : k < N)
    (hl : Cond.fieldLink own index (T k).1 (T k).2.1 (T k).2.2.1 ∈ XALL) {v : Value} (hv : fs[k]? = some v) (hdg : decode cc pc = .ok (.getfield index, 3)) (kk : W p l e R s m args below meth c H locs cells slots Q (F0 m (pc + 3) ls (v :: rest))) : W p l e R s m args below meth c H locs cells slots Q (F0 m pc ls (.ref b :: rest)) :=
  va_get C.1 C.2.1 C.2.2.2.2.1 hin C.2.2.2.1 E.1 hw.1 q0 he hc k hk (C.2.2.2.2.1 _ hl) (fun _ h => h) hv hdg kk
theorem g_getN (C : Ctx p s m args meth c cc nL own ret) (E : gE D cI s) {ws : va_W} (hw : gW D ws0 ws s H locs) {Cn : String} {T : u_T} {N ci : Nat} {b : Nat} (hin : ∀ w ∈ u_ws Cn T N, w ∈ XALL) (q0 : Nat) {fs : List Value} (he : ws[q0]? = some (b, .inr (ci, fs))) (hc : vwCl[ci]? = some (Cn, T, N)) (k : Nat) (hk : k < N)
    (hl : Cond.fieldLinkNest own index (T k).1 (T k).2.1 (T k).2.2.1 host ∈ NW) {v : Value} (hv : fs[k]? = some v) (hdg : decode cc pc = .ok (.getfield index, 3)) (kk : W p l e R s m args below meth c H locs cells slots Q (F0 m (pc + 3) ls (v :: rest))) : W p l e R s m args below meth c H locs cells slots Q (F0 m pc ls (.ref b :: rest)) :=
  va_getN C.1 C.2.1 C.2.2.2.2.1 hin C.2.2.2.1 E.1 hw.1 q0 he hc k hk (va_Nw.use (nw_on (List.mem_filter.mp hl).2) (E.2.1 _ hl)) (fun _ h => h) hv hdg kk
theorem g_put (C : Ctx p s m args meth c cc nL own ret) (E : gE D cI s) {ws ws' : va_W} (hw : gW D ws0 ws s H locs) {Cn : String} {T : u_T} {N ci : Nat} {b : Nat} (hin : ∀ w ∈ u_ws Cn T N, w ∈ XALL) (ty0 : Nat → FieldType) (hty : ∀ k, k < N → parseFieldDescriptor (T k).2.2.1 = some (ty0 k)) (hnm : ∀ a, a < N → ∀ b, b < N → a ≠ b → (T a).2.1 ≠ (T b).2.1) (q0 : Nat) {fs : List Value} (he : ws[q0]? = some (b, .inr (ci, fs))) (hc : vwCl[ci]? = some (Cn, T, N)) (k : Nat) (hk : k < N)
    (hl : Cond.fieldLink own index (T k).1 (T k).2.1 (T k).2.2.1 ∈ XALL) (hfin : (T k).2.2.2 = false) (hd : parseFieldDescriptor (T k).2.2.1 = some .int) {v : Int32} (hlen : k < fs.length) (hset : ws.set q0 (b, .inr (ci, fs.set k (.int v))) = ws') (hdg : decode cc pc = .ok (.putfield index, 3)) (kk : ∀ (H : Heap) (locs : List Loc), gW D ws0 ws' s H locs → W p l e R s m args below meth c H locs cells slots Q (F0 m (pc + 3) ls rest)) : W p l e R s m args below meth c H locs cells slots Q (F0 m pc ls (.int v :: .ref b :: rest)) :=
  va_put C.1 C.2.1 C.2.2.2.2.1 hin ty0 hty hnm C.2.2.2.1 E.1 hw.1 hw.2.1 hw.2.2 q0 he hc k hk (C.2.2.2.2.1 _ hl) (fun _ h => h) hfin hd rfl rfl hlen hdg (fun H1 locs1 hP hD hS => kk H1 locs1 (by rw [← hset]; exact ⟨hP, hD, hS⟩))
theorem g_putN (C : Ctx p s m args meth c cc nL own ret) (E : gE D cI s) {ws ws' : va_W} (hw : gW D ws0 ws s H locs) {Cn : String} {T : u_T} {N ci : Nat} {b : Nat} (hin : ∀ w ∈ u_ws Cn T N, w ∈ XALL) (ty0 : Nat → FieldType) (hty : ∀ k, k < N → parseFieldDescriptor (T k).2.2.1 = some (ty0 k)) (hnm : ∀ a, a < N → ∀ b, b < N → a ≠ b → (T a).2.1 ≠ (T b).2.1) (q0 : Nat) {fs : List Value} (he : ws[q0]? = some (b, .inr (ci, fs))) (hc : vwCl[ci]? = some (Cn, T, N)) (k : Nat) (hk : k < N)
    (hl : Cond.fieldLinkNest own index (T k).1 (T k).2.1 (T k).2.2.1 host ∈ NW) (hfin : (T k).2.2.2 = false) (hd : parseFieldDescriptor (T k).2.2.1 = some .int) {v : Int32} (hlen : k < fs.length) (hset : ws.set q0 (b, .inr (ci, fs.set k (.int v))) = ws') (hdg : decode cc pc = .ok (.putfield index, 3)) (kk : ∀ (H : Heap) (locs : List Loc), gW D ws0 ws' s H locs → W p l e R s m args below meth c H locs cells slots Q (F0 m (pc + 3) ls rest)) : W p l e R s m args below meth c H locs cells slots Q (F0 m pc ls (.int v :: .ref b :: rest)) :=
  va_putN C.1 C.2.1 C.2.2.2.2.1 hin ty0 hty hnm C.2.2.2.1 E.1 hw.1 hw.2.1 hw.2.2 q0 he hc k hk (va_Nw.use (nw_on (List.mem_filter.mp hl).2) (E.2.1 _ hl)) (fun _ h => h) hfin hd rfl rfl hlen hdg (fun H1 locs1 hP hD hS => kk H1 locs1 (by rw [← hset]; exact ⟨hP, hD, hS⟩))
theorem g_ald (C : Ctx p s m args meth c cc nL own ret) (E : gE D cI s) {ws : va_W} (hw : gW D ws0 ws s H locs) {b n : Nat} {f : Nat → Int32} (q0 : Nat) (he : ws[q0]? = some (b, .inl (cI, n, .inl f))) {i v : Int32} (hi : vp_in i n ∧ f i.toNatClampNeg = v) (hdg : decode cc pc = .ok (.iaload, 1)) (kk : W p l e R s m args below meth c H locs cells slots Q (F0 m (pc + 1) ls (.int v :: rest))) : W p l e R s m args below meth c H locs cells slots Q (F0 m pc ls (.int i :: .ref b :: rest)) := by
  obtain ⟨h1, rfl⟩ := hi
  exact va_iald C.1 C.2.1 E.1 hw.1 q0 0 he rfl h1 hdg kk
theorem g_ast (C : Ctx p s m args meth c cc nL own ret) (E : gE D cI s) {ws ws' : va_W} (hw : gW D ws0 ws s H locs) {b n : Nat} {f : Nat → Int32} (q0 : Nat) (he : ws[q0]? = some (b, .inl (cI, n, .inl f))) {i x : Int32} (hi : vp_in i n) (hset : ws.set q0 (b, .inl (cI, n, .inl (upd f i.toNatClampNeg x))) = ws') (hdg : decode cc pc = .ok (.iastore, 1)) (kk : ∀ (H : Heap) (locs : List Loc), gW D ws0 ws' s H locs → W p l e R s m args below meth c H locs cells slots Q (F0 m (pc + 1) ls rest)) : W p l e R s m args below meth c H locs cells slots Q (F0 m pc ls (.int x :: .int i :: .ref b :: rest)) :=
  va_iast C.1 C.2.1 E.1 hw.1 hw.2.1 hw.2.2 q0 0 he rfl hi hdg (fun H1 locs1 hP hD hS => kk H1 locs1 (by rw [← hset]; exact ⟨hP, hD, hS⟩))
/-! ends -/
theorem g_iret (C : Ctx p s m args meth c cc nL own (some .int)) {wf : St → va_W} {S0 S : St} (hw : gW D (wf S0) (wf S) s H locs) {mc ms : Nat} (hc : cells ≤ mc) (hs : slots ≤ ms) {post : Int32 → St → Prop} {v : Int32} (hp : post v S) (hdg : decode cc pc = .ok (.ireturn, 1)) :
    W p l e R s m args below meth c H locs cells slots (MQ below (va_Qi post (fun u t => va_P D vwCl (wf u) t.heap) (va_A (wf S0) s.heap.size)) args s mc ms (va_A (wf S0) s.heap.size)) (F0 m pc ls [.int v]) :=
  W.widen hc hs (W.iret C.1 C.2.1 C.2.2.2.2.2.1 (fun t ht hW => ⟨⟨v, S, rfl, hp, by show va_P D vwCl (wf S) t.heap; rw [ht]; exact hw.1⟩, hw.F ht⟩) hw.2.2.2.2 hdg C.2.2.2.2.2.2)
theorem g_zret (C : Ctx p s m args meth c cc nL own (some .boolean)) {wf : St → va_W} {S0 S : St} (hw : gW D (wf S0) (wf S) s H locs) {mc ms : Nat} (hc : cells ≤ mc) (hs : slots ≤ ms) {post : Int32 → St → Prop} {v : Int32} (hv : v = 0 ∨ v = 1) (hp : post v S) (hdg : decode cc pc = .ok (.ireturn, 1)) :
    W p l e R s m args below meth c H locs cells slots (MQ below (va_Qi post (fun u t => va_P D vwCl (wf u) t.heap) (va_A (wf S0) s.heap.size)) args s mc ms (va_A (wf S0) s.heap.size)) (F0 m pc ls [.int v]) :=
  W.widen hc hs (W.zret C.1 C.2.1 C.2.2.2.2.2.1 (zg_nar hv) (fun t ht hW => ⟨⟨v, S, rfl, hp, by show va_P D vwCl (wf S) t.heap; rw [ht]; exact hw.1⟩, hw.F ht⟩) hw.2.2.2.2 hdg C.2.2.2.2.2.2)
theorem g_lret (C : Ctx p s m args meth c cc nL own (some .long)) {wf : St → va_W} {S0 S : St} (hw : gW D (wf S0) (wf S) s H locs) {mc ms : Nat} (hc : cells ≤ mc) (hs : slots ≤ ms) {post : Int64 → St → Prop} {v : Int64} (hp : post v S) (hdg : decode cc pc = .ok (.lreturn, 1)) :
    W p l e R s m args below meth c H locs cells slots (MQ below (va_Ql post (fun u t => va_P D vwCl (wf u) t.heap) (va_A (wf S0) s.heap.size)) args s mc ms (va_A (wf S0) s.heap.size)) (F0 m pc ls [.long v]) :=
  W.widen hc hs (W.lret C.1 C.2.1 C.2.2.2.2.2.1 (fun t ht hW => ⟨⟨v, S, rfl, hp, by show va_P D vwCl (wf S) t.heap; rw [ht]; exact hw.1⟩, hw.F ht⟩) hw.2.2.2.2 hdg C.2.2.2.2.2.2)
theorem g_dret (C : Ctx p s m args meth c cc nL own (some .double)) {wf : St → va_W} {S0 S : St} (hw : gW D (wf S0) (wf S) s H locs) {mc ms : Nat} (hc : cells ≤ mc) (hs : slots ≤ ms) {post : UInt64 → St → Prop} {v : UInt64} (hp : post v S) (hdg : decode cc pc = .ok (.dreturn, 1)) :
    W p l e R s m args below meth c H locs cells slots (MQ below (va_Qd post (fun u t => va_P D vwCl (wf u) t.heap) (va_A (wf S0) s.heap.size)) args s mc ms (va_A (wf S0) s.heap.size)) (F0 m pc ls [.double v]) :=
  W.widen hc hs (W.dret C.1 C.2.1 C.2.2.2.2.2.1 (fun t ht hW => ⟨⟨v, S, rfl, hp, by show va_P D vwCl (wf S) t.heap; rw [ht]; exact hw.1⟩, hw.F ht⟩) hw.2.2.2.2 hdg C.2.2.2.2.2.2)
theorem g_vret (C : Ctx p s m args meth c cc nL own none) {wf : St → va_W} {S0 S : St} (hw : gW D (wf S0) (wf S) s H locs) {mc ms : Nat} (hc : cells ≤ mc) (hs : slots ≤ ms) {post : St → Prop} (hp : post S) (hdg : decode cc pc = .ok (.return_, 1)) :
    W p l e R s m args below meth c H locs cells slots (MQ below (va_Qv post (fun u t => va_P D vwCl (wf u) t.heap) (va_A (wf S0) s.heap.size)) args s mc ms (va_A (wf S0) s.heap.size)) (F0 m pc ls []) :=
  W.widen hc hs (W.vret C.1 C.2.1 C.2.2.2.2.2.1 (fun t ht hW => ⟨⟨S, rfl, hp, by show va_P D vwCl (wf S) t.heap; rw [ht]; exact hw.1⟩, hw.F ht⟩) hw.2.2.2.2 hdg C.2.2.2.2.2.2)
theorem z_iret (C : Ctx p s m args meth c cc nL own (some .int)) (hS : zS s H locs) {mc ms : Nat} (hc : cells ≤ mc) (hs : slots ≤ ms) {post : Int32 → Unit → Prop} {v : Int32} (hp : post v ()) (hdg : decode cc pc = .ok (.ireturn, 1)) :
    W p l e R s m args below meth c H locs cells slots (MQ below (va_Qi post (fun _ _ => True) (fun _ => False)) args s mc ms (fun _ => False)) (F0 m pc ls [.int v]) :=
  W.widen hc hs (W.iret C.1 C.2.1 C.2.2.2.2.2.1 (fun t ht hW => ⟨⟨v, (), rfl, hp, trivial⟩, va_S.F hS ht⟩) hS.2.2 hdg C.2.2.2.2.2.2)
theorem z_zret (C : Ctx p s m args meth c cc nL own (some .boolean)) (hS : zS s H locs) {mc ms : Nat} (hc : cells ≤ mc) (hs : slots ≤ ms) {post : Int32 → Unit → Prop} {v : Int32} (hv : v = 0 ∨ v = 1) (hp : post v ()) (hdg : decode cc pc = .ok (.ireturn, 1)) :
    W p l e R s m args below meth c H locs cells slots (MQ below (va_Qi post (fun _ _ => True) (fun _ => False)) args s mc ms (fun _ => False)) (F0 m pc ls [.int v]) :=
  W.widen hc hs (W.zret C.1 C.2.1 C.2.2.2.2.2.1 (zg_nar hv) (fun t ht hW => ⟨⟨v, (), rfl, hp, trivial⟩, va_S.F hS ht⟩) hS.2.2 hdg C.2.2.2.2.2.2)
theorem z_lret (C : Ctx p s m args meth c cc nL own (some .long)) (hS : zS s H locs) {mc ms : Nat} (hc : cells ≤ mc) (hs : slots ≤ ms) {post : Int64 → Unit → Prop} {v : Int64} (hp : post v ()) (hdg : decode cc pc = .ok (.lreturn, 1)) :
    W p l e R s m args below meth c H locs cells slots (MQ below (va_Ql post (fun _ _ => True) (fun _ => False)) args s mc ms (fun _ => False)) (F0 m pc ls [.long v]) :=
  W.widen hc hs (W.lret C.1 C.2.1 C.2.2.2.2.2.1 (fun t ht hW => ⟨⟨v, (), rfl, hp, trivial⟩, va_S.F hS ht⟩) hS.2.2 hdg C.2.2.2.2.2.2)
end BASE
end
section
/-! POSTS, and what throws -/
abbrev gQi (D : va_G) (wf : St → va_W) (S0 : St) (post : Int32 → St → Prop) (sz : Nat) : Array Value → State → Outcome → State → Prop := va_Qi post (fun u t => va_P D vwCl (wf u) t.heap) (va_A (wf S0) sz)
abbrev gQl (D : va_G) (wf : St → va_W) (S0 : St) (post : Int64 → St → Prop) (sz : Nat) : Array Value → State → Outcome → State → Prop := va_Ql post (fun u t => va_P D vwCl (wf u) t.heap) (va_A (wf S0) sz)
abbrev gQd (D : va_G) (wf : St → va_W) (S0 : St) (post : UInt64 → St → Prop) (sz : Nat) : Array Value → State → Outcome → State → Prop := va_Qd post (fun u t => va_P D vwCl (wf u) t.heap) (va_A (wf S0) sz)
abbrev gQv (D : va_G) (wf : St → va_W) (S0 : St) (post : St → Prop) (sz : Nat) : Array Value → State → Outcome → State → Prop := va_Qv post (fun u t => va_P D vwCl (wf u) t.heap) (va_A (wf S0) sz)
abbrev gXC (D : va_G) (wf : St → va_W) (S0 : St) (px : String × St → Prop) (sz : Nat) : String → State → State → Prop := vx_X px (fun E v t => E = v.1 ∧ va_P D vwCl (wf v.2) t.heap) (va_A (wf S0) sz)
def xb {β : Type} (r : String ⊕ Unit) (f : String → β) (g : β) : β := match r with
  | .inl e => f e
  | .inr _ => g
theorem xb_l {β : Type} {r : String ⊕ Unit} {f : String → β} {g k : β} {e : String} (he : r = Sum.inl e) (h : xb r f g = k) : f e = k := by subst he; exact h
theorem xb_r {β : Type} {r : String ⊕ Unit} {f : String → β} {g k : β} (he : r = Sum.inr ()) (h : xb r f g = k) : g = k := by subst he; exact h
def gZ (A : Nat → Prop) (U : State) (H : Heap) : Prop := vx_Zq Bundle.tN "UNASSIGNED_STACK" Bundle.steD A U H ∧ vx_Zq Bundle.tN "SUPPRESSED_SENTINEL" Bundle.listD A U H
def gPreX (D : va_G) (cI : ClassId) (ws : va_W) (sz : Nat) (U : State) : Prop := gPre D cI ws sz U ∧ gZ (va_A ws sz) U U.heap
theorem gPreX_blind {D : va_G} {cI : ClassId} {ws : va_W} {sz : Nat} {av : List Value} : FrameBlind (va_Pc av (gPreX D cI ws sz)) := by
  intro a U g mk h
  obtain ⟨h0, h1, h2, h3⟩ := h
  have hb := gPre_blind (D := D) (cI := cI) (ws := ws) (sz := sz) (av := av) a U g mk ⟨h0, h1⟩
  exact ⟨h0, hb.2, vx_Zq.moved (u := U) (U := U.calling g mk a) (Vm.Alike.refl U.vm) h2, vx_Zq.moved (u := U) (U := U.calling g mk a) (Vm.Alike.refl U.vm) h3⟩
section BASEX
variable {p : Program} {l : Launch} {e : Env} {R : Room} {s : State} {m : MethodId} {args : Array Value} {below : List Frame} {meth : Method} {c : Code} {H : Heap} {locs : List Loc} {cells slots : Nat} {Q : State → Prop}
variable {cc bytes : ByteArray} {nL maxL : Nat} {own : String} {ret rt : Option FieldType} {D : va_G} {cI : ClassId} {pc : Nat} {ls : Array Slot} {rest st0 : List Value}
variable {wf : St → va_W} {S : St} {ws0 : va_W} {b : Nat} {As : List Value} {rm : Room} {y : MethodName} {n index : Nat} {Qc : Array Value → State → Outcome → State → Prop} {XC : String → State → State → Prop} {free : Addr → Prop} {host : String}
theorem gZ_of {ws : va_W} {U : State} (hw : gW D ws0 ws s H locs) (Z : gZ (va_A ws0 s.heap.size) s s.heap) (hU : U.heap = H) (hW : s.WarmedH U.vm) : gZ (va_A ws H.size) U U.heap := by
  have key : ∀ (C n d : String), vx_Zq C n d (va_A ws0 s.heap.size) s s.heap → vx_Zq C n d (va_A ws H.size) U U.heap := fun C n d h => by
    rw [hU]
    exact vx_Zq.narrow (vx_Zq.moved hW.alike (h.kept hw.2.2.2.1)) hw.A
  exact ⟨key _ _ _ Z.1, key _ _ _ Z.2⟩
theorem gPreX_of {ws : va_W} {U : State} (E : gE D cI s) (hw : gW D ws0 ws s H locs) (Z : gZ (va_A ws0 s.heap.size) s s.heap) (hU : U.heap = H) (hW : s.WarmedH U.vm) : gPreX D cI ws H.size U :=
  ⟨gPre_of E hw hU hW, by
    have h := gZ_of hw Z hU hW
    exact h⟩
theorem gX_start {ws : va_W} {sz : Nat} (h : gPreX D cI ws sz s) : gE D cI s ∧ gW D ws ws s s.heap [] ∧ s.heap.size = sz ∧ gZ (va_A ws s.heap.size) s s.heap := by
  obtain ⟨h1, h2, h3⟩ := g_start h.1
  exact ⟨h1, h2, h3, by rw [h3]; exact h.2⟩
/-- the run of a method of the own class that may throw -/
theorem g_runXV (C : Ctx p s m args meth c cc nL own ret) (E : gE D cI s) {ws : va_W} (hw : gW D ws0 ws s H locs) (Z : gZ (va_A ws0 s.heap.size) s s.heap) (F : FctV y bytes maxL rt n) (hM : vx_Met l y (Cond.code y bytes maxL rt :: XALL) rm (va_Pc (.ref b :: As) (gPreX D cI ws H.size)) Qc XC rm.cells rm.slots free) (hk : Cond.methodLink own index y ∈ XALL)
    (q0 : Nat) {ci : Nat} {fs : List Value} {T : u_T} {N : Nat} (he : ws[q0]? = some (b, .inr (ci, fs))) (hc : vwCl[ci]? = some (y.cls, T, N)) (hn : As.length = n) (hsize : ls.size = nL) (hst : st0 = As.reverse ++ .ref b :: rest) (hr8 : (rest.map fun v => v.category).sum ≤ 8) (hR : rm.frames + 1 ≤ R.frames ∧ 8 + (maxL + 11) + rm.locals ≤ R.locals) (hf : cells + rm.cells ≤ R.cells ∧ slots + rm.slots ≤ R.slots) (hdg : decode cc pc = .ok (.invokevirtual index, 3)) :
    vx_Run p l e R s m args below meth c H locs cells slots rm.cells rm.slots (F0 m pc ls st0) rest (Qc (Value.ref b :: As).toArray) XC free :=
  vx_runV C.fix hM ⟨fct_B C F.1 hk hR, C.2.2.2.2.1 _ F.2.1, C.2.2.2.2.1 _ F.2.2⟩ ⟨gPreX_blind, va_recv (q := (y.cls, T, N)) E.1 hw.1 hc he, fun U hU hW => ⟨rfl, gPreX_of E hw Z hU hW⟩⟩ rfl hn hsize hst (lv_room hr8) hdg hf
variable {a : Array Value} {mc ms : Nat}
/-- the callee's answer is known: eq-forms of the rows behind a call -/
theorem g_cie (ha : ∀ S S', (wf S).map Prod.fst = (wf S').map Prod.fst) (hw : gW D ws0 (wf S) s H locs) {r1 : Int32} {S1 : St} (hr : va_Run p l e R s m args below meth c H locs cells slots mc ms (F0 m pc ls st0) rest (gQi D wf S (fun r u => r = r1 ∧ u = S1) H.size a) (va_A (wf S) H.size))
    (kk : ∀ (H : Heap) (locs : List Loc), gW D ws0 (wf S1) s H locs → W p l e R s m args below meth c H locs (cells + mc) (slots + ms) Q (F0 m (pc + 3) ls (.int r1 :: rest))) : W p l e R s m args below meth c H locs cells slots Q (F0 m pc ls st0) :=
  g_ci ha hw hr (fun r u hp H locs hw => by obtain ⟨rfl, rfl⟩ := hp; exact kk H locs hw)
theorem g_cle (ha : ∀ S S', (wf S).map Prod.fst = (wf S').map Prod.fst) (hw : gW D ws0 (wf S) s H locs) {r1 : Int64} {S1 : St} (hr : va_Run p l e R s m args below meth c H locs cells slots mc ms (F0 m pc ls st0) rest (gQl D wf S (fun r u => r = r1 ∧ u = S1) H.size a) (va_A (wf S) H.size))
    (kk : ∀ (H : Heap) (locs : List Loc), gW D ws0 (wf S1) s H locs → W p l e R s m args below meth c H locs (cells + mc) (slots + ms) Q (F0 m (pc + 3) ls (.long r1 :: rest))) : W p l e R s m args below meth c H locs cells slots Q (F0 m pc ls st0) :=
  g_cl ha hw hr (fun r u hp H locs hw => by obtain ⟨rfl, rfl⟩ := hp; exact kk H locs hw)
theorem g_cve (ha : ∀ S S', (wf S).map Prod.fst = (wf S').map Prod.fst) (hw : gW D ws0 (wf S) s H locs) {S1 : St} (hr : va_Run p l e R s m args below meth c H locs cells slots mc ms (F0 m pc ls st0) rest (gQv D wf S (fun u => u = S1) H.size a) (va_A (wf S) H.size))
    (kk : ∀ (H : Heap) (locs : List Loc), gW D ws0 (wf S1) s H locs → W p l e R s m args below meth c H locs (cells + mc) (slots + ms) Q (F0 m (pc + 3) ls rest)) : W p l e R s m args below meth c H locs cells slots Q (F0 m pc ls st0) :=
  g_cv ha hw hr (fun u hp H locs hw => by subst hp; exact kk H locs hw)
abbrev zQi (r1 : Int32) : Array Value → State → Outcome → State → Prop := va_Qi (fun (r : Int32) (_ : Unit) => r = r1) (fun _ _ => True) (fun _ => False)
abbrev zQl (r1 : Int64) : Array Value → State → Outcome → State → Prop := va_Ql (fun (r : Int64) (_ : Unit) => r = r1) (fun _ _ => True) (fun _ => False)
theorem g_ci0e {ws : va_W} (hw : gW D ws0 ws s H locs) {r1 : Int32} (hr : va_Run p l e R s m args below meth c H locs cells slots mc ms (F0 m pc ls st0) rest (zQi r1 a) (fun _ => False))
    (kk : ∀ (H : Heap) (locs : List Loc), gW D ws0 ws s H locs → W p l e R s m args below meth c H locs (cells + mc) (slots + ms) Q (F0 m (pc + 3) ls (.int r1 :: rest))) : W p l e R s m args below meth c H locs cells slots Q (F0 m pc ls st0) :=
  g_ci0 hw hr (fun r hp H locs hw => by subst hp; exact kk H locs hw)
theorem g_cl0e {ws : va_W} (hw : gW D ws0 ws s H locs) {r1 : Int64} (hr : va_Run p l e R s m args below meth c H locs cells slots mc ms (F0 m pc ls st0) rest (zQl r1 a) (fun _ => False))
    (kk : ∀ (H : Heap) (locs : List Loc), gW D ws0 ws s H locs → W p l e R s m args below meth c H locs (cells + mc) (slots + ms) Q (F0 m (pc + 3) ls (.long r1 :: rest))) : W p l e R s m args below meth c H locs cells slots Q (F0 m pc ls st0) :=
  g_cl0 hw hr (fun r hp H locs hw => by subst hp; exact kk H locs hw)
theorem g_ci00e (hS : zS s H locs) {r1 : Int32} (hr : va_Run p l e R s m args below meth c H locs cells slots mc ms (F0 m pc ls st0) rest (zQi r1 a) (fun _ => False))
    (kk : ∀ (H : Heap) (locs : List Loc), zS s H locs → W p l e R s m args below meth c H locs (cells + mc) (slots + ms) Q (F0 m (pc + 3) ls (.int r1 :: rest))) : W p l e R s m args below meth c H locs cells slots Q (F0 m pc ls st0) :=
  g_ci00 hS hr (fun r hp H locs hw => by subst hp; exact kk H locs hw)
theorem g_cl00e (hS : zS s H locs) {r1 : Int64} (hr : va_Run p l e R s m args below meth c H locs cells slots mc ms (F0 m pc ls st0) rest (zQl r1 a) (fun _ => False))
    (kk : ∀ (H : Heap) (locs : List Loc), zS s H locs → W p l e R s m args below meth c H locs (cells + mc) (slots + ms) Q (F0 m (pc + 3) ls (.long r1 :: rest))) : W p l e R s m args below meth c H locs cells slots Q (F0 m pc ls st0) :=
  g_cl00 hS hr (fun r hp H locs hw => by subst hp; exact kk H locs hw)
/-- a callee without an answer that may throw and changes nothing: where it throws, that goes on to the caller -/
theorem g_cxv (C : Ctx p s m args meth c cc nL own ret) (ho : ∀ x ∈ c.exceptionTable.toList, False) (ha : ∀ S S', (wf S).map Prod.fst = (wf S').map Prod.fst) {S0 : St} (hw : gW D (wf S0) (wf S) s H locs) {r1 : String ⊕ Unit} {mcm msm : Nat} {px : String × St → Prop}
    (hr : vx_Run p l e R s m args below meth c H locs cells slots mc ms (F0 m pc ls st0) rest (gQv D wf S (fun u => r1 = Sum.inr () ∧ u = S) H.size a) (gXC D wf S (fun v => r1 = Sum.inl v.1 ∧ v.2 = S) H.size) (va_A (wf S) H.size))
    (hcx : cells + mc ≤ mcm) (hsx : slots + ms ≤ msm) (kx : ∀ e, r1 = Sum.inl e → px (e, S))
    (kk : r1 = Sum.inr () → ∀ (H : Heap) (locs : List Loc), gW D (wf S0) (wf S) s H locs → W p l e R s m args below meth c H locs (cells + mc) (slots + ms) (vx_MQ below Qc (gXC D wf S0 px s.heap.size) args s mcm msm (va_A (wf S0) s.heap.size)) (F0 m (pc + 3) ls rest)) :
    W p l e R s m args below meth c H locs cells slots (vx_MQ below Qc (gXC D wf S0 px s.heap.size) args s mcm msm (va_A (wf S0) s.heap.size)) (F0 m pc ls st0) := by
  refine vx_callv hr hw.2.2 (fun q _ h => hw.A q h) hw.A (fun q _ h => hw.A q h) ?_ ?_
  · intro E ce q9 v t H1 locs1 ht hvm hp hB hz hk hS hce hcv hcl
    obtain ⟨hp1, hp2⟩ := hp
    obtain ⟨rfl, hB⟩ := hB
    rw [hp2, ht] at hB
    exact vx_out (fun x hx => (ho x hx).elim) C.2.2.2.2.2.2 hce hcv hcl (fun t2 ht2 _ => ⟨(v.1, S), kx _ hp1, ⟨rfl, by rw [ht2]; exact hB⟩, hS.F ht2⟩) hS.2.2 hcx hsx
  · intro u t H1 locs1 ht hvm hp hB hz hk hS
    obtain ⟨hp1, rfl⟩ := hp
    exact kk hp1 H1 locs1 (gW_call ha hw ht hB hS)
/-- the words by which an exception is made and thrown -/
def ThrF (cls : String) (ik ic : Nat) : Prop :=
  Bundle.fit cls = true ∧ Cond.classLink RX3 ik cls ∈ XALL ∧ Cond.initialized cls ∈ XALL ∧ (∀ w ∈ vx_atS RX3 ic cls ["java/lang/RuntimeException", "java/lang/Exception"], w ∈ lw_tbl ∧ (goodWord w || nwOK w) = true ∧ vx_ot w = true)
theorem thr_ISE : ThrF "java/lang/IllegalStateException" 47 51 := ⟨by decide +kernel, kl_X3_47, kz_IllegalStateException, by decide +kernel⟩
theorem thr_IAE : ThrF "java/lang/IllegalArgumentException" 79 83 := ⟨by decide +kernel, kl_X3_79, kz_IllegalArgumentException, by decide +kernel⟩
theorem thr_IOB : ThrF "java/lang/IndexOutOfBoundsException" 166 170 := ⟨by decide +kernel, kl_X3_166, kz_IndexOutOfBoundsException, by decide +kernel⟩
theorem vx_ot_good {w : Cond} (h : w ∈ XALL) : vx_ot w = true := by
  have := XALL_good h
  simp only [vx_ot, this, Bool.or_true]
theorem g_throw (C : Ctx p s m args meth c cc nL RX3 ret) (E : gE D cI s) {ws : va_W} (Z : gZ (va_A ws0 s.heap.size) s s.heap) (hT : l.stackTraces = false) (ho : ∀ x ∈ c.exceptionTable.toList, False) (hw : gW D ws0 ws s H locs) {cls text : String} {ik is ic : Nat} (T : ThrF cls ik ic) (hs : (is, text) ∈ STRL) (hsize : ls.size = nL) {mcm msm : Nat}
    (d0 : decode cc pc = .ok (.new ik, 3)) (d3 : decode cc (pc + 3) = .ok (.dup, 1)) (d4 : decode cc (pc + 4) = .ok (.ldc is, 2)) (d6 : decode cc (pc + 6) = .ok (.invokespecial ic, 3)) (d9 : decode cc (pc + 9) = .ok (.athrow, 1))
    (hR1 : 5 < R.frames) (hR2 : (rest.map fun v => v.category).sum + 82 ≤ R.locals) (hR3 : cells + 1 ≤ R.cells) (hR4 : slots + 6 ≤ R.slots) (hc : cells + 1 ≤ mcm) (hs2 : slots + 6 ≤ msm)
    (hx : ∀ t : State, s.vm.Alike t.vm → H.size ≤ t.heap.size → (∀ q : Nat, q < H.size → t.heap[q]? = H[q]?) → XC cls s t) (hfree : ∀ z ∈ locs, free z.base) :
    W p l e R s m args below meth c H locs cells slots (vx_MQ below Qc XC args s mcm msm free) (F0 m pc ls rest) := by
  obtain ⟨sa, hsa⟩ := E.2.2 _ hs
  refine vx_throwS (names := ["java/lang/RuntimeException", "java/lang/Exception"]) (A := va_A ws0 s.heap.size) C.1 C.2.1 hT C.2.2.2.1 T.1 (by decide +kernel) (C.2.2.2.2.1 _ T.2.1) (C.2.2.2.2.1 _ T.2.2.1) hsa (fun w hw9 => ?_) (fun w hw9 => ?_) Z.1 Z.2 hw.2.2 (hsize.trans C.2.2.1.symm) d0 d3 d4 d6 d9 (fun x hx9 => (ho x hx9).elim) hR1 hR2 hR3 hR4 C.2.2.2.2.2.2 hx hfree hc hs2
  · obtain ⟨h1, h2, -⟩ := T.2.2.2 w hw9
    rcases (Bool.or_eq_true _ _).mp h2 with h2 | h2
    · exact C.2.2.2.2.1 w (List.mem_filter.mpr ⟨h1, h2⟩)
    · exact va_Nw.use (nw_on h2) (E.2.1 w (List.mem_filter.mpr ⟨h1, h2⟩))
  · rcases List.mem_cons.mp hw9 with rfl | hw9
    · exact vx_ot_good T.2.1
    · rcases List.mem_cons.mp hw9 with rfl | hw9
      · exact vx_ot_good T.2.2.1
      · exact (T.2.2.2 w hw9).2.2
/-- the same, where the world and the caller's post are as in 'gXC' -/
theorem g_thr (C : Ctx p s m args meth c cc nL RX3 ret) (E : gE D cI s) {S0 : St} (Z : gZ (va_A (wf S0) s.heap.size) s s.heap) (hT : l.stackTraces = false) (ho : ∀ x ∈ c.exceptionTable.toList, False) (hw : gW D (wf S0) (wf S) s H locs) {cls text : String} {ik is ic : Nat} (T : ThrF cls ik ic) (hs : (is, text) ∈ STRL) (hsize : ls.size = nL) {mcm msm : Nat} {px : String × St → Prop}
    (d0 : decode cc pc = .ok (.new ik, 3)) (d3 : decode cc (pc + 3) = .ok (.dup, 1)) (d4 : decode cc (pc + 4) = .ok (.ldc is, 2)) (d6 : decode cc (pc + 6) = .ok (.invokespecial ic, 3)) (d9 : decode cc (pc + 9) = .ok (.athrow, 1))
    (hR1 : 5 < R.frames) (hR2 : (rest.map fun v => v.category).sum + 82 ≤ R.locals) (hR3 : cells + 1 ≤ R.cells) (hR4 : slots + 6 ≤ R.slots) (hc : cells + 1 ≤ mcm) (hs2 : slots + 6 ≤ msm) (hp : px (cls, S)) :
    W p l e R s m args below meth c H locs cells slots (vx_MQ below Qc (gXC D wf S0 px s.heap.size) args s mcm msm (va_A (wf S0) s.heap.size)) (F0 m pc ls rest) :=
  g_throw C E Z hT ho hw T hs hsize d0 d3 d4 d6 d9 hR1 hR2 hR3 hR4 hc hs2 (fun t _ hz hk => ⟨(cls, S), hp, ⟨rfl, hw.1.kept (fun k q hq => hk q.1 (hw.1 k q hq).lt)⟩, Nat.le_trans hw.2.2.1 hz, fun q h1 h2 => by rw [hk q (Nat.lt_of_lt_of_le h1 hw.2.2.1)]; exact hw.2.2.2.1 q h1 h2⟩) hw.2.2.2.2
end BASEX
end
