section
-- ===== PART A: goes FIRST, ahead of the names: the tables' words, and 'selects' of the private methods out of them =====
/-- a private method of a class that the tables say can be made, by its rows of tables_1 -/
def lw_okq (q : MethodName × Nat) : Prop := (q.1.cls ≠ "java/lang/invoke/MethodHandle" ∧ q.1.cls ≠ "java/lang/invoke/VarHandle") ∧ Cond.instantiable q.1.cls q.2 ∈ tables_1 ∧ Cond.privateMethod q.1 ∈ tables_1 ∧ Cond.instanceMethod q.1 ∈ tables_1
theorem lw_p0 : lw_okq (⟨"TrieVersions$Page", "keep", "(ZI)V"⟩, 6) := ⟨⟨by decide +kernel, by decide +kernel⟩, List.mem_of_getElem? (i := 18) (by decide +kernel), List.mem_of_getElem? (i := 174) (by decide +kernel), List.mem_of_getElem? (i := 175) (by decide +kernel)⟩
theorem lw_p1 : lw_okq (⟨"TrieVersions", "isFullOfVersions", "()Z"⟩, 13) := ⟨⟨by decide +kernel, by decide +kernel⟩, List.mem_of_getElem? (i := 8) (by decide +kernel), List.mem_of_getElem? (i := 182) (by decide +kernel), List.mem_of_getElem? (i := 183) (by decide +kernel)⟩
theorem lw_p2 : lw_okq (⟨"TrieVersions", "rankOf", "(I)I"⟩, 13) := ⟨⟨by decide +kernel, by decide +kernel⟩, List.mem_of_getElem? (i := 8) (by decide +kernel), List.mem_of_getElem? (i := 197) (by decide +kernel), List.mem_of_getElem? (i := 198) (by decide +kernel)⟩
theorem lw_p3 : lw_okq (⟨"TrieVersions", "hashOf", "(I)I"⟩, 13) := ⟨⟨by decide +kernel, by decide +kernel⟩, List.mem_of_getElem? (i := 8) (by decide +kernel), List.mem_of_getElem? (i := 201) (by decide +kernel), List.mem_of_getElem? (i := 202) (by decide +kernel)⟩
theorem lw_p4 : lw_okq (⟨"TrieVersions$Tree", "insert", "(III)V"⟩, 15) := ⟨⟨by decide +kernel, by decide +kernel⟩, List.mem_of_getElem? (i := 49) (by decide +kernel), List.mem_of_getElem? (i := 213) (by decide +kernel), List.mem_of_getElem? (i := 214) (by decide +kernel)⟩
theorem lw_p5 : lw_okq (⟨"TrieVersions$Tree", "isBehind", "(III)Z"⟩, 15) := ⟨⟨by decide +kernel, by decide +kernel⟩, List.mem_of_getElem? (i := 49) (by decide +kernel), List.mem_of_getElem? (i := 217) (by decide +kernel), List.mem_of_getElem? (i := 218) (by decide +kernel)⟩
theorem lw_p6 : lw_okq (⟨"TrieVersions", "editNodes", "(LTrieVersions$Tree;LTrieVersions$Tree;I)I"⟩, 13) := ⟨⟨by decide +kernel, by decide +kernel⟩, List.mem_of_getElem? (i := 8) (by decide +kernel), List.mem_of_getElem? (i := 221) (by decide +kernel), List.mem_of_getElem? (i := 222) (by decide +kernel)⟩
theorem lw_p7 : lw_okq (⟨"TrieVersions$Tree", "kindOfTree", "(III)I"⟩, 15) := ⟨⟨by decide +kernel, by decide +kernel⟩, List.mem_of_getElem? (i := 49) (by decide +kernel), List.mem_of_getElem? (i := 232) (by decide +kernel), List.mem_of_getElem? (i := 233) (by decide +kernel)⟩
theorem lw_p8 : lw_okq (⟨"TrieVersions$Tree", "levelEntries", "(III)V"⟩, 15) := ⟨⟨by decide +kernel, by decide +kernel⟩, List.mem_of_getElem? (i := 49) (by decide +kernel), List.mem_of_getElem? (i := 251) (by decide +kernel), List.mem_of_getElem? (i := 252) (by decide +kernel)⟩
theorem lw_p9 : lw_okq (⟨"TrieVersions", "addVersion", "()I"⟩, 13) := ⟨⟨by decide +kernel, by decide +kernel⟩, List.mem_of_getElem? (i := 8) (by decide +kernel), List.mem_of_getElem? (i := 263) (by decide +kernel), List.mem_of_getElem? (i := 264) (by decide +kernel)⟩
theorem lw_p10 : lw_okq (⟨"TrieVersions", "isNodeOfVersion", "(LTrieVersions$Tree;I)Z"⟩, 13) := ⟨⟨by decide +kernel, by decide +kernel⟩, List.mem_of_getElem? (i := 8) (by decide +kernel), List.mem_of_getElem? (i := 267) (by decide +kernel), List.mem_of_getElem? (i := 268) (by decide +kernel)⟩
theorem lw_p11 : lw_okq (⟨"TrieVersions", "isVersion", "(I)Z"⟩, 13) := ⟨⟨by decide +kernel, by decide +kernel⟩, List.mem_of_getElem? (i := 8) (by decide +kernel), List.mem_of_getElem? (i := 292) (by decide +kernel), List.mem_of_getElem? (i := 293) (by decide +kernel)⟩
theorem lw_p12 : lw_okq (⟨"TrieVersions", "shareNodes", "(LTrieVersions$Tree;LTrieVersions$Tree;LTrieVersions$Tree;)V"⟩, 13) := ⟨⟨by decide +kernel, by decide +kernel⟩, List.mem_of_getElem? (i := 8) (by decide +kernel), List.mem_of_getElem? (i := 303) (by decide +kernel), List.mem_of_getElem? (i := 304) (by decide +kernel)⟩
theorem lw_p13 : lw_okq (⟨"TrieVersions$Tree", "append", "(LTrieVersions$Tree;I)V"⟩, 15) := ⟨⟨by decide +kernel, by decide +kernel⟩, List.mem_of_getElem? (i := 49) (by decide +kernel), List.mem_of_getElem? (i := 341) (by decide +kernel), List.mem_of_getElem? (i := 342) (by decide +kernel)⟩
theorem lw_p14 : lw_okq (⟨"TrieVersions", "redraft", "()I"⟩, 13) := ⟨⟨by decide +kernel, by decide +kernel⟩, List.mem_of_getElem? (i := 8) (by decide +kernel), List.mem_of_getElem? (i := 370) (by decide +kernel), List.mem_of_getElem? (i := 371) (by decide +kernel)⟩
theorem lw_p15 : lw_okq (⟨"TrieVersions", "differentNodes", "()I"⟩, 13) := ⟨⟨by decide +kernel, by decide +kernel⟩, List.mem_of_getElem? (i := 8) (by decide +kernel), List.mem_of_getElem? (i := 436) (by decide +kernel), List.mem_of_getElem? (i := 437) (by decide +kernel)⟩
def lw_privs_1 : List (MethodName × Nat) := [(⟨"TrieVersions$Page", "keep", "(ZI)V"⟩, 6), (⟨"TrieVersions", "isFullOfVersions", "()Z"⟩, 13), (⟨"TrieVersions", "rankOf", "(I)I"⟩, 13), (⟨"TrieVersions", "hashOf", "(I)I"⟩, 13), (⟨"TrieVersions$Tree", "insert", "(III)V"⟩, 15), (⟨"TrieVersions$Tree", "isBehind", "(III)Z"⟩, 15), (⟨"TrieVersions", "editNodes", "(LTrieVersions$Tree;LTrieVersions$Tree;I)I"⟩, 13), (⟨"TrieVersions$Tree", "kindOfTree", "(III)I"⟩, 15), (⟨"TrieVersions$Tree", "levelEntries", "(III)V"⟩, 15), (⟨"TrieVersions", "addVersion", "()I"⟩, 13), (⟨"TrieVersions", "isNodeOfVersion", "(LTrieVersions$Tree;I)Z"⟩, 13), (⟨"TrieVersions", "isVersion", "(I)Z"⟩, 13), (⟨"TrieVersions", "shareNodes", "(LTrieVersions$Tree;LTrieVersions$Tree;LTrieVersions$Tree;)V"⟩, 13), (⟨"TrieVersions$Tree", "append", "(LTrieVersions$Tree;I)V"⟩, 15), (⟨"TrieVersions", "redraft", "()I"⟩, 13), (⟨"TrieVersions", "differentNodes", "()I"⟩, 13)]
theorem lw_r1 : ∀ q ∈ lw_privs_1, lw_okq q := List.forall_mem_cons.mpr ⟨lw_p0, List.forall_mem_cons.mpr ⟨lw_p1, List.forall_mem_cons.mpr ⟨lw_p2, List.forall_mem_cons.mpr ⟨lw_p3, List.forall_mem_cons.mpr ⟨lw_p4, List.forall_mem_cons.mpr ⟨lw_p5, List.forall_mem_cons.mpr ⟨lw_p6, List.forall_mem_cons.mpr ⟨lw_p7, List.forall_mem_cons.mpr ⟨lw_p8, List.forall_mem_cons.mpr ⟨lw_p9, List.forall_mem_cons.mpr ⟨lw_p10, List.forall_mem_cons.mpr ⟨lw_p11, List.forall_mem_cons.mpr ⟨lw_p12, List.forall_mem_cons.mpr ⟨lw_p13, List.forall_mem_cons.mpr ⟨lw_p14, List.forall_mem_cons.mpr ⟨lw_p15, fun _ h => absurd h List.not_mem_nil⟩⟩⟩⟩⟩⟩⟩⟩⟩⟩⟩⟩⟩⟩⟩⟩
theorem lw_p16 : lw_okq (⟨"TrieVersions", "digestOfVersion", "(JI)J"⟩, 13) := ⟨⟨by decide +kernel, by decide +kernel⟩, List.mem_of_getElem? (i := 8) (by decide +kernel), List.mem_of_getElem? (i := 445) (by decide +kernel), List.mem_of_getElem? (i := 446) (by decide +kernel)⟩
theorem lw_p17 : lw_okq (⟨"TrieVersionsModel", "hashOf", "(I)I"⟩, 34) := ⟨⟨by decide +kernel, by decide +kernel⟩, List.mem_of_getElem? (i := 459) (by decide +kernel), List.mem_of_getElem? (i := 576) (by decide +kernel), List.mem_of_getElem? (i := 577) (by decide +kernel)⟩
theorem lw_p18 : lw_okq (⟨"TrieVersionsModel", "isVersion", "(I)Z"⟩, 34) := ⟨⟨by decide +kernel, by decide +kernel⟩, List.mem_of_getElem? (i := 459) (by decide +kernel), List.mem_of_getElem? (i := 589) (by decide +kernel), List.mem_of_getElem? (i := 590) (by decide +kernel)⟩
theorem lw_p19 : lw_okq (⟨"TrieVersionsModel", "placeOf", "(II)I"⟩, 34) := ⟨⟨by decide +kernel, by decide +kernel⟩, List.mem_of_getElem? (i := 459) (by decide +kernel), List.mem_of_getElem? (i := 593) (by decide +kernel), List.mem_of_getElem? (i := 594) (by decide +kernel)⟩
theorem lw_p20 : lw_okq (⟨"TrieVersionsModel", "keyAt", "(II)I"⟩, 34) := ⟨⟨by decide +kernel, by decide +kernel⟩, List.mem_of_getElem? (i := 459) (by decide +kernel), List.mem_of_getElem? (i := 597) (by decide +kernel), List.mem_of_getElem? (i := 598) (by decide +kernel)⟩
theorem lw_p21 : lw_okq (⟨"TrieVersionsModel", "copyTo", "(II)V"⟩, 34) := ⟨⟨by decide +kernel, by decide +kernel⟩, List.mem_of_getElem? (i := 459) (by decide +kernel), List.mem_of_getElem? (i := 601) (by decide +kernel), List.mem_of_getElem? (i := 602) (by decide +kernel)⟩
theorem lw_p22 : lw_okq (⟨"TrieVersionsModel", "valueAt", "(II)I"⟩, 34) := ⟨⟨by decide +kernel, by decide +kernel⟩, List.mem_of_getElem? (i := 459) (by decide +kernel), List.mem_of_getElem? (i := 605) (by decide +kernel), List.mem_of_getElem? (i := 606) (by decide +kernel)⟩
theorem lw_p23 : lw_okq (⟨"TrieVersionsModel", "give", "(III)V"⟩, 34) := ⟨⟨by decide +kernel, by decide +kernel⟩, List.mem_of_getElem? (i := 459) (by decide +kernel), List.mem_of_getElem? (i := 609) (by decide +kernel), List.mem_of_getElem? (i := 610) (by decide +kernel)⟩
theorem lw_p24 : lw_okq (⟨"TrieVersionsModel", "isAhead", "(II)Z"⟩, 34) := ⟨⟨by decide +kernel, by decide +kernel⟩, List.mem_of_getElem? (i := 459) (by decide +kernel), List.mem_of_getElem? (i := 613) (by decide +kernel), List.mem_of_getElem? (i := 614) (by decide +kernel)⟩
theorem lw_p25 : lw_okq (⟨"TrieVersionsModel", "tellNew", "(II)V"⟩, 34) := ⟨⟨by decide +kernel, by decide +kernel⟩, List.mem_of_getElem? (i := 459) (by decide +kernel), List.mem_of_getElem? (i := 620) (by decide +kernel), List.mem_of_getElem? (i := 621) (by decide +kernel)⟩
theorem lw_p26 : lw_okq (⟨"TrieVersionsModel", "layNodes", "(I)V"⟩, 34) := ⟨⟨by decide +kernel, by decide +kernel⟩, List.mem_of_getElem? (i := 459) (by decide +kernel), List.mem_of_getElem? (i := 624) (by decide +kernel), List.mem_of_getElem? (i := 625) (by decide +kernel)⟩
theorem lw_p27 : lw_okq (⟨"TrieVersionsModel", "pile", "(III)V"⟩, 34) := ⟨⟨by decide +kernel, by decide +kernel⟩, List.mem_of_getElem? (i := 459) (by decide +kernel), List.mem_of_getElem? (i := 628) (by decide +kernel), List.mem_of_getElem? (i := 629) (by decide +kernel)⟩
theorem lw_p28 : lw_okq (⟨"TrieVersionsModel", "layNode", "(IIII)V"⟩, 34) := ⟨⟨by decide +kernel, by decide +kernel⟩, List.mem_of_getElem? (i := 459) (by decide +kernel), List.mem_of_getElem? (i := 632) (by decide +kernel), List.mem_of_getElem? (i := 633) (by decide +kernel)⟩
theorem lw_p29 : lw_okq (⟨"TrieVersionsModel", "isOneHash", "(III)Z"⟩, 34) := ⟨⟨by decide +kernel, by decide +kernel⟩, List.mem_of_getElem? (i := 459) (by decide +kernel), List.mem_of_getElem? (i := 636) (by decide +kernel), List.mem_of_getElem? (i := 637) (by decide +kernel)⟩
theorem lw_p30 : lw_okq (⟨"TrieVersionsModel", "partAt", "(III)I"⟩, 34) := ⟨⟨by decide +kernel, by decide +kernel⟩, List.mem_of_getElem? (i := 459) (by decide +kernel), List.mem_of_getElem? (i := 640) (by decide +kernel), List.mem_of_getElem? (i := 641) (by decide +kernel)⟩
theorem lw_p31 : lw_okq (⟨"TrieVersionsModel", "likeIn", "(III)I"⟩, 34) := ⟨⟨by decide +kernel, by decide +kernel⟩, List.mem_of_getElem? (i := 459) (by decide +kernel), List.mem_of_getElem? (i := 644) (by decide +kernel), List.mem_of_getElem? (i := 645) (by decide +kernel)⟩
def lw_privs_2 : List (MethodName × Nat) := [(⟨"TrieVersions", "digestOfVersion", "(JI)J"⟩, 13), (⟨"TrieVersionsModel", "hashOf", "(I)I"⟩, 34), (⟨"TrieVersionsModel", "isVersion", "(I)Z"⟩, 34), (⟨"TrieVersionsModel", "placeOf", "(II)I"⟩, 34), (⟨"TrieVersionsModel", "keyAt", "(II)I"⟩, 34), (⟨"TrieVersionsModel", "copyTo", "(II)V"⟩, 34), (⟨"TrieVersionsModel", "valueAt", "(II)I"⟩, 34), (⟨"TrieVersionsModel", "give", "(III)V"⟩, 34), (⟨"TrieVersionsModel", "isAhead", "(II)Z"⟩, 34), (⟨"TrieVersionsModel", "tellNew", "(II)V"⟩, 34), (⟨"TrieVersionsModel", "layNodes", "(I)V"⟩, 34), (⟨"TrieVersionsModel", "pile", "(III)V"⟩, 34), (⟨"TrieVersionsModel", "layNode", "(IIII)V"⟩, 34), (⟨"TrieVersionsModel", "isOneHash", "(III)Z"⟩, 34), (⟨"TrieVersionsModel", "partAt", "(III)I"⟩, 34), (⟨"TrieVersionsModel", "likeIn", "(III)I"⟩, 34)]
theorem lw_r2 : ∀ q ∈ lw_privs_2, lw_okq q := List.forall_mem_cons.mpr ⟨lw_p16, List.forall_mem_cons.mpr ⟨lw_p17, List.forall_mem_cons.mpr ⟨lw_p18, List.forall_mem_cons.mpr ⟨lw_p19, List.forall_mem_cons.mpr ⟨lw_p20, List.forall_mem_cons.mpr ⟨lw_p21, List.forall_mem_cons.mpr ⟨lw_p22, List.forall_mem_cons.mpr ⟨lw_p23, List.forall_mem_cons.mpr ⟨lw_p24, List.forall_mem_cons.mpr ⟨lw_p25, List.forall_mem_cons.mpr ⟨lw_p26, List.forall_mem_cons.mpr ⟨lw_p27, List.forall_mem_cons.mpr ⟨lw_p28, List.forall_mem_cons.mpr ⟨lw_p29, List.forall_mem_cons.mpr ⟨lw_p30, List.forall_mem_cons.mpr ⟨lw_p31, fun _ h => absurd h List.not_mem_nil⟩⟩⟩⟩⟩⟩⟩⟩⟩⟩⟩⟩⟩⟩⟩⟩
theorem lw_p32 : lw_okq (⟨"TrieVersionsModel", "isLike", "(IIII)Z"⟩, 34) := ⟨⟨by decide +kernel, by decide +kernel⟩, List.mem_of_getElem? (i := 459) (by decide +kernel), List.mem_of_getElem? (i := 648) (by decide +kernel), List.mem_of_getElem? (i := 649) (by decide +kernel)⟩
theorem lw_p33 : lw_okq (⟨"TrieVersionsModel", "takeAll", "(IIII)I"⟩, 34) := ⟨⟨by decide +kernel, by decide +kernel⟩, List.mem_of_getElem? (i := 459) (by decide +kernel), List.mem_of_getElem? (i := 652) (by decide +kernel), List.mem_of_getElem? (i := 653) (by decide +kernel)⟩
theorem lw_p34 : lw_okq (⟨"TrieVersionsModel", "widthOf", "(II)I"⟩, 34) := ⟨⟨by decide +kernel, by decide +kernel⟩, List.mem_of_getElem? (i := 459) (by decide +kernel), List.mem_of_getElem? (i := 656) (by decide +kernel), List.mem_of_getElem? (i := 657) (by decide +kernel)⟩
theorem lw_p35 : lw_okq (⟨"TrieVersionsModel", "make", "(I)V"⟩, 34) := ⟨⟨by decide +kernel, by decide +kernel⟩, List.mem_of_getElem? (i := 459) (by decide +kernel), List.mem_of_getElem? (i := 660) (by decide +kernel), List.mem_of_getElem? (i := 661) (by decide +kernel)⟩
theorem lw_p36 : lw_okq (⟨"TrieVersionsModel", "keepNew", "(I)I"⟩, 34) := ⟨⟨by decide +kernel, by decide +kernel⟩, List.mem_of_getElem? (i := 459) (by decide +kernel), List.mem_of_getElem? (i := 664) (by decide +kernel), List.mem_of_getElem? (i := 665) (by decide +kernel)⟩
theorem lw_p37 : lw_okq (⟨"TrieVersionsModel", "copyNode", "(III)V"⟩, 34) := ⟨⟨by decide +kernel, by decide +kernel⟩, List.mem_of_getElem? (i := 459) (by decide +kernel), List.mem_of_getElem? (i := 668) (by decide +kernel), List.mem_of_getElem? (i := 669) (by decide +kernel)⟩
theorem lw_p38 : lw_okq (⟨"TrieVersionsModel", "takeFrom", "(II)V"⟩, 34) := ⟨⟨by decide +kernel, by decide +kernel⟩, List.mem_of_getElem? (i := 459) (by decide +kernel), List.mem_of_getElem? (i := 676) (by decide +kernel), List.mem_of_getElem? (i := 677) (by decide +kernel)⟩
theorem lw_p39 : lw_okq (⟨"TrieVersionsModel", "inBoth", "(II)I"⟩, 34) := ⟨⟨by decide +kernel, by decide +kernel⟩, List.mem_of_getElem? (i := 459) (by decide +kernel), List.mem_of_getElem? (i := 684) (by decide +kernel), List.mem_of_getElem? (i := 685) (by decide +kernel)⟩
theorem lw_p40 : lw_okq (⟨"TrieVersionsModel", "layBoth", "(III)V"⟩, 34) := ⟨⟨by decide +kernel, by decide +kernel⟩, List.mem_of_getElem? (i := 459) (by decide +kernel), List.mem_of_getElem? (i := 688) (by decide +kernel), List.mem_of_getElem? (i := 689) (by decide +kernel)⟩
theorem lw_p41 : lw_okq (⟨"TrieVersionsModel", "beginEdit", "(I)V"⟩, 34) := ⟨⟨by decide +kernel, by decide +kernel⟩, List.mem_of_getElem? (i := 459) (by decide +kernel), List.mem_of_getElem? (i := 704) (by decide +kernel), List.mem_of_getElem? (i := 705) (by decide +kernel)⟩
theorem lw_p42 : lw_okq (⟨"TrieVersionsModel", "setNow", "(II)V"⟩, 34) := ⟨⟨by decide +kernel, by decide +kernel⟩, List.mem_of_getElem? (i := 459) (by decide +kernel), List.mem_of_getElem? (i := 712) (by decide +kernel), List.mem_of_getElem? (i := 713) (by decide +kernel)⟩
theorem lw_p43 : lw_okq (⟨"TrieVersionsModel", "tellEdit", "()V"⟩, 34) := ⟨⟨by decide +kernel, by decide +kernel⟩, List.mem_of_getElem? (i := 459) (by decide +kernel), List.mem_of_getElem? (i := 716) (by decide +kernel), List.mem_of_getElem? (i := 717) (by decide +kernel)⟩
theorem lw_p44 : lw_okq (⟨"TrieVersionsModel", "steadOf", "(I)I"⟩, 34) := ⟨⟨by decide +kernel, by decide +kernel⟩, List.mem_of_getElem? (i := 459) (by decide +kernel), List.mem_of_getElem? (i := 720) (by decide +kernel), List.mem_of_getElem? (i := 721) (by decide +kernel)⟩
theorem lw_p45 : lw_okq (⟨"TrieVersionsModel", "isStead", "(IIII)Z"⟩, 34) := ⟨⟨by decide +kernel, by decide +kernel⟩, List.mem_of_getElem? (i := 459) (by decide +kernel), List.mem_of_getElem? (i := 724) (by decide +kernel), List.mem_of_getElem? (i := 725) (by decide +kernel)⟩
theorem lw_p46 : lw_okq (⟨"TrieVersionsModel", "takeNew", "()V"⟩, 34) := ⟨⟨by decide +kernel, by decide +kernel⟩, List.mem_of_getElem? (i := 459) (by decide +kernel), List.mem_of_getElem? (i := 728) (by decide +kernel), List.mem_of_getElem? (i := 729) (by decide +kernel)⟩
theorem lw_p47 : lw_okq (⟨"TrieVersionsModel", "ownMany", "()I"⟩, 34) := ⟨⟨by decide +kernel, by decide +kernel⟩, List.mem_of_getElem? (i := 459) (by decide +kernel), List.mem_of_getElem? (i := 744) (by decide +kernel), List.mem_of_getElem? (i := 745) (by decide +kernel)⟩
def lw_privs_3 : List (MethodName × Nat) := [(⟨"TrieVersionsModel", "isLike", "(IIII)Z"⟩, 34), (⟨"TrieVersionsModel", "takeAll", "(IIII)I"⟩, 34), (⟨"TrieVersionsModel", "widthOf", "(II)I"⟩, 34), (⟨"TrieVersionsModel", "make", "(I)V"⟩, 34), (⟨"TrieVersionsModel", "keepNew", "(I)I"⟩, 34), (⟨"TrieVersionsModel", "copyNode", "(III)V"⟩, 34), (⟨"TrieVersionsModel", "takeFrom", "(II)V"⟩, 34), (⟨"TrieVersionsModel", "inBoth", "(II)I"⟩, 34), (⟨"TrieVersionsModel", "layBoth", "(III)V"⟩, 34), (⟨"TrieVersionsModel", "beginEdit", "(I)V"⟩, 34), (⟨"TrieVersionsModel", "setNow", "(II)V"⟩, 34), (⟨"TrieVersionsModel", "tellEdit", "()V"⟩, 34), (⟨"TrieVersionsModel", "steadOf", "(I)I"⟩, 34), (⟨"TrieVersionsModel", "isStead", "(IIII)Z"⟩, 34), (⟨"TrieVersionsModel", "takeNew", "()V"⟩, 34), (⟨"TrieVersionsModel", "ownMany", "()I"⟩, 34)]
theorem lw_r3 : ∀ q ∈ lw_privs_3, lw_okq q := List.forall_mem_cons.mpr ⟨lw_p32, List.forall_mem_cons.mpr ⟨lw_p33, List.forall_mem_cons.mpr ⟨lw_p34, List.forall_mem_cons.mpr ⟨lw_p35, List.forall_mem_cons.mpr ⟨lw_p36, List.forall_mem_cons.mpr ⟨lw_p37, List.forall_mem_cons.mpr ⟨lw_p38, List.forall_mem_cons.mpr ⟨lw_p39, List.forall_mem_cons.mpr ⟨lw_p40, List.forall_mem_cons.mpr ⟨lw_p41, List.forall_mem_cons.mpr ⟨lw_p42, List.forall_mem_cons.mpr ⟨lw_p43, List.forall_mem_cons.mpr ⟨lw_p44, List.forall_mem_cons.mpr ⟨lw_p45, List.forall_mem_cons.mpr ⟨lw_p46, List.forall_mem_cons.mpr ⟨lw_p47, fun _ h => absurd h List.not_mem_nil⟩⟩⟩⟩⟩⟩⟩⟩⟩⟩⟩⟩⟩⟩⟩⟩
theorem lw_p48 : lw_okq (⟨"TrieVersionsModel", "editNow", "(I)I"⟩, 34) := ⟨⟨by decide +kernel, by decide +kernel⟩, List.mem_of_getElem? (i := 459) (by decide +kernel), List.mem_of_getElem? (i := 752) (by decide +kernel), List.mem_of_getElem? (i := 753) (by decide +kernel)⟩
theorem lw_p49 : lw_okq (⟨"TrieVersionsModel", "goAlong", "()I"⟩, 34) := ⟨⟨by decide +kernel, by decide +kernel⟩, List.mem_of_getElem? (i := 459) (by decide +kernel), List.mem_of_getElem? (i := 768) (by decide +kernel), List.mem_of_getElem? (i := 769) (by decide +kernel)⟩
theorem lw_p50 : lw_okq (⟨"TrieVersionsModel", "takes", "(I)Z"⟩, 34) := ⟨⟨by decide +kernel, by decide +kernel⟩, List.mem_of_getElem? (i := 459) (by decide +kernel), List.mem_of_getElem? (i := 772) (by decide +kernel), List.mem_of_getElem? (i := 773) (by decide +kernel)⟩
theorem lw_p51 : lw_okq (⟨"TrieVersionsModel", "takesFigure", "(I)Z"⟩, 34) := ⟨⟨by decide +kernel, by decide +kernel⟩, List.mem_of_getElem? (i := 459) (by decide +kernel), List.mem_of_getElem? (i := 776) (by decide +kernel), List.mem_of_getElem? (i := 777) (by decide +kernel)⟩
theorem lw_p52 : lw_okq (⟨"TrieVersionsModel", "keepEntry", "()V"⟩, 34) := ⟨⟨by decide +kernel, by decide +kernel⟩, List.mem_of_getElem? (i := 459) (by decide +kernel), List.mem_of_getElem? (i := 780) (by decide +kernel), List.mem_of_getElem? (i := 781) (by decide +kernel)⟩
theorem lw_p53 : lw_okq (⟨"TrieVersionsModel", "readNow", "()I"⟩, 34) := ⟨⟨by decide +kernel, by decide +kernel⟩, List.mem_of_getElem? (i := 459) (by decide +kernel), List.mem_of_getElem? (i := 788) (by decide +kernel), List.mem_of_getElem? (i := 789) (by decide +kernel)⟩
theorem lw_p54 : lw_okq (⟨"TrieVersionsModel", "valueOf", "(II)I"⟩, 34) := ⟨⟨by decide +kernel, by decide +kernel⟩, List.mem_of_getElem? (i := 459) (by decide +kernel), List.mem_of_getElem? (i := 796) (by decide +kernel), List.mem_of_getElem? (i := 797) (by decide +kernel)⟩
theorem lw_p55 : lw_okq (⟨"TrieVersionsModel", "aboutNow", "(II)I"⟩, 34) := ⟨⟨by decide +kernel, by decide +kernel⟩, List.mem_of_getElem? (i := 459) (by decide +kernel), List.mem_of_getElem? (i := 804) (by decide +kernel), List.mem_of_getElem? (i := 805) (by decide +kernel)⟩
theorem lw_p56 : lw_okq (⟨"TrieVersionsModel", "ofKind", "(II)I"⟩, 34) := ⟨⟨by decide +kernel, by decide +kernel⟩, List.mem_of_getElem? (i := 459) (by decide +kernel), List.mem_of_getElem? (i := 808) (by decide +kernel), List.mem_of_getElem? (i := 809) (by decide +kernel)⟩
theorem lw_p57 : lw_okq (⟨"TrieVersionsModel", "deepest", "(I)I"⟩, 34) := ⟨⟨by decide +kernel, by decide +kernel⟩, List.mem_of_getElem? (i := 459) (by decide +kernel), List.mem_of_getElem? (i := 812) (by decide +kernel), List.mem_of_getElem? (i := 813) (by decide +kernel)⟩
theorem lw_p58 : lw_okq (⟨"TrieVersionsModel", "nodeNow", "(III)I"⟩, 34) := ⟨⟨by decide +kernel, by decide +kernel⟩, List.mem_of_getElem? (i := 459) (by decide +kernel), List.mem_of_getElem? (i := 820) (by decide +kernel), List.mem_of_getElem? (i := 821) (by decide +kernel)⟩
theorem lw_p59 : lw_okq (⟨"TrieVersionsModel", "partsBelow", "(II)I"⟩, 34) := ⟨⟨by decide +kernel, by decide +kernel⟩, List.mem_of_getElem? (i := 459) (by decide +kernel), List.mem_of_getElem? (i := 824) (by decide +kernel), List.mem_of_getElem? (i := 825) (by decide +kernel)⟩
theorem lw_p60 : lw_okq (⟨"TrieVersionsModel", "entryNow", "(III)I"⟩, 34) := ⟨⟨by decide +kernel, by decide +kernel⟩, List.mem_of_getElem? (i := 459) (by decide +kernel), List.mem_of_getElem? (i := 832) (by decide +kernel), List.mem_of_getElem? (i := 833) (by decide +kernel)⟩
theorem lw_p61 : lw_okq (⟨"TrieVersionsModel", "levelAt", "(II)I"⟩, 34) := ⟨⟨by decide +kernel, by decide +kernel⟩, List.mem_of_getElem? (i := 459) (by decide +kernel), List.mem_of_getElem? (i := 836) (by decide +kernel), List.mem_of_getElem? (i := 837) (by decide +kernel)⟩
theorem lw_p62 : lw_okq (⟨"TrieVersionsModel", "sharedNow", "(II)I"⟩, 34) := ⟨⟨by decide +kernel, by decide +kernel⟩, List.mem_of_getElem? (i := 459) (by decide +kernel), List.mem_of_getElem? (i := 844) (by decide +kernel), List.mem_of_getElem? (i := 845) (by decide +kernel)⟩
theorem lw_p63 : lw_okq (⟨"TrieVersionsModel", "hasNode", "(II)Z"⟩, 34) := ⟨⟨by decide +kernel, by decide +kernel⟩, List.mem_of_getElem? (i := 459) (by decide +kernel), List.mem_of_getElem? (i := 848) (by decide +kernel), List.mem_of_getElem? (i := 849) (by decide +kernel)⟩
def lw_privs_4 : List (MethodName × Nat) := [(⟨"TrieVersionsModel", "editNow", "(I)I"⟩, 34), (⟨"TrieVersionsModel", "goAlong", "()I"⟩, 34), (⟨"TrieVersionsModel", "takes", "(I)Z"⟩, 34), (⟨"TrieVersionsModel", "takesFigure", "(I)Z"⟩, 34), (⟨"TrieVersionsModel", "keepEntry", "()V"⟩, 34), (⟨"TrieVersionsModel", "readNow", "()I"⟩, 34), (⟨"TrieVersionsModel", "valueOf", "(II)I"⟩, 34), (⟨"TrieVersionsModel", "aboutNow", "(II)I"⟩, 34), (⟨"TrieVersionsModel", "ofKind", "(II)I"⟩, 34), (⟨"TrieVersionsModel", "deepest", "(I)I"⟩, 34), (⟨"TrieVersionsModel", "nodeNow", "(III)I"⟩, 34), (⟨"TrieVersionsModel", "partsBelow", "(II)I"⟩, 34), (⟨"TrieVersionsModel", "entryNow", "(III)I"⟩, 34), (⟨"TrieVersionsModel", "levelAt", "(II)I"⟩, 34), (⟨"TrieVersionsModel", "sharedNow", "(II)I"⟩, 34), (⟨"TrieVersionsModel", "hasNode", "(II)Z"⟩, 34)]
theorem lw_r4 : ∀ q ∈ lw_privs_4, lw_okq q := List.forall_mem_cons.mpr ⟨lw_p48, List.forall_mem_cons.mpr ⟨lw_p49, List.forall_mem_cons.mpr ⟨lw_p50, List.forall_mem_cons.mpr ⟨lw_p51, List.forall_mem_cons.mpr ⟨lw_p52, List.forall_mem_cons.mpr ⟨lw_p53, List.forall_mem_cons.mpr ⟨lw_p54, List.forall_mem_cons.mpr ⟨lw_p55, List.forall_mem_cons.mpr ⟨lw_p56, List.forall_mem_cons.mpr ⟨lw_p57, List.forall_mem_cons.mpr ⟨lw_p58, List.forall_mem_cons.mpr ⟨lw_p59, List.forall_mem_cons.mpr ⟨lw_p60, List.forall_mem_cons.mpr ⟨lw_p61, List.forall_mem_cons.mpr ⟨lw_p62, List.forall_mem_cons.mpr ⟨lw_p63, fun _ h => absurd h List.not_mem_nil⟩⟩⟩⟩⟩⟩⟩⟩⟩⟩⟩⟩⟩⟩⟩⟩
theorem lw_p64 : lw_okq (⟨"TrieVersionsModel", "twoNow", "(III)I"⟩, 34) := ⟨⟨by decide +kernel, by decide +kernel⟩, List.mem_of_getElem? (i := 459) (by decide +kernel), List.mem_of_getElem? (i := 856) (by decide +kernel), List.mem_of_getElem? (i := 857) (by decide +kernel)⟩
theorem lw_p65 : lw_okq (⟨"TrieVersionsModel", "alike", "(II)I"⟩, 34) := ⟨⟨by decide +kernel, by decide +kernel⟩, List.mem_of_getElem? (i := 459) (by decide +kernel), List.mem_of_getElem? (i := 860) (by decide +kernel), List.mem_of_getElem? (i := 861) (by decide +kernel)⟩
theorem lw_p66 : lw_okq (⟨"TrieVersionsModel", "howMany", "(I)I"⟩, 34) := ⟨⟨by decide +kernel, by decide +kernel⟩, List.mem_of_getElem? (i := 459) (by decide +kernel), List.mem_of_getElem? (i := 868) (by decide +kernel), List.mem_of_getElem? (i := 869) (by decide +kernel)⟩
theorem lw_p67 : lw_okq (⟨"TrieVersionsModel", "allNodes", "()I"⟩, 34) := ⟨⟨by decide +kernel, by decide +kernel⟩, List.mem_of_getElem? (i := 459) (by decide +kernel), List.mem_of_getElem? (i := 872) (by decide +kernel), List.mem_of_getElem? (i := 873) (by decide +kernel)⟩
theorem lw_p68 : lw_okq (⟨"TrieVersionsModel", "mixVersion", "(I)V"⟩, 34) := ⟨⟨by decide +kernel, by decide +kernel⟩, List.mem_of_getElem? (i := 459) (by decide +kernel), List.mem_of_getElem? (i := 881) (by decide +kernel), List.mem_of_getElem? (i := 882) (by decide +kernel)⟩
theorem lw_p69 : lw_okq (⟨"TrieVersionsModel", "mix", "(J)V"⟩, 34) := ⟨⟨by decide +kernel, by decide +kernel⟩, List.mem_of_getElem? (i := 459) (by decide +kernel), List.mem_of_getElem? (i := 885) (by decide +kernel), List.mem_of_getElem? (i := 886) (by decide +kernel)⟩
def lw_privs_5 : List (MethodName × Nat) := [(⟨"TrieVersionsModel", "twoNow", "(III)I"⟩, 34), (⟨"TrieVersionsModel", "alike", "(II)I"⟩, 34), (⟨"TrieVersionsModel", "howMany", "(I)I"⟩, 34), (⟨"TrieVersionsModel", "allNodes", "()I"⟩, 34), (⟨"TrieVersionsModel", "mixVersion", "(I)V"⟩, 34), (⟨"TrieVersionsModel", "mix", "(J)V"⟩, 34)]
theorem lw_r5 : ∀ q ∈ lw_privs_5, lw_okq q := List.forall_mem_cons.mpr ⟨lw_p64, List.forall_mem_cons.mpr ⟨lw_p65, List.forall_mem_cons.mpr ⟨lw_p66, List.forall_mem_cons.mpr ⟨lw_p67, List.forall_mem_cons.mpr ⟨lw_p68, List.forall_mem_cons.mpr ⟨lw_p69, fun _ h => absurd h List.not_mem_nil⟩⟩⟩⟩⟩⟩
def lw_privs : List (MethodName × Nat) := lw_privs_1 ++ (lw_privs_2 ++ (lw_privs_3 ++ (lw_privs_4 ++ (lw_privs_5))))
def lw_tbl : List Cond := k2_sels lw_privs ++ tables_1
theorem lw_privs_ok : ∀ q ∈ lw_privs, lw_okq q := by
  show ∀ q ∈ lw_privs_1 ++ (lw_privs_2 ++ (lw_privs_3 ++ (lw_privs_4 ++ (lw_privs_5)))), lw_okq q
  exact List.forall_mem_append.mpr ⟨lw_r1, List.forall_mem_append.mpr ⟨lw_r2, List.forall_mem_append.mpr ⟨lw_r3, List.forall_mem_append.mpr ⟨lw_r4, lw_r5⟩⟩⟩⟩
-- ===== end of PART A; then your names; then what follows =====
end
section
/-! ===== END ===== -/

/-! ===== BEGIN printed: names, fields, word lists, decode rows ===== -/
def RX0 : String := "TrieVersions$Page"
def TX0 : u_T := fun k => match k with
  | 0 => ("TrieVersions$Page", "codes", "[I", true)
  | 1 => ("TrieVersions$Page", "length", "I", false)
  | 2 => ("TrieVersions$Page", "isMap", "Z", false)
  | 3 => ("TrieVersions$Page", "pairs", "I", false)
  | 4 => ("TrieVersions$Page", "keys", "[I", true)
  | _ => ("TrieVersions$Page", "values", "[I", true)
def tyX0 : Nat → FieldType := fun k => match k with
  | 0 => .array .int
  | 1 => .int
  | 2 => .boolean
  | 3 => .int
  | 4 => .array .int
  | _ => .array .int
abbrev wsX00 : List Cond := u_ws RX0 TX0 6
theorem nmX0 : ∀ a, a < 6 → ∀ b, b < 6 → a ≠ b → (TX0 a).2.1 ≠ (TX0 b).2.1 := by decide +kernel
theorem tyX0_ok : ∀ k, k < 6 → parseFieldDescriptor (TX0 k).2.2.1 = some (tyX0 k) := by decide +kernel
abbrev cX0_init : ByteArray := prog_2_method_1_code
def yX0_init : MethodName := ⟨RX0, "<init>", "()V"⟩
abbrev cX0_scan : ByteArray := prog_2_method_2_code
def yX0_scan : MethodName := ⟨RX0, "scan", "()I"⟩
abbrev cX0_keep : ByteArray := prog_2_method_3_code
def yX0_keep : MethodName := ⟨RX0, "keep", "(ZI)V"⟩
abbrev cX0_grown : ByteArray := prog_2_method_4_code
def yX0_grown : MethodName := ⟨RX0, "grown", "(III)I"⟩
def RX1 : String := "TrieVersions$Tree"
def TX1 : u_T := fun k => match k with
  | 0 => ("TrieVersions$Tree", "entries", "I", false)
  | 1 => ("TrieVersions$Tree", "keys", "[I", true)
  | 2 => ("TrieVersions$Tree", "values", "[I", true)
  | 3 => ("TrieVersions$Tree", "ranks", "[I", true)
  | 4 => ("TrieVersions$Tree", "entryLevels", "[I", true)
  | 5 => ("TrieVersions$Tree", "nodes", "I", false)
  | 6 => ("TrieVersions$Tree", "numbers", "[I", true)
  | 7 => ("TrieVersions$Tree", "kinds", "[I", true)
  | 8 => ("TrieVersions$Tree", "levels", "[I", true)
  | 9 => ("TrieVersions$Tree", "firsts", "[I", true)
  | 10 => ("TrieVersions$Tree", "sizes", "[I", true)
  | 11 => ("TrieVersions$Tree", "masks", "[I", true)
  | 12 => ("TrieVersions$Tree", "spans", "[I", true)
  | 13 => ("TrieVersions$Tree", "places", "[J", true)
  | _ => ("TrieVersions$Tree", "newNodes", "I", false)
def tyX1 : Nat → FieldType := fun k => match k with
  | 0 => .int
  | 1 => .array .int
  | 2 => .array .int
  | 3 => .array .int
  | 4 => .array .int
  | 5 => .int
  | 6 => .array .int
  | 7 => .array .int
  | 8 => .array .int
  | 9 => .array .int
  | 10 => .array .int
  | 11 => .array .int
  | 12 => .array .int
  | 13 => .array .long
  | _ => .int
abbrev wsX10 : List Cond := u_ws RX1 TX1 15
theorem nmX1 : ∀ a, a < 15 → ∀ b, b < 15 → a ≠ b → (TX1 a).2.1 ≠ (TX1 b).2.1 := by decide +kernel
theorem tyX1_ok : ∀ k, k < 15 → parseFieldDescriptor (TX1 k).2.2.1 = some (tyX1 k) := by decide +kernel
abbrev cX1_init : ByteArray := prog_3_method_1_code
def yX1_init : MethodName := ⟨RX1, "<init>", "()V"⟩
abbrev cX1_empty : ByteArray := prog_3_method_2_code
def yX1_empty : MethodName := ⟨RX1, "empty", "()V"⟩
abbrev cX1_copyEntries : ByteArray := prog_3_method_3_code
def yX1_copyEntries : MethodName := ⟨RX1, "copyEntries", "(LTrieVersions$Tree;)V"⟩
abbrev cX1_copyAll : ByteArray := prog_3_method_4_code
def yX1_copyAll : MethodName := ⟨RX1, "copyAll", "(LTrieVersions$Tree;)V"⟩
abbrev cX1_unite : ByteArray := prog_3_method_5_code
def yX1_unite : MethodName := ⟨RX1, "unite", "(LTrieVersions$Tree;LTrieVersions$Tree;)V"⟩
abbrev cX1_select : ByteArray := prog_3_method_6_code
def yX1_select : MethodName := ⟨RX1, "select", "(LTrieVersions$Tree;LTrieVersions$Tree;Z)V"⟩
abbrev cX1_choose : ByteArray := prog_3_method_7_code
def yX1_choose : MethodName := ⟨RX1, "choose", "(LTrieVersions$Tree;II)V"⟩
abbrev cX1_append : ByteArray := prog_3_method_8_code
def yX1_append : MethodName := ⟨RX1, "append", "(LTrieVersions$Tree;I)V"⟩
abbrev cX1_give : ByteArray := prog_3_method_9_code
def yX1_give : MethodName := ⟨RX1, "give", "(III)V"⟩
abbrev cX1_insert : ByteArray := prog_3_method_10_code
def yX1_insert : MethodName := ⟨RX1, "insert", "(III)V"⟩
abbrev cX1_isBehind : ByteArray := prog_3_method_11_code
def yX1_isBehind : MethodName := ⟨RX1, "isBehind", "(III)Z"⟩
abbrev cX1_drop : ByteArray := prog_3_method_12_code
def yX1_drop : MethodName := ⟨RX1, "drop", "(I)V"⟩
abbrev cX1_indexOfKey : ByteArray := prog_3_method_13_code
def yX1_indexOfKey : MethodName := ⟨RX1, "indexOfKey", "(I)I"⟩
abbrev cX1_hasRoomFor : ByteArray := prog_3_method_14_code
def yX1_hasRoomFor : MethodName := ⟨RX1, "hasRoomFor", "(I)Z"⟩
abbrev cX1_keysAlsoIn : ByteArray := prog_3_method_15_code
def yX1_keysAlsoIn : MethodName := ⟨RX1, "keysAlsoIn", "(LTrieVersions$Tree;)I"⟩
abbrev cX1_pairsAlsoIn : ByteArray := prog_3_method_16_code
def yX1_pairsAlsoIn : MethodName := ⟨RX1, "pairsAlsoIn", "(LTrieVersions$Tree;)I"⟩
abbrev cX1_layNodes : ByteArray := prog_3_method_17_code
def yX1_layNodes : MethodName := ⟨RX1, "layNodes", "()V"⟩
abbrev cX1_layTree : ByteArray := prog_3_method_18_code
def yX1_layTree : MethodName := ⟨RX1, "layTree", "(LTrieVersions$Tree;III)V"⟩
abbrev cX1_levelEntries : ByteArray := prog_3_method_19_code
def yX1_levelEntries : MethodName := ⟨RX1, "levelEntries", "(III)V"⟩
abbrev cX1_layBelow : ByteArray := prog_3_method_20_code
def yX1_layBelow : MethodName := ⟨RX1, "layBelow", "(LTrieVersions$Tree;III)I"⟩
abbrev cX1_kindOfTree : ByteArray := prog_3_method_21_code
def yX1_kindOfTree : MethodName := ⟨RX1, "kindOfTree", "(III)I"⟩
abbrev cX1_bitsBelow : ByteArray := prog_3_method_22_code
def yX1_bitsBelow : MethodName := ⟨RX1, "bitsBelow", "(I)I"⟩
abbrev cX1_partOf : ByteArray := prog_3_method_23_code
def yX1_partOf : MethodName := ⟨RX1, "partOf", "(II)I"⟩
abbrev cX1_placeOf : ByteArray := prog_3_method_24_code
def yX1_placeOf : MethodName := ⟨RX1, "placeOf", "(IIII)J"⟩
abbrev cX1_packed : ByteArray := prog_3_method_25_code
def yX1_packed : MethodName := ⟨RX1, "packed", "(III)J"⟩
abbrev cX1_indexOfPlace : ByteArray := prog_3_method_26_code
def yX1_indexOfPlace : MethodName := ⟨RX1, "indexOfPlace", "(J)I"⟩
abbrev cX1_isEqualNode : ByteArray := prog_3_method_27_code
def yX1_isEqualNode : MethodName := ⟨RX1, "isEqualNode", "(ILTrieVersions$Tree;I)Z"⟩
abbrev cX1_takeNodes : ByteArray := prog_3_method_28_code
def yX1_takeNodes : MethodName := ⟨RX1, "takeNodes", "(ILTrieVersions$Tree;)I"⟩
abbrev cX1_hasNodeOf : ByteArray := prog_3_method_29_code
def yX1_hasNodeOf : MethodName := ⟨RX1, "hasNodeOf", "(LTrieVersions$Tree;I)Z"⟩
abbrev cX1_nodesFrom : ByteArray := prog_3_method_30_code
def yX1_nodesFrom : MethodName := ⟨RX1, "nodesFrom", "(I)I"⟩
abbrev cX1_nodesOfKind : ByteArray := prog_3_method_31_code
def yX1_nodesOfKind : MethodName := ⟨RX1, "nodesOfKind", "(I)I"⟩
abbrev cX1_greatestLevel : ByteArray := prog_3_method_32_code
def yX1_greatestLevel : MethodName := ⟨RX1, "greatestLevel", "()I"⟩
def RX2 : String := "TrieVersions"
def TX2 : u_T := fun k => match k with
  | 0 => ("TrieVersions", "versions", "[LTrieVersions$Tree;", true)
  | 1 => ("TrieVersions", "versionCount", "I", false)
  | 2 => ("TrieVersions", "page", "LTrieVersions$Page;", true)
  | 3 => ("TrieVersions", "factor", "I", false)
  | 4 => ("TrieVersions", "width", "I", false)
  | 5 => ("TrieVersions", "madeNodes", "I", false)
  | 6 => ("TrieVersions", "mapsRead", "I", false)
  | 7 => ("TrieVersions", "sealsMade", "I", false)
  | 8 => ("TrieVersions", "draft", "LTrieVersions$Tree;", false)
  | 9 => ("TrieVersions", "draftOpen", "Z", false)
  | 10 => ("TrieVersions", "draftMade", "I", false)
  | 11 => ("TrieVersions", "draftOwnFrom", "I", false)
  | _ => ("TrieVersions", "spare", "LTrieVersions$Tree;", false)
def tyX2 : Nat → FieldType := fun k => match k with
  | 0 => .array (.object "TrieVersions$Tree")
  | 1 => .int
  | 2 => .object "TrieVersions$Page"
  | 3 => .int
  | 4 => .int
  | 5 => .int
  | 6 => .int
  | 7 => .int
  | 8 => .object "TrieVersions$Tree"
  | 9 => .boolean
  | 10 => .int
  | 11 => .int
  | _ => .object "TrieVersions$Tree"
abbrev wsX20 : List Cond := u_ws RX2 TX2 13
theorem nmX2 : ∀ a, a < 13 → ∀ b, b < 13 → a ≠ b → (TX2 a).2.1 ≠ (TX2 b).2.1 := by decide +kernel
theorem tyX2_ok : ∀ k, k < 13 → parseFieldDescriptor (TX2 k).2.2.1 = some (tyX2 k) := by decide +kernel
abbrev cX2_init : ByteArray := prog_1_method_1_code
def yX2_init : MethodName := ⟨RX2, "<init>", "()V"⟩
abbrev cX2_letter : ByteArray := prog_1_method_2_code
def yX2_letter : MethodName := ⟨RX2, "letter", "(I)I"⟩
abbrev cX2_blank : ByteArray := prog_1_method_3_code
def yX2_blank : MethodName := ⟨RX2, "blank", "()I"⟩
abbrev cX2_fault : ByteArray := prog_1_method_4_code
def yX2_fault : MethodName := ⟨RX2, "fault", "()I"⟩
abbrev cX2_read : ByteArray := prog_1_method_5_code
def yX2_read : MethodName := ⟨RX2, "read", "()I"⟩
abbrev cX2_scheme : ByteArray := prog_1_method_6_code
def yX2_scheme : MethodName := ⟨RX2, "scheme", "(II)I"⟩
abbrev cX2_hash : ByteArray := prog_1_method_7_code
def yX2_hash : MethodName := ⟨RX2, "hash", "(I)I"⟩
abbrev cX2_put : ByteArray := prog_1_method_8_code
def yX2_put : MethodName := ⟨RX2, "put", "(III)I"⟩
abbrev cX2_remove : ByteArray := prog_1_method_9_code
def yX2_remove : MethodName := ⟨RX2, "remove", "(II)I"⟩
abbrev cX2_both : ByteArray := prog_1_method_10_code
def yX2_both : MethodName := ⟨RX2, "both", "(III)I"⟩
abbrev cX2_chosen : ByteArray := prog_1_method_11_code
def yX2_chosen : MethodName := ⟨RX2, "chosen", "(III)I"⟩
abbrev cX2_forget : ByteArray := prog_1_method_12_code
def yX2_forget : MethodName := ⟨RX2, "forget", "()I"⟩
abbrev cX2_begin : ByteArray := prog_1_method_13_code
def yX2_begin : MethodName := ⟨RX2, "begin", "(I)I"⟩
abbrev cX2_set : ByteArray := prog_1_method_14_code
def yX2_set : MethodName := ⟨RX2, "set", "(II)I"⟩
abbrev cX2_unset : ByteArray := prog_1_method_15_code
def yX2_unset : MethodName := ⟨RX2, "unset", "(I)I"⟩
abbrev cX2_seal : ByteArray := prog_1_method_16_code
def yX2_seal : MethodName := ⟨RX2, "seal", "()I"⟩
abbrev cX2_leave : ByteArray := prog_1_method_17_code
def yX2_leave : MethodName := ⟨RX2, "leave", "()I"⟩
abbrev cX2_edit : ByteArray := prog_1_method_18_code
def yX2_edit : MethodName := ⟨RX2, "edit", "(I)I"⟩
abbrev cX2_get : ByteArray := prog_1_method_19_code
def yX2_get : MethodName := ⟨RX2, "get", "(II)I"⟩
abbrev cX2_about : ByteArray := prog_1_method_20_code
def yX2_about : MethodName := ⟨RX2, "about", "(II)I"⟩
abbrev cX2_node : ByteArray := prog_1_method_21_code
def yX2_node : MethodName := ⟨RX2, "node", "(III)I"⟩
abbrev cX2_entry : ByteArray := prog_1_method_22_code
def yX2_entry : MethodName := ⟨RX2, "entry", "(III)I"⟩
abbrev cX2_shared : ByteArray := prog_1_method_23_code
def yX2_shared : MethodName := ⟨RX2, "shared", "(II)I"⟩
abbrev cX2_two : ByteArray := prog_1_method_24_code
def yX2_two : MethodName := ⟨RX2, "two", "(III)I"⟩
abbrev cX2_count : ByteArray := prog_1_method_25_code
def yX2_count : MethodName := ⟨RX2, "count", "(I)I"⟩
abbrev cX2_digest : ByteArray := prog_1_method_26_code
def yX2_digest : MethodName := ⟨RX2, "digest", "()J"⟩
abbrev cX2_digestOfVersion : ByteArray := prog_1_method_27_code
def yX2_digestOfVersion : MethodName := ⟨RX2, "digestOfVersion", "(JI)J"⟩
abbrev cX2_joined : ByteArray := prog_1_method_28_code
def yX2_joined : MethodName := ⟨RX2, "joined", "(JI)J"⟩
abbrev cX2_isVersion : ByteArray := prog_1_method_29_code
def yX2_isVersion : MethodName := ⟨RX2, "isVersion", "(I)Z"⟩
abbrev cX2_isFullOfVersions : ByteArray := prog_1_method_30_code
def yX2_isFullOfVersions : MethodName := ⟨RX2, "isFullOfVersions", "()Z"⟩
abbrev cX2_isKey : ByteArray := prog_1_method_31_code
def yX2_isKey : MethodName := ⟨RX2, "isKey", "(I)Z"⟩
abbrev cX2_isValue : ByteArray := prog_1_method_32_code
def yX2_isValue : MethodName := ⟨RX2, "isValue", "(I)Z"⟩
abbrev cX2_hashOf : ByteArray := prog_1_method_33_code
def yX2_hashOf : MethodName := ⟨RX2, "hashOf", "(I)I"⟩
abbrev cX2_rankOf : ByteArray := prog_1_method_34_code
def yX2_rankOf : MethodName := ⟨RX2, "rankOf", "(I)I"⟩
abbrev cX2_shareNodes : ByteArray := prog_1_method_35_code
def yX2_shareNodes : MethodName := ⟨RX2, "shareNodes", "(LTrieVersions$Tree;LTrieVersions$Tree;LTrieVersions$Tree;)V"⟩
abbrev cX2_editNodes : ByteArray := prog_1_method_36_code
def yX2_editNodes : MethodName := ⟨RX2, "editNodes", "(LTrieVersions$Tree;LTrieVersions$Tree;I)I"⟩
abbrev cX2_redraft : ByteArray := prog_1_method_37_code
def yX2_redraft : MethodName := ⟨RX2, "redraft", "()I"⟩
abbrev cX2_addVersion : ByteArray := prog_1_method_38_code
def yX2_addVersion : MethodName := ⟨RX2, "addVersion", "()I"⟩
abbrev cX2_isNodeOfVersion : ByteArray := prog_1_method_39_code
def yX2_isNodeOfVersion : MethodName := ⟨RX2, "isNodeOfVersion", "(LTrieVersions$Tree;I)Z"⟩
abbrev cX2_differentNodes : ByteArray := prog_1_method_40_code
def yX2_differentNodes : MethodName := ⟨RX2, "differentNodes", "()I"⟩
def RX3 : String := "TrieVersionsModel"
def TX3 : u_T := fun k => match k with
  | 0 => ("TrieVersionsModel", "pageLength", "I", false)
  | 1 => ("TrieVersionsModel", "page", "[I", true)
  | 2 => ("TrieVersionsModel", "factorNow", "I", false)
  | 3 => ("TrieVersionsModel", "widthNow", "I", false)
  | 4 => ("TrieVersionsModel", "versions", "I", false)
  | 5 => ("TrieVersionsModel", "isOpen", "Z", false)
  | 6 => ("TrieVersionsModel", "madeInEdit", "I", false)
  | 7 => ("TrieVersionsModel", "madeEver", "I", false)
  | 8 => ("TrieVersionsModel", "reads", "I", false)
  | 9 => ("TrieVersionsModel", "seals", "I", false)
  | 10 => ("TrieVersionsModel", "size", "[I", true)
  | 11 => ("TrieVersionsModel", "keys", "[I", true)
  | 12 => ("TrieVersionsModel", "values", "[I", true)
  | 13 => ("TrieVersionsModel", "nodes", "[I", true)
  | 14 => ("TrieVersionsModel", "kindOf", "[I", true)
  | 15 => ("TrieVersionsModel", "levelOf", "[I", true)
  | 16 => ("TrieVersionsModel", "fromOf", "[I", true)
  | 17 => ("TrieVersionsModel", "manyOf", "[I", true)
  | 18 => ("TrieVersionsModel", "idOf", "[I", true)
  | 19 => ("TrieVersionsModel", "isOwn", "[Z", true)
  | 20 => ("TrieVersionsModel", "pileFrom", "[I", true)
  | 21 => ("TrieVersionsModel", "pileTo", "[I", true)
  | 22 => ("TrieVersionsModel", "pileLevel", "[I", true)
  | 23 => ("TrieVersionsModel", "piled", "I", false)
  | 24 => ("TrieVersionsModel", "newEntries", "I", false)
  | 25 => ("TrieVersionsModel", "newKeys", "[I", true)
  | 26 => ("TrieVersionsModel", "newValues", "[I", true)
  | 27 => ("TrieVersionsModel", "isValue", "Z", false)
  | 28 => ("TrieVersionsModel", "number", "I", false)
  | 29 => ("TrieVersionsModel", "asideKeys", "[I", true)
  | 30 => ("TrieVersionsModel", "asideValues", "[I", true)
  | 31 => ("TrieVersionsModel", "asideId", "[I", true)
  | 32 => ("TrieVersionsModel", "asideOwn", "[Z", true)
  | _ => ("TrieVersionsModel", "h", "J", false)
def tyX3 : Nat → FieldType := fun k => match k with
  | 0 => .int
  | 1 => .array .int
  | 2 => .int
  | 3 => .int
  | 4 => .int
  | 5 => .boolean
  | 6 => .int
  | 7 => .int
  | 8 => .int
  | 9 => .int
  | 10 => .array .int
  | 11 => .array .int
  | 12 => .array .int
  | 13 => .array .int
  | 14 => .array .int
  | 15 => .array .int
  | 16 => .array .int
  | 17 => .array .int
  | 18 => .array .int
  | 19 => .array .boolean
  | 20 => .array .int
  | 21 => .array .int
  | 22 => .array .int
  | 23 => .int
  | 24 => .int
  | 25 => .array .int
  | 26 => .array .int
  | 27 => .boolean
  | 28 => .int
  | 29 => .array .int
  | 30 => .array .int
  | 31 => .array .int
  | 32 => .array .boolean
  | _ => .long
abbrev wsX30 : List Cond := u_ws RX3 TX3 34
theorem nmX3 : ∀ a, a < 34 → ∀ b, b < 34 → a ≠ b → (TX3 a).2.1 ≠ (TX3 b).2.1 := by decide +kernel
theorem tyX3_ok : ∀ k, k < 34 → parseFieldDescriptor (TX3 k).2.2.1 = some (tyX3 k) := by decide +kernel
abbrev cX3_init : ByteArray := prog_5_method_1_code
def yX3_init : MethodName := ⟨RX3, "<init>", "()V"⟩
abbrev cX3_within : ByteArray := prog_5_method_3_code
def yX3_within : MethodName := ⟨RX3, "within", "(III)Z"⟩
abbrev cX3_hashOf : ByteArray := prog_5_method_4_code
def yX3_hashOf : MethodName := ⟨RX3, "hashOf", "(I)I"⟩
abbrev cX3_partOf : ByteArray := prog_5_method_5_code
def yX3_partOf : MethodName := ⟨RX3, "partOf", "(II)I"⟩
abbrev cX3_hash : ByteArray := prog_5_method_6_code
def yX3_hash : MethodName := ⟨RX3, "hash", "(I)I"⟩
abbrev cX3_scheme : ByteArray := prog_5_method_7_code
def yX3_scheme : MethodName := ⟨RX3, "scheme", "(II)I"⟩
abbrev cX3_isAhead : ByteArray := prog_5_method_8_code
def yX3_isAhead : MethodName := ⟨RX3, "isAhead", "(II)Z"⟩
abbrev cX3_keyAt : ByteArray := prog_5_method_9_code
def yX3_keyAt : MethodName := ⟨RX3, "keyAt", "(II)I"⟩
abbrev cX3_valueAt : ByteArray := prog_5_method_10_code
def yX3_valueAt : MethodName := ⟨RX3, "valueAt", "(II)I"⟩
abbrev cX3_placeOf : ByteArray := prog_5_method_11_code
def yX3_placeOf : MethodName := ⟨RX3, "placeOf", "(II)I"⟩
abbrev cX3_copyTo : ByteArray := prog_5_method_12_code
def yX3_copyTo : MethodName := ⟨RX3, "copyTo", "(II)V"⟩
abbrev cX3_give : ByteArray := prog_5_method_13_code
def yX3_give : MethodName := ⟨RX3, "give", "(III)V"⟩
abbrev cX3_takeFrom : ByteArray := prog_5_method_14_code
def yX3_takeFrom : MethodName := ⟨RX3, "takeFrom", "(II)V"⟩
abbrev cX3_pile : ByteArray := prog_5_method_15_code
def yX3_pile : MethodName := ⟨RX3, "pile", "(III)V"⟩
abbrev cX3_isOneHash : ByteArray := prog_5_method_16_code
def yX3_isOneHash : MethodName := ⟨RX3, "isOneHash", "(III)Z"⟩
abbrev cX3_partAt : ByteArray := prog_5_method_17_code
def yX3_partAt : MethodName := ⟨RX3, "partAt", "(III)I"⟩
abbrev cX3_layNodes : ByteArray := prog_5_method_18_code
def yX3_layNodes : MethodName := ⟨RX3, "layNodes", "(I)V"⟩
abbrev cX3_layNode : ByteArray := prog_5_method_19_code
def yX3_layNode : MethodName := ⟨RX3, "layNode", "(IIII)V"⟩
abbrev cX3_widthOf : ByteArray := prog_5_method_20_code
def yX3_widthOf : MethodName := ⟨RX3, "widthOf", "(II)I"⟩
abbrev cX3_isLike : ByteArray := prog_5_method_21_code
def yX3_isLike : MethodName := ⟨RX3, "isLike", "(IIII)Z"⟩
abbrev cX3_likeIn : ByteArray := prog_5_method_22_code
def yX3_likeIn : MethodName := ⟨RX3, "likeIn", "(III)I"⟩
abbrev cX3_takeAll : ByteArray := prog_5_method_23_code
def yX3_takeAll : MethodName := ⟨RX3, "takeAll", "(IIII)I"⟩
abbrev cX3_make : ByteArray := prog_5_method_24_code
def yX3_make : MethodName := ⟨RX3, "make", "(I)V"⟩
abbrev cX3_tellNew : ByteArray := prog_5_method_25_code
def yX3_tellNew : MethodName := ⟨RX3, "tellNew", "(II)V"⟩
abbrev cX3_keepNew : ByteArray := prog_5_method_26_code
def yX3_keepNew : MethodName := ⟨RX3, "keepNew", "(I)I"⟩
abbrev cX3_copyNode : ByteArray := prog_5_method_27_code
def yX3_copyNode : MethodName := ⟨RX3, "copyNode", "(III)V"⟩
abbrev cX3_isVersion : ByteArray := prog_5_method_28_code
def yX3_isVersion : MethodName := ⟨RX3, "isVersion", "(I)Z"⟩
abbrev cX3_put : ByteArray := prog_5_method_29_code
def yX3_put : MethodName := ⟨RX3, "put", "(III)I"⟩
abbrev cX3_remove : ByteArray := prog_5_method_30_code
def yX3_remove : MethodName := ⟨RX3, "remove", "(II)I"⟩
abbrev cX3_inBoth : ByteArray := prog_5_method_31_code
def yX3_inBoth : MethodName := ⟨RX3, "inBoth", "(II)I"⟩
abbrev cX3_layBoth : ByteArray := prog_5_method_32_code
def yX3_layBoth : MethodName := ⟨RX3, "layBoth", "(III)V"⟩
abbrev cX3_both : ByteArray := prog_5_method_33_code
def yX3_both : MethodName := ⟨RX3, "both", "(III)I"⟩
abbrev cX3_chosen : ByteArray := prog_5_method_34_code
def yX3_chosen : MethodName := ⟨RX3, "chosen", "(III)I"⟩
abbrev cX3_forget : ByteArray := prog_5_method_35_code
def yX3_forget : MethodName := ⟨RX3, "forget", "()I"⟩
abbrev cX3_steadOf : ByteArray := prog_5_method_36_code
def yX3_steadOf : MethodName := ⟨RX3, "steadOf", "(I)I"⟩
abbrev cX3_isStead : ByteArray := prog_5_method_37_code
def yX3_isStead : MethodName := ⟨RX3, "isStead", "(IIII)Z"⟩
abbrev cX3_tellEdit : ByteArray := prog_5_method_38_code
def yX3_tellEdit : MethodName := ⟨RX3, "tellEdit", "()V"⟩
abbrev cX3_takeNew : ByteArray := prog_5_method_39_code
def yX3_takeNew : MethodName := ⟨RX3, "takeNew", "()V"⟩
abbrev cX3_beginEdit : ByteArray := prog_5_method_40_code
def yX3_beginEdit : MethodName := ⟨RX3, "beginEdit", "(I)V"⟩
abbrev cX3_setNow : ByteArray := prog_5_method_41_code
def yX3_setNow : MethodName := ⟨RX3, "setNow", "(II)V"⟩
abbrev cX3_begin : ByteArray := prog_5_method_42_code
def yX3_begin : MethodName := ⟨RX3, "begin", "(I)I"⟩
abbrev cX3_set : ByteArray := prog_5_method_43_code
def yX3_set : MethodName := ⟨RX3, "set", "(II)I"⟩
abbrev cX3_unset : ByteArray := prog_5_method_44_code
def yX3_unset : MethodName := ⟨RX3, "unset", "(I)I"⟩
abbrev cX3_seal : ByteArray := prog_5_method_45_code
def yX3_seal : MethodName := ⟨RX3, "seal", "()I"⟩
abbrev cX3_ownMany : ByteArray := prog_5_method_46_code
def yX3_ownMany : MethodName := ⟨RX3, "ownMany", "()I"⟩
abbrev cX3_leave : ByteArray := prog_5_method_47_code
def yX3_leave : MethodName := ⟨RX3, "leave", "()I"⟩
abbrev cX3_editNow : ByteArray := prog_5_method_48_code
def yX3_editNow : MethodName := ⟨RX3, "editNow", "(I)I"⟩
abbrev cX3_edit : ByteArray := prog_5_method_49_code
def yX3_edit : MethodName := ⟨RX3, "edit", "(I)I"⟩
abbrev cX3_letter : ByteArray := prog_5_method_50_code
def yX3_letter : MethodName := ⟨RX3, "letter", "(I)I"⟩
abbrev cX3_blank : ByteArray := prog_5_method_51_code
def yX3_blank : MethodName := ⟨RX3, "blank", "()I"⟩
abbrev cX3_takesFigure : ByteArray := prog_5_method_52_code
def yX3_takesFigure : MethodName := ⟨RX3, "takesFigure", "(I)Z"⟩
abbrev cX3_takes : ByteArray := prog_5_method_53_code
def yX3_takes : MethodName := ⟨RX3, "takes", "(I)Z"⟩
abbrev cX3_keepEntry : ByteArray := prog_5_method_54_code
def yX3_keepEntry : MethodName := ⟨RX3, "keepEntry", "()V"⟩
abbrev cX3_goAlong : ByteArray := prog_5_method_55_code
def yX3_goAlong : MethodName := ⟨RX3, "goAlong", "()I"⟩
abbrev cX3_fault : ByteArray := prog_5_method_56_code
def yX3_fault : MethodName := ⟨RX3, "fault", "()I"⟩
abbrev cX3_readNow : ByteArray := prog_5_method_57_code
def yX3_readNow : MethodName := ⟨RX3, "readNow", "()I"⟩
abbrev cX3_read : ByteArray := prog_5_method_58_code
def yX3_read : MethodName := ⟨RX3, "read", "()I"⟩
abbrev cX3_valueOf : ByteArray := prog_5_method_59_code
def yX3_valueOf : MethodName := ⟨RX3, "valueOf", "(II)I"⟩
abbrev cX3_get : ByteArray := prog_5_method_60_code
def yX3_get : MethodName := ⟨RX3, "get", "(II)I"⟩
abbrev cX3_ofKind : ByteArray := prog_5_method_61_code
def yX3_ofKind : MethodName := ⟨RX3, "ofKind", "(II)I"⟩
abbrev cX3_deepest : ByteArray := prog_5_method_62_code
def yX3_deepest : MethodName := ⟨RX3, "deepest", "(I)I"⟩
abbrev cX3_aboutNow : ByteArray := prog_5_method_63_code
def yX3_aboutNow : MethodName := ⟨RX3, "aboutNow", "(II)I"⟩
abbrev cX3_about : ByteArray := prog_5_method_64_code
def yX3_about : MethodName := ⟨RX3, "about", "(II)I"⟩
abbrev cX3_partsBelow : ByteArray := prog_5_method_65_code
def yX3_partsBelow : MethodName := ⟨RX3, "partsBelow", "(II)I"⟩
abbrev cX3_nodeNow : ByteArray := prog_5_method_66_code
def yX3_nodeNow : MethodName := ⟨RX3, "nodeNow", "(III)I"⟩
abbrev cX3_node : ByteArray := prog_5_method_67_code
def yX3_node : MethodName := ⟨RX3, "node", "(III)I"⟩
abbrev cX3_levelAt : ByteArray := prog_5_method_68_code
def yX3_levelAt : MethodName := ⟨RX3, "levelAt", "(II)I"⟩
abbrev cX3_entryNow : ByteArray := prog_5_method_69_code
def yX3_entryNow : MethodName := ⟨RX3, "entryNow", "(III)I"⟩
abbrev cX3_entry : ByteArray := prog_5_method_70_code
def yX3_entry : MethodName := ⟨RX3, "entry", "(III)I"⟩
abbrev cX3_hasNode : ByteArray := prog_5_method_71_code
def yX3_hasNode : MethodName := ⟨RX3, "hasNode", "(II)Z"⟩
abbrev cX3_sharedNow : ByteArray := prog_5_method_72_code
def yX3_sharedNow : MethodName := ⟨RX3, "sharedNow", "(II)I"⟩
abbrev cX3_shared : ByteArray := prog_5_method_73_code
def yX3_shared : MethodName := ⟨RX3, "shared", "(II)I"⟩
abbrev cX3_alike : ByteArray := prog_5_method_74_code
def yX3_alike : MethodName := ⟨RX3, "alike", "(II)I"⟩
abbrev cX3_twoNow : ByteArray := prog_5_method_75_code
def yX3_twoNow : MethodName := ⟨RX3, "twoNow", "(III)I"⟩
abbrev cX3_two : ByteArray := prog_5_method_76_code
def yX3_two : MethodName := ⟨RX3, "two", "(III)I"⟩
abbrev cX3_allNodes : ByteArray := prog_5_method_77_code
def yX3_allNodes : MethodName := ⟨RX3, "allNodes", "()I"⟩
abbrev cX3_howMany : ByteArray := prog_5_method_78_code
def yX3_howMany : MethodName := ⟨RX3, "howMany", "(I)I"⟩
abbrev cX3_count : ByteArray := prog_5_method_79_code
def yX3_count : MethodName := ⟨RX3, "count", "(I)I"⟩
abbrev cX3_mix : ByteArray := prog_5_method_80_code
def yX3_mix : MethodName := ⟨RX3, "mix", "(J)V"⟩
abbrev cX3_mixVersion : ByteArray := prog_5_method_81_code
def yX3_mixVersion : MethodName := ⟨RX3, "mixVersion", "(I)V"⟩
abbrev cX3_digest : ByteArray := prog_5_method_82_code
def yX3_digest : MethodName := ⟨RX3, "digest", "()J"⟩
def RJ9 : String := "java/lang/Math"
def TJ9 : u_T := fun k => match k with
  | _ => ("", "", "", false)
def tyJ9 : Nat → FieldType := fun k => match k with
  | _ => .int
abbrev wsJ90 : List Cond := u_ws RJ9 TJ9 0
theorem nmJ9 : ∀ a, a < 0 → ∀ b, b < 0 → a ≠ b → (TJ9 a).2.1 ≠ (TJ9 b).2.1 := by decide +kernel
theorem tyJ9_ok : ∀ k, k < 0 → parseFieldDescriptor (TJ9 k).2.2.1 = some (tyJ9 k) := by decide +kernel
abbrev cJ9_max_7cf53 : ByteArray := prog_6_method_65_code
def yJ9_max_7cf53 : MethodName := ⟨RJ9, "max", "(II)I"⟩
def RJ10 : String := "java/lang/System"
def TJ10 : u_T := fun k => match k with
  | _ => ("", "", "", false)
def tyJ10 : Nat → FieldType := fun k => match k with
  | _ => .int
abbrev wsJ100 : List Cond := u_ws RJ10 TJ10 0
theorem nmJ10 : ∀ a, a < 0 → ∀ b, b < 0 → a ≠ b → (TJ10 a).2.1 ≠ (TJ10 b).2.1 := by decide +kernel
theorem tyJ10_ok : ∀ k, k < 0 → parseFieldDescriptor (TJ10 k).2.2.1 = some (tyJ10 k) := by decide +kernel
def RL : String := "TrieVersionsLaw"
abbrev cL_law : ByteArray := code
def yL_law : MethodName := ⟨RL, "law", "([I)Z"⟩
end
section
theorem dX0_init_0 : decode cX0_init 0 = .ok (.aload_n 0, 1) := by decide +kernel
theorem dX0_init_1 : decode cX0_init 1 = .ok (.invokespecial 3, 3) := by decide +kernel
theorem dX0_init_4 : decode cX0_init 4 = .ok (.aload_n 0, 1) := by decide +kernel
theorem dX0_init_5 : decode cX0_init 5 = .ok (.bipush 60, 2) := by decide +kernel
theorem dX0_init_7 : decode cX0_init 7 = .ok (.newarray .int, 2) := by decide +kernel
theorem dX0_init_9 : decode cX0_init 9 = .ok (.putfield 9, 3) := by decide +kernel
theorem dX0_init_12 : decode cX0_init 12 = .ok (.aload_n 0, 1) := by decide +kernel
theorem dX0_init_13 : decode cX0_init 13 = .ok (.iconst 0, 1) := by decide +kernel
theorem dX0_init_14 : decode cX0_init 14 = .ok (.putfield 15, 3) := by decide +kernel
theorem dX0_init_17 : decode cX0_init 17 = .ok (.aload_n 0, 1) := by decide +kernel
theorem dX0_init_18 : decode cX0_init 18 = .ok (.iconst 1, 1) := by decide +kernel
theorem dX0_init_19 : decode cX0_init 19 = .ok (.putfield 19, 3) := by decide +kernel
theorem dX0_init_22 : decode cX0_init 22 = .ok (.aload_n 0, 1) := by decide +kernel
theorem dX0_init_23 : decode cX0_init 23 = .ok (.iconst 0, 1) := by decide +kernel
theorem dX0_init_24 : decode cX0_init 24 = .ok (.putfield 23, 3) := by decide +kernel
theorem dX0_init_27 : decode cX0_init 27 = .ok (.aload_n 0, 1) := by decide +kernel
theorem dX0_init_28 : decode cX0_init 28 = .ok (.bipush 60, 2) := by decide +kernel
theorem dX0_init_30 : decode cX0_init 30 = .ok (.newarray .int, 2) := by decide +kernel
theorem dX0_init_32 : decode cX0_init 32 = .ok (.putfield 26, 3) := by decide +kernel
theorem dX0_init_35 : decode cX0_init 35 = .ok (.aload_n 0, 1) := by decide +kernel
theorem dX0_init_36 : decode cX0_init 36 = .ok (.bipush 60, 2) := by decide +kernel
theorem dX0_init_38 : decode cX0_init 38 = .ok (.newarray .int, 2) := by decide +kernel
theorem dX0_init_40 : decode cX0_init 40 = .ok (.putfield 29, 3) := by decide +kernel
theorem dX0_init_43 : decode cX0_init 43 = .ok (.return_, 1) := by decide +kernel
theorem dX0_scan_0 : decode cX0_scan 0 = .ok (.aload_n 0, 1) := by decide +kernel
theorem dX0_scan_1 : decode cX0_scan 1 = .ok (.iconst 0, 1) := by decide +kernel
theorem dX0_scan_2 : decode cX0_scan 2 = .ok (.putfield 23, 3) := by decide +kernel
theorem dX0_scan_5 : decode cX0_scan 5 = .ok (.aload_n 0, 1) := by decide +kernel
theorem dX0_scan_6 : decode cX0_scan 6 = .ok (.iconst 0, 1) := by decide +kernel
theorem dX0_scan_7 : decode cX0_scan 7 = .ok (.putfield 19, 3) := by decide +kernel
theorem dX0_scan_10 : decode cX0_scan 10 = .ok (.iconst 1, 1) := by decide +kernel
theorem dX0_scan_11 : decode cX0_scan 11 = .ok (.istore_n 1, 1) := by decide +kernel
theorem dX0_scan_12 : decode cX0_scan 12 = .ok (.iconst (-1), 1) := by decide +kernel
theorem dX0_scan_13 : decode cX0_scan 13 = .ok (.istore_n 2, 1) := by decide +kernel
theorem dX0_scan_14 : decode cX0_scan 14 = .ok (.iconst 0, 1) := by decide +kernel
theorem dX0_scan_15 : decode cX0_scan 15 = .ok (.istore_n 3, 1) := by decide +kernel
theorem dX0_scan_16 : decode cX0_scan 16 = .ok (.iload_n 3, 1) := by decide +kernel
theorem dX0_scan_17 : decode cX0_scan 17 = .ok (.aload_n 0, 1) := by decide +kernel
theorem dX0_scan_18 : decode cX0_scan 18 = .ok (.getfield 15, 3) := by decide +kernel
theorem dX0_scan_21 : decode cX0_scan 21 = .ok (.if_icmp .ge 106, 3) := by decide +kernel
theorem dX0_scan_24 : decode cX0_scan 24 = .ok (.aload_n 0, 1) := by decide +kernel
theorem dX0_scan_25 : decode cX0_scan 25 = .ok (.getfield 9, 3) := by decide +kernel
theorem dX0_scan_28 : decode cX0_scan 28 = .ok (.iload_n 3, 1) := by decide +kernel
theorem dX0_scan_29 : decode cX0_scan 29 = .ok (.iaload, 1) := by decide +kernel
theorem dX0_scan_30 : decode cX0_scan 30 = .ok (.istore 4, 2) := by decide +kernel
theorem dX0_scan_32 : decode cX0_scan 32 = .ok (.iload 4, 2) := by decide +kernel
theorem dX0_scan_34 : decode cX0_scan 34 = .ok (.bipush 48, 2) := by decide +kernel
theorem dX0_scan_36 : decode cX0_scan 36 = .ok (.if_icmp .lt 41, 3) := by decide +kernel
theorem dX0_scan_39 : decode cX0_scan 39 = .ok (.iload 4, 2) := by decide +kernel
theorem dX0_scan_41 : decode cX0_scan 41 = .ok (.bipush 57, 2) := by decide +kernel
theorem dX0_scan_43 : decode cX0_scan 43 = .ok (.if_icmp .gt 34, 3) := by decide +kernel
theorem dX0_scan_46 : decode cX0_scan 46 = .ok (.iload_n 2, 1) := by decide +kernel
theorem dX0_scan_47 : decode cX0_scan 47 = .ok (.iload 4, 2) := by decide +kernel
theorem dX0_scan_49 : decode cX0_scan 49 = .ok (.bipush 48, 2) := by decide +kernel
theorem dX0_scan_51 : decode cX0_scan 51 = .ok (.isub, 1) := by decide +kernel
theorem dX0_scan_52 : decode cX0_scan 52 = .ok (.iload_n 1, 1) := by decide +kernel
theorem dX0_scan_53 : decode cX0_scan 53 = .ok (.ifCond .eq 9, 3) := by decide +kernel
theorem dX0_scan_56 : decode cX0_scan 56 = .ok (.sipush 4095, 3) := by decide +kernel
theorem dX0_scan_59 : decode cX0_scan 59 = .ok (.goto 6, 3) := by decide +kernel
theorem dX0_scan_62 : decode cX0_scan 62 = .ok (.sipush 999, 3) := by decide +kernel
theorem dX0_scan_65 : decode cX0_scan 65 = .ok (.invokestatic 32, 3) := by decide +kernel
theorem dX0_scan_68 : decode cX0_scan 68 = .ok (.istore_n 2, 1) := by decide +kernel
theorem dX0_scan_69 : decode cX0_scan 69 = .ok (.iload_n 2, 1) := by decide +kernel
theorem dX0_scan_70 : decode cX0_scan 70 = .ok (.bipush (-2), 2) := by decide +kernel
theorem dX0_scan_72 : decode cX0_scan 72 = .ok (.if_icmp .ne 49, 3) := by decide +kernel
theorem dX0_scan_75 : decode cX0_scan 75 = .ok (.iload_n 3, 1) := by decide +kernel
theorem dX0_scan_76 : decode cX0_scan 76 = .ok (.ireturn, 1) := by decide +kernel
theorem dX0_scan_77 : decode cX0_scan 77 = .ok (.iload_n 2, 1) := by decide +kernel
theorem dX0_scan_78 : decode cX0_scan 78 = .ok (.iconst (-1), 1) := by decide +kernel
theorem dX0_scan_79 : decode cX0_scan 79 = .ok (.if_icmp .eq 40, 3) := by decide +kernel
theorem dX0_scan_82 : decode cX0_scan 82 = .ok (.iload 4, 2) := by decide +kernel
theorem dX0_scan_84 : decode cX0_scan 84 = .ok (.iload_n 1, 1) := by decide +kernel
theorem dX0_scan_85 : decode cX0_scan 85 = .ok (.ifCond .eq 8, 3) := by decide +kernel
theorem dX0_scan_88 : decode cX0_scan 88 = .ok (.bipush 61, 2) := by decide +kernel
theorem dX0_scan_90 : decode cX0_scan 90 = .ok (.goto 5, 3) := by decide +kernel
theorem dX0_scan_93 : decode cX0_scan 93 = .ok (.bipush 59, 2) := by decide +kernel
theorem dX0_scan_95 : decode cX0_scan 95 = .ok (.if_icmp .ne 24, 3) := by decide +kernel
theorem dX0_scan_98 : decode cX0_scan 98 = .ok (.aload_n 0, 1) := by decide +kernel
theorem dX0_scan_99 : decode cX0_scan 99 = .ok (.iload_n 1, 1) := by decide +kernel
theorem dX0_scan_100 : decode cX0_scan 100 = .ok (.iload_n 2, 1) := by decide +kernel
theorem dX0_scan_101 : decode cX0_scan 101 = .ok (.invokevirtual 36, 3) := by decide +kernel
theorem dX0_scan_104 : decode cX0_scan 104 = .ok (.iload_n 1, 1) := by decide +kernel
theorem dX0_scan_105 : decode cX0_scan 105 = .ok (.ifCond .ne 7, 3) := by decide +kernel
theorem dX0_scan_108 : decode cX0_scan 108 = .ok (.iconst 1, 1) := by decide +kernel
theorem dX0_scan_109 : decode cX0_scan 109 = .ok (.goto 4, 3) := by decide +kernel
theorem dX0_scan_112 : decode cX0_scan 112 = .ok (.iconst 0, 1) := by decide +kernel
theorem dX0_scan_113 : decode cX0_scan 113 = .ok (.istore_n 1, 1) := by decide +kernel
theorem dX0_scan_114 : decode cX0_scan 114 = .ok (.iconst (-1), 1) := by decide +kernel
theorem dX0_scan_115 : decode cX0_scan 115 = .ok (.istore_n 2, 1) := by decide +kernel
theorem dX0_scan_116 : decode cX0_scan 116 = .ok (.goto 5, 3) := by decide +kernel
theorem dX0_scan_119 : decode cX0_scan 119 = .ok (.iload_n 3, 1) := by decide +kernel
theorem dX0_scan_120 : decode cX0_scan 120 = .ok (.ireturn, 1) := by decide +kernel
theorem dX0_scan_121 : decode cX0_scan 121 = .ok (.iinc 3 1, 3) := by decide +kernel
theorem dX0_scan_124 : decode cX0_scan 124 = .ok (.goto (-108), 3) := by decide +kernel
theorem dX0_scan_127 : decode cX0_scan 127 = .ok (.iload_n 1, 1) := by decide +kernel
theorem dX0_scan_128 : decode cX0_scan 128 = .ok (.ifCond .ne 19, 3) := by decide +kernel
theorem dX0_scan_131 : decode cX0_scan 131 = .ok (.iload_n 2, 1) := by decide +kernel
theorem dX0_scan_132 : decode cX0_scan 132 = .ok (.iconst (-1), 1) := by decide +kernel
theorem dX0_scan_133 : decode cX0_scan 133 = .ok (.if_icmp .eq 14, 3) := by decide +kernel
theorem dX0_scan_136 : decode cX0_scan 136 = .ok (.aload_n 0, 1) := by decide +kernel
theorem dX0_scan_137 : decode cX0_scan 137 = .ok (.iconst 0, 1) := by decide +kernel
theorem dX0_scan_138 : decode cX0_scan 138 = .ok (.iload_n 2, 1) := by decide +kernel
theorem dX0_scan_139 : decode cX0_scan 139 = .ok (.invokevirtual 36, 3) := by decide +kernel
theorem dX0_scan_142 : decode cX0_scan 142 = .ok (.aload_n 0, 1) := by decide +kernel
theorem dX0_scan_143 : decode cX0_scan 143 = .ok (.iconst 1, 1) := by decide +kernel
theorem dX0_scan_144 : decode cX0_scan 144 = .ok (.putfield 19, 3) := by decide +kernel
theorem dX0_scan_147 : decode cX0_scan 147 = .ok (.aload_n 0, 1) := by decide +kernel
theorem dX0_scan_148 : decode cX0_scan 148 = .ok (.aload_n 0, 1) := by decide +kernel
theorem dX0_scan_149 : decode cX0_scan 149 = .ok (.getfield 19, 3) := by decide +kernel
theorem dX0_scan_152 : decode cX0_scan 152 = .ok (.ifCond .ne 10, 3) := by decide +kernel
theorem dX0_scan_155 : decode cX0_scan 155 = .ok (.aload_n 0, 1) := by decide +kernel
theorem dX0_scan_156 : decode cX0_scan 156 = .ok (.getfield 15, 3) := by decide +kernel
theorem dX0_scan_159 : decode cX0_scan 159 = .ok (.ifCond .ne 7, 3) := by decide +kernel
theorem dX0_scan_162 : decode cX0_scan 162 = .ok (.iconst 1, 1) := by decide +kernel
theorem dX0_scan_163 : decode cX0_scan 163 = .ok (.goto 4, 3) := by decide +kernel
theorem dX0_scan_166 : decode cX0_scan 166 = .ok (.iconst 0, 1) := by decide +kernel
theorem dX0_scan_167 : decode cX0_scan 167 = .ok (.putfield 19, 3) := by decide +kernel
theorem dX0_scan_170 : decode cX0_scan 170 = .ok (.aload_n 0, 1) := by decide +kernel
theorem dX0_scan_171 : decode cX0_scan 171 = .ok (.getfield 15, 3) := by decide +kernel
theorem dX0_scan_174 : decode cX0_scan 174 = .ok (.ireturn, 1) := by decide +kernel
theorem dX0_keep_0 : decode cX0_keep 0 = .ok (.aload_n 0, 1) := by decide +kernel
theorem dX0_keep_1 : decode cX0_keep 1 = .ok (.getfield 23, 3) := by decide +kernel
theorem dX0_keep_4 : decode cX0_keep 4 = .ok (.bipush 60, 2) := by decide +kernel
theorem dX0_keep_6 : decode cX0_keep 6 = .ok (.if_icmp .lt 4, 3) := by decide +kernel
theorem dX0_keep_9 : decode cX0_keep 9 = .ok (.return_, 1) := by decide +kernel
theorem dX0_keep_10 : decode cX0_keep 10 = .ok (.iload_n 1, 1) := by decide +kernel
theorem dX0_keep_11 : decode cX0_keep 11 = .ok (.ifCond .eq 16, 3) := by decide +kernel
theorem dX0_keep_14 : decode cX0_keep 14 = .ok (.aload_n 0, 1) := by decide +kernel
theorem dX0_keep_15 : decode cX0_keep 15 = .ok (.getfield 26, 3) := by decide +kernel
theorem dX0_keep_18 : decode cX0_keep 18 = .ok (.aload_n 0, 1) := by decide +kernel
theorem dX0_keep_19 : decode cX0_keep 19 = .ok (.getfield 23, 3) := by decide +kernel
theorem dX0_keep_22 : decode cX0_keep 22 = .ok (.iload_n 2, 1) := by decide +kernel
theorem dX0_keep_23 : decode cX0_keep 23 = .ok (.iastore, 1) := by decide +kernel
theorem dX0_keep_24 : decode cX0_keep 24 = .ok (.goto 23, 3) := by decide +kernel
theorem dX0_keep_27 : decode cX0_keep 27 = .ok (.aload_n 0, 1) := by decide +kernel
theorem dX0_keep_28 : decode cX0_keep 28 = .ok (.getfield 29, 3) := by decide +kernel
theorem dX0_keep_31 : decode cX0_keep 31 = .ok (.aload_n 0, 1) := by decide +kernel
theorem dX0_keep_32 : decode cX0_keep 32 = .ok (.getfield 23, 3) := by decide +kernel
theorem dX0_keep_35 : decode cX0_keep 35 = .ok (.iload_n 2, 1) := by decide +kernel
theorem dX0_keep_36 : decode cX0_keep 36 = .ok (.iastore, 1) := by decide +kernel
theorem dX0_keep_37 : decode cX0_keep 37 = .ok (.aload_n 0, 1) := by decide +kernel
theorem dX0_keep_38 : decode cX0_keep 38 = .ok (.dup, 1) := by decide +kernel
theorem dX0_keep_39 : decode cX0_keep 39 = .ok (.getfield 23, 3) := by decide +kernel
theorem dX0_keep_42 : decode cX0_keep 42 = .ok (.iconst 1, 1) := by decide +kernel
theorem dX0_keep_43 : decode cX0_keep 43 = .ok (.iadd, 1) := by decide +kernel
theorem dX0_keep_44 : decode cX0_keep 44 = .ok (.putfield 23, 3) := by decide +kernel
theorem dX0_keep_47 : decode cX0_keep 47 = .ok (.return_, 1) := by decide +kernel
theorem dX0_grown_0 : decode cX0_grown 0 = .ok (.iload_n 0, 1) := by decide +kernel
theorem dX0_grown_1 : decode cX0_grown 1 = .ok (.iconst (-1), 1) := by decide +kernel
theorem dX0_grown_2 : decode cX0_grown 2 = .ok (.if_icmp .ne 5, 3) := by decide +kernel
theorem dX0_grown_5 : decode cX0_grown 5 = .ok (.iload_n 1, 1) := by decide +kernel
theorem dX0_grown_6 : decode cX0_grown 6 = .ok (.ireturn, 1) := by decide +kernel
theorem dX0_grown_7 : decode cX0_grown 7 = .ok (.iload_n 0, 1) := by decide +kernel
theorem dX0_grown_8 : decode cX0_grown 8 = .ok (.bipush 10, 2) := by decide +kernel
theorem dX0_grown_10 : decode cX0_grown 10 = .ok (.imul, 1) := by decide +kernel
theorem dX0_grown_11 : decode cX0_grown 11 = .ok (.iload_n 1, 1) := by decide +kernel
theorem dX0_grown_12 : decode cX0_grown 12 = .ok (.iadd, 1) := by decide +kernel
theorem dX0_grown_13 : decode cX0_grown 13 = .ok (.istore_n 3, 1) := by decide +kernel
theorem dX0_grown_14 : decode cX0_grown 14 = .ok (.iload_n 0, 1) := by decide +kernel
theorem dX0_grown_15 : decode cX0_grown 15 = .ok (.ifCond .eq 8, 3) := by decide +kernel
theorem dX0_grown_18 : decode cX0_grown 18 = .ok (.iload_n 3, 1) := by decide +kernel
theorem dX0_grown_19 : decode cX0_grown 19 = .ok (.iload_n 2, 1) := by decide +kernel
theorem dX0_grown_20 : decode cX0_grown 20 = .ok (.if_icmp .le 8, 3) := by decide +kernel
theorem dX0_grown_23 : decode cX0_grown 23 = .ok (.bipush (-2), 2) := by decide +kernel
theorem dX0_grown_25 : decode cX0_grown 25 = .ok (.goto 4, 3) := by decide +kernel
theorem dX0_grown_28 : decode cX0_grown 28 = .ok (.iload_n 3, 1) := by decide +kernel
theorem dX0_grown_29 : decode cX0_grown 29 = .ok (.ireturn, 1) := by decide +kernel
theorem dX1_init_0 : decode cX1_init 0 = .ok (.aload_n 0, 1) := by decide +kernel
theorem dX1_init_1 : decode cX1_init 1 = .ok (.invokespecial 3, 3) := by decide +kernel
theorem dX1_init_4 : decode cX1_init 4 = .ok (.aload_n 0, 1) := by decide +kernel
theorem dX1_init_5 : decode cX1_init 5 = .ok (.iconst 0, 1) := by decide +kernel
theorem dX1_init_6 : decode cX1_init 6 = .ok (.putfield 9, 3) := by decide +kernel
theorem dX1_init_9 : decode cX1_init 9 = .ok (.aload_n 0, 1) := by decide +kernel
theorem dX1_init_10 : decode cX1_init 10 = .ok (.bipush 24, 2) := by decide +kernel
theorem dX1_init_12 : decode cX1_init 12 = .ok (.newarray .int, 2) := by decide +kernel
theorem dX1_init_14 : decode cX1_init 14 = .ok (.putfield 15, 3) := by decide +kernel
theorem dX1_init_17 : decode cX1_init 17 = .ok (.aload_n 0, 1) := by decide +kernel
theorem dX1_init_18 : decode cX1_init 18 = .ok (.bipush 24, 2) := by decide +kernel
theorem dX1_init_20 : decode cX1_init 20 = .ok (.newarray .int, 2) := by decide +kernel
theorem dX1_init_22 : decode cX1_init 22 = .ok (.putfield 19, 3) := by decide +kernel
theorem dX1_init_25 : decode cX1_init 25 = .ok (.aload_n 0, 1) := by decide +kernel
theorem dX1_init_26 : decode cX1_init 26 = .ok (.bipush 24, 2) := by decide +kernel
theorem dX1_init_28 : decode cX1_init 28 = .ok (.newarray .int, 2) := by decide +kernel
theorem dX1_init_30 : decode cX1_init 30 = .ok (.putfield 22, 3) := by decide +kernel
theorem dX1_init_33 : decode cX1_init 33 = .ok (.aload_n 0, 1) := by decide +kernel
theorem dX1_init_34 : decode cX1_init 34 = .ok (.bipush 24, 2) := by decide +kernel
theorem dX1_init_36 : decode cX1_init 36 = .ok (.newarray .int, 2) := by decide +kernel
theorem dX1_init_38 : decode cX1_init 38 = .ok (.putfield 25, 3) := by decide +kernel
theorem dX1_init_41 : decode cX1_init 41 = .ok (.aload_n 0, 1) := by decide +kernel
theorem dX1_init_42 : decode cX1_init 42 = .ok (.iconst 0, 1) := by decide +kernel
theorem dX1_init_43 : decode cX1_init 43 = .ok (.putfield 28, 3) := by decide +kernel
theorem dX1_init_46 : decode cX1_init 46 = .ok (.aload_n 0, 1) := by decide +kernel
theorem dX1_init_47 : decode cX1_init 47 = .ok (.bipush 96, 2) := by decide +kernel
theorem dX1_init_49 : decode cX1_init 49 = .ok (.newarray .int, 2) := by decide +kernel
theorem dX1_init_51 : decode cX1_init 51 = .ok (.putfield 31, 3) := by decide +kernel
theorem dX1_init_54 : decode cX1_init 54 = .ok (.aload_n 0, 1) := by decide +kernel
theorem dX1_init_55 : decode cX1_init 55 = .ok (.bipush 96, 2) := by decide +kernel
theorem dX1_init_57 : decode cX1_init 57 = .ok (.newarray .int, 2) := by decide +kernel
theorem dX1_init_59 : decode cX1_init 59 = .ok (.putfield 34, 3) := by decide +kernel
theorem dX1_init_62 : decode cX1_init 62 = .ok (.aload_n 0, 1) := by decide +kernel
theorem dX1_init_63 : decode cX1_init 63 = .ok (.bipush 96, 2) := by decide +kernel
theorem dX1_init_65 : decode cX1_init 65 = .ok (.newarray .int, 2) := by decide +kernel
theorem dX1_init_67 : decode cX1_init 67 = .ok (.putfield 37, 3) := by decide +kernel
theorem dX1_init_70 : decode cX1_init 70 = .ok (.aload_n 0, 1) := by decide +kernel
theorem dX1_init_71 : decode cX1_init 71 = .ok (.bipush 96, 2) := by decide +kernel
theorem dX1_init_73 : decode cX1_init 73 = .ok (.newarray .int, 2) := by decide +kernel
theorem dX1_init_75 : decode cX1_init 75 = .ok (.putfield 40, 3) := by decide +kernel
theorem dX1_init_78 : decode cX1_init 78 = .ok (.aload_n 0, 1) := by decide +kernel
theorem dX1_init_79 : decode cX1_init 79 = .ok (.bipush 96, 2) := by decide +kernel
theorem dX1_init_81 : decode cX1_init 81 = .ok (.newarray .int, 2) := by decide +kernel
theorem dX1_init_83 : decode cX1_init 83 = .ok (.putfield 43, 3) := by decide +kernel
theorem dX1_init_86 : decode cX1_init 86 = .ok (.aload_n 0, 1) := by decide +kernel
theorem dX1_init_87 : decode cX1_init 87 = .ok (.bipush 96, 2) := by decide +kernel
theorem dX1_init_89 : decode cX1_init 89 = .ok (.newarray .int, 2) := by decide +kernel
theorem dX1_init_91 : decode cX1_init 91 = .ok (.putfield 46, 3) := by decide +kernel
theorem dX1_init_94 : decode cX1_init 94 = .ok (.aload_n 0, 1) := by decide +kernel
theorem dX1_init_95 : decode cX1_init 95 = .ok (.bipush 96, 2) := by decide +kernel
theorem dX1_init_97 : decode cX1_init 97 = .ok (.newarray .int, 2) := by decide +kernel
theorem dX1_init_99 : decode cX1_init 99 = .ok (.putfield 49, 3) := by decide +kernel
theorem dX1_init_102 : decode cX1_init 102 = .ok (.aload_n 0, 1) := by decide +kernel
theorem dX1_init_103 : decode cX1_init 103 = .ok (.bipush 96, 2) := by decide +kernel
theorem dX1_init_105 : decode cX1_init 105 = .ok (.newarray .long, 2) := by decide +kernel
theorem dX1_init_107 : decode cX1_init 107 = .ok (.putfield 52, 3) := by decide +kernel
theorem dX1_init_110 : decode cX1_init 110 = .ok (.aload_n 0, 1) := by decide +kernel
theorem dX1_init_111 : decode cX1_init 111 = .ok (.iconst 0, 1) := by decide +kernel
theorem dX1_init_112 : decode cX1_init 112 = .ok (.putfield 56, 3) := by decide +kernel
theorem dX1_init_115 : decode cX1_init 115 = .ok (.return_, 1) := by decide +kernel
theorem dX1_empty_0 : decode cX1_empty 0 = .ok (.aload_n 0, 1) := by decide +kernel
theorem dX1_empty_1 : decode cX1_empty 1 = .ok (.iconst 0, 1) := by decide +kernel
theorem dX1_empty_2 : decode cX1_empty 2 = .ok (.putfield 9, 3) := by decide +kernel
theorem dX1_empty_5 : decode cX1_empty 5 = .ok (.aload_n 0, 1) := by decide +kernel
theorem dX1_empty_6 : decode cX1_empty 6 = .ok (.iconst 0, 1) := by decide +kernel
theorem dX1_empty_7 : decode cX1_empty 7 = .ok (.putfield 28, 3) := by decide +kernel
theorem dX1_empty_10 : decode cX1_empty 10 = .ok (.return_, 1) := by decide +kernel
theorem dX1_copyEntries_0 : decode cX1_copyEntries 0 = .ok (.aload_n 1, 1) := by decide +kernel
theorem dX1_copyEntries_1 : decode cX1_copyEntries 1 = .ok (.getfield 15, 3) := by decide +kernel
theorem dX1_copyEntries_4 : decode cX1_copyEntries 4 = .ok (.iconst 0, 1) := by decide +kernel
theorem dX1_copyEntries_5 : decode cX1_copyEntries 5 = .ok (.aload_n 0, 1) := by decide +kernel
theorem dX1_copyEntries_6 : decode cX1_copyEntries 6 = .ok (.getfield 15, 3) := by decide +kernel
theorem dX1_copyEntries_9 : decode cX1_copyEntries 9 = .ok (.iconst 0, 1) := by decide +kernel
theorem dX1_copyEntries_10 : decode cX1_copyEntries 10 = .ok (.bipush 24, 2) := by decide +kernel
theorem dX1_copyEntries_12 : decode cX1_copyEntries 12 = .ok (.invokestatic 59, 3) := by decide +kernel
theorem dX1_copyEntries_15 : decode cX1_copyEntries 15 = .ok (.aload_n 1, 1) := by decide +kernel
theorem dX1_copyEntries_16 : decode cX1_copyEntries 16 = .ok (.getfield 19, 3) := by decide +kernel
theorem dX1_copyEntries_19 : decode cX1_copyEntries 19 = .ok (.iconst 0, 1) := by decide +kernel
theorem dX1_copyEntries_20 : decode cX1_copyEntries 20 = .ok (.aload_n 0, 1) := by decide +kernel
theorem dX1_copyEntries_21 : decode cX1_copyEntries 21 = .ok (.getfield 19, 3) := by decide +kernel
theorem dX1_copyEntries_24 : decode cX1_copyEntries 24 = .ok (.iconst 0, 1) := by decide +kernel
theorem dX1_copyEntries_25 : decode cX1_copyEntries 25 = .ok (.bipush 24, 2) := by decide +kernel
theorem dX1_copyEntries_27 : decode cX1_copyEntries 27 = .ok (.invokestatic 59, 3) := by decide +kernel
theorem dX1_copyEntries_30 : decode cX1_copyEntries 30 = .ok (.aload_n 1, 1) := by decide +kernel
theorem dX1_copyEntries_31 : decode cX1_copyEntries 31 = .ok (.getfield 22, 3) := by decide +kernel
theorem dX1_copyEntries_34 : decode cX1_copyEntries 34 = .ok (.iconst 0, 1) := by decide +kernel
theorem dX1_copyEntries_35 : decode cX1_copyEntries 35 = .ok (.aload_n 0, 1) := by decide +kernel
theorem dX1_copyEntries_36 : decode cX1_copyEntries 36 = .ok (.getfield 22, 3) := by decide +kernel
theorem dX1_copyEntries_39 : decode cX1_copyEntries 39 = .ok (.iconst 0, 1) := by decide +kernel
theorem dX1_copyEntries_40 : decode cX1_copyEntries 40 = .ok (.bipush 24, 2) := by decide +kernel
theorem dX1_copyEntries_42 : decode cX1_copyEntries 42 = .ok (.invokestatic 59, 3) := by decide +kernel
theorem dX1_copyEntries_45 : decode cX1_copyEntries 45 = .ok (.aload_n 0, 1) := by decide +kernel
theorem dX1_copyEntries_46 : decode cX1_copyEntries 46 = .ok (.aload_n 1, 1) := by decide +kernel
theorem dX1_copyEntries_47 : decode cX1_copyEntries 47 = .ok (.getfield 9, 3) := by decide +kernel
theorem dX1_copyEntries_50 : decode cX1_copyEntries 50 = .ok (.putfield 9, 3) := by decide +kernel
theorem dX1_copyEntries_53 : decode cX1_copyEntries 53 = .ok (.return_, 1) := by decide +kernel
theorem dX1_copyAll_0 : decode cX1_copyAll 0 = .ok (.aload_n 0, 1) := by decide +kernel
theorem dX1_copyAll_1 : decode cX1_copyAll 1 = .ok (.aload_n 1, 1) := by decide +kernel
theorem dX1_copyAll_2 : decode cX1_copyAll 2 = .ok (.invokevirtual 65, 3) := by decide +kernel
theorem dX1_copyAll_5 : decode cX1_copyAll 5 = .ok (.aload_n 0, 1) := by decide +kernel
theorem dX1_copyAll_6 : decode cX1_copyAll 6 = .ok (.invokevirtual 69, 3) := by decide +kernel
theorem dX1_copyAll_9 : decode cX1_copyAll 9 = .ok (.aload_n 1, 1) := by decide +kernel
theorem dX1_copyAll_10 : decode cX1_copyAll 10 = .ok (.getfield 31, 3) := by decide +kernel
theorem dX1_copyAll_13 : decode cX1_copyAll 13 = .ok (.iconst 0, 1) := by decide +kernel
theorem dX1_copyAll_14 : decode cX1_copyAll 14 = .ok (.aload_n 0, 1) := by decide +kernel
theorem dX1_copyAll_15 : decode cX1_copyAll 15 = .ok (.getfield 31, 3) := by decide +kernel
theorem dX1_copyAll_18 : decode cX1_copyAll 18 = .ok (.iconst 0, 1) := by decide +kernel
theorem dX1_copyAll_19 : decode cX1_copyAll 19 = .ok (.bipush 96, 2) := by decide +kernel
theorem dX1_copyAll_21 : decode cX1_copyAll 21 = .ok (.invokestatic 59, 3) := by decide +kernel
theorem dX1_copyAll_24 : decode cX1_copyAll 24 = .ok (.return_, 1) := by decide +kernel
theorem dX1_unite_0 : decode cX1_unite 0 = .ok (.aload_n 0, 1) := by decide +kernel
theorem dX1_unite_1 : decode cX1_unite 1 = .ok (.aload_n 1, 1) := by decide +kernel
theorem dX1_unite_2 : decode cX1_unite 2 = .ok (.invokevirtual 65, 3) := by decide +kernel
theorem dX1_unite_5 : decode cX1_unite 5 = .ok (.iconst 0, 1) := by decide +kernel
theorem dX1_unite_6 : decode cX1_unite 6 = .ok (.istore_n 3, 1) := by decide +kernel
theorem dX1_unite_7 : decode cX1_unite 7 = .ok (.iload_n 3, 1) := by decide +kernel
theorem dX1_unite_8 : decode cX1_unite 8 = .ok (.aload_n 2, 1) := by decide +kernel
theorem dX1_unite_9 : decode cX1_unite 9 = .ok (.getfield 9, 3) := by decide +kernel
theorem dX1_unite_12 : decode cX1_unite 12 = .ok (.if_icmp .ge 44, 3) := by decide +kernel
theorem dX1_unite_15 : decode cX1_unite 15 = .ok (.aload_n 1, 1) := by decide +kernel
theorem dX1_unite_16 : decode cX1_unite 16 = .ok (.aload_n 2, 1) := by decide +kernel
theorem dX1_unite_17 : decode cX1_unite 17 = .ok (.getfield 15, 3) := by decide +kernel
theorem dX1_unite_20 : decode cX1_unite 20 = .ok (.iload_n 3, 1) := by decide +kernel
theorem dX1_unite_21 : decode cX1_unite 21 = .ok (.iaload, 1) := by decide +kernel
theorem dX1_unite_22 : decode cX1_unite 22 = .ok (.invokevirtual 72, 3) := by decide +kernel
theorem dX1_unite_25 : decode cX1_unite 25 = .ok (.ifCond .ge 25, 3) := by decide +kernel
theorem dX1_unite_28 : decode cX1_unite 28 = .ok (.aload_n 0, 1) := by decide +kernel
theorem dX1_unite_29 : decode cX1_unite 29 = .ok (.aload_n 2, 1) := by decide +kernel
theorem dX1_unite_30 : decode cX1_unite 30 = .ok (.getfield 15, 3) := by decide +kernel
theorem dX1_unite_33 : decode cX1_unite 33 = .ok (.iload_n 3, 1) := by decide +kernel
theorem dX1_unite_34 : decode cX1_unite 34 = .ok (.iaload, 1) := by decide +kernel
theorem dX1_unite_35 : decode cX1_unite 35 = .ok (.aload_n 2, 1) := by decide +kernel
theorem dX1_unite_36 : decode cX1_unite 36 = .ok (.getfield 19, 3) := by decide +kernel
theorem dX1_unite_39 : decode cX1_unite 39 = .ok (.iload_n 3, 1) := by decide +kernel
theorem dX1_unite_40 : decode cX1_unite 40 = .ok (.iaload, 1) := by decide +kernel
theorem dX1_unite_41 : decode cX1_unite 41 = .ok (.aload_n 2, 1) := by decide +kernel
theorem dX1_unite_42 : decode cX1_unite 42 = .ok (.getfield 22, 3) := by decide +kernel
theorem dX1_unite_45 : decode cX1_unite 45 = .ok (.iload_n 3, 1) := by decide +kernel
theorem dX1_unite_46 : decode cX1_unite 46 = .ok (.iaload, 1) := by decide +kernel
theorem dX1_unite_47 : decode cX1_unite 47 = .ok (.invokevirtual 76, 3) := by decide +kernel
theorem dX1_unite_50 : decode cX1_unite 50 = .ok (.iinc 3 1, 3) := by decide +kernel
theorem dX1_unite_53 : decode cX1_unite 53 = .ok (.goto (-46), 3) := by decide +kernel
theorem dX1_unite_56 : decode cX1_unite 56 = .ok (.return_, 1) := by decide +kernel
theorem dX1_select_0 : decode cX1_select 0 = .ok (.aload_n 0, 1) := by decide +kernel
theorem dX1_select_1 : decode cX1_select 1 = .ok (.iconst 0, 1) := by decide +kernel
theorem dX1_select_2 : decode cX1_select 2 = .ok (.putfield 9, 3) := by decide +kernel
theorem dX1_select_5 : decode cX1_select 5 = .ok (.iconst 0, 1) := by decide +kernel
theorem dX1_select_6 : decode cX1_select 6 = .ok (.istore 4, 2) := by decide +kernel
theorem dX1_select_8 : decode cX1_select 8 = .ok (.iload 4, 2) := by decide +kernel
theorem dX1_select_10 : decode cX1_select 10 = .ok (.aload_n 1, 1) := by decide +kernel
theorem dX1_select_11 : decode cX1_select 11 = .ok (.getfield 9, 3) := by decide +kernel
theorem dX1_select_14 : decode cX1_select 14 = .ok (.if_icmp .ge 39, 3) := by decide +kernel
theorem dX1_select_17 : decode cX1_select 17 = .ok (.aload_n 2, 1) := by decide +kernel
theorem dX1_select_18 : decode cX1_select 18 = .ok (.aload_n 1, 1) := by decide +kernel
theorem dX1_select_19 : decode cX1_select 19 = .ok (.getfield 15, 3) := by decide +kernel
theorem dX1_select_22 : decode cX1_select 22 = .ok (.iload 4, 2) := by decide +kernel
theorem dX1_select_24 : decode cX1_select 24 = .ok (.iaload, 1) := by decide +kernel
theorem dX1_select_25 : decode cX1_select 25 = .ok (.invokevirtual 72, 3) := by decide +kernel
theorem dX1_select_28 : decode cX1_select 28 = .ok (.ifCond .lt 7, 3) := by decide +kernel
theorem dX1_select_31 : decode cX1_select 31 = .ok (.iconst 1, 1) := by decide +kernel
theorem dX1_select_32 : decode cX1_select 32 = .ok (.goto 4, 3) := by decide +kernel
theorem dX1_select_35 : decode cX1_select 35 = .ok (.iconst 0, 1) := by decide +kernel
theorem dX1_select_36 : decode cX1_select 36 = .ok (.iload_n 3, 1) := by decide +kernel
theorem dX1_select_37 : decode cX1_select 37 = .ok (.if_icmp .ne 10, 3) := by decide +kernel
theorem dX1_select_40 : decode cX1_select 40 = .ok (.aload_n 0, 1) := by decide +kernel
theorem dX1_select_41 : decode cX1_select 41 = .ok (.aload_n 1, 1) := by decide +kernel
theorem dX1_select_42 : decode cX1_select 42 = .ok (.iload 4, 2) := by decide +kernel
theorem dX1_select_44 : decode cX1_select 44 = .ok (.invokevirtual 80, 3) := by decide +kernel
theorem dX1_select_47 : decode cX1_select 47 = .ok (.iinc 4 1, 3) := by decide +kernel
theorem dX1_select_50 : decode cX1_select 50 = .ok (.goto (-42), 3) := by decide +kernel
theorem dX1_select_53 : decode cX1_select 53 = .ok (.return_, 1) := by decide +kernel
theorem dX1_choose_0 : decode cX1_choose 0 = .ok (.aload_n 0, 1) := by decide +kernel
theorem dX1_choose_1 : decode cX1_choose 1 = .ok (.iconst 0, 1) := by decide +kernel
theorem dX1_choose_2 : decode cX1_choose 2 = .ok (.putfield 9, 3) := by decide +kernel
theorem dX1_choose_5 : decode cX1_choose 5 = .ok (.iconst 0, 1) := by decide +kernel
theorem dX1_choose_6 : decode cX1_choose 6 = .ok (.istore 4, 2) := by decide +kernel
theorem dX1_choose_8 : decode cX1_choose 8 = .ok (.iload 4, 2) := by decide +kernel
theorem dX1_choose_10 : decode cX1_choose 10 = .ok (.aload_n 1, 1) := by decide +kernel
theorem dX1_choose_11 : decode cX1_choose 11 = .ok (.getfield 9, 3) := by decide +kernel
theorem dX1_choose_14 : decode cX1_choose 14 = .ok (.if_icmp .ge 33, 3) := by decide +kernel
theorem dX1_choose_17 : decode cX1_choose 17 = .ok (.iload_n 2, 1) := by decide +kernel
theorem dX1_choose_18 : decode cX1_choose 18 = .ok (.ifCond .le 23, 3) := by decide +kernel
theorem dX1_choose_21 : decode cX1_choose 21 = .ok (.aload_n 1, 1) := by decide +kernel
theorem dX1_choose_22 : decode cX1_choose 22 = .ok (.getfield 19, 3) := by decide +kernel
theorem dX1_choose_25 : decode cX1_choose 25 = .ok (.iload 4, 2) := by decide +kernel
theorem dX1_choose_27 : decode cX1_choose 27 = .ok (.iaload, 1) := by decide +kernel
theorem dX1_choose_28 : decode cX1_choose 28 = .ok (.iload_n 2, 1) := by decide +kernel
theorem dX1_choose_29 : decode cX1_choose 29 = .ok (.irem, 1) := by decide +kernel
theorem dX1_choose_30 : decode cX1_choose 30 = .ok (.iload_n 3, 1) := by decide +kernel
theorem dX1_choose_31 : decode cX1_choose 31 = .ok (.if_icmp .ne 10, 3) := by decide +kernel
theorem dX1_choose_34 : decode cX1_choose 34 = .ok (.aload_n 0, 1) := by decide +kernel
theorem dX1_choose_35 : decode cX1_choose 35 = .ok (.aload_n 1, 1) := by decide +kernel
theorem dX1_choose_36 : decode cX1_choose 36 = .ok (.iload 4, 2) := by decide +kernel
theorem dX1_choose_38 : decode cX1_choose 38 = .ok (.invokevirtual 80, 3) := by decide +kernel
theorem dX1_choose_41 : decode cX1_choose 41 = .ok (.iinc 4 1, 3) := by decide +kernel
theorem dX1_choose_44 : decode cX1_choose 44 = .ok (.goto (-36), 3) := by decide +kernel
theorem dX1_choose_47 : decode cX1_choose 47 = .ok (.return_, 1) := by decide +kernel
theorem dX1_append_0 : decode cX1_append 0 = .ok (.aload_n 0, 1) := by decide +kernel
theorem dX1_append_1 : decode cX1_append 1 = .ok (.getfield 9, 3) := by decide +kernel
theorem dX1_append_4 : decode cX1_append 4 = .ok (.bipush 24, 2) := by decide +kernel
theorem dX1_append_6 : decode cX1_append 6 = .ok (.if_icmp .ge 58, 3) := by decide +kernel
theorem dX1_append_9 : decode cX1_append 9 = .ok (.aload_n 0, 1) := by decide +kernel
theorem dX1_append_10 : decode cX1_append 10 = .ok (.getfield 15, 3) := by decide +kernel
theorem dX1_append_13 : decode cX1_append 13 = .ok (.aload_n 0, 1) := by decide +kernel
theorem dX1_append_14 : decode cX1_append 14 = .ok (.getfield 9, 3) := by decide +kernel
theorem dX1_append_17 : decode cX1_append 17 = .ok (.aload_n 1, 1) := by decide +kernel
theorem dX1_append_18 : decode cX1_append 18 = .ok (.getfield 15, 3) := by decide +kernel
theorem dX1_append_21 : decode cX1_append 21 = .ok (.iload_n 2, 1) := by decide +kernel
theorem dX1_append_22 : decode cX1_append 22 = .ok (.iaload, 1) := by decide +kernel
theorem dX1_append_23 : decode cX1_append 23 = .ok (.iastore, 1) := by decide +kernel
theorem dX1_append_24 : decode cX1_append 24 = .ok (.aload_n 0, 1) := by decide +kernel
theorem dX1_append_25 : decode cX1_append 25 = .ok (.getfield 19, 3) := by decide +kernel
theorem dX1_append_28 : decode cX1_append 28 = .ok (.aload_n 0, 1) := by decide +kernel
theorem dX1_append_29 : decode cX1_append 29 = .ok (.getfield 9, 3) := by decide +kernel
theorem dX1_append_32 : decode cX1_append 32 = .ok (.aload_n 1, 1) := by decide +kernel
theorem dX1_append_33 : decode cX1_append 33 = .ok (.getfield 19, 3) := by decide +kernel
theorem dX1_append_36 : decode cX1_append 36 = .ok (.iload_n 2, 1) := by decide +kernel
theorem dX1_append_37 : decode cX1_append 37 = .ok (.iaload, 1) := by decide +kernel
theorem dX1_append_38 : decode cX1_append 38 = .ok (.iastore, 1) := by decide +kernel
theorem dX1_append_39 : decode cX1_append 39 = .ok (.aload_n 0, 1) := by decide +kernel
theorem dX1_append_40 : decode cX1_append 40 = .ok (.getfield 22, 3) := by decide +kernel
theorem dX1_append_43 : decode cX1_append 43 = .ok (.aload_n 0, 1) := by decide +kernel
theorem dX1_append_44 : decode cX1_append 44 = .ok (.getfield 9, 3) := by decide +kernel
theorem dX1_append_47 : decode cX1_append 47 = .ok (.aload_n 1, 1) := by decide +kernel
theorem dX1_append_48 : decode cX1_append 48 = .ok (.getfield 22, 3) := by decide +kernel
theorem dX1_append_51 : decode cX1_append 51 = .ok (.iload_n 2, 1) := by decide +kernel
theorem dX1_append_52 : decode cX1_append 52 = .ok (.iaload, 1) := by decide +kernel
theorem dX1_append_53 : decode cX1_append 53 = .ok (.iastore, 1) := by decide +kernel
theorem dX1_append_54 : decode cX1_append 54 = .ok (.aload_n 0, 1) := by decide +kernel
theorem dX1_append_55 : decode cX1_append 55 = .ok (.dup, 1) := by decide +kernel
theorem dX1_append_56 : decode cX1_append 56 = .ok (.getfield 9, 3) := by decide +kernel
theorem dX1_append_59 : decode cX1_append 59 = .ok (.iconst 1, 1) := by decide +kernel
theorem dX1_append_60 : decode cX1_append 60 = .ok (.iadd, 1) := by decide +kernel
theorem dX1_append_61 : decode cX1_append 61 = .ok (.putfield 9, 3) := by decide +kernel
theorem dX1_append_64 : decode cX1_append 64 = .ok (.return_, 1) := by decide +kernel
theorem dX1_give_0 : decode cX1_give 0 = .ok (.aload_n 0, 1) := by decide +kernel
theorem dX1_give_1 : decode cX1_give 1 = .ok (.iload_n 1, 1) := by decide +kernel
theorem dX1_give_2 : decode cX1_give 2 = .ok (.invokevirtual 72, 3) := by decide +kernel
theorem dX1_give_5 : decode cX1_give 5 = .ok (.istore 4, 2) := by decide +kernel
theorem dX1_give_7 : decode cX1_give 7 = .ok (.iload 4, 2) := by decide +kernel
theorem dX1_give_9 : decode cX1_give 9 = .ok (.ifCond .lt 14, 3) := by decide +kernel
theorem dX1_give_12 : decode cX1_give 12 = .ok (.aload_n 0, 1) := by decide +kernel
theorem dX1_give_13 : decode cX1_give 13 = .ok (.getfield 19, 3) := by decide +kernel
theorem dX1_give_16 : decode cX1_give 16 = .ok (.iload 4, 2) := by decide +kernel
theorem dX1_give_18 : decode cX1_give 18 = .ok (.iload_n 2, 1) := by decide +kernel
theorem dX1_give_19 : decode cX1_give 19 = .ok (.iastore, 1) := by decide +kernel
theorem dX1_give_20 : decode cX1_give 20 = .ok (.goto 19, 3) := by decide +kernel
theorem dX1_give_23 : decode cX1_give 23 = .ok (.aload_n 0, 1) := by decide +kernel
theorem dX1_give_24 : decode cX1_give 24 = .ok (.getfield 9, 3) := by decide +kernel
theorem dX1_give_27 : decode cX1_give 27 = .ok (.bipush 24, 2) := by decide +kernel
theorem dX1_give_29 : decode cX1_give 29 = .ok (.if_icmp .ge 10, 3) := by decide +kernel
theorem dX1_give_32 : decode cX1_give 32 = .ok (.aload_n 0, 1) := by decide +kernel
theorem dX1_give_33 : decode cX1_give 33 = .ok (.iload_n 1, 1) := by decide +kernel
theorem dX1_give_34 : decode cX1_give 34 = .ok (.iload_n 2, 1) := by decide +kernel
theorem dX1_give_35 : decode cX1_give 35 = .ok (.iload_n 3, 1) := by decide +kernel
theorem dX1_give_36 : decode cX1_give 36 = .ok (.invokevirtual 84, 3) := by decide +kernel
theorem dX1_give_39 : decode cX1_give 39 = .ok (.return_, 1) := by decide +kernel
theorem dX1_insert_0 : decode cX1_insert 0 = .ok (.aload_n 0, 1) := by decide +kernel
theorem dX1_insert_1 : decode cX1_insert 1 = .ok (.getfield 9, 3) := by decide +kernel
theorem dX1_insert_4 : decode cX1_insert 4 = .ok (.istore 4, 2) := by decide +kernel
theorem dX1_insert_6 : decode cX1_insert 6 = .ok (.iload 4, 2) := by decide +kernel
theorem dX1_insert_8 : decode cX1_insert 8 = .ok (.ifCond .le 70, 3) := by decide +kernel
theorem dX1_insert_11 : decode cX1_insert 11 = .ok (.aload_n 0, 1) := by decide +kernel
theorem dX1_insert_12 : decode cX1_insert 12 = .ok (.iload 4, 2) := by decide +kernel
theorem dX1_insert_14 : decode cX1_insert 14 = .ok (.iconst 1, 1) := by decide +kernel
theorem dX1_insert_15 : decode cX1_insert 15 = .ok (.isub, 1) := by decide +kernel
theorem dX1_insert_16 : decode cX1_insert 16 = .ok (.iload_n 1, 1) := by decide +kernel
theorem dX1_insert_17 : decode cX1_insert 17 = .ok (.iload_n 3, 1) := by decide +kernel
theorem dX1_insert_18 : decode cX1_insert 18 = .ok (.invokevirtual 87, 3) := by decide +kernel
theorem dX1_insert_21 : decode cX1_insert 21 = .ok (.ifCond .eq 57, 3) := by decide +kernel
theorem dX1_insert_24 : decode cX1_insert 24 = .ok (.aload_n 0, 1) := by decide +kernel
theorem dX1_insert_25 : decode cX1_insert 25 = .ok (.getfield 15, 3) := by decide +kernel
theorem dX1_insert_28 : decode cX1_insert 28 = .ok (.iload 4, 2) := by decide +kernel
theorem dX1_insert_30 : decode cX1_insert 30 = .ok (.aload_n 0, 1) := by decide +kernel
theorem dX1_insert_31 : decode cX1_insert 31 = .ok (.getfield 15, 3) := by decide +kernel
theorem dX1_insert_34 : decode cX1_insert 34 = .ok (.iload 4, 2) := by decide +kernel
theorem dX1_insert_36 : decode cX1_insert 36 = .ok (.iconst 1, 1) := by decide +kernel
theorem dX1_insert_37 : decode cX1_insert 37 = .ok (.isub, 1) := by decide +kernel
theorem dX1_insert_38 : decode cX1_insert 38 = .ok (.iaload, 1) := by decide +kernel
theorem dX1_insert_39 : decode cX1_insert 39 = .ok (.iastore, 1) := by decide +kernel
theorem dX1_insert_40 : decode cX1_insert 40 = .ok (.aload_n 0, 1) := by decide +kernel
theorem dX1_insert_41 : decode cX1_insert 41 = .ok (.getfield 19, 3) := by decide +kernel
theorem dX1_insert_44 : decode cX1_insert 44 = .ok (.iload 4, 2) := by decide +kernel
theorem dX1_insert_46 : decode cX1_insert 46 = .ok (.aload_n 0, 1) := by decide +kernel
theorem dX1_insert_47 : decode cX1_insert 47 = .ok (.getfield 19, 3) := by decide +kernel
theorem dX1_insert_50 : decode cX1_insert 50 = .ok (.iload 4, 2) := by decide +kernel
theorem dX1_insert_52 : decode cX1_insert 52 = .ok (.iconst 1, 1) := by decide +kernel
theorem dX1_insert_53 : decode cX1_insert 53 = .ok (.isub, 1) := by decide +kernel
theorem dX1_insert_54 : decode cX1_insert 54 = .ok (.iaload, 1) := by decide +kernel
theorem dX1_insert_55 : decode cX1_insert 55 = .ok (.iastore, 1) := by decide +kernel
theorem dX1_insert_56 : decode cX1_insert 56 = .ok (.aload_n 0, 1) := by decide +kernel
theorem dX1_insert_57 : decode cX1_insert 57 = .ok (.getfield 22, 3) := by decide +kernel
theorem dX1_insert_60 : decode cX1_insert 60 = .ok (.iload 4, 2) := by decide +kernel
theorem dX1_insert_62 : decode cX1_insert 62 = .ok (.aload_n 0, 1) := by decide +kernel
theorem dX1_insert_63 : decode cX1_insert 63 = .ok (.getfield 22, 3) := by decide +kernel
theorem dX1_insert_66 : decode cX1_insert 66 = .ok (.iload 4, 2) := by decide +kernel
theorem dX1_insert_68 : decode cX1_insert 68 = .ok (.iconst 1, 1) := by decide +kernel
theorem dX1_insert_69 : decode cX1_insert 69 = .ok (.isub, 1) := by decide +kernel
theorem dX1_insert_70 : decode cX1_insert 70 = .ok (.iaload, 1) := by decide +kernel
theorem dX1_insert_71 : decode cX1_insert 71 = .ok (.iastore, 1) := by decide +kernel
theorem dX1_insert_72 : decode cX1_insert 72 = .ok (.iinc 4 (-1), 3) := by decide +kernel
theorem dX1_insert_75 : decode cX1_insert 75 = .ok (.goto (-69), 3) := by decide +kernel
theorem dX1_insert_78 : decode cX1_insert 78 = .ok (.aload_n 0, 1) := by decide +kernel
theorem dX1_insert_79 : decode cX1_insert 79 = .ok (.getfield 15, 3) := by decide +kernel
theorem dX1_insert_82 : decode cX1_insert 82 = .ok (.iload 4, 2) := by decide +kernel
theorem dX1_insert_84 : decode cX1_insert 84 = .ok (.iload_n 1, 1) := by decide +kernel
theorem dX1_insert_85 : decode cX1_insert 85 = .ok (.iastore, 1) := by decide +kernel
theorem dX1_insert_86 : decode cX1_insert 86 = .ok (.aload_n 0, 1) := by decide +kernel
theorem dX1_insert_87 : decode cX1_insert 87 = .ok (.getfield 19, 3) := by decide +kernel
theorem dX1_insert_90 : decode cX1_insert 90 = .ok (.iload 4, 2) := by decide +kernel
theorem dX1_insert_92 : decode cX1_insert 92 = .ok (.iload_n 2, 1) := by decide +kernel
theorem dX1_insert_93 : decode cX1_insert 93 = .ok (.iastore, 1) := by decide +kernel
theorem dX1_insert_94 : decode cX1_insert 94 = .ok (.aload_n 0, 1) := by decide +kernel
theorem dX1_insert_95 : decode cX1_insert 95 = .ok (.getfield 22, 3) := by decide +kernel
theorem dX1_insert_98 : decode cX1_insert 98 = .ok (.iload 4, 2) := by decide +kernel
theorem dX1_insert_100 : decode cX1_insert 100 = .ok (.iload_n 3, 1) := by decide +kernel
theorem dX1_insert_101 : decode cX1_insert 101 = .ok (.iastore, 1) := by decide +kernel
theorem dX1_insert_102 : decode cX1_insert 102 = .ok (.aload_n 0, 1) := by decide +kernel
theorem dX1_insert_103 : decode cX1_insert 103 = .ok (.dup, 1) := by decide +kernel
theorem dX1_insert_104 : decode cX1_insert 104 = .ok (.getfield 9, 3) := by decide +kernel
theorem dX1_insert_107 : decode cX1_insert 107 = .ok (.iconst 1, 1) := by decide +kernel
theorem dX1_insert_108 : decode cX1_insert 108 = .ok (.iadd, 1) := by decide +kernel
theorem dX1_insert_109 : decode cX1_insert 109 = .ok (.putfield 9, 3) := by decide +kernel
theorem dX1_insert_112 : decode cX1_insert 112 = .ok (.return_, 1) := by decide +kernel
theorem dX1_isBehind_0 : decode cX1_isBehind 0 = .ok (.aload_n 0, 1) := by decide +kernel
theorem dX1_isBehind_1 : decode cX1_isBehind 1 = .ok (.getfield 22, 3) := by decide +kernel
theorem dX1_isBehind_4 : decode cX1_isBehind 4 = .ok (.iload_n 1, 1) := by decide +kernel
theorem dX1_isBehind_5 : decode cX1_isBehind 5 = .ok (.iaload, 1) := by decide +kernel
theorem dX1_isBehind_6 : decode cX1_isBehind 6 = .ok (.iload_n 3, 1) := by decide +kernel
theorem dX1_isBehind_7 : decode cX1_isBehind 7 = .ok (.if_icmp .gt 23, 3) := by decide +kernel
theorem dX1_isBehind_10 : decode cX1_isBehind 10 = .ok (.aload_n 0, 1) := by decide +kernel
theorem dX1_isBehind_11 : decode cX1_isBehind 11 = .ok (.getfield 22, 3) := by decide +kernel
theorem dX1_isBehind_14 : decode cX1_isBehind 14 = .ok (.iload_n 1, 1) := by decide +kernel
theorem dX1_isBehind_15 : decode cX1_isBehind 15 = .ok (.iaload, 1) := by decide +kernel
theorem dX1_isBehind_16 : decode cX1_isBehind 16 = .ok (.iload_n 3, 1) := by decide +kernel
theorem dX1_isBehind_17 : decode cX1_isBehind 17 = .ok (.if_icmp .ne 17, 3) := by decide +kernel
theorem dX1_isBehind_20 : decode cX1_isBehind 20 = .ok (.aload_n 0, 1) := by decide +kernel
theorem dX1_isBehind_21 : decode cX1_isBehind 21 = .ok (.getfield 15, 3) := by decide +kernel
theorem dX1_isBehind_24 : decode cX1_isBehind 24 = .ok (.iload_n 1, 1) := by decide +kernel
theorem dX1_isBehind_25 : decode cX1_isBehind 25 = .ok (.iaload, 1) := by decide +kernel
theorem dX1_isBehind_26 : decode cX1_isBehind 26 = .ok (.iload_n 2, 1) := by decide +kernel
theorem dX1_isBehind_27 : decode cX1_isBehind 27 = .ok (.if_icmp .le 7, 3) := by decide +kernel
theorem dX1_isBehind_30 : decode cX1_isBehind 30 = .ok (.iconst 1, 1) := by decide +kernel
theorem dX1_isBehind_31 : decode cX1_isBehind 31 = .ok (.goto 4, 3) := by decide +kernel
theorem dX1_isBehind_34 : decode cX1_isBehind 34 = .ok (.iconst 0, 1) := by decide +kernel
theorem dX1_isBehind_35 : decode cX1_isBehind 35 = .ok (.ireturn, 1) := by decide +kernel
theorem dX1_drop_0 : decode cX1_drop 0 = .ok (.aload_n 0, 1) := by decide +kernel
theorem dX1_drop_1 : decode cX1_drop 1 = .ok (.iload_n 1, 1) := by decide +kernel
theorem dX1_drop_2 : decode cX1_drop 2 = .ok (.invokevirtual 72, 3) := by decide +kernel
theorem dX1_drop_5 : decode cX1_drop 5 = .ok (.istore_n 2, 1) := by decide +kernel
theorem dX1_drop_6 : decode cX1_drop 6 = .ok (.iload_n 2, 1) := by decide +kernel
theorem dX1_drop_7 : decode cX1_drop 7 = .ok (.ifCond .ge 4, 3) := by decide +kernel
theorem dX1_drop_10 : decode cX1_drop 10 = .ok (.return_, 1) := by decide +kernel
theorem dX1_drop_11 : decode cX1_drop 11 = .ok (.iload_n 2, 1) := by decide +kernel
theorem dX1_drop_12 : decode cX1_drop 12 = .ok (.iconst 1, 1) := by decide +kernel
theorem dX1_drop_13 : decode cX1_drop 13 = .ok (.iadd, 1) := by decide +kernel
theorem dX1_drop_14 : decode cX1_drop 14 = .ok (.istore_n 3, 1) := by decide +kernel
theorem dX1_drop_15 : decode cX1_drop 15 = .ok (.iload_n 3, 1) := by decide +kernel
theorem dX1_drop_16 : decode cX1_drop 16 = .ok (.aload_n 0, 1) := by decide +kernel
theorem dX1_drop_17 : decode cX1_drop 17 = .ok (.getfield 9, 3) := by decide +kernel
theorem dX1_drop_20 : decode cX1_drop 20 = .ok (.if_icmp .ge 51, 3) := by decide +kernel
theorem dX1_drop_23 : decode cX1_drop 23 = .ok (.aload_n 0, 1) := by decide +kernel
theorem dX1_drop_24 : decode cX1_drop 24 = .ok (.getfield 15, 3) := by decide +kernel
theorem dX1_drop_27 : decode cX1_drop 27 = .ok (.iload_n 3, 1) := by decide +kernel
theorem dX1_drop_28 : decode cX1_drop 28 = .ok (.iconst 1, 1) := by decide +kernel
theorem dX1_drop_29 : decode cX1_drop 29 = .ok (.isub, 1) := by decide +kernel
theorem dX1_drop_30 : decode cX1_drop 30 = .ok (.aload_n 0, 1) := by decide +kernel
theorem dX1_drop_31 : decode cX1_drop 31 = .ok (.getfield 15, 3) := by decide +kernel
theorem dX1_drop_34 : decode cX1_drop 34 = .ok (.iload_n 3, 1) := by decide +kernel
theorem dX1_drop_35 : decode cX1_drop 35 = .ok (.iaload, 1) := by decide +kernel
theorem dX1_drop_36 : decode cX1_drop 36 = .ok (.iastore, 1) := by decide +kernel
theorem dX1_drop_37 : decode cX1_drop 37 = .ok (.aload_n 0, 1) := by decide +kernel
theorem dX1_drop_38 : decode cX1_drop 38 = .ok (.getfield 19, 3) := by decide +kernel
theorem dX1_drop_41 : decode cX1_drop 41 = .ok (.iload_n 3, 1) := by decide +kernel
theorem dX1_drop_42 : decode cX1_drop 42 = .ok (.iconst 1, 1) := by decide +kernel
theorem dX1_drop_43 : decode cX1_drop 43 = .ok (.isub, 1) := by decide +kernel
theorem dX1_drop_44 : decode cX1_drop 44 = .ok (.aload_n 0, 1) := by decide +kernel
theorem dX1_drop_45 : decode cX1_drop 45 = .ok (.getfield 19, 3) := by decide +kernel
theorem dX1_drop_48 : decode cX1_drop 48 = .ok (.iload_n 3, 1) := by decide +kernel
theorem dX1_drop_49 : decode cX1_drop 49 = .ok (.iaload, 1) := by decide +kernel
theorem dX1_drop_50 : decode cX1_drop 50 = .ok (.iastore, 1) := by decide +kernel
theorem dX1_drop_51 : decode cX1_drop 51 = .ok (.aload_n 0, 1) := by decide +kernel
theorem dX1_drop_52 : decode cX1_drop 52 = .ok (.getfield 22, 3) := by decide +kernel
theorem dX1_drop_55 : decode cX1_drop 55 = .ok (.iload_n 3, 1) := by decide +kernel
theorem dX1_drop_56 : decode cX1_drop 56 = .ok (.iconst 1, 1) := by decide +kernel
theorem dX1_drop_57 : decode cX1_drop 57 = .ok (.isub, 1) := by decide +kernel
theorem dX1_drop_58 : decode cX1_drop 58 = .ok (.aload_n 0, 1) := by decide +kernel
theorem dX1_drop_59 : decode cX1_drop 59 = .ok (.getfield 22, 3) := by decide +kernel
theorem dX1_drop_62 : decode cX1_drop 62 = .ok (.iload_n 3, 1) := by decide +kernel
theorem dX1_drop_63 : decode cX1_drop 63 = .ok (.iaload, 1) := by decide +kernel
theorem dX1_drop_64 : decode cX1_drop 64 = .ok (.iastore, 1) := by decide +kernel
theorem dX1_drop_65 : decode cX1_drop 65 = .ok (.iinc 3 1, 3) := by decide +kernel
theorem dX1_drop_68 : decode cX1_drop 68 = .ok (.goto (-53), 3) := by decide +kernel
theorem dX1_drop_71 : decode cX1_drop 71 = .ok (.aload_n 0, 1) := by decide +kernel
theorem dX1_drop_72 : decode cX1_drop 72 = .ok (.dup, 1) := by decide +kernel
theorem dX1_drop_73 : decode cX1_drop 73 = .ok (.getfield 9, 3) := by decide +kernel
theorem dX1_drop_76 : decode cX1_drop 76 = .ok (.iconst 1, 1) := by decide +kernel
theorem dX1_drop_77 : decode cX1_drop 77 = .ok (.isub, 1) := by decide +kernel
theorem dX1_drop_78 : decode cX1_drop 78 = .ok (.putfield 9, 3) := by decide +kernel
theorem dX1_drop_81 : decode cX1_drop 81 = .ok (.return_, 1) := by decide +kernel
theorem dX1_indexOfKey_0 : decode cX1_indexOfKey 0 = .ok (.iconst 0, 1) := by decide +kernel
theorem dX1_indexOfKey_1 : decode cX1_indexOfKey 1 = .ok (.istore_n 2, 1) := by decide +kernel
theorem dX1_indexOfKey_2 : decode cX1_indexOfKey 2 = .ok (.iload_n 2, 1) := by decide +kernel
theorem dX1_indexOfKey_3 : decode cX1_indexOfKey 3 = .ok (.aload_n 0, 1) := by decide +kernel
theorem dX1_indexOfKey_4 : decode cX1_indexOfKey 4 = .ok (.getfield 9, 3) := by decide +kernel
theorem dX1_indexOfKey_7 : decode cX1_indexOfKey 7 = .ok (.if_icmp .ge 21, 3) := by decide +kernel
theorem dX1_indexOfKey_10 : decode cX1_indexOfKey 10 = .ok (.aload_n 0, 1) := by decide +kernel
theorem dX1_indexOfKey_11 : decode cX1_indexOfKey 11 = .ok (.getfield 15, 3) := by decide +kernel
theorem dX1_indexOfKey_14 : decode cX1_indexOfKey 14 = .ok (.iload_n 2, 1) := by decide +kernel
theorem dX1_indexOfKey_15 : decode cX1_indexOfKey 15 = .ok (.iaload, 1) := by decide +kernel
theorem dX1_indexOfKey_16 : decode cX1_indexOfKey 16 = .ok (.iload_n 1, 1) := by decide +kernel
theorem dX1_indexOfKey_17 : decode cX1_indexOfKey 17 = .ok (.if_icmp .ne 5, 3) := by decide +kernel
theorem dX1_indexOfKey_20 : decode cX1_indexOfKey 20 = .ok (.iload_n 2, 1) := by decide +kernel
theorem dX1_indexOfKey_21 : decode cX1_indexOfKey 21 = .ok (.ireturn, 1) := by decide +kernel
theorem dX1_indexOfKey_22 : decode cX1_indexOfKey 22 = .ok (.iinc 2 1, 3) := by decide +kernel
theorem dX1_indexOfKey_25 : decode cX1_indexOfKey 25 = .ok (.goto (-23), 3) := by decide +kernel
theorem dX1_indexOfKey_28 : decode cX1_indexOfKey 28 = .ok (.iconst (-1), 1) := by decide +kernel
theorem dX1_indexOfKey_29 : decode cX1_indexOfKey 29 = .ok (.ireturn, 1) := by decide +kernel
theorem dX1_hasRoomFor_0 : decode cX1_hasRoomFor 0 = .ok (.aload_n 0, 1) := by decide +kernel
theorem dX1_hasRoomFor_1 : decode cX1_hasRoomFor 1 = .ok (.getfield 9, 3) := by decide +kernel
theorem dX1_hasRoomFor_4 : decode cX1_hasRoomFor 4 = .ok (.bipush 24, 2) := by decide +kernel
theorem dX1_hasRoomFor_6 : decode cX1_hasRoomFor 6 = .ok (.if_icmp .lt 11, 3) := by decide +kernel
theorem dX1_hasRoomFor_9 : decode cX1_hasRoomFor 9 = .ok (.aload_n 0, 1) := by decide +kernel
theorem dX1_hasRoomFor_10 : decode cX1_hasRoomFor 10 = .ok (.iload_n 1, 1) := by decide +kernel
theorem dX1_hasRoomFor_11 : decode cX1_hasRoomFor 11 = .ok (.invokevirtual 72, 3) := by decide +kernel
theorem dX1_hasRoomFor_14 : decode cX1_hasRoomFor 14 = .ok (.ifCond .lt 7, 3) := by decide +kernel
theorem dX1_hasRoomFor_17 : decode cX1_hasRoomFor 17 = .ok (.iconst 1, 1) := by decide +kernel
theorem dX1_hasRoomFor_18 : decode cX1_hasRoomFor 18 = .ok (.goto 4, 3) := by decide +kernel
theorem dX1_hasRoomFor_21 : decode cX1_hasRoomFor 21 = .ok (.iconst 0, 1) := by decide +kernel
theorem dX1_hasRoomFor_22 : decode cX1_hasRoomFor 22 = .ok (.ireturn, 1) := by decide +kernel
theorem dX1_keysAlsoIn_0 : decode cX1_keysAlsoIn 0 = .ok (.iconst 0, 1) := by decide +kernel
theorem dX1_keysAlsoIn_1 : decode cX1_keysAlsoIn 1 = .ok (.istore_n 2, 1) := by decide +kernel
theorem dX1_keysAlsoIn_2 : decode cX1_keysAlsoIn 2 = .ok (.iconst 0, 1) := by decide +kernel
theorem dX1_keysAlsoIn_3 : decode cX1_keysAlsoIn 3 = .ok (.istore_n 3, 1) := by decide +kernel
theorem dX1_keysAlsoIn_4 : decode cX1_keysAlsoIn 4 = .ok (.iload_n 3, 1) := by decide +kernel
theorem dX1_keysAlsoIn_5 : decode cX1_keysAlsoIn 5 = .ok (.aload_n 0, 1) := by decide +kernel
theorem dX1_keysAlsoIn_6 : decode cX1_keysAlsoIn 6 = .ok (.getfield 9, 3) := by decide +kernel
theorem dX1_keysAlsoIn_9 : decode cX1_keysAlsoIn 9 = .ok (.if_icmp .ge 25, 3) := by decide +kernel
theorem dX1_keysAlsoIn_12 : decode cX1_keysAlsoIn 12 = .ok (.aload_n 1, 1) := by decide +kernel
theorem dX1_keysAlsoIn_13 : decode cX1_keysAlsoIn 13 = .ok (.aload_n 0, 1) := by decide +kernel
theorem dX1_keysAlsoIn_14 : decode cX1_keysAlsoIn 14 = .ok (.getfield 15, 3) := by decide +kernel
theorem dX1_keysAlsoIn_17 : decode cX1_keysAlsoIn 17 = .ok (.iload_n 3, 1) := by decide +kernel
theorem dX1_keysAlsoIn_18 : decode cX1_keysAlsoIn 18 = .ok (.iaload, 1) := by decide +kernel
theorem dX1_keysAlsoIn_19 : decode cX1_keysAlsoIn 19 = .ok (.invokevirtual 72, 3) := by decide +kernel
theorem dX1_keysAlsoIn_22 : decode cX1_keysAlsoIn 22 = .ok (.ifCond .lt 6, 3) := by decide +kernel
theorem dX1_keysAlsoIn_25 : decode cX1_keysAlsoIn 25 = .ok (.iinc 2 1, 3) := by decide +kernel
theorem dX1_keysAlsoIn_28 : decode cX1_keysAlsoIn 28 = .ok (.iinc 3 1, 3) := by decide +kernel
theorem dX1_keysAlsoIn_31 : decode cX1_keysAlsoIn 31 = .ok (.goto (-27), 3) := by decide +kernel
theorem dX1_keysAlsoIn_34 : decode cX1_keysAlsoIn 34 = .ok (.iload_n 2, 1) := by decide +kernel
theorem dX1_keysAlsoIn_35 : decode cX1_keysAlsoIn 35 = .ok (.ireturn, 1) := by decide +kernel
theorem dX1_pairsAlsoIn_0 : decode cX1_pairsAlsoIn 0 = .ok (.iconst 0, 1) := by decide +kernel
theorem dX1_pairsAlsoIn_1 : decode cX1_pairsAlsoIn 1 = .ok (.istore_n 2, 1) := by decide +kernel
theorem dX1_pairsAlsoIn_2 : decode cX1_pairsAlsoIn 2 = .ok (.iconst 0, 1) := by decide +kernel
theorem dX1_pairsAlsoIn_3 : decode cX1_pairsAlsoIn 3 = .ok (.istore_n 3, 1) := by decide +kernel
theorem dX1_pairsAlsoIn_4 : decode cX1_pairsAlsoIn 4 = .ok (.iload_n 3, 1) := by decide +kernel
theorem dX1_pairsAlsoIn_5 : decode cX1_pairsAlsoIn 5 = .ok (.aload_n 0, 1) := by decide +kernel
theorem dX1_pairsAlsoIn_6 : decode cX1_pairsAlsoIn 6 = .ok (.getfield 9, 3) := by decide +kernel
theorem dX1_pairsAlsoIn_9 : decode cX1_pairsAlsoIn 9 = .ok (.if_icmp .ge 45, 3) := by decide +kernel
theorem dX1_pairsAlsoIn_12 : decode cX1_pairsAlsoIn 12 = .ok (.aload_n 1, 1) := by decide +kernel
theorem dX1_pairsAlsoIn_13 : decode cX1_pairsAlsoIn 13 = .ok (.aload_n 0, 1) := by decide +kernel
theorem dX1_pairsAlsoIn_14 : decode cX1_pairsAlsoIn 14 = .ok (.getfield 15, 3) := by decide +kernel
theorem dX1_pairsAlsoIn_17 : decode cX1_pairsAlsoIn 17 = .ok (.iload_n 3, 1) := by decide +kernel
theorem dX1_pairsAlsoIn_18 : decode cX1_pairsAlsoIn 18 = .ok (.iaload, 1) := by decide +kernel
theorem dX1_pairsAlsoIn_19 : decode cX1_pairsAlsoIn 19 = .ok (.invokevirtual 72, 3) := by decide +kernel
theorem dX1_pairsAlsoIn_22 : decode cX1_pairsAlsoIn 22 = .ok (.istore 4, 2) := by decide +kernel
theorem dX1_pairsAlsoIn_24 : decode cX1_pairsAlsoIn 24 = .ok (.iload 4, 2) := by decide +kernel
theorem dX1_pairsAlsoIn_26 : decode cX1_pairsAlsoIn 26 = .ok (.ifCond .lt 22, 3) := by decide +kernel
theorem dX1_pairsAlsoIn_29 : decode cX1_pairsAlsoIn 29 = .ok (.aload_n 1, 1) := by decide +kernel
theorem dX1_pairsAlsoIn_30 : decode cX1_pairsAlsoIn 30 = .ok (.getfield 19, 3) := by decide +kernel
theorem dX1_pairsAlsoIn_33 : decode cX1_pairsAlsoIn 33 = .ok (.iload 4, 2) := by decide +kernel
theorem dX1_pairsAlsoIn_35 : decode cX1_pairsAlsoIn 35 = .ok (.iaload, 1) := by decide +kernel
theorem dX1_pairsAlsoIn_36 : decode cX1_pairsAlsoIn 36 = .ok (.aload_n 0, 1) := by decide +kernel
theorem dX1_pairsAlsoIn_37 : decode cX1_pairsAlsoIn 37 = .ok (.getfield 19, 3) := by decide +kernel
theorem dX1_pairsAlsoIn_40 : decode cX1_pairsAlsoIn 40 = .ok (.iload_n 3, 1) := by decide +kernel
theorem dX1_pairsAlsoIn_41 : decode cX1_pairsAlsoIn 41 = .ok (.iaload, 1) := by decide +kernel
theorem dX1_pairsAlsoIn_42 : decode cX1_pairsAlsoIn 42 = .ok (.if_icmp .ne 6, 3) := by decide +kernel
theorem dX1_pairsAlsoIn_45 : decode cX1_pairsAlsoIn 45 = .ok (.iinc 2 1, 3) := by decide +kernel
theorem dX1_pairsAlsoIn_48 : decode cX1_pairsAlsoIn 48 = .ok (.iinc 3 1, 3) := by decide +kernel
theorem dX1_pairsAlsoIn_51 : decode cX1_pairsAlsoIn 51 = .ok (.goto (-47), 3) := by decide +kernel
theorem dX1_pairsAlsoIn_54 : decode cX1_pairsAlsoIn 54 = .ok (.iload_n 2, 1) := by decide +kernel
theorem dX1_pairsAlsoIn_55 : decode cX1_pairsAlsoIn 55 = .ok (.ireturn, 1) := by decide +kernel
theorem dX1_layNodes_0 : decode cX1_layNodes 0 = .ok (.aload_n 0, 1) := by decide +kernel
theorem dX1_layNodes_1 : decode cX1_layNodes 1 = .ok (.iconst 0, 1) := by decide +kernel
theorem dX1_layNodes_2 : decode cX1_layNodes 2 = .ok (.putfield 28, 3) := by decide +kernel
theorem dX1_layNodes_5 : decode cX1_layNodes 5 = .ok (.aload_n 0, 1) := by decide +kernel
theorem dX1_layNodes_6 : decode cX1_layNodes 6 = .ok (.iconst 0, 1) := by decide +kernel
theorem dX1_layNodes_7 : decode cX1_layNodes 7 = .ok (.iconst 0, 1) := by decide +kernel
theorem dX1_layNodes_8 : decode cX1_layNodes 8 = .ok (.aload_n 0, 1) := by decide +kernel
theorem dX1_layNodes_9 : decode cX1_layNodes 9 = .ok (.getfield 9, 3) := by decide +kernel
theorem dX1_layNodes_12 : decode cX1_layNodes 12 = .ok (.invokestatic 91, 3) := by decide +kernel
theorem dX1_layNodes_15 : decode cX1_layNodes 15 = .ok (.return_, 1) := by decide +kernel
theorem dX1_layTree_0 : decode cX1_layTree 0 = .ok (.iload_n 2, 1) := by decide +kernel
theorem dX1_layTree_1 : decode cX1_layTree 1 = .ok (.iload_n 3, 1) := by decide +kernel
theorem dX1_layTree_2 : decode cX1_layTree 2 = .ok (.if_icmp .ge 12, 3) := by decide +kernel
theorem dX1_layTree_5 : decode cX1_layTree 5 = .ok (.aload_n 0, 1) := by decide +kernel
theorem dX1_layTree_6 : decode cX1_layTree 6 = .ok (.getfield 28, 3) := by decide +kernel
theorem dX1_layTree_9 : decode cX1_layTree 9 = .ok (.bipush 96, 2) := by decide +kernel
theorem dX1_layTree_11 : decode cX1_layTree 11 = .ok (.if_icmp .lt 4, 3) := by decide +kernel
theorem dX1_layTree_14 : decode cX1_layTree 14 = .ok (.return_, 1) := by decide +kernel
theorem dX1_layTree_15 : decode cX1_layTree 15 = .ok (.aload_n 0, 1) := by decide +kernel
theorem dX1_layTree_16 : decode cX1_layTree 16 = .ok (.getfield 28, 3) := by decide +kernel
theorem dX1_layTree_19 : decode cX1_layTree 19 = .ok (.istore 4, 2) := by decide +kernel
theorem dX1_layTree_21 : decode cX1_layTree 21 = .ok (.aload_n 0, 1) := by decide +kernel
theorem dX1_layTree_22 : decode cX1_layTree 22 = .ok (.dup, 1) := by decide +kernel
theorem dX1_layTree_23 : decode cX1_layTree 23 = .ok (.getfield 28, 3) := by decide +kernel
theorem dX1_layTree_26 : decode cX1_layTree 26 = .ok (.iconst 1, 1) := by decide +kernel
theorem dX1_layTree_27 : decode cX1_layTree 27 = .ok (.iadd, 1) := by decide +kernel
theorem dX1_layTree_28 : decode cX1_layTree 28 = .ok (.putfield 28, 3) := by decide +kernel
theorem dX1_layTree_31 : decode cX1_layTree 31 = .ok (.aload_n 0, 1) := by decide +kernel
theorem dX1_layTree_32 : decode cX1_layTree 32 = .ok (.iload_n 1, 1) := by decide +kernel
theorem dX1_layTree_33 : decode cX1_layTree 33 = .ok (.iload_n 2, 1) := by decide +kernel
theorem dX1_layTree_34 : decode cX1_layTree 34 = .ok (.iload_n 3, 1) := by decide +kernel
theorem dX1_layTree_35 : decode cX1_layTree 35 = .ok (.invokevirtual 95, 3) := by decide +kernel
theorem dX1_layTree_38 : decode cX1_layTree 38 = .ok (.istore 5, 2) := by decide +kernel
theorem dX1_layTree_40 : decode cX1_layTree 40 = .ok (.aload_n 0, 1) := by decide +kernel
theorem dX1_layTree_41 : decode cX1_layTree 41 = .ok (.getfield 34, 3) := by decide +kernel
theorem dX1_layTree_44 : decode cX1_layTree 44 = .ok (.iload 4, 2) := by decide +kernel
theorem dX1_layTree_46 : decode cX1_layTree 46 = .ok (.iload 5, 2) := by decide +kernel
theorem dX1_layTree_48 : decode cX1_layTree 48 = .ok (.iastore, 1) := by decide +kernel
theorem dX1_layTree_49 : decode cX1_layTree 49 = .ok (.aload_n 0, 1) := by decide +kernel
theorem dX1_layTree_50 : decode cX1_layTree 50 = .ok (.getfield 37, 3) := by decide +kernel
theorem dX1_layTree_53 : decode cX1_layTree 53 = .ok (.iload 4, 2) := by decide +kernel
theorem dX1_layTree_55 : decode cX1_layTree 55 = .ok (.iload_n 1, 1) := by decide +kernel
theorem dX1_layTree_56 : decode cX1_layTree 56 = .ok (.iastore, 1) := by decide +kernel
theorem dX1_layTree_57 : decode cX1_layTree 57 = .ok (.aload_n 0, 1) := by decide +kernel
theorem dX1_layTree_58 : decode cX1_layTree 58 = .ok (.getfield 40, 3) := by decide +kernel
theorem dX1_layTree_61 : decode cX1_layTree 61 = .ok (.iload 4, 2) := by decide +kernel
theorem dX1_layTree_63 : decode cX1_layTree 63 = .ok (.iload_n 2, 1) := by decide +kernel
theorem dX1_layTree_64 : decode cX1_layTree 64 = .ok (.iastore, 1) := by decide +kernel
theorem dX1_layTree_65 : decode cX1_layTree 65 = .ok (.aload_n 0, 1) := by decide +kernel
theorem dX1_layTree_66 : decode cX1_layTree 66 = .ok (.getfield 43, 3) := by decide +kernel
theorem dX1_layTree_69 : decode cX1_layTree 69 = .ok (.iload 4, 2) := by decide +kernel
theorem dX1_layTree_71 : decode cX1_layTree 71 = .ok (.iload_n 3, 1) := by decide +kernel
theorem dX1_layTree_72 : decode cX1_layTree 72 = .ok (.iload_n 2, 1) := by decide +kernel
theorem dX1_layTree_73 : decode cX1_layTree 73 = .ok (.isub, 1) := by decide +kernel
theorem dX1_layTree_74 : decode cX1_layTree 74 = .ok (.iastore, 1) := by decide +kernel
theorem dX1_layTree_75 : decode cX1_layTree 75 = .ok (.aload_n 0, 1) := by decide +kernel
theorem dX1_layTree_76 : decode cX1_layTree 76 = .ok (.getfield 52, 3) := by decide +kernel
theorem dX1_layTree_79 : decode cX1_layTree 79 = .ok (.iload 4, 2) := by decide +kernel
theorem dX1_layTree_81 : decode cX1_layTree 81 = .ok (.iload 5, 2) := by decide +kernel
theorem dX1_layTree_83 : decode cX1_layTree 83 = .ok (.iload_n 1, 1) := by decide +kernel
theorem dX1_layTree_84 : decode cX1_layTree 84 = .ok (.aload_n 0, 1) := by decide +kernel
theorem dX1_layTree_85 : decode cX1_layTree 85 = .ok (.getfield 22, 3) := by decide +kernel
theorem dX1_layTree_88 : decode cX1_layTree 88 = .ok (.iload_n 2, 1) := by decide +kernel
theorem dX1_layTree_89 : decode cX1_layTree 89 = .ok (.iaload, 1) := by decide +kernel
theorem dX1_layTree_90 : decode cX1_layTree 90 = .ok (.aload_n 0, 1) := by decide +kernel
theorem dX1_layTree_91 : decode cX1_layTree 91 = .ok (.getfield 15, 3) := by decide +kernel
theorem dX1_layTree_94 : decode cX1_layTree 94 = .ok (.iload_n 2, 1) := by decide +kernel
theorem dX1_layTree_95 : decode cX1_layTree 95 = .ok (.iaload, 1) := by decide +kernel
theorem dX1_layTree_96 : decode cX1_layTree 96 = .ok (.invokestatic 99, 3) := by decide +kernel
theorem dX1_layTree_99 : decode cX1_layTree 99 = .ok (.lastore, 1) := by decide +kernel
theorem dX1_layTree_100 : decode cX1_layTree 100 = .ok (.iload 5, 2) := by decide +kernel
theorem dX1_layTree_102 : decode cX1_layTree 102 = .ok (.iconst 2, 1) := by decide +kernel
theorem dX1_layTree_103 : decode cX1_layTree 103 = .ok (.if_icmp .ne 20, 3) := by decide +kernel
theorem dX1_layTree_106 : decode cX1_layTree 106 = .ok (.aload_n 0, 1) := by decide +kernel
theorem dX1_layTree_107 : decode cX1_layTree 107 = .ok (.getfield 46, 3) := by decide +kernel
theorem dX1_layTree_110 : decode cX1_layTree 110 = .ok (.iload 4, 2) := by decide +kernel
theorem dX1_layTree_112 : decode cX1_layTree 112 = .ok (.aload_n 0, 1) := by decide +kernel
theorem dX1_layTree_113 : decode cX1_layTree 113 = .ok (.iload_n 1, 1) := by decide +kernel
theorem dX1_layTree_114 : decode cX1_layTree 114 = .ok (.iload_n 2, 1) := by decide +kernel
theorem dX1_layTree_115 : decode cX1_layTree 115 = .ok (.iload_n 3, 1) := by decide +kernel
theorem dX1_layTree_116 : decode cX1_layTree 116 = .ok (.invokestatic 103, 3) := by decide +kernel
theorem dX1_layTree_119 : decode cX1_layTree 119 = .ok (.iastore, 1) := by decide +kernel
theorem dX1_layTree_120 : decode cX1_layTree 120 = .ok (.goto 18, 3) := by decide +kernel
theorem dX1_layTree_123 : decode cX1_layTree 123 = .ok (.aload_n 0, 1) := by decide +kernel
theorem dX1_layTree_124 : decode cX1_layTree 124 = .ok (.getfield 46, 3) := by decide +kernel
theorem dX1_layTree_127 : decode cX1_layTree 127 = .ok (.iload 4, 2) := by decide +kernel
theorem dX1_layTree_129 : decode cX1_layTree 129 = .ok (.iconst (-1), 1) := by decide +kernel
theorem dX1_layTree_130 : decode cX1_layTree 130 = .ok (.iastore, 1) := by decide +kernel
theorem dX1_layTree_131 : decode cX1_layTree 131 = .ok (.aload_n 0, 1) := by decide +kernel
theorem dX1_layTree_132 : decode cX1_layTree 132 = .ok (.iload_n 1, 1) := by decide +kernel
theorem dX1_layTree_133 : decode cX1_layTree 133 = .ok (.iload_n 2, 1) := by decide +kernel
theorem dX1_layTree_134 : decode cX1_layTree 134 = .ok (.iload_n 3, 1) := by decide +kernel
theorem dX1_layTree_135 : decode cX1_layTree 135 = .ok (.invokevirtual 107, 3) := by decide +kernel
theorem dX1_layTree_138 : decode cX1_layTree 138 = .ok (.aload_n 0, 1) := by decide +kernel
theorem dX1_layTree_139 : decode cX1_layTree 139 = .ok (.getfield 49, 3) := by decide +kernel
theorem dX1_layTree_142 : decode cX1_layTree 142 = .ok (.iload 4, 2) := by decide +kernel
theorem dX1_layTree_144 : decode cX1_layTree 144 = .ok (.aload_n 0, 1) := by decide +kernel
theorem dX1_layTree_145 : decode cX1_layTree 145 = .ok (.getfield 28, 3) := by decide +kernel
theorem dX1_layTree_148 : decode cX1_layTree 148 = .ok (.iload 4, 2) := by decide +kernel
theorem dX1_layTree_150 : decode cX1_layTree 150 = .ok (.isub, 1) := by decide +kernel
theorem dX1_layTree_151 : decode cX1_layTree 151 = .ok (.iastore, 1) := by decide +kernel
theorem dX1_layTree_152 : decode cX1_layTree 152 = .ok (.return_, 1) := by decide +kernel
theorem dX1_levelEntries_0 : decode cX1_levelEntries 0 = .ok (.iload_n 2, 1) := by decide +kernel
theorem dX1_levelEntries_1 : decode cX1_levelEntries 1 = .ok (.istore 4, 2) := by decide +kernel
theorem dX1_levelEntries_3 : decode cX1_levelEntries 3 = .ok (.iload 4, 2) := by decide +kernel
theorem dX1_levelEntries_5 : decode cX1_levelEntries 5 = .ok (.iload_n 3, 1) := by decide +kernel
theorem dX1_levelEntries_6 : decode cX1_levelEntries 6 = .ok (.if_icmp .ge 17, 3) := by decide +kernel
theorem dX1_levelEntries_9 : decode cX1_levelEntries 9 = .ok (.aload_n 0, 1) := by decide +kernel
theorem dX1_levelEntries_10 : decode cX1_levelEntries 10 = .ok (.getfield 25, 3) := by decide +kernel
theorem dX1_levelEntries_13 : decode cX1_levelEntries 13 = .ok (.iload 4, 2) := by decide +kernel
theorem dX1_levelEntries_15 : decode cX1_levelEntries 15 = .ok (.iload_n 1, 1) := by decide +kernel
theorem dX1_levelEntries_16 : decode cX1_levelEntries 16 = .ok (.iastore, 1) := by decide +kernel
theorem dX1_levelEntries_17 : decode cX1_levelEntries 17 = .ok (.iinc 4 1, 3) := by decide +kernel
theorem dX1_levelEntries_20 : decode cX1_levelEntries 20 = .ok (.goto (-17), 3) := by decide +kernel
theorem dX1_levelEntries_23 : decode cX1_levelEntries 23 = .ok (.return_, 1) := by decide +kernel
theorem dX1_layBelow_0 : decode cX1_layBelow 0 = .ok (.iconst 0, 1) := by decide +kernel
theorem dX1_layBelow_1 : decode cX1_layBelow 1 = .ok (.istore 4, 2) := by decide +kernel
theorem dX1_layBelow_3 : decode cX1_layBelow 3 = .ok (.iload_n 2, 1) := by decide +kernel
theorem dX1_layBelow_4 : decode cX1_layBelow 4 = .ok (.istore 5, 2) := by decide +kernel
theorem dX1_layBelow_6 : decode cX1_layBelow 6 = .ok (.iload_n 2, 1) := by decide +kernel
theorem dX1_layBelow_7 : decode cX1_layBelow 7 = .ok (.iconst 1, 1) := by decide +kernel
theorem dX1_layBelow_8 : decode cX1_layBelow 8 = .ok (.iadd, 1) := by decide +kernel
theorem dX1_layBelow_9 : decode cX1_layBelow 9 = .ok (.istore 6, 2) := by decide +kernel
theorem dX1_layBelow_11 : decode cX1_layBelow 11 = .ok (.iload 6, 2) := by decide +kernel
theorem dX1_layBelow_13 : decode cX1_layBelow 13 = .ok (.iload_n 3, 1) := by decide +kernel
theorem dX1_layBelow_14 : decode cX1_layBelow 14 = .ok (.if_icmp .gt 68, 3) := by decide +kernel
theorem dX1_layBelow_17 : decode cX1_layBelow 17 = .ok (.aload_n 0, 1) := by decide +kernel
theorem dX1_layBelow_18 : decode cX1_layBelow 18 = .ok (.getfield 22, 3) := by decide +kernel
theorem dX1_layBelow_21 : decode cX1_layBelow 21 = .ok (.iload 5, 2) := by decide +kernel
theorem dX1_layBelow_23 : decode cX1_layBelow 23 = .ok (.iaload, 1) := by decide +kernel
theorem dX1_layBelow_24 : decode cX1_layBelow 24 = .ok (.iload_n 1, 1) := by decide +kernel
theorem dX1_layBelow_25 : decode cX1_layBelow 25 = .ok (.invokestatic 110, 3) := by decide +kernel
theorem dX1_layBelow_28 : decode cX1_layBelow 28 = .ok (.istore 7, 2) := by decide +kernel
theorem dX1_layBelow_30 : decode cX1_layBelow 30 = .ok (.iload 6, 2) := by decide +kernel
theorem dX1_layBelow_32 : decode cX1_layBelow 32 = .ok (.iload_n 3, 1) := by decide +kernel
theorem dX1_layBelow_33 : decode cX1_layBelow 33 = .ok (.if_icmp .eq 19, 3) := by decide +kernel
theorem dX1_layBelow_36 : decode cX1_layBelow 36 = .ok (.aload_n 0, 1) := by decide +kernel
theorem dX1_layBelow_37 : decode cX1_layBelow 37 = .ok (.getfield 22, 3) := by decide +kernel
theorem dX1_layBelow_40 : decode cX1_layBelow 40 = .ok (.iload 6, 2) := by decide +kernel
theorem dX1_layBelow_42 : decode cX1_layBelow 42 = .ok (.iaload, 1) := by decide +kernel
theorem dX1_layBelow_43 : decode cX1_layBelow 43 = .ok (.iload_n 1, 1) := by decide +kernel
theorem dX1_layBelow_44 : decode cX1_layBelow 44 = .ok (.invokestatic 110, 3) := by decide +kernel
theorem dX1_layBelow_47 : decode cX1_layBelow 47 = .ok (.iload 7, 2) := by decide +kernel
theorem dX1_layBelow_49 : decode cX1_layBelow 49 = .ok (.if_icmp .eq 27, 3) := by decide +kernel
theorem dX1_layBelow_52 : decode cX1_layBelow 52 = .ok (.iload 4, 2) := by decide +kernel
theorem dX1_layBelow_54 : decode cX1_layBelow 54 = .ok (.iconst 1, 1) := by decide +kernel
theorem dX1_layBelow_55 : decode cX1_layBelow 55 = .ok (.iload 7, 2) := by decide +kernel
theorem dX1_layBelow_57 : decode cX1_layBelow 57 = .ok (.ishl, 1) := by decide +kernel
theorem dX1_layBelow_58 : decode cX1_layBelow 58 = .ok (.ior, 1) := by decide +kernel
theorem dX1_layBelow_59 : decode cX1_layBelow 59 = .ok (.istore 4, 2) := by decide +kernel
theorem dX1_layBelow_61 : decode cX1_layBelow 61 = .ok (.aload_n 0, 1) := by decide +kernel
theorem dX1_layBelow_62 : decode cX1_layBelow 62 = .ok (.iload_n 1, 1) := by decide +kernel
theorem dX1_layBelow_63 : decode cX1_layBelow 63 = .ok (.iconst 1, 1) := by decide +kernel
theorem dX1_layBelow_64 : decode cX1_layBelow 64 = .ok (.iadd, 1) := by decide +kernel
theorem dX1_layBelow_65 : decode cX1_layBelow 65 = .ok (.iload 5, 2) := by decide +kernel
theorem dX1_layBelow_67 : decode cX1_layBelow 67 = .ok (.iload 6, 2) := by decide +kernel
theorem dX1_layBelow_69 : decode cX1_layBelow 69 = .ok (.invokestatic 91, 3) := by decide +kernel
theorem dX1_layBelow_72 : decode cX1_layBelow 72 = .ok (.iload 6, 2) := by decide +kernel
theorem dX1_layBelow_74 : decode cX1_layBelow 74 = .ok (.istore 5, 2) := by decide +kernel
theorem dX1_layBelow_76 : decode cX1_layBelow 76 = .ok (.iinc 6 1, 3) := by decide +kernel
theorem dX1_layBelow_79 : decode cX1_layBelow 79 = .ok (.goto (-68), 3) := by decide +kernel
theorem dX1_layBelow_82 : decode cX1_layBelow 82 = .ok (.iload 4, 2) := by decide +kernel
theorem dX1_layBelow_84 : decode cX1_layBelow 84 = .ok (.ireturn, 1) := by decide +kernel
theorem dX1_kindOfTree_0 : decode cX1_kindOfTree 0 = .ok (.iload_n 3, 1) := by decide +kernel
theorem dX1_kindOfTree_1 : decode cX1_kindOfTree 1 = .ok (.iload_n 2, 1) := by decide +kernel
theorem dX1_kindOfTree_2 : decode cX1_kindOfTree 2 = .ok (.isub, 1) := by decide +kernel
theorem dX1_kindOfTree_3 : decode cX1_kindOfTree 3 = .ok (.iconst 1, 1) := by decide +kernel
theorem dX1_kindOfTree_4 : decode cX1_kindOfTree 4 = .ok (.if_icmp .ne 5, 3) := by decide +kernel
theorem dX1_kindOfTree_7 : decode cX1_kindOfTree 7 = .ok (.iconst 0, 1) := by decide +kernel
theorem dX1_kindOfTree_8 : decode cX1_kindOfTree 8 = .ok (.ireturn, 1) := by decide +kernel
theorem dX1_kindOfTree_9 : decode cX1_kindOfTree 9 = .ok (.aload_n 0, 1) := by decide +kernel
theorem dX1_kindOfTree_10 : decode cX1_kindOfTree 10 = .ok (.getfield 22, 3) := by decide +kernel
theorem dX1_kindOfTree_13 : decode cX1_kindOfTree 13 = .ok (.iload_n 2, 1) := by decide +kernel
theorem dX1_kindOfTree_14 : decode cX1_kindOfTree 14 = .ok (.iaload, 1) := by decide +kernel
theorem dX1_kindOfTree_15 : decode cX1_kindOfTree 15 = .ok (.aload_n 0, 1) := by decide +kernel
theorem dX1_kindOfTree_16 : decode cX1_kindOfTree 16 = .ok (.getfield 22, 3) := by decide +kernel
theorem dX1_kindOfTree_19 : decode cX1_kindOfTree 19 = .ok (.iload_n 3, 1) := by decide +kernel
theorem dX1_kindOfTree_20 : decode cX1_kindOfTree 20 = .ok (.iconst 1, 1) := by decide +kernel
theorem dX1_kindOfTree_21 : decode cX1_kindOfTree 21 = .ok (.isub, 1) := by decide +kernel
theorem dX1_kindOfTree_22 : decode cX1_kindOfTree 22 = .ok (.iaload, 1) := by decide +kernel
theorem dX1_kindOfTree_23 : decode cX1_kindOfTree 23 = .ok (.if_icmp .eq 9, 3) := by decide +kernel
theorem dX1_kindOfTree_26 : decode cX1_kindOfTree 26 = .ok (.iload_n 1, 1) := by decide +kernel
theorem dX1_kindOfTree_27 : decode cX1_kindOfTree 27 = .ok (.bipush 6, 2) := by decide +kernel
theorem dX1_kindOfTree_29 : decode cX1_kindOfTree 29 = .ok (.if_icmp .lt 7, 3) := by decide +kernel
theorem dX1_kindOfTree_32 : decode cX1_kindOfTree 32 = .ok (.iconst 1, 1) := by decide +kernel
theorem dX1_kindOfTree_33 : decode cX1_kindOfTree 33 = .ok (.goto 4, 3) := by decide +kernel
theorem dX1_kindOfTree_36 : decode cX1_kindOfTree 36 = .ok (.iconst 2, 1) := by decide +kernel
theorem dX1_kindOfTree_37 : decode cX1_kindOfTree 37 = .ok (.ireturn, 1) := by decide +kernel
theorem dX1_bitsBelow_0 : decode cX1_bitsBelow 0 = .ok (.bipush 30, 2) := by decide +kernel
theorem dX1_bitsBelow_2 : decode cX1_bitsBelow 2 = .ok (.iconst 5, 1) := by decide +kernel
theorem dX1_bitsBelow_3 : decode cX1_bitsBelow 3 = .ok (.iload_n 0, 1) := by decide +kernel
theorem dX1_bitsBelow_4 : decode cX1_bitsBelow 4 = .ok (.imul, 1) := by decide +kernel
theorem dX1_bitsBelow_5 : decode cX1_bitsBelow 5 = .ok (.isub, 1) := by decide +kernel
theorem dX1_bitsBelow_6 : decode cX1_bitsBelow 6 = .ok (.ireturn, 1) := by decide +kernel
theorem dX1_partOf_0 : decode cX1_partOf 0 = .ok (.iload_n 0, 1) := by decide +kernel
theorem dX1_partOf_1 : decode cX1_partOf 1 = .ok (.iload_n 1, 1) := by decide +kernel
theorem dX1_partOf_2 : decode cX1_partOf 2 = .ok (.iconst 1, 1) := by decide +kernel
theorem dX1_partOf_3 : decode cX1_partOf 3 = .ok (.iadd, 1) := by decide +kernel
theorem dX1_partOf_4 : decode cX1_partOf 4 = .ok (.invokestatic 114, 3) := by decide +kernel
theorem dX1_partOf_7 : decode cX1_partOf 7 = .ok (.ishr, 1) := by decide +kernel
theorem dX1_partOf_8 : decode cX1_partOf 8 = .ok (.bipush 31, 2) := by decide +kernel
theorem dX1_partOf_10 : decode cX1_partOf 10 = .ok (.iand, 1) := by decide +kernel
theorem dX1_partOf_11 : decode cX1_partOf 11 = .ok (.ireturn, 1) := by decide +kernel
theorem dX1_placeOf_0 : decode cX1_placeOf 0 = .ok (.iload_n 0, 1) := by decide +kernel
theorem dX1_placeOf_1 : decode cX1_placeOf 1 = .ok (.ifCond .ne 11, 3) := by decide +kernel
theorem dX1_placeOf_4 : decode cX1_placeOf 4 = .ok (.iload_n 2, 1) := by decide +kernel
theorem dX1_placeOf_5 : decode cX1_placeOf 5 = .ok (.bipush 7, 2) := by decide +kernel
theorem dX1_placeOf_7 : decode cX1_placeOf 7 = .ok (.iload_n 3, 1) := by decide +kernel
theorem dX1_placeOf_8 : decode cX1_placeOf 8 = .ok (.invokestatic 117, 3) := by decide +kernel
theorem dX1_placeOf_11 : decode cX1_placeOf 11 = .ok (.lreturn, 1) := by decide +kernel
theorem dX1_placeOf_12 : decode cX1_placeOf 12 = .ok (.iload_n 0, 1) := by decide +kernel
theorem dX1_placeOf_13 : decode cX1_placeOf 13 = .ok (.iconst 1, 1) := by decide +kernel
theorem dX1_placeOf_14 : decode cX1_placeOf 14 = .ok (.if_icmp .ne 11, 3) := by decide +kernel
theorem dX1_placeOf_17 : decode cX1_placeOf 17 = .ok (.iload_n 2, 1) := by decide +kernel
theorem dX1_placeOf_18 : decode cX1_placeOf 18 = .ok (.bipush 6, 2) := by decide +kernel
theorem dX1_placeOf_20 : decode cX1_placeOf 20 = .ok (.iconst 0, 1) := by decide +kernel
theorem dX1_placeOf_21 : decode cX1_placeOf 21 = .ok (.invokestatic 117, 3) := by decide +kernel
theorem dX1_placeOf_24 : decode cX1_placeOf 24 = .ok (.lreturn, 1) := by decide +kernel
theorem dX1_placeOf_25 : decode cX1_placeOf 25 = .ok (.iload_n 1, 1) := by decide +kernel
theorem dX1_placeOf_26 : decode cX1_placeOf 26 = .ok (.invokestatic 114, 3) := by decide +kernel
theorem dX1_placeOf_29 : decode cX1_placeOf 29 = .ok (.istore 4, 2) := by decide +kernel
theorem dX1_placeOf_31 : decode cX1_placeOf 31 = .ok (.iload_n 2, 1) := by decide +kernel
theorem dX1_placeOf_32 : decode cX1_placeOf 32 = .ok (.iload 4, 2) := by decide +kernel
theorem dX1_placeOf_34 : decode cX1_placeOf 34 = .ok (.ishr, 1) := by decide +kernel
theorem dX1_placeOf_35 : decode cX1_placeOf 35 = .ok (.iload 4, 2) := by decide +kernel
theorem dX1_placeOf_37 : decode cX1_placeOf 37 = .ok (.ishl, 1) := by decide +kernel
theorem dX1_placeOf_38 : decode cX1_placeOf 38 = .ok (.iload_n 1, 1) := by decide +kernel
theorem dX1_placeOf_39 : decode cX1_placeOf 39 = .ok (.iconst 0, 1) := by decide +kernel
theorem dX1_placeOf_40 : decode cX1_placeOf 40 = .ok (.invokestatic 117, 3) := by decide +kernel
theorem dX1_placeOf_43 : decode cX1_placeOf 43 = .ok (.lreturn, 1) := by decide +kernel
theorem dX1_packed_0 : decode cX1_packed 0 = .ok (.iload_n 0, 1) := by decide +kernel
theorem dX1_packed_1 : decode cX1_packed 1 = .ok (.i2l, 1) := by decide +kernel
theorem dX1_packed_2 : decode cX1_packed 2 = .ok (.bipush 15, 2) := by decide +kernel
theorem dX1_packed_4 : decode cX1_packed 4 = .ok (.lshl, 1) := by decide +kernel
theorem dX1_packed_5 : decode cX1_packed 5 = .ok (.iload_n 1, 1) := by decide +kernel
theorem dX1_packed_6 : decode cX1_packed 6 = .ok (.bipush 12, 2) := by decide +kernel
theorem dX1_packed_8 : decode cX1_packed 8 = .ok (.ishl, 1) := by decide +kernel
theorem dX1_packed_9 : decode cX1_packed 9 = .ok (.i2l, 1) := by decide +kernel
theorem dX1_packed_10 : decode cX1_packed 10 = .ok (.lor, 1) := by decide +kernel
theorem dX1_packed_11 : decode cX1_packed 11 = .ok (.iload_n 2, 1) := by decide +kernel
theorem dX1_packed_12 : decode cX1_packed 12 = .ok (.i2l, 1) := by decide +kernel
theorem dX1_packed_13 : decode cX1_packed 13 = .ok (.lor, 1) := by decide +kernel
theorem dX1_packed_14 : decode cX1_packed 14 = .ok (.lreturn, 1) := by decide +kernel
theorem dX1_indexOfPlace_0 : decode cX1_indexOfPlace 0 = .ok (.iconst (-1), 1) := by decide +kernel
theorem dX1_indexOfPlace_1 : decode cX1_indexOfPlace 1 = .ok (.istore_n 3, 1) := by decide +kernel
theorem dX1_indexOfPlace_2 : decode cX1_indexOfPlace 2 = .ok (.bipush 64, 2) := by decide +kernel
theorem dX1_indexOfPlace_4 : decode cX1_indexOfPlace 4 = .ok (.istore 4, 2) := by decide +kernel
theorem dX1_indexOfPlace_6 : decode cX1_indexOfPlace 6 = .ok (.iload 4, 2) := by decide +kernel
theorem dX1_indexOfPlace_8 : decode cX1_indexOfPlace 8 = .ok (.ifCond .le 42, 3) := by decide +kernel
theorem dX1_indexOfPlace_11 : decode cX1_indexOfPlace 11 = .ok (.iload_n 3, 1) := by decide +kernel
theorem dX1_indexOfPlace_12 : decode cX1_indexOfPlace 12 = .ok (.iload 4, 2) := by decide +kernel
theorem dX1_indexOfPlace_14 : decode cX1_indexOfPlace 14 = .ok (.iadd, 1) := by decide +kernel
theorem dX1_indexOfPlace_15 : decode cX1_indexOfPlace 15 = .ok (.aload_n 0, 1) := by decide +kernel
theorem dX1_indexOfPlace_16 : decode cX1_indexOfPlace 16 = .ok (.getfield 28, 3) := by decide +kernel
theorem dX1_indexOfPlace_19 : decode cX1_indexOfPlace 19 = .ok (.if_icmp .ge 22, 3) := by decide +kernel
theorem dX1_indexOfPlace_22 : decode cX1_indexOfPlace 22 = .ok (.aload_n 0, 1) := by decide +kernel
theorem dX1_indexOfPlace_23 : decode cX1_indexOfPlace 23 = .ok (.getfield 52, 3) := by decide +kernel
theorem dX1_indexOfPlace_26 : decode cX1_indexOfPlace 26 = .ok (.iload_n 3, 1) := by decide +kernel
theorem dX1_indexOfPlace_27 : decode cX1_indexOfPlace 27 = .ok (.iload 4, 2) := by decide +kernel
theorem dX1_indexOfPlace_29 : decode cX1_indexOfPlace 29 = .ok (.iadd, 1) := by decide +kernel
theorem dX1_indexOfPlace_30 : decode cX1_indexOfPlace 30 = .ok (.laload, 1) := by decide +kernel
theorem dX1_indexOfPlace_31 : decode cX1_indexOfPlace 31 = .ok (.lload_n 1, 1) := by decide +kernel
theorem dX1_indexOfPlace_32 : decode cX1_indexOfPlace 32 = .ok (.lcmp, 1) := by decide +kernel
theorem dX1_indexOfPlace_33 : decode cX1_indexOfPlace 33 = .ok (.ifCond .gt 8, 3) := by decide +kernel
theorem dX1_indexOfPlace_36 : decode cX1_indexOfPlace 36 = .ok (.iload_n 3, 1) := by decide +kernel
theorem dX1_indexOfPlace_37 : decode cX1_indexOfPlace 37 = .ok (.iload 4, 2) := by decide +kernel
theorem dX1_indexOfPlace_39 : decode cX1_indexOfPlace 39 = .ok (.iadd, 1) := by decide +kernel
theorem dX1_indexOfPlace_40 : decode cX1_indexOfPlace 40 = .ok (.istore_n 3, 1) := by decide +kernel
theorem dX1_indexOfPlace_41 : decode cX1_indexOfPlace 41 = .ok (.iload 4, 2) := by decide +kernel
theorem dX1_indexOfPlace_43 : decode cX1_indexOfPlace 43 = .ok (.iconst 2, 1) := by decide +kernel
theorem dX1_indexOfPlace_44 : decode cX1_indexOfPlace 44 = .ok (.idiv, 1) := by decide +kernel
theorem dX1_indexOfPlace_45 : decode cX1_indexOfPlace 45 = .ok (.istore 4, 2) := by decide +kernel
theorem dX1_indexOfPlace_47 : decode cX1_indexOfPlace 47 = .ok (.goto (-41), 3) := by decide +kernel
theorem dX1_indexOfPlace_50 : decode cX1_indexOfPlace 50 = .ok (.iload_n 3, 1) := by decide +kernel
theorem dX1_indexOfPlace_51 : decode cX1_indexOfPlace 51 = .ok (.ifCond .lt 18, 3) := by decide +kernel
theorem dX1_indexOfPlace_54 : decode cX1_indexOfPlace 54 = .ok (.aload_n 0, 1) := by decide +kernel
theorem dX1_indexOfPlace_55 : decode cX1_indexOfPlace 55 = .ok (.getfield 52, 3) := by decide +kernel
theorem dX1_indexOfPlace_58 : decode cX1_indexOfPlace 58 = .ok (.iload_n 3, 1) := by decide +kernel
theorem dX1_indexOfPlace_59 : decode cX1_indexOfPlace 59 = .ok (.laload, 1) := by decide +kernel
theorem dX1_indexOfPlace_60 : decode cX1_indexOfPlace 60 = .ok (.lload_n 1, 1) := by decide +kernel
theorem dX1_indexOfPlace_61 : decode cX1_indexOfPlace 61 = .ok (.lcmp, 1) := by decide +kernel
theorem dX1_indexOfPlace_62 : decode cX1_indexOfPlace 62 = .ok (.ifCond .ne 7, 3) := by decide +kernel
theorem dX1_indexOfPlace_65 : decode cX1_indexOfPlace 65 = .ok (.iload_n 3, 1) := by decide +kernel
theorem dX1_indexOfPlace_66 : decode cX1_indexOfPlace 66 = .ok (.goto 4, 3) := by decide +kernel
theorem dX1_indexOfPlace_69 : decode cX1_indexOfPlace 69 = .ok (.iconst (-1), 1) := by decide +kernel
theorem dX1_indexOfPlace_70 : decode cX1_indexOfPlace 70 = .ok (.ireturn, 1) := by decide +kernel
theorem dX1_isEqualNode_0 : decode cX1_isEqualNode 0 = .ok (.aload_n 0, 1) := by decide +kernel
theorem dX1_isEqualNode_1 : decode cX1_isEqualNode 1 = .ok (.getfield 52, 3) := by decide +kernel
theorem dX1_isEqualNode_4 : decode cX1_isEqualNode 4 = .ok (.iload_n 1, 1) := by decide +kernel
theorem dX1_isEqualNode_5 : decode cX1_isEqualNode 5 = .ok (.laload, 1) := by decide +kernel
theorem dX1_isEqualNode_6 : decode cX1_isEqualNode 6 = .ok (.aload_n 2, 1) := by decide +kernel
theorem dX1_isEqualNode_7 : decode cX1_isEqualNode 7 = .ok (.getfield 52, 3) := by decide +kernel
theorem dX1_isEqualNode_10 : decode cX1_isEqualNode 10 = .ok (.iload_n 3, 1) := by decide +kernel
theorem dX1_isEqualNode_11 : decode cX1_isEqualNode 11 = .ok (.laload, 1) := by decide +kernel
theorem dX1_isEqualNode_12 : decode cX1_isEqualNode 12 = .ok (.lcmp, 1) := by decide +kernel
theorem dX1_isEqualNode_13 : decode cX1_isEqualNode 13 = .ok (.ifCond .ne 18, 3) := by decide +kernel
theorem dX1_isEqualNode_16 : decode cX1_isEqualNode 16 = .ok (.aload_n 0, 1) := by decide +kernel
theorem dX1_isEqualNode_17 : decode cX1_isEqualNode 17 = .ok (.getfield 43, 3) := by decide +kernel
theorem dX1_isEqualNode_20 : decode cX1_isEqualNode 20 = .ok (.iload_n 1, 1) := by decide +kernel
theorem dX1_isEqualNode_21 : decode cX1_isEqualNode 21 = .ok (.iaload, 1) := by decide +kernel
theorem dX1_isEqualNode_22 : decode cX1_isEqualNode 22 = .ok (.aload_n 2, 1) := by decide +kernel
theorem dX1_isEqualNode_23 : decode cX1_isEqualNode 23 = .ok (.getfield 43, 3) := by decide +kernel
theorem dX1_isEqualNode_26 : decode cX1_isEqualNode 26 = .ok (.iload_n 3, 1) := by decide +kernel
theorem dX1_isEqualNode_27 : decode cX1_isEqualNode 27 = .ok (.iaload, 1) := by decide +kernel
theorem dX1_isEqualNode_28 : decode cX1_isEqualNode 28 = .ok (.if_icmp .eq 5, 3) := by decide +kernel
theorem dX1_isEqualNode_31 : decode cX1_isEqualNode 31 = .ok (.iconst 0, 1) := by decide +kernel
theorem dX1_isEqualNode_32 : decode cX1_isEqualNode 32 = .ok (.ireturn, 1) := by decide +kernel
theorem dX1_isEqualNode_33 : decode cX1_isEqualNode 33 = .ok (.iconst 0, 1) := by decide +kernel
theorem dX1_isEqualNode_34 : decode cX1_isEqualNode 34 = .ok (.istore 4, 2) := by decide +kernel
theorem dX1_isEqualNode_36 : decode cX1_isEqualNode 36 = .ok (.iload 4, 2) := by decide +kernel
theorem dX1_isEqualNode_38 : decode cX1_isEqualNode 38 = .ok (.aload_n 0, 1) := by decide +kernel
theorem dX1_isEqualNode_39 : decode cX1_isEqualNode 39 = .ok (.getfield 43, 3) := by decide +kernel
theorem dX1_isEqualNode_42 : decode cX1_isEqualNode 42 = .ok (.iload_n 1, 1) := by decide +kernel
theorem dX1_isEqualNode_43 : decode cX1_isEqualNode 43 = .ok (.iaload, 1) := by decide +kernel
theorem dX1_isEqualNode_44 : decode cX1_isEqualNode 44 = .ok (.if_icmp .ge 67, 3) := by decide +kernel
theorem dX1_isEqualNode_47 : decode cX1_isEqualNode 47 = .ok (.aload_n 0, 1) := by decide +kernel
theorem dX1_isEqualNode_48 : decode cX1_isEqualNode 48 = .ok (.getfield 40, 3) := by decide +kernel
theorem dX1_isEqualNode_51 : decode cX1_isEqualNode 51 = .ok (.iload_n 1, 1) := by decide +kernel
theorem dX1_isEqualNode_52 : decode cX1_isEqualNode 52 = .ok (.iaload, 1) := by decide +kernel
theorem dX1_isEqualNode_53 : decode cX1_isEqualNode 53 = .ok (.iload 4, 2) := by decide +kernel
theorem dX1_isEqualNode_55 : decode cX1_isEqualNode 55 = .ok (.iadd, 1) := by decide +kernel
theorem dX1_isEqualNode_56 : decode cX1_isEqualNode 56 = .ok (.istore 5, 2) := by decide +kernel
theorem dX1_isEqualNode_58 : decode cX1_isEqualNode 58 = .ok (.aload_n 2, 1) := by decide +kernel
theorem dX1_isEqualNode_59 : decode cX1_isEqualNode 59 = .ok (.getfield 40, 3) := by decide +kernel
theorem dX1_isEqualNode_62 : decode cX1_isEqualNode 62 = .ok (.iload_n 3, 1) := by decide +kernel
theorem dX1_isEqualNode_63 : decode cX1_isEqualNode 63 = .ok (.iaload, 1) := by decide +kernel
theorem dX1_isEqualNode_64 : decode cX1_isEqualNode 64 = .ok (.iload 4, 2) := by decide +kernel
theorem dX1_isEqualNode_66 : decode cX1_isEqualNode 66 = .ok (.iadd, 1) := by decide +kernel
theorem dX1_isEqualNode_67 : decode cX1_isEqualNode 67 = .ok (.istore 6, 2) := by decide +kernel
theorem dX1_isEqualNode_69 : decode cX1_isEqualNode 69 = .ok (.aload_n 0, 1) := by decide +kernel
theorem dX1_isEqualNode_70 : decode cX1_isEqualNode 70 = .ok (.getfield 15, 3) := by decide +kernel
theorem dX1_isEqualNode_73 : decode cX1_isEqualNode 73 = .ok (.iload 5, 2) := by decide +kernel
theorem dX1_isEqualNode_75 : decode cX1_isEqualNode 75 = .ok (.iaload, 1) := by decide +kernel
theorem dX1_isEqualNode_76 : decode cX1_isEqualNode 76 = .ok (.aload_n 2, 1) := by decide +kernel
theorem dX1_isEqualNode_77 : decode cX1_isEqualNode 77 = .ok (.getfield 15, 3) := by decide +kernel
theorem dX1_isEqualNode_80 : decode cX1_isEqualNode 80 = .ok (.iload 6, 2) := by decide +kernel
theorem dX1_isEqualNode_82 : decode cX1_isEqualNode 82 = .ok (.iaload, 1) := by decide +kernel
theorem dX1_isEqualNode_83 : decode cX1_isEqualNode 83 = .ok (.if_icmp .ne 20, 3) := by decide +kernel
theorem dX1_isEqualNode_86 : decode cX1_isEqualNode 86 = .ok (.aload_n 0, 1) := by decide +kernel
theorem dX1_isEqualNode_87 : decode cX1_isEqualNode 87 = .ok (.getfield 19, 3) := by decide +kernel
theorem dX1_isEqualNode_90 : decode cX1_isEqualNode 90 = .ok (.iload 5, 2) := by decide +kernel
theorem dX1_isEqualNode_92 : decode cX1_isEqualNode 92 = .ok (.iaload, 1) := by decide +kernel
theorem dX1_isEqualNode_93 : decode cX1_isEqualNode 93 = .ok (.aload_n 2, 1) := by decide +kernel
theorem dX1_isEqualNode_94 : decode cX1_isEqualNode 94 = .ok (.getfield 19, 3) := by decide +kernel
theorem dX1_isEqualNode_97 : decode cX1_isEqualNode 97 = .ok (.iload 6, 2) := by decide +kernel
theorem dX1_isEqualNode_99 : decode cX1_isEqualNode 99 = .ok (.iaload, 1) := by decide +kernel
theorem dX1_isEqualNode_100 : decode cX1_isEqualNode 100 = .ok (.if_icmp .eq 5, 3) := by decide +kernel
theorem dX1_isEqualNode_103 : decode cX1_isEqualNode 103 = .ok (.iconst 0, 1) := by decide +kernel
theorem dX1_isEqualNode_104 : decode cX1_isEqualNode 104 = .ok (.ireturn, 1) := by decide +kernel
theorem dX1_isEqualNode_105 : decode cX1_isEqualNode 105 = .ok (.iinc 4 1, 3) := by decide +kernel
theorem dX1_isEqualNode_108 : decode cX1_isEqualNode 108 = .ok (.goto (-72), 3) := by decide +kernel
theorem dX1_isEqualNode_111 : decode cX1_isEqualNode 111 = .ok (.iconst 1, 1) := by decide +kernel
theorem dX1_isEqualNode_112 : decode cX1_isEqualNode 112 = .ok (.ireturn, 1) := by decide +kernel
theorem dX1_takeNodes_0 : decode cX1_takeNodes 0 = .ok (.aload_n 2, 1) := by decide +kernel
theorem dX1_takeNodes_1 : decode cX1_takeNodes 1 = .ok (.aload_n 0, 1) := by decide +kernel
theorem dX1_takeNodes_2 : decode cX1_takeNodes 2 = .ok (.getfield 52, 3) := by decide +kernel
theorem dX1_takeNodes_5 : decode cX1_takeNodes 5 = .ok (.iload_n 1, 1) := by decide +kernel
theorem dX1_takeNodes_6 : decode cX1_takeNodes 6 = .ok (.laload, 1) := by decide +kernel
theorem dX1_takeNodes_7 : decode cX1_takeNodes 7 = .ok (.invokevirtual 121, 3) := by decide +kernel
theorem dX1_takeNodes_10 : decode cX1_takeNodes 10 = .ok (.istore_n 3, 1) := by decide +kernel
theorem dX1_takeNodes_11 : decode cX1_takeNodes 11 = .ok (.iload_n 3, 1) := by decide +kernel
theorem dX1_takeNodes_12 : decode cX1_takeNodes 12 = .ok (.ifCond .lt 13, 3) := by decide +kernel
theorem dX1_takeNodes_15 : decode cX1_takeNodes 15 = .ok (.aload_n 0, 1) := by decide +kernel
theorem dX1_takeNodes_16 : decode cX1_takeNodes 16 = .ok (.iload_n 1, 1) := by decide +kernel
theorem dX1_takeNodes_17 : decode cX1_takeNodes 17 = .ok (.aload_n 2, 1) := by decide +kernel
theorem dX1_takeNodes_18 : decode cX1_takeNodes 18 = .ok (.iload_n 3, 1) := by decide +kernel
theorem dX1_takeNodes_19 : decode cX1_takeNodes 19 = .ok (.invokevirtual 125, 3) := by decide +kernel
theorem dX1_takeNodes_22 : decode cX1_takeNodes 22 = .ok (.ifCond .ne 5, 3) := by decide +kernel
theorem dX1_takeNodes_25 : decode cX1_takeNodes 25 = .ok (.iconst 0, 1) := by decide +kernel
theorem dX1_takeNodes_26 : decode cX1_takeNodes 26 = .ok (.ireturn, 1) := by decide +kernel
theorem dX1_takeNodes_27 : decode cX1_takeNodes 27 = .ok (.aload_n 2, 1) := by decide +kernel
theorem dX1_takeNodes_28 : decode cX1_takeNodes 28 = .ok (.getfield 31, 3) := by decide +kernel
theorem dX1_takeNodes_31 : decode cX1_takeNodes 31 = .ok (.iload_n 3, 1) := by decide +kernel
theorem dX1_takeNodes_32 : decode cX1_takeNodes 32 = .ok (.aload_n 0, 1) := by decide +kernel
theorem dX1_takeNodes_33 : decode cX1_takeNodes 33 = .ok (.getfield 31, 3) := by decide +kernel
theorem dX1_takeNodes_36 : decode cX1_takeNodes 36 = .ok (.iload_n 1, 1) := by decide +kernel
theorem dX1_takeNodes_37 : decode cX1_takeNodes 37 = .ok (.aload_n 0, 1) := by decide +kernel
theorem dX1_takeNodes_38 : decode cX1_takeNodes 38 = .ok (.getfield 49, 3) := by decide +kernel
theorem dX1_takeNodes_41 : decode cX1_takeNodes 41 = .ok (.iload_n 1, 1) := by decide +kernel
theorem dX1_takeNodes_42 : decode cX1_takeNodes 42 = .ok (.iaload, 1) := by decide +kernel
theorem dX1_takeNodes_43 : decode cX1_takeNodes 43 = .ok (.invokestatic 59, 3) := by decide +kernel
theorem dX1_takeNodes_46 : decode cX1_takeNodes 46 = .ok (.aload_n 0, 1) := by decide +kernel
theorem dX1_takeNodes_47 : decode cX1_takeNodes 47 = .ok (.getfield 49, 3) := by decide +kernel
theorem dX1_takeNodes_50 : decode cX1_takeNodes 50 = .ok (.iload_n 1, 1) := by decide +kernel
theorem dX1_takeNodes_51 : decode cX1_takeNodes 51 = .ok (.iaload, 1) := by decide +kernel
theorem dX1_takeNodes_52 : decode cX1_takeNodes 52 = .ok (.ireturn, 1) := by decide +kernel
theorem dX1_hasNodeOf_0 : decode cX1_hasNodeOf 0 = .ok (.aload_n 0, 1) := by decide +kernel
theorem dX1_hasNodeOf_1 : decode cX1_hasNodeOf 1 = .ok (.aload_n 1, 1) := by decide +kernel
theorem dX1_hasNodeOf_2 : decode cX1_hasNodeOf 2 = .ok (.getfield 52, 3) := by decide +kernel
theorem dX1_hasNodeOf_5 : decode cX1_hasNodeOf 5 = .ok (.iload_n 2, 1) := by decide +kernel
theorem dX1_hasNodeOf_6 : decode cX1_hasNodeOf 6 = .ok (.laload, 1) := by decide +kernel
theorem dX1_hasNodeOf_7 : decode cX1_hasNodeOf 7 = .ok (.invokevirtual 121, 3) := by decide +kernel
theorem dX1_hasNodeOf_10 : decode cX1_hasNodeOf 10 = .ok (.istore_n 3, 1) := by decide +kernel
theorem dX1_hasNodeOf_11 : decode cX1_hasNodeOf 11 = .ok (.iload_n 3, 1) := by decide +kernel
theorem dX1_hasNodeOf_12 : decode cX1_hasNodeOf 12 = .ok (.ifCond .lt 22, 3) := by decide +kernel
theorem dX1_hasNodeOf_15 : decode cX1_hasNodeOf 15 = .ok (.aload_n 0, 1) := by decide +kernel
theorem dX1_hasNodeOf_16 : decode cX1_hasNodeOf 16 = .ok (.getfield 31, 3) := by decide +kernel
theorem dX1_hasNodeOf_19 : decode cX1_hasNodeOf 19 = .ok (.iload_n 3, 1) := by decide +kernel
theorem dX1_hasNodeOf_20 : decode cX1_hasNodeOf 20 = .ok (.iaload, 1) := by decide +kernel
theorem dX1_hasNodeOf_21 : decode cX1_hasNodeOf 21 = .ok (.aload_n 1, 1) := by decide +kernel
theorem dX1_hasNodeOf_22 : decode cX1_hasNodeOf 22 = .ok (.getfield 31, 3) := by decide +kernel
theorem dX1_hasNodeOf_25 : decode cX1_hasNodeOf 25 = .ok (.iload_n 2, 1) := by decide +kernel
theorem dX1_hasNodeOf_26 : decode cX1_hasNodeOf 26 = .ok (.iaload, 1) := by decide +kernel
theorem dX1_hasNodeOf_27 : decode cX1_hasNodeOf 27 = .ok (.if_icmp .ne 7, 3) := by decide +kernel
theorem dX1_hasNodeOf_30 : decode cX1_hasNodeOf 30 = .ok (.iconst 1, 1) := by decide +kernel
theorem dX1_hasNodeOf_31 : decode cX1_hasNodeOf 31 = .ok (.goto 4, 3) := by decide +kernel
theorem dX1_hasNodeOf_34 : decode cX1_hasNodeOf 34 = .ok (.iconst 0, 1) := by decide +kernel
theorem dX1_hasNodeOf_35 : decode cX1_hasNodeOf 35 = .ok (.ireturn, 1) := by decide +kernel
theorem dX1_nodesFrom_0 : decode cX1_nodesFrom 0 = .ok (.iconst 0, 1) := by decide +kernel
theorem dX1_nodesFrom_1 : decode cX1_nodesFrom 1 = .ok (.istore_n 2, 1) := by decide +kernel
theorem dX1_nodesFrom_2 : decode cX1_nodesFrom 2 = .ok (.iconst 0, 1) := by decide +kernel
theorem dX1_nodesFrom_3 : decode cX1_nodesFrom 3 = .ok (.istore_n 3, 1) := by decide +kernel
theorem dX1_nodesFrom_4 : decode cX1_nodesFrom 4 = .ok (.iload_n 3, 1) := by decide +kernel
theorem dX1_nodesFrom_5 : decode cX1_nodesFrom 5 = .ok (.aload_n 0, 1) := by decide +kernel
theorem dX1_nodesFrom_6 : decode cX1_nodesFrom 6 = .ok (.getfield 28, 3) := by decide +kernel
theorem dX1_nodesFrom_9 : decode cX1_nodesFrom 9 = .ok (.if_icmp .ge 22, 3) := by decide +kernel
theorem dX1_nodesFrom_12 : decode cX1_nodesFrom 12 = .ok (.aload_n 0, 1) := by decide +kernel
theorem dX1_nodesFrom_13 : decode cX1_nodesFrom 13 = .ok (.getfield 31, 3) := by decide +kernel
theorem dX1_nodesFrom_16 : decode cX1_nodesFrom 16 = .ok (.iload_n 3, 1) := by decide +kernel
theorem dX1_nodesFrom_17 : decode cX1_nodesFrom 17 = .ok (.iaload, 1) := by decide +kernel
theorem dX1_nodesFrom_18 : decode cX1_nodesFrom 18 = .ok (.iload_n 1, 1) := by decide +kernel
theorem dX1_nodesFrom_19 : decode cX1_nodesFrom 19 = .ok (.if_icmp .lt 6, 3) := by decide +kernel
theorem dX1_nodesFrom_22 : decode cX1_nodesFrom 22 = .ok (.iinc 2 1, 3) := by decide +kernel
theorem dX1_nodesFrom_25 : decode cX1_nodesFrom 25 = .ok (.iinc 3 1, 3) := by decide +kernel
theorem dX1_nodesFrom_28 : decode cX1_nodesFrom 28 = .ok (.goto (-24), 3) := by decide +kernel
theorem dX1_nodesFrom_31 : decode cX1_nodesFrom 31 = .ok (.iload_n 2, 1) := by decide +kernel
theorem dX1_nodesFrom_32 : decode cX1_nodesFrom 32 = .ok (.ireturn, 1) := by decide +kernel
theorem dX1_nodesOfKind_0 : decode cX1_nodesOfKind 0 = .ok (.iconst 0, 1) := by decide +kernel
theorem dX1_nodesOfKind_1 : decode cX1_nodesOfKind 1 = .ok (.istore_n 2, 1) := by decide +kernel
theorem dX1_nodesOfKind_2 : decode cX1_nodesOfKind 2 = .ok (.iconst 0, 1) := by decide +kernel
theorem dX1_nodesOfKind_3 : decode cX1_nodesOfKind 3 = .ok (.istore_n 3, 1) := by decide +kernel
theorem dX1_nodesOfKind_4 : decode cX1_nodesOfKind 4 = .ok (.iload_n 3, 1) := by decide +kernel
theorem dX1_nodesOfKind_5 : decode cX1_nodesOfKind 5 = .ok (.aload_n 0, 1) := by decide +kernel
theorem dX1_nodesOfKind_6 : decode cX1_nodesOfKind 6 = .ok (.getfield 28, 3) := by decide +kernel
theorem dX1_nodesOfKind_9 : decode cX1_nodesOfKind 9 = .ok (.if_icmp .ge 22, 3) := by decide +kernel
theorem dX1_nodesOfKind_12 : decode cX1_nodesOfKind 12 = .ok (.aload_n 0, 1) := by decide +kernel
theorem dX1_nodesOfKind_13 : decode cX1_nodesOfKind 13 = .ok (.getfield 34, 3) := by decide +kernel
theorem dX1_nodesOfKind_16 : decode cX1_nodesOfKind 16 = .ok (.iload_n 3, 1) := by decide +kernel
theorem dX1_nodesOfKind_17 : decode cX1_nodesOfKind 17 = .ok (.iaload, 1) := by decide +kernel
theorem dX1_nodesOfKind_18 : decode cX1_nodesOfKind 18 = .ok (.iload_n 1, 1) := by decide +kernel
theorem dX1_nodesOfKind_19 : decode cX1_nodesOfKind 19 = .ok (.if_icmp .ne 6, 3) := by decide +kernel
theorem dX1_nodesOfKind_22 : decode cX1_nodesOfKind 22 = .ok (.iinc 2 1, 3) := by decide +kernel
theorem dX1_nodesOfKind_25 : decode cX1_nodesOfKind 25 = .ok (.iinc 3 1, 3) := by decide +kernel
theorem dX1_nodesOfKind_28 : decode cX1_nodesOfKind 28 = .ok (.goto (-24), 3) := by decide +kernel
theorem dX1_nodesOfKind_31 : decode cX1_nodesOfKind 31 = .ok (.iload_n 2, 1) := by decide +kernel
theorem dX1_nodesOfKind_32 : decode cX1_nodesOfKind 32 = .ok (.ireturn, 1) := by decide +kernel
theorem dX1_greatestLevel_0 : decode cX1_greatestLevel 0 = .ok (.iconst (-1), 1) := by decide +kernel
theorem dX1_greatestLevel_1 : decode cX1_greatestLevel 1 = .ok (.istore_n 1, 1) := by decide +kernel
theorem dX1_greatestLevel_2 : decode cX1_greatestLevel 2 = .ok (.iconst 0, 1) := by decide +kernel
theorem dX1_greatestLevel_3 : decode cX1_greatestLevel 3 = .ok (.istore_n 2, 1) := by decide +kernel
theorem dX1_greatestLevel_4 : decode cX1_greatestLevel 4 = .ok (.iload_n 2, 1) := by decide +kernel
theorem dX1_greatestLevel_5 : decode cX1_greatestLevel 5 = .ok (.aload_n 0, 1) := by decide +kernel
theorem dX1_greatestLevel_6 : decode cX1_greatestLevel 6 = .ok (.getfield 28, 3) := by decide +kernel
theorem dX1_greatestLevel_9 : decode cX1_greatestLevel 9 = .ok (.if_icmp .ge 20, 3) := by decide +kernel
theorem dX1_greatestLevel_12 : decode cX1_greatestLevel 12 = .ok (.iload_n 1, 1) := by decide +kernel
theorem dX1_greatestLevel_13 : decode cX1_greatestLevel 13 = .ok (.aload_n 0, 1) := by decide +kernel
theorem dX1_greatestLevel_14 : decode cX1_greatestLevel 14 = .ok (.getfield 37, 3) := by decide +kernel
theorem dX1_greatestLevel_17 : decode cX1_greatestLevel 17 = .ok (.iload_n 2, 1) := by decide +kernel
theorem dX1_greatestLevel_18 : decode cX1_greatestLevel 18 = .ok (.iaload, 1) := by decide +kernel
theorem dX1_greatestLevel_19 : decode cX1_greatestLevel 19 = .ok (.invokestatic 129, 3) := by decide +kernel
theorem dX1_greatestLevel_22 : decode cX1_greatestLevel 22 = .ok (.istore_n 1, 1) := by decide +kernel
theorem dX1_greatestLevel_23 : decode cX1_greatestLevel 23 = .ok (.iinc 2 1, 3) := by decide +kernel
theorem dX1_greatestLevel_26 : decode cX1_greatestLevel 26 = .ok (.goto (-22), 3) := by decide +kernel
theorem dX1_greatestLevel_29 : decode cX1_greatestLevel 29 = .ok (.iload_n 1, 1) := by decide +kernel
theorem dX1_greatestLevel_30 : decode cX1_greatestLevel 30 = .ok (.ireturn, 1) := by decide +kernel
end
section
theorem dX2_init_0 : decode cX2_init 0 = .ok (.aload_n 0, 1) := by decide +kernel
theorem dX2_init_1 : decode cX2_init 1 = .ok (.invokespecial 3, 3) := by decide +kernel
theorem dX2_init_4 : decode cX2_init 4 = .ok (.aload_n 0, 1) := by decide +kernel
theorem dX2_init_5 : decode cX2_init 5 = .ok (.bipush 20, 2) := by decide +kernel
theorem dX2_init_7 : decode cX2_init 7 = .ok (.anewarray 9, 3) := by decide +kernel
theorem dX2_init_10 : decode cX2_init 10 = .ok (.putfield 11, 3) := by decide +kernel
theorem dX2_init_13 : decode cX2_init 13 = .ok (.aload_n 0, 1) := by decide +kernel
theorem dX2_init_14 : decode cX2_init 14 = .ok (.iconst 1, 1) := by decide +kernel
theorem dX2_init_15 : decode cX2_init 15 = .ok (.putfield 15, 3) := by decide +kernel
theorem dX2_init_18 : decode cX2_init 18 = .ok (.aload_n 0, 1) := by decide +kernel
theorem dX2_init_19 : decode cX2_init 19 = .ok (.new 19, 3) := by decide +kernel
theorem dX2_init_22 : decode cX2_init 22 = .ok (.dup, 1) := by decide +kernel
theorem dX2_init_23 : decode cX2_init 23 = .ok (.invokespecial 21, 3) := by decide +kernel
theorem dX2_init_26 : decode cX2_init 26 = .ok (.putfield 22, 3) := by decide +kernel
theorem dX2_init_29 : decode cX2_init 29 = .ok (.aload_n 0, 1) := by decide +kernel
theorem dX2_init_30 : decode cX2_init 30 = .ok (.iconst 1, 1) := by decide +kernel
theorem dX2_init_31 : decode cX2_init 31 = .ok (.putfield 26, 3) := by decide +kernel
theorem dX2_init_34 : decode cX2_init 34 = .ok (.aload_n 0, 1) := by decide +kernel
theorem dX2_init_35 : decode cX2_init 35 = .ok (.bipush 30, 2) := by decide +kernel
theorem dX2_init_37 : decode cX2_init 37 = .ok (.putfield 29, 3) := by decide +kernel
theorem dX2_init_40 : decode cX2_init 40 = .ok (.aload_n 0, 1) := by decide +kernel
theorem dX2_init_41 : decode cX2_init 41 = .ok (.iconst 0, 1) := by decide +kernel
theorem dX2_init_42 : decode cX2_init 42 = .ok (.putfield 32, 3) := by decide +kernel
theorem dX2_init_45 : decode cX2_init 45 = .ok (.aload_n 0, 1) := by decide +kernel
theorem dX2_init_46 : decode cX2_init 46 = .ok (.iconst 0, 1) := by decide +kernel
theorem dX2_init_47 : decode cX2_init 47 = .ok (.putfield 35, 3) := by decide +kernel
theorem dX2_init_50 : decode cX2_init 50 = .ok (.aload_n 0, 1) := by decide +kernel
theorem dX2_init_51 : decode cX2_init 51 = .ok (.iconst 0, 1) := by decide +kernel
theorem dX2_init_52 : decode cX2_init 52 = .ok (.putfield 38, 3) := by decide +kernel
theorem dX2_init_55 : decode cX2_init 55 = .ok (.aload_n 0, 1) := by decide +kernel
theorem dX2_init_56 : decode cX2_init 56 = .ok (.new 9, 3) := by decide +kernel
theorem dX2_init_59 : decode cX2_init 59 = .ok (.dup, 1) := by decide +kernel
theorem dX2_init_60 : decode cX2_init 60 = .ok (.invokespecial 41, 3) := by decide +kernel
theorem dX2_init_63 : decode cX2_init 63 = .ok (.putfield 42, 3) := by decide +kernel
theorem dX2_init_66 : decode cX2_init 66 = .ok (.aload_n 0, 1) := by decide +kernel
theorem dX2_init_67 : decode cX2_init 67 = .ok (.iconst 0, 1) := by decide +kernel
theorem dX2_init_68 : decode cX2_init 68 = .ok (.putfield 46, 3) := by decide +kernel
theorem dX2_init_71 : decode cX2_init 71 = .ok (.aload_n 0, 1) := by decide +kernel
theorem dX2_init_72 : decode cX2_init 72 = .ok (.iconst 0, 1) := by decide +kernel
theorem dX2_init_73 : decode cX2_init 73 = .ok (.putfield 50, 3) := by decide +kernel
theorem dX2_init_76 : decode cX2_init 76 = .ok (.aload_n 0, 1) := by decide +kernel
theorem dX2_init_77 : decode cX2_init 77 = .ok (.iconst 0, 1) := by decide +kernel
theorem dX2_init_78 : decode cX2_init 78 = .ok (.putfield 53, 3) := by decide +kernel
theorem dX2_init_81 : decode cX2_init 81 = .ok (.aload_n 0, 1) := by decide +kernel
theorem dX2_init_82 : decode cX2_init 82 = .ok (.new 9, 3) := by decide +kernel
theorem dX2_init_85 : decode cX2_init 85 = .ok (.dup, 1) := by decide +kernel
theorem dX2_init_86 : decode cX2_init 86 = .ok (.invokespecial 41, 3) := by decide +kernel
theorem dX2_init_89 : decode cX2_init 89 = .ok (.putfield 56, 3) := by decide +kernel
theorem dX2_init_92 : decode cX2_init 92 = .ok (.iconst 0, 1) := by decide +kernel
theorem dX2_init_93 : decode cX2_init 93 = .ok (.istore_n 1, 1) := by decide +kernel
theorem dX2_init_94 : decode cX2_init 94 = .ok (.iload_n 1, 1) := by decide +kernel
theorem dX2_init_95 : decode cX2_init 95 = .ok (.bipush 20, 2) := by decide +kernel
theorem dX2_init_97 : decode cX2_init 97 = .ok (.if_icmp .ge 22, 3) := by decide +kernel
theorem dX2_init_100 : decode cX2_init 100 = .ok (.aload_n 0, 1) := by decide +kernel
theorem dX2_init_101 : decode cX2_init 101 = .ok (.getfield 11, 3) := by decide +kernel
theorem dX2_init_104 : decode cX2_init 104 = .ok (.iload_n 1, 1) := by decide +kernel
theorem dX2_init_105 : decode cX2_init 105 = .ok (.new 9, 3) := by decide +kernel
theorem dX2_init_108 : decode cX2_init 108 = .ok (.dup, 1) := by decide +kernel
theorem dX2_init_109 : decode cX2_init 109 = .ok (.invokespecial 41, 3) := by decide +kernel
theorem dX2_init_112 : decode cX2_init 112 = .ok (.aastore, 1) := by decide +kernel
theorem dX2_init_113 : decode cX2_init 113 = .ok (.iinc 1 1, 3) := by decide +kernel
theorem dX2_init_116 : decode cX2_init 116 = .ok (.goto (-22), 3) := by decide +kernel
theorem dX2_init_119 : decode cX2_init 119 = .ok (.return_, 1) := by decide +kernel
theorem dX2_letter_0 : decode cX2_letter 0 = .ok (.iload_n 1, 1) := by decide +kernel
theorem dX2_letter_1 : decode cX2_letter 1 = .ok (.bipush 32, 2) := by decide +kernel
theorem dX2_letter_3 : decode cX2_letter 3 = .ok (.if_icmp .lt 9, 3) := by decide +kernel
theorem dX2_letter_6 : decode cX2_letter 6 = .ok (.iload_n 1, 1) := by decide +kernel
theorem dX2_letter_7 : decode cX2_letter 7 = .ok (.bipush 126, 2) := by decide +kernel
theorem dX2_letter_9 : decode cX2_letter 9 = .ok (.if_icmp .le 6, 3) := by decide +kernel
theorem dX2_letter_12 : decode cX2_letter 12 = .ok (.bipush (-102), 2) := by decide +kernel
theorem dX2_letter_14 : decode cX2_letter 14 = .ok (.ireturn, 1) := by decide +kernel
theorem dX2_letter_15 : decode cX2_letter 15 = .ok (.aload_n 0, 1) := by decide +kernel
theorem dX2_letter_16 : decode cX2_letter 16 = .ok (.getfield 22, 3) := by decide +kernel
theorem dX2_letter_19 : decode cX2_letter 19 = .ok (.getfield 59, 3) := by decide +kernel
theorem dX2_letter_22 : decode cX2_letter 22 = .ok (.bipush 60, 2) := by decide +kernel
theorem dX2_letter_24 : decode cX2_letter 24 = .ok (.if_icmp .lt 6, 3) := by decide +kernel
theorem dX2_letter_27 : decode cX2_letter 27 = .ok (.bipush (-104), 2) := by decide +kernel
theorem dX2_letter_29 : decode cX2_letter 29 = .ok (.ireturn, 1) := by decide +kernel
theorem dX2_letter_30 : decode cX2_letter 30 = .ok (.aload_n 0, 1) := by decide +kernel
theorem dX2_letter_31 : decode cX2_letter 31 = .ok (.getfield 22, 3) := by decide +kernel
theorem dX2_letter_34 : decode cX2_letter 34 = .ok (.getfield 62, 3) := by decide +kernel
theorem dX2_letter_37 : decode cX2_letter 37 = .ok (.aload_n 0, 1) := by decide +kernel
theorem dX2_letter_38 : decode cX2_letter 38 = .ok (.getfield 22, 3) := by decide +kernel
theorem dX2_letter_41 : decode cX2_letter 41 = .ok (.getfield 59, 3) := by decide +kernel
theorem dX2_letter_44 : decode cX2_letter 44 = .ok (.iload_n 1, 1) := by decide +kernel
theorem dX2_letter_45 : decode cX2_letter 45 = .ok (.iastore, 1) := by decide +kernel
theorem dX2_letter_46 : decode cX2_letter 46 = .ok (.aload_n 0, 1) := by decide +kernel
theorem dX2_letter_47 : decode cX2_letter 47 = .ok (.getfield 22, 3) := by decide +kernel
theorem dX2_letter_50 : decode cX2_letter 50 = .ok (.dup, 1) := by decide +kernel
theorem dX2_letter_51 : decode cX2_letter 51 = .ok (.getfield 59, 3) := by decide +kernel
theorem dX2_letter_54 : decode cX2_letter 54 = .ok (.iconst 1, 1) := by decide +kernel
theorem dX2_letter_55 : decode cX2_letter 55 = .ok (.iadd, 1) := by decide +kernel
theorem dX2_letter_56 : decode cX2_letter 56 = .ok (.putfield 59, 3) := by decide +kernel
theorem dX2_letter_59 : decode cX2_letter 59 = .ok (.aload_n 0, 1) := by decide +kernel
theorem dX2_letter_60 : decode cX2_letter 60 = .ok (.getfield 22, 3) := by decide +kernel
theorem dX2_letter_63 : decode cX2_letter 63 = .ok (.getfield 59, 3) := by decide +kernel
theorem dX2_letter_66 : decode cX2_letter 66 = .ok (.ireturn, 1) := by decide +kernel
theorem dX2_blank_0 : decode cX2_blank 0 = .ok (.aload_n 0, 1) := by decide +kernel
theorem dX2_blank_1 : decode cX2_blank 1 = .ok (.getfield 22, 3) := by decide +kernel
theorem dX2_blank_4 : decode cX2_blank 4 = .ok (.getfield 59, 3) := by decide +kernel
theorem dX2_blank_7 : decode cX2_blank 7 = .ok (.istore_n 1, 1) := by decide +kernel
theorem dX2_blank_8 : decode cX2_blank 8 = .ok (.aload_n 0, 1) := by decide +kernel
theorem dX2_blank_9 : decode cX2_blank 9 = .ok (.getfield 22, 3) := by decide +kernel
theorem dX2_blank_12 : decode cX2_blank 12 = .ok (.iconst 0, 1) := by decide +kernel
theorem dX2_blank_13 : decode cX2_blank 13 = .ok (.putfield 59, 3) := by decide +kernel
theorem dX2_blank_16 : decode cX2_blank 16 = .ok (.iload_n 1, 1) := by decide +kernel
theorem dX2_blank_17 : decode cX2_blank 17 = .ok (.ireturn, 1) := by decide +kernel
theorem dX2_fault_0 : decode cX2_fault 0 = .ok (.aload_n 0, 1) := by decide +kernel
theorem dX2_fault_1 : decode cX2_fault 1 = .ok (.getfield 22, 3) := by decide +kernel
theorem dX2_fault_4 : decode cX2_fault 4 = .ok (.invokevirtual 66, 3) := by decide +kernel
theorem dX2_fault_7 : decode cX2_fault 7 = .ok (.ireturn, 1) := by decide +kernel
theorem dX2_read_0 : decode cX2_read 0 = .ok (.aload_n 0, 1) := by decide +kernel
theorem dX2_read_1 : decode cX2_read 1 = .ok (.getfield 22, 3) := by decide +kernel
theorem dX2_read_4 : decode cX2_read 4 = .ok (.invokevirtual 66, 3) := by decide +kernel
theorem dX2_read_7 : decode cX2_read 7 = .ok (.pop, 1) := by decide +kernel
theorem dX2_read_8 : decode cX2_read 8 = .ok (.aload_n 0, 1) := by decide +kernel
theorem dX2_read_9 : decode cX2_read 9 = .ok (.getfield 22, 3) := by decide +kernel
theorem dX2_read_12 : decode cX2_read 12 = .ok (.getfield 70, 3) := by decide +kernel
theorem dX2_read_15 : decode cX2_read 15 = .ok (.ifCond .ne 6, 3) := by decide +kernel
theorem dX2_read_18 : decode cX2_read 18 = .ok (.bipush (-103), 2) := by decide +kernel
theorem dX2_read_20 : decode cX2_read 20 = .ok (.ireturn, 1) := by decide +kernel
theorem dX2_read_21 : decode cX2_read 21 = .ok (.aload_n 0, 1) := by decide +kernel
theorem dX2_read_22 : decode cX2_read 22 = .ok (.invokevirtual 73, 3) := by decide +kernel
theorem dX2_read_25 : decode cX2_read 25 = .ok (.ifCond .eq 6, 3) := by decide +kernel
theorem dX2_read_28 : decode cX2_read 28 = .ok (.bipush (-104), 2) := by decide +kernel
theorem dX2_read_30 : decode cX2_read 30 = .ok (.ireturn, 1) := by decide +kernel
theorem dX2_read_31 : decode cX2_read 31 = .ok (.aload_n 0, 1) := by decide +kernel
theorem dX2_read_32 : decode cX2_read 32 = .ok (.getfield 32, 3) := by decide +kernel
theorem dX2_read_35 : decode cX2_read 35 = .ok (.istore_n 1, 1) := by decide +kernel
theorem dX2_read_36 : decode cX2_read 36 = .ok (.aload_n 0, 1) := by decide +kernel
theorem dX2_read_37 : decode cX2_read 37 = .ok (.getfield 11, 3) := by decide +kernel
theorem dX2_read_40 : decode cX2_read 40 = .ok (.aload_n 0, 1) := by decide +kernel
theorem dX2_read_41 : decode cX2_read 41 = .ok (.getfield 15, 3) := by decide +kernel
theorem dX2_read_44 : decode cX2_read 44 = .ok (.aaload, 1) := by decide +kernel
theorem dX2_read_45 : decode cX2_read 45 = .ok (.astore_n 2, 1) := by decide +kernel
theorem dX2_read_46 : decode cX2_read 46 = .ok (.aload_n 2, 1) := by decide +kernel
theorem dX2_read_47 : decode cX2_read 47 = .ok (.invokevirtual 77, 3) := by decide +kernel
theorem dX2_read_50 : decode cX2_read 50 = .ok (.iconst 0, 1) := by decide +kernel
theorem dX2_read_51 : decode cX2_read 51 = .ok (.istore_n 3, 1) := by decide +kernel
theorem dX2_read_52 : decode cX2_read 52 = .ok (.iload_n 3, 1) := by decide +kernel
theorem dX2_read_53 : decode cX2_read 53 = .ok (.aload_n 0, 1) := by decide +kernel
theorem dX2_read_54 : decode cX2_read 54 = .ok (.getfield 22, 3) := by decide +kernel
theorem dX2_read_57 : decode cX2_read 57 = .ok (.getfield 80, 3) := by decide +kernel
theorem dX2_read_60 : decode cX2_read 60 = .ok (.if_icmp .ge 80, 3) := by decide +kernel
theorem dX2_read_63 : decode cX2_read 63 = .ok (.aload_n 0, 1) := by decide +kernel
theorem dX2_read_64 : decode cX2_read 64 = .ok (.getfield 56, 3) := by decide +kernel
theorem dX2_read_67 : decode cX2_read 67 = .ok (.aload_n 2, 1) := by decide +kernel
theorem dX2_read_68 : decode cX2_read 68 = .ok (.invokevirtual 83, 3) := by decide +kernel
theorem dX2_read_71 : decode cX2_read 71 = .ok (.aload_n 0, 1) := by decide +kernel
theorem dX2_read_72 : decode cX2_read 72 = .ok (.getfield 56, 3) := by decide +kernel
theorem dX2_read_75 : decode cX2_read 75 = .ok (.aload_n 0, 1) := by decide +kernel
theorem dX2_read_76 : decode cX2_read 76 = .ok (.getfield 22, 3) := by decide +kernel
theorem dX2_read_79 : decode cX2_read 79 = .ok (.getfield 87, 3) := by decide +kernel
theorem dX2_read_82 : decode cX2_read 82 = .ok (.iload_n 3, 1) := by decide +kernel
theorem dX2_read_83 : decode cX2_read 83 = .ok (.iaload, 1) := by decide +kernel
theorem dX2_read_84 : decode cX2_read 84 = .ok (.aload_n 0, 1) := by decide +kernel
theorem dX2_read_85 : decode cX2_read 85 = .ok (.getfield 22, 3) := by decide +kernel
theorem dX2_read_88 : decode cX2_read 88 = .ok (.getfield 90, 3) := by decide +kernel
theorem dX2_read_91 : decode cX2_read 91 = .ok (.iload_n 3, 1) := by decide +kernel
theorem dX2_read_92 : decode cX2_read 92 = .ok (.iaload, 1) := by decide +kernel
theorem dX2_read_93 : decode cX2_read 93 = .ok (.aload_n 0, 1) := by decide +kernel
theorem dX2_read_94 : decode cX2_read 94 = .ok (.aload_n 0, 1) := by decide +kernel
theorem dX2_read_95 : decode cX2_read 95 = .ok (.getfield 22, 3) := by decide +kernel
theorem dX2_read_98 : decode cX2_read 98 = .ok (.getfield 87, 3) := by decide +kernel
theorem dX2_read_101 : decode cX2_read 101 = .ok (.iload_n 3, 1) := by decide +kernel
theorem dX2_read_102 : decode cX2_read 102 = .ok (.iaload, 1) := by decide +kernel
theorem dX2_read_103 : decode cX2_read 103 = .ok (.invokevirtual 93, 3) := by decide +kernel
theorem dX2_read_106 : decode cX2_read 106 = .ok (.invokevirtual 97, 3) := by decide +kernel
theorem dX2_read_109 : decode cX2_read 109 = .ok (.aload_n 0, 1) := by decide +kernel
theorem dX2_read_110 : decode cX2_read 110 = .ok (.aload_n 0, 1) := by decide +kernel
theorem dX2_read_111 : decode cX2_read 111 = .ok (.getfield 56, 3) := by decide +kernel
theorem dX2_read_114 : decode cX2_read 114 = .ok (.aload_n 2, 1) := by decide +kernel
theorem dX2_read_115 : decode cX2_read 115 = .ok (.iload_n 1, 1) := by decide +kernel
theorem dX2_read_116 : decode cX2_read 116 = .ok (.invokevirtual 101, 3) := by decide +kernel
theorem dX2_read_119 : decode cX2_read 119 = .ok (.pop, 1) := by decide +kernel
theorem dX2_read_120 : decode cX2_read 120 = .ok (.aload_n 2, 1) := by decide +kernel
theorem dX2_read_121 : decode cX2_read 121 = .ok (.astore 4, 2) := by decide +kernel
theorem dX2_read_123 : decode cX2_read 123 = .ok (.aload_n 0, 1) := by decide +kernel
theorem dX2_read_124 : decode cX2_read 124 = .ok (.getfield 56, 3) := by decide +kernel
theorem dX2_read_127 : decode cX2_read 127 = .ok (.astore_n 2, 1) := by decide +kernel
theorem dX2_read_128 : decode cX2_read 128 = .ok (.aload_n 0, 1) := by decide +kernel
theorem dX2_read_129 : decode cX2_read 129 = .ok (.aload 4, 2) := by decide +kernel
theorem dX2_read_131 : decode cX2_read 131 = .ok (.putfield 56, 3) := by decide +kernel
theorem dX2_read_134 : decode cX2_read 134 = .ok (.iinc 3 1, 3) := by decide +kernel
theorem dX2_read_137 : decode cX2_read 137 = .ok (.goto (-85), 3) := by decide +kernel
theorem dX2_read_140 : decode cX2_read 140 = .ok (.aload_n 0, 1) := by decide +kernel
theorem dX2_read_141 : decode cX2_read 141 = .ok (.getfield 11, 3) := by decide +kernel
theorem dX2_read_144 : decode cX2_read 144 = .ok (.aload_n 0, 1) := by decide +kernel
theorem dX2_read_145 : decode cX2_read 145 = .ok (.getfield 15, 3) := by decide +kernel
theorem dX2_read_148 : decode cX2_read 148 = .ok (.aload_n 2, 1) := by decide +kernel
theorem dX2_read_149 : decode cX2_read 149 = .ok (.aastore, 1) := by decide +kernel
theorem dX2_read_150 : decode cX2_read 150 = .ok (.aload_n 0, 1) := by decide +kernel
theorem dX2_read_151 : decode cX2_read 151 = .ok (.getfield 22, 3) := by decide +kernel
theorem dX2_read_154 : decode cX2_read 154 = .ok (.iconst 0, 1) := by decide +kernel
theorem dX2_read_155 : decode cX2_read 155 = .ok (.putfield 59, 3) := by decide +kernel
theorem dX2_read_158 : decode cX2_read 158 = .ok (.aload_n 0, 1) := by decide +kernel
theorem dX2_read_159 : decode cX2_read 159 = .ok (.dup, 1) := by decide +kernel
theorem dX2_read_160 : decode cX2_read 160 = .ok (.getfield 35, 3) := by decide +kernel
theorem dX2_read_163 : decode cX2_read 163 = .ok (.iconst 1, 1) := by decide +kernel
theorem dX2_read_164 : decode cX2_read 164 = .ok (.iadd, 1) := by decide +kernel
theorem dX2_read_165 : decode cX2_read 165 = .ok (.putfield 35, 3) := by decide +kernel
theorem dX2_read_168 : decode cX2_read 168 = .ok (.aload_n 0, 1) := by decide +kernel
theorem dX2_read_169 : decode cX2_read 169 = .ok (.invokevirtual 105, 3) := by decide +kernel
theorem dX2_read_172 : decode cX2_read 172 = .ok (.ireturn, 1) := by decide +kernel
theorem dX2_scheme_0 : decode cX2_scheme 0 = .ok (.iload_n 1, 1) := by decide +kernel
theorem dX2_scheme_1 : decode cX2_scheme 1 = .ok (.iconst 1, 1) := by decide +kernel
theorem dX2_scheme_2 : decode cX2_scheme 2 = .ok (.if_icmp .lt 15, 3) := by decide +kernel
theorem dX2_scheme_5 : decode cX2_scheme 5 = .ok (.iload_n 1, 1) := by decide +kernel
theorem dX2_scheme_6 : decode cX2_scheme 6 = .ok (.ldc 108, 2) := by decide +kernel
theorem dX2_scheme_8 : decode cX2_scheme 8 = .ok (.if_icmp .gt 9, 3) := by decide +kernel
theorem dX2_scheme_11 : decode cX2_scheme 11 = .ok (.iload_n 1, 1) := by decide +kernel
theorem dX2_scheme_12 : decode cX2_scheme 12 = .ok (.iconst 1, 1) := by decide +kernel
theorem dX2_scheme_13 : decode cX2_scheme 13 = .ok (.iand, 1) := by decide +kernel
theorem dX2_scheme_14 : decode cX2_scheme 14 = .ok (.ifCond .ne 6, 3) := by decide +kernel
theorem dX2_scheme_17 : decode cX2_scheme 17 = .ok (.bipush (-102), 2) := by decide +kernel
theorem dX2_scheme_19 : decode cX2_scheme 19 = .ok (.ireturn, 1) := by decide +kernel
theorem dX2_scheme_20 : decode cX2_scheme 20 = .ok (.iload_n 2, 1) := by decide +kernel
theorem dX2_scheme_21 : decode cX2_scheme 21 = .ok (.iconst 3, 1) := by decide +kernel
theorem dX2_scheme_22 : decode cX2_scheme 22 = .ok (.if_icmp .lt 9, 3) := by decide +kernel
theorem dX2_scheme_25 : decode cX2_scheme 25 = .ok (.iload_n 2, 1) := by decide +kernel
theorem dX2_scheme_26 : decode cX2_scheme 26 = .ok (.bipush 30, 2) := by decide +kernel
theorem dX2_scheme_28 : decode cX2_scheme 28 = .ok (.if_icmp .le 6, 3) := by decide +kernel
theorem dX2_scheme_31 : decode cX2_scheme 31 = .ok (.bipush (-102), 2) := by decide +kernel
theorem dX2_scheme_33 : decode cX2_scheme 33 = .ok (.ireturn, 1) := by decide +kernel
theorem dX2_scheme_34 : decode cX2_scheme 34 = .ok (.aload_n 0, 1) := by decide +kernel
theorem dX2_scheme_35 : decode cX2_scheme 35 = .ok (.iload_n 1, 1) := by decide +kernel
theorem dX2_scheme_36 : decode cX2_scheme 36 = .ok (.putfield 26, 3) := by decide +kernel
theorem dX2_scheme_39 : decode cX2_scheme 39 = .ok (.aload_n 0, 1) := by decide +kernel
theorem dX2_scheme_40 : decode cX2_scheme 40 = .ok (.iload_n 2, 1) := by decide +kernel
theorem dX2_scheme_41 : decode cX2_scheme 41 = .ok (.putfield 29, 3) := by decide +kernel
theorem dX2_scheme_44 : decode cX2_scheme 44 = .ok (.aload_n 0, 1) := by decide +kernel
theorem dX2_scheme_45 : decode cX2_scheme 45 = .ok (.getfield 15, 3) := by decide +kernel
theorem dX2_scheme_48 : decode cX2_scheme 48 = .ok (.iconst 1, 1) := by decide +kernel
theorem dX2_scheme_49 : decode cX2_scheme 49 = .ok (.isub, 1) := by decide +kernel
theorem dX2_scheme_50 : decode cX2_scheme 50 = .ok (.istore_n 3, 1) := by decide +kernel
theorem dX2_scheme_51 : decode cX2_scheme 51 = .ok (.aload_n 0, 1) := by decide +kernel
theorem dX2_scheme_52 : decode cX2_scheme 52 = .ok (.iconst 1, 1) := by decide +kernel
theorem dX2_scheme_53 : decode cX2_scheme 53 = .ok (.putfield 15, 3) := by decide +kernel
theorem dX2_scheme_56 : decode cX2_scheme 56 = .ok (.aload_n 0, 1) := by decide +kernel
theorem dX2_scheme_57 : decode cX2_scheme 57 = .ok (.iconst 0, 1) := by decide +kernel
theorem dX2_scheme_58 : decode cX2_scheme 58 = .ok (.putfield 46, 3) := by decide +kernel
theorem dX2_scheme_61 : decode cX2_scheme 61 = .ok (.iload_n 3, 1) := by decide +kernel
theorem dX2_scheme_62 : decode cX2_scheme 62 = .ok (.ireturn, 1) := by decide +kernel
theorem dX2_hash_0 : decode cX2_hash 0 = .ok (.iload_n 1, 1) := by decide +kernel
theorem dX2_hash_1 : decode cX2_hash 1 = .ok (.invokestatic 109, 3) := by decide +kernel
theorem dX2_hash_4 : decode cX2_hash 4 = .ok (.ifCond .eq 11, 3) := by decide +kernel
theorem dX2_hash_7 : decode cX2_hash 7 = .ok (.aload_n 0, 1) := by decide +kernel
theorem dX2_hash_8 : decode cX2_hash 8 = .ok (.iload_n 1, 1) := by decide +kernel
theorem dX2_hash_9 : decode cX2_hash 9 = .ok (.invokevirtual 113, 3) := by decide +kernel
theorem dX2_hash_12 : decode cX2_hash 12 = .ok (.goto 5, 3) := by decide +kernel
theorem dX2_hash_15 : decode cX2_hash 15 = .ok (.bipush (-102), 2) := by decide +kernel
theorem dX2_hash_17 : decode cX2_hash 17 = .ok (.ireturn, 1) := by decide +kernel
theorem dX2_put_0 : decode cX2_put 0 = .ok (.aload_n 0, 1) := by decide +kernel
theorem dX2_put_1 : decode cX2_put 1 = .ok (.iload_n 1, 1) := by decide +kernel
theorem dX2_put_2 : decode cX2_put 2 = .ok (.invokevirtual 116, 3) := by decide +kernel
theorem dX2_put_5 : decode cX2_put 5 = .ok (.ifCond .ne 6, 3) := by decide +kernel
theorem dX2_put_8 : decode cX2_put 8 = .ok (.bipush (-101), 2) := by decide +kernel
theorem dX2_put_10 : decode cX2_put 10 = .ok (.ireturn, 1) := by decide +kernel
theorem dX2_put_11 : decode cX2_put 11 = .ok (.iload_n 2, 1) := by decide +kernel
theorem dX2_put_12 : decode cX2_put 12 = .ok (.invokestatic 109, 3) := by decide +kernel
theorem dX2_put_15 : decode cX2_put 15 = .ok (.ifCond .eq 10, 3) := by decide +kernel
theorem dX2_put_18 : decode cX2_put 18 = .ok (.iload_n 3, 1) := by decide +kernel
theorem dX2_put_19 : decode cX2_put 19 = .ok (.invokestatic 119, 3) := by decide +kernel
theorem dX2_put_22 : decode cX2_put 22 = .ok (.ifCond .ne 6, 3) := by decide +kernel
theorem dX2_put_25 : decode cX2_put 25 = .ok (.bipush (-102), 2) := by decide +kernel
theorem dX2_put_27 : decode cX2_put 27 = .ok (.ireturn, 1) := by decide +kernel
theorem dX2_put_28 : decode cX2_put 28 = .ok (.aload_n 0, 1) := by decide +kernel
theorem dX2_put_29 : decode cX2_put 29 = .ok (.getfield 11, 3) := by decide +kernel
theorem dX2_put_32 : decode cX2_put 32 = .ok (.iload_n 1, 1) := by decide +kernel
theorem dX2_put_33 : decode cX2_put 33 = .ok (.aaload, 1) := by decide +kernel
theorem dX2_put_34 : decode cX2_put 34 = .ok (.astore 4, 2) := by decide +kernel
theorem dX2_put_36 : decode cX2_put 36 = .ok (.aload_n 0, 1) := by decide +kernel
theorem dX2_put_37 : decode cX2_put 37 = .ok (.invokevirtual 73, 3) := by decide +kernel
theorem dX2_put_40 : decode cX2_put 40 = .ok (.ifCond .ne 12, 3) := by decide +kernel
theorem dX2_put_43 : decode cX2_put 43 = .ok (.aload 4, 2) := by decide +kernel
theorem dX2_put_45 : decode cX2_put 45 = .ok (.iload_n 2, 1) := by decide +kernel
theorem dX2_put_46 : decode cX2_put 46 = .ok (.invokevirtual 122, 3) := by decide +kernel
theorem dX2_put_49 : decode cX2_put 49 = .ok (.ifCond .ne 6, 3) := by decide +kernel
theorem dX2_put_52 : decode cX2_put 52 = .ok (.bipush (-104), 2) := by decide +kernel
theorem dX2_put_54 : decode cX2_put 54 = .ok (.ireturn, 1) := by decide +kernel
theorem dX2_put_55 : decode cX2_put 55 = .ok (.aload_n 0, 1) := by decide +kernel
theorem dX2_put_56 : decode cX2_put 56 = .ok (.getfield 11, 3) := by decide +kernel
theorem dX2_put_59 : decode cX2_put 59 = .ok (.aload_n 0, 1) := by decide +kernel
theorem dX2_put_60 : decode cX2_put 60 = .ok (.getfield 15, 3) := by decide +kernel
theorem dX2_put_63 : decode cX2_put 63 = .ok (.aaload, 1) := by decide +kernel
theorem dX2_put_64 : decode cX2_put 64 = .ok (.astore 5, 2) := by decide +kernel
theorem dX2_put_66 : decode cX2_put 66 = .ok (.aload 5, 2) := by decide +kernel
theorem dX2_put_68 : decode cX2_put 68 = .ok (.aload 4, 2) := by decide +kernel
theorem dX2_put_70 : decode cX2_put 70 = .ok (.invokevirtual 83, 3) := by decide +kernel
theorem dX2_put_73 : decode cX2_put 73 = .ok (.aload 5, 2) := by decide +kernel
theorem dX2_put_75 : decode cX2_put 75 = .ok (.iload_n 2, 1) := by decide +kernel
theorem dX2_put_76 : decode cX2_put 76 = .ok (.iload_n 3, 1) := by decide +kernel
theorem dX2_put_77 : decode cX2_put 77 = .ok (.aload_n 0, 1) := by decide +kernel
theorem dX2_put_78 : decode cX2_put 78 = .ok (.iload_n 2, 1) := by decide +kernel
theorem dX2_put_79 : decode cX2_put 79 = .ok (.invokevirtual 93, 3) := by decide +kernel
theorem dX2_put_82 : decode cX2_put 82 = .ok (.invokevirtual 97, 3) := by decide +kernel
theorem dX2_put_85 : decode cX2_put 85 = .ok (.aload_n 0, 1) := by decide +kernel
theorem dX2_put_86 : decode cX2_put 86 = .ok (.aload 5, 2) := by decide +kernel
theorem dX2_put_88 : decode cX2_put 88 = .ok (.aload 4, 2) := by decide +kernel
theorem dX2_put_90 : decode cX2_put 90 = .ok (.aload 4, 2) := by decide +kernel
theorem dX2_put_92 : decode cX2_put 92 = .ok (.invokevirtual 125, 3) := by decide +kernel
theorem dX2_put_95 : decode cX2_put 95 = .ok (.aload_n 0, 1) := by decide +kernel
theorem dX2_put_96 : decode cX2_put 96 = .ok (.invokevirtual 105, 3) := by decide +kernel
theorem dX2_put_99 : decode cX2_put 99 = .ok (.ireturn, 1) := by decide +kernel
theorem dX2_remove_0 : decode cX2_remove 0 = .ok (.aload_n 0, 1) := by decide +kernel
theorem dX2_remove_1 : decode cX2_remove 1 = .ok (.iload_n 1, 1) := by decide +kernel
theorem dX2_remove_2 : decode cX2_remove 2 = .ok (.invokevirtual 116, 3) := by decide +kernel
theorem dX2_remove_5 : decode cX2_remove 5 = .ok (.ifCond .ne 6, 3) := by decide +kernel
theorem dX2_remove_8 : decode cX2_remove 8 = .ok (.bipush (-101), 2) := by decide +kernel
theorem dX2_remove_10 : decode cX2_remove 10 = .ok (.ireturn, 1) := by decide +kernel
theorem dX2_remove_11 : decode cX2_remove 11 = .ok (.iload_n 2, 1) := by decide +kernel
theorem dX2_remove_12 : decode cX2_remove 12 = .ok (.invokestatic 109, 3) := by decide +kernel
theorem dX2_remove_15 : decode cX2_remove 15 = .ok (.ifCond .ne 6, 3) := by decide +kernel
theorem dX2_remove_18 : decode cX2_remove 18 = .ok (.bipush (-102), 2) := by decide +kernel
theorem dX2_remove_20 : decode cX2_remove 20 = .ok (.ireturn, 1) := by decide +kernel
theorem dX2_remove_21 : decode cX2_remove 21 = .ok (.aload_n 0, 1) := by decide +kernel
theorem dX2_remove_22 : decode cX2_remove 22 = .ok (.invokevirtual 73, 3) := by decide +kernel
theorem dX2_remove_25 : decode cX2_remove 25 = .ok (.ifCond .eq 6, 3) := by decide +kernel
theorem dX2_remove_28 : decode cX2_remove 28 = .ok (.bipush (-104), 2) := by decide +kernel
theorem dX2_remove_30 : decode cX2_remove 30 = .ok (.ireturn, 1) := by decide +kernel
theorem dX2_remove_31 : decode cX2_remove 31 = .ok (.aload_n 0, 1) := by decide +kernel
theorem dX2_remove_32 : decode cX2_remove 32 = .ok (.getfield 11, 3) := by decide +kernel
theorem dX2_remove_35 : decode cX2_remove 35 = .ok (.iload_n 1, 1) := by decide +kernel
theorem dX2_remove_36 : decode cX2_remove 36 = .ok (.aaload, 1) := by decide +kernel
theorem dX2_remove_37 : decode cX2_remove 37 = .ok (.astore_n 3, 1) := by decide +kernel
theorem dX2_remove_38 : decode cX2_remove 38 = .ok (.aload_n 0, 1) := by decide +kernel
theorem dX2_remove_39 : decode cX2_remove 39 = .ok (.getfield 11, 3) := by decide +kernel
theorem dX2_remove_42 : decode cX2_remove 42 = .ok (.aload_n 0, 1) := by decide +kernel
theorem dX2_remove_43 : decode cX2_remove 43 = .ok (.getfield 15, 3) := by decide +kernel
theorem dX2_remove_46 : decode cX2_remove 46 = .ok (.aaload, 1) := by decide +kernel
theorem dX2_remove_47 : decode cX2_remove 47 = .ok (.astore 4, 2) := by decide +kernel
theorem dX2_remove_49 : decode cX2_remove 49 = .ok (.aload 4, 2) := by decide +kernel
theorem dX2_remove_51 : decode cX2_remove 51 = .ok (.aload_n 3, 1) := by decide +kernel
theorem dX2_remove_52 : decode cX2_remove 52 = .ok (.invokevirtual 83, 3) := by decide +kernel
theorem dX2_remove_55 : decode cX2_remove 55 = .ok (.aload 4, 2) := by decide +kernel
theorem dX2_remove_57 : decode cX2_remove 57 = .ok (.iload_n 2, 1) := by decide +kernel
theorem dX2_remove_58 : decode cX2_remove 58 = .ok (.invokevirtual 129, 3) := by decide +kernel
theorem dX2_remove_61 : decode cX2_remove 61 = .ok (.aload_n 0, 1) := by decide +kernel
theorem dX2_remove_62 : decode cX2_remove 62 = .ok (.aload 4, 2) := by decide +kernel
theorem dX2_remove_64 : decode cX2_remove 64 = .ok (.aload_n 3, 1) := by decide +kernel
theorem dX2_remove_65 : decode cX2_remove 65 = .ok (.aload_n 3, 1) := by decide +kernel
theorem dX2_remove_66 : decode cX2_remove 66 = .ok (.invokevirtual 125, 3) := by decide +kernel
theorem dX2_remove_69 : decode cX2_remove 69 = .ok (.aload_n 0, 1) := by decide +kernel
theorem dX2_remove_70 : decode cX2_remove 70 = .ok (.invokevirtual 105, 3) := by decide +kernel
theorem dX2_remove_73 : decode cX2_remove 73 = .ok (.ireturn, 1) := by decide +kernel
theorem dX2_both_0 : decode cX2_both 0 = .ok (.aload_n 0, 1) := by decide +kernel
theorem dX2_both_1 : decode cX2_both 1 = .ok (.iload_n 1, 1) := by decide +kernel
theorem dX2_both_2 : decode cX2_both 2 = .ok (.invokevirtual 116, 3) := by decide +kernel
theorem dX2_both_5 : decode cX2_both 5 = .ok (.ifCond .eq 11, 3) := by decide +kernel
theorem dX2_both_8 : decode cX2_both 8 = .ok (.aload_n 0, 1) := by decide +kernel
theorem dX2_both_9 : decode cX2_both 9 = .ok (.iload_n 2, 1) := by decide +kernel
theorem dX2_both_10 : decode cX2_both 10 = .ok (.invokevirtual 116, 3) := by decide +kernel
theorem dX2_both_13 : decode cX2_both 13 = .ok (.ifCond .ne 6, 3) := by decide +kernel
theorem dX2_both_16 : decode cX2_both 16 = .ok (.bipush (-101), 2) := by decide +kernel
theorem dX2_both_18 : decode cX2_both 18 = .ok (.ireturn, 1) := by decide +kernel
theorem dX2_both_19 : decode cX2_both 19 = .ok (.iload_n 3, 1) := by decide +kernel
theorem dX2_both_20 : decode cX2_both 20 = .ok (.ifCond .lt 8, 3) := by decide +kernel
theorem dX2_both_23 : decode cX2_both 23 = .ok (.iload_n 3, 1) := by decide +kernel
theorem dX2_both_24 : decode cX2_both 24 = .ok (.iconst 2, 1) := by decide +kernel
theorem dX2_both_25 : decode cX2_both 25 = .ok (.if_icmp .le 6, 3) := by decide +kernel
theorem dX2_both_28 : decode cX2_both 28 = .ok (.bipush (-102), 2) := by decide +kernel
theorem dX2_both_30 : decode cX2_both 30 = .ok (.ireturn, 1) := by decide +kernel
theorem dX2_both_31 : decode cX2_both 31 = .ok (.aload_n 0, 1) := by decide +kernel
theorem dX2_both_32 : decode cX2_both 32 = .ok (.getfield 11, 3) := by decide +kernel
theorem dX2_both_35 : decode cX2_both 35 = .ok (.iload_n 1, 1) := by decide +kernel
theorem dX2_both_36 : decode cX2_both 36 = .ok (.aaload, 1) := by decide +kernel
theorem dX2_both_37 : decode cX2_both 37 = .ok (.astore 4, 2) := by decide +kernel
theorem dX2_both_39 : decode cX2_both 39 = .ok (.aload_n 0, 1) := by decide +kernel
theorem dX2_both_40 : decode cX2_both 40 = .ok (.getfield 11, 3) := by decide +kernel
theorem dX2_both_43 : decode cX2_both 43 = .ok (.iload_n 2, 1) := by decide +kernel
theorem dX2_both_44 : decode cX2_both 44 = .ok (.aaload, 1) := by decide +kernel
theorem dX2_both_45 : decode cX2_both 45 = .ok (.astore 5, 2) := by decide +kernel
theorem dX2_both_47 : decode cX2_both 47 = .ok (.aload 4, 2) := by decide +kernel
theorem dX2_both_49 : decode cX2_both 49 = .ok (.getfield 133, 3) := by decide +kernel
theorem dX2_both_52 : decode cX2_both 52 = .ok (.aload 5, 2) := by decide +kernel
theorem dX2_both_54 : decode cX2_both 54 = .ok (.getfield 133, 3) := by decide +kernel
theorem dX2_both_57 : decode cX2_both 57 = .ok (.iadd, 1) := by decide +kernel
theorem dX2_both_58 : decode cX2_both 58 = .ok (.aload 4, 2) := by decide +kernel
theorem dX2_both_60 : decode cX2_both 60 = .ok (.aload 5, 2) := by decide +kernel
theorem dX2_both_62 : decode cX2_both 62 = .ok (.invokevirtual 136, 3) := by decide +kernel
theorem dX2_both_65 : decode cX2_both 65 = .ok (.isub, 1) := by decide +kernel
theorem dX2_both_66 : decode cX2_both 66 = .ok (.istore 6, 2) := by decide +kernel
theorem dX2_both_68 : decode cX2_both 68 = .ok (.aload_n 0, 1) := by decide +kernel
theorem dX2_both_69 : decode cX2_both 69 = .ok (.invokevirtual 73, 3) := by decide +kernel
theorem dX2_both_72 : decode cX2_both 72 = .ok (.ifCond .ne 14, 3) := by decide +kernel
theorem dX2_both_75 : decode cX2_both 75 = .ok (.iload_n 3, 1) := by decide +kernel
theorem dX2_both_76 : decode cX2_both 76 = .ok (.ifCond .ne 13, 3) := by decide +kernel
theorem dX2_both_79 : decode cX2_both 79 = .ok (.iload 6, 2) := by decide +kernel
theorem dX2_both_81 : decode cX2_both 81 = .ok (.bipush 24, 2) := by decide +kernel
theorem dX2_both_83 : decode cX2_both 83 = .ok (.if_icmp .le 6, 3) := by decide +kernel
theorem dX2_both_86 : decode cX2_both 86 = .ok (.bipush (-104), 2) := by decide +kernel
theorem dX2_both_88 : decode cX2_both 88 = .ok (.ireturn, 1) := by decide +kernel
theorem dX2_both_89 : decode cX2_both 89 = .ok (.aload_n 0, 1) := by decide +kernel
theorem dX2_both_90 : decode cX2_both 90 = .ok (.getfield 11, 3) := by decide +kernel
theorem dX2_both_93 : decode cX2_both 93 = .ok (.aload_n 0, 1) := by decide +kernel
theorem dX2_both_94 : decode cX2_both 94 = .ok (.getfield 15, 3) := by decide +kernel
theorem dX2_both_97 : decode cX2_both 97 = .ok (.aaload, 1) := by decide +kernel
theorem dX2_both_98 : decode cX2_both 98 = .ok (.astore 7, 2) := by decide +kernel
theorem dX2_both_100 : decode cX2_both 100 = .ok (.iload_n 3, 1) := by decide +kernel
theorem dX2_both_101 : decode cX2_both 101 = .ok (.ifCond .ne 15, 3) := by decide +kernel
theorem dX2_both_104 : decode cX2_both 104 = .ok (.aload 7, 2) := by decide +kernel
theorem dX2_both_106 : decode cX2_both 106 = .ok (.aload 4, 2) := by decide +kernel
theorem dX2_both_108 : decode cX2_both 108 = .ok (.aload 5, 2) := by decide +kernel
theorem dX2_both_110 : decode cX2_both 110 = .ok (.invokevirtual 140, 3) := by decide +kernel
theorem dX2_both_113 : decode cX2_both 113 = .ok (.goto 22, 3) := by decide +kernel
theorem dX2_both_116 : decode cX2_both 116 = .ok (.aload 7, 2) := by decide +kernel
theorem dX2_both_118 : decode cX2_both 118 = .ok (.aload 4, 2) := by decide +kernel
theorem dX2_both_120 : decode cX2_both 120 = .ok (.aload 5, 2) := by decide +kernel
theorem dX2_both_122 : decode cX2_both 122 = .ok (.iload_n 3, 1) := by decide +kernel
theorem dX2_both_123 : decode cX2_both 123 = .ok (.iconst 1, 1) := by decide +kernel
theorem dX2_both_124 : decode cX2_both 124 = .ok (.if_icmp .ne 7, 3) := by decide +kernel
theorem dX2_both_127 : decode cX2_both 127 = .ok (.iconst 1, 1) := by decide +kernel
theorem dX2_both_128 : decode cX2_both 128 = .ok (.goto 4, 3) := by decide +kernel
theorem dX2_both_131 : decode cX2_both 131 = .ok (.iconst 0, 1) := by decide +kernel
theorem dX2_both_132 : decode cX2_both 132 = .ok (.invokevirtual 144, 3) := by decide +kernel
theorem dX2_both_135 : decode cX2_both 135 = .ok (.aload_n 0, 1) := by decide +kernel
theorem dX2_both_136 : decode cX2_both 136 = .ok (.aload 7, 2) := by decide +kernel
theorem dX2_both_138 : decode cX2_both 138 = .ok (.aload 4, 2) := by decide +kernel
theorem dX2_both_140 : decode cX2_both 140 = .ok (.aload 5, 2) := by decide +kernel
theorem dX2_both_142 : decode cX2_both 142 = .ok (.invokevirtual 125, 3) := by decide +kernel
theorem dX2_both_145 : decode cX2_both 145 = .ok (.aload_n 0, 1) := by decide +kernel
theorem dX2_both_146 : decode cX2_both 146 = .ok (.invokevirtual 105, 3) := by decide +kernel
theorem dX2_both_149 : decode cX2_both 149 = .ok (.ireturn, 1) := by decide +kernel
theorem dX2_chosen_0 : decode cX2_chosen 0 = .ok (.aload_n 0, 1) := by decide +kernel
theorem dX2_chosen_1 : decode cX2_chosen 1 = .ok (.iload_n 1, 1) := by decide +kernel
theorem dX2_chosen_2 : decode cX2_chosen 2 = .ok (.invokevirtual 116, 3) := by decide +kernel
theorem dX2_chosen_5 : decode cX2_chosen 5 = .ok (.ifCond .ne 6, 3) := by decide +kernel
theorem dX2_chosen_8 : decode cX2_chosen 8 = .ok (.bipush (-101), 2) := by decide +kernel
theorem dX2_chosen_10 : decode cX2_chosen 10 = .ok (.ireturn, 1) := by decide +kernel
theorem dX2_chosen_11 : decode cX2_chosen 11 = .ok (.iload_n 2, 1) := by decide +kernel
theorem dX2_chosen_12 : decode cX2_chosen 12 = .ok (.iconst 1, 1) := by decide +kernel
theorem dX2_chosen_13 : decode cX2_chosen 13 = .ok (.if_icmp .lt 19, 3) := by decide +kernel
theorem dX2_chosen_16 : decode cX2_chosen 16 = .ok (.iload_n 2, 1) := by decide +kernel
theorem dX2_chosen_17 : decode cX2_chosen 17 = .ok (.sipush 999, 3) := by decide +kernel
theorem dX2_chosen_20 : decode cX2_chosen 20 = .ok (.if_icmp .gt 12, 3) := by decide +kernel
theorem dX2_chosen_23 : decode cX2_chosen 23 = .ok (.iload_n 3, 1) := by decide +kernel
theorem dX2_chosen_24 : decode cX2_chosen 24 = .ok (.ifCond .lt 8, 3) := by decide +kernel
theorem dX2_chosen_27 : decode cX2_chosen 27 = .ok (.iload_n 3, 1) := by decide +kernel
theorem dX2_chosen_28 : decode cX2_chosen 28 = .ok (.iload_n 2, 1) := by decide +kernel
theorem dX2_chosen_29 : decode cX2_chosen 29 = .ok (.if_icmp .lt 6, 3) := by decide +kernel
theorem dX2_chosen_32 : decode cX2_chosen 32 = .ok (.bipush (-102), 2) := by decide +kernel
theorem dX2_chosen_34 : decode cX2_chosen 34 = .ok (.ireturn, 1) := by decide +kernel
theorem dX2_chosen_35 : decode cX2_chosen 35 = .ok (.aload_n 0, 1) := by decide +kernel
theorem dX2_chosen_36 : decode cX2_chosen 36 = .ok (.invokevirtual 73, 3) := by decide +kernel
theorem dX2_chosen_39 : decode cX2_chosen 39 = .ok (.ifCond .eq 6, 3) := by decide +kernel
theorem dX2_chosen_42 : decode cX2_chosen 42 = .ok (.bipush (-104), 2) := by decide +kernel
theorem dX2_chosen_44 : decode cX2_chosen 44 = .ok (.ireturn, 1) := by decide +kernel
theorem dX2_chosen_45 : decode cX2_chosen 45 = .ok (.aload_n 0, 1) := by decide +kernel
theorem dX2_chosen_46 : decode cX2_chosen 46 = .ok (.getfield 11, 3) := by decide +kernel
theorem dX2_chosen_49 : decode cX2_chosen 49 = .ok (.iload_n 1, 1) := by decide +kernel
theorem dX2_chosen_50 : decode cX2_chosen 50 = .ok (.aaload, 1) := by decide +kernel
theorem dX2_chosen_51 : decode cX2_chosen 51 = .ok (.astore 4, 2) := by decide +kernel
theorem dX2_chosen_53 : decode cX2_chosen 53 = .ok (.aload_n 0, 1) := by decide +kernel
theorem dX2_chosen_54 : decode cX2_chosen 54 = .ok (.getfield 11, 3) := by decide +kernel
theorem dX2_chosen_57 : decode cX2_chosen 57 = .ok (.aload_n 0, 1) := by decide +kernel
theorem dX2_chosen_58 : decode cX2_chosen 58 = .ok (.getfield 15, 3) := by decide +kernel
theorem dX2_chosen_61 : decode cX2_chosen 61 = .ok (.aaload, 1) := by decide +kernel
theorem dX2_chosen_62 : decode cX2_chosen 62 = .ok (.astore 5, 2) := by decide +kernel
theorem dX2_chosen_64 : decode cX2_chosen 64 = .ok (.aload 5, 2) := by decide +kernel
theorem dX2_chosen_66 : decode cX2_chosen 66 = .ok (.aload 4, 2) := by decide +kernel
theorem dX2_chosen_68 : decode cX2_chosen 68 = .ok (.iload_n 2, 1) := by decide +kernel
theorem dX2_chosen_69 : decode cX2_chosen 69 = .ok (.iload_n 3, 1) := by decide +kernel
theorem dX2_chosen_70 : decode cX2_chosen 70 = .ok (.invokevirtual 148, 3) := by decide +kernel
theorem dX2_chosen_73 : decode cX2_chosen 73 = .ok (.aload_n 0, 1) := by decide +kernel
theorem dX2_chosen_74 : decode cX2_chosen 74 = .ok (.aload 5, 2) := by decide +kernel
theorem dX2_chosen_76 : decode cX2_chosen 76 = .ok (.aload 4, 2) := by decide +kernel
theorem dX2_chosen_78 : decode cX2_chosen 78 = .ok (.aload 4, 2) := by decide +kernel
theorem dX2_chosen_80 : decode cX2_chosen 80 = .ok (.invokevirtual 125, 3) := by decide +kernel
theorem dX2_chosen_83 : decode cX2_chosen 83 = .ok (.aload_n 0, 1) := by decide +kernel
theorem dX2_chosen_84 : decode cX2_chosen 84 = .ok (.invokevirtual 105, 3) := by decide +kernel
theorem dX2_chosen_87 : decode cX2_chosen 87 = .ok (.ireturn, 1) := by decide +kernel
theorem dX2_forget_0 : decode cX2_forget 0 = .ok (.aload_n 0, 1) := by decide +kernel
theorem dX2_forget_1 : decode cX2_forget 1 = .ok (.getfield 15, 3) := by decide +kernel
theorem dX2_forget_4 : decode cX2_forget 4 = .ok (.iconst 1, 1) := by decide +kernel
theorem dX2_forget_5 : decode cX2_forget 5 = .ok (.if_icmp .gt 6, 3) := by decide +kernel
theorem dX2_forget_8 : decode cX2_forget 8 = .ok (.bipush (-103), 2) := by decide +kernel
theorem dX2_forget_10 : decode cX2_forget 10 = .ok (.ireturn, 1) := by decide +kernel
theorem dX2_forget_11 : decode cX2_forget 11 = .ok (.aload_n 0, 1) := by decide +kernel
theorem dX2_forget_12 : decode cX2_forget 12 = .ok (.dup, 1) := by decide +kernel
theorem dX2_forget_13 : decode cX2_forget 13 = .ok (.getfield 15, 3) := by decide +kernel
theorem dX2_forget_16 : decode cX2_forget 16 = .ok (.iconst 1, 1) := by decide +kernel
theorem dX2_forget_17 : decode cX2_forget 17 = .ok (.isub, 1) := by decide +kernel
theorem dX2_forget_18 : decode cX2_forget 18 = .ok (.putfield 15, 3) := by decide +kernel
theorem dX2_forget_21 : decode cX2_forget 21 = .ok (.aload_n 0, 1) := by decide +kernel
theorem dX2_forget_22 : decode cX2_forget 22 = .ok (.getfield 15, 3) := by decide +kernel
theorem dX2_forget_25 : decode cX2_forget 25 = .ok (.ireturn, 1) := by decide +kernel
theorem dX2_begin_0 : decode cX2_begin 0 = .ok (.aload_n 0, 1) := by decide +kernel
theorem dX2_begin_1 : decode cX2_begin 1 = .ok (.iload_n 1, 1) := by decide +kernel
theorem dX2_begin_2 : decode cX2_begin 2 = .ok (.invokevirtual 116, 3) := by decide +kernel
theorem dX2_begin_5 : decode cX2_begin 5 = .ok (.ifCond .ne 6, 3) := by decide +kernel
theorem dX2_begin_8 : decode cX2_begin 8 = .ok (.bipush (-101), 2) := by decide +kernel
theorem dX2_begin_10 : decode cX2_begin 10 = .ok (.ireturn, 1) := by decide +kernel
theorem dX2_begin_11 : decode cX2_begin 11 = .ok (.aload_n 0, 1) := by decide +kernel
theorem dX2_begin_12 : decode cX2_begin 12 = .ok (.getfield 46, 3) := by decide +kernel
theorem dX2_begin_15 : decode cX2_begin 15 = .ok (.ifCond .eq 6, 3) := by decide +kernel
theorem dX2_begin_18 : decode cX2_begin 18 = .ok (.bipush (-103), 2) := by decide +kernel
theorem dX2_begin_20 : decode cX2_begin 20 = .ok (.ireturn, 1) := by decide +kernel
theorem dX2_begin_21 : decode cX2_begin 21 = .ok (.aload_n 0, 1) := by decide +kernel
theorem dX2_begin_22 : decode cX2_begin 22 = .ok (.getfield 42, 3) := by decide +kernel
theorem dX2_begin_25 : decode cX2_begin 25 = .ok (.aload_n 0, 1) := by decide +kernel
theorem dX2_begin_26 : decode cX2_begin 26 = .ok (.getfield 11, 3) := by decide +kernel
theorem dX2_begin_29 : decode cX2_begin 29 = .ok (.iload_n 1, 1) := by decide +kernel
theorem dX2_begin_30 : decode cX2_begin 30 = .ok (.aaload, 1) := by decide +kernel
theorem dX2_begin_31 : decode cX2_begin 31 = .ok (.invokevirtual 152, 3) := by decide +kernel
theorem dX2_begin_34 : decode cX2_begin 34 = .ok (.aload_n 0, 1) := by decide +kernel
theorem dX2_begin_35 : decode cX2_begin 35 = .ok (.iconst 1, 1) := by decide +kernel
theorem dX2_begin_36 : decode cX2_begin 36 = .ok (.putfield 46, 3) := by decide +kernel
theorem dX2_begin_39 : decode cX2_begin 39 = .ok (.aload_n 0, 1) := by decide +kernel
theorem dX2_begin_40 : decode cX2_begin 40 = .ok (.iconst 0, 1) := by decide +kernel
theorem dX2_begin_41 : decode cX2_begin 41 = .ok (.putfield 50, 3) := by decide +kernel
theorem dX2_begin_44 : decode cX2_begin 44 = .ok (.aload_n 0, 1) := by decide +kernel
theorem dX2_begin_45 : decode cX2_begin 45 = .ok (.aload_n 0, 1) := by decide +kernel
theorem dX2_begin_46 : decode cX2_begin 46 = .ok (.getfield 32, 3) := by decide +kernel
theorem dX2_begin_49 : decode cX2_begin 49 = .ok (.putfield 53, 3) := by decide +kernel
theorem dX2_begin_52 : decode cX2_begin 52 = .ok (.aload_n 0, 1) := by decide +kernel
theorem dX2_begin_53 : decode cX2_begin 53 = .ok (.getfield 42, 3) := by decide +kernel
theorem dX2_begin_56 : decode cX2_begin 56 = .ok (.getfield 133, 3) := by decide +kernel
theorem dX2_begin_59 : decode cX2_begin 59 = .ok (.ireturn, 1) := by decide +kernel
theorem dX2_set_0 : decode cX2_set 0 = .ok (.aload_n 0, 1) := by decide +kernel
theorem dX2_set_1 : decode cX2_set 1 = .ok (.getfield 46, 3) := by decide +kernel
theorem dX2_set_4 : decode cX2_set 4 = .ok (.ifCond .ne 6, 3) := by decide +kernel
theorem dX2_set_7 : decode cX2_set 7 = .ok (.bipush (-103), 2) := by decide +kernel
theorem dX2_set_9 : decode cX2_set 9 = .ok (.ireturn, 1) := by decide +kernel
theorem dX2_set_10 : decode cX2_set 10 = .ok (.iload_n 1, 1) := by decide +kernel
theorem dX2_set_11 : decode cX2_set 11 = .ok (.invokestatic 109, 3) := by decide +kernel
theorem dX2_set_14 : decode cX2_set 14 = .ok (.ifCond .eq 10, 3) := by decide +kernel
theorem dX2_set_17 : decode cX2_set 17 = .ok (.iload_n 2, 1) := by decide +kernel
theorem dX2_set_18 : decode cX2_set 18 = .ok (.invokestatic 119, 3) := by decide +kernel
theorem dX2_set_21 : decode cX2_set 21 = .ok (.ifCond .ne 6, 3) := by decide +kernel
theorem dX2_set_24 : decode cX2_set 24 = .ok (.bipush (-102), 2) := by decide +kernel
theorem dX2_set_26 : decode cX2_set 26 = .ok (.ireturn, 1) := by decide +kernel
theorem dX2_set_27 : decode cX2_set 27 = .ok (.aload_n 0, 1) := by decide +kernel
theorem dX2_set_28 : decode cX2_set 28 = .ok (.getfield 42, 3) := by decide +kernel
theorem dX2_set_31 : decode cX2_set 31 = .ok (.iload_n 1, 1) := by decide +kernel
theorem dX2_set_32 : decode cX2_set 32 = .ok (.invokevirtual 122, 3) := by decide +kernel
theorem dX2_set_35 : decode cX2_set 35 = .ok (.ifCond .ne 6, 3) := by decide +kernel
theorem dX2_set_38 : decode cX2_set 38 = .ok (.bipush (-104), 2) := by decide +kernel
theorem dX2_set_40 : decode cX2_set 40 = .ok (.ireturn, 1) := by decide +kernel
theorem dX2_set_41 : decode cX2_set 41 = .ok (.aload_n 0, 1) := by decide +kernel
theorem dX2_set_42 : decode cX2_set 42 = .ok (.getfield 56, 3) := by decide +kernel
theorem dX2_set_45 : decode cX2_set 45 = .ok (.aload_n 0, 1) := by decide +kernel
theorem dX2_set_46 : decode cX2_set 46 = .ok (.getfield 42, 3) := by decide +kernel
theorem dX2_set_49 : decode cX2_set 49 = .ok (.invokevirtual 83, 3) := by decide +kernel
theorem dX2_set_52 : decode cX2_set 52 = .ok (.aload_n 0, 1) := by decide +kernel
theorem dX2_set_53 : decode cX2_set 53 = .ok (.getfield 56, 3) := by decide +kernel
theorem dX2_set_56 : decode cX2_set 56 = .ok (.iload_n 1, 1) := by decide +kernel
theorem dX2_set_57 : decode cX2_set 57 = .ok (.iload_n 2, 1) := by decide +kernel
theorem dX2_set_58 : decode cX2_set 58 = .ok (.aload_n 0, 1) := by decide +kernel
theorem dX2_set_59 : decode cX2_set 59 = .ok (.iload_n 1, 1) := by decide +kernel
theorem dX2_set_60 : decode cX2_set 60 = .ok (.invokevirtual 93, 3) := by decide +kernel
theorem dX2_set_63 : decode cX2_set 63 = .ok (.invokevirtual 97, 3) := by decide +kernel
theorem dX2_set_66 : decode cX2_set 66 = .ok (.aload_n 0, 1) := by decide +kernel
theorem dX2_set_67 : decode cX2_set 67 = .ok (.invokevirtual 155, 3) := by decide +kernel
theorem dX2_set_70 : decode cX2_set 70 = .ok (.ireturn, 1) := by decide +kernel
theorem dX2_unset_0 : decode cX2_unset 0 = .ok (.aload_n 0, 1) := by decide +kernel
theorem dX2_unset_1 : decode cX2_unset 1 = .ok (.getfield 46, 3) := by decide +kernel
theorem dX2_unset_4 : decode cX2_unset 4 = .ok (.ifCond .ne 6, 3) := by decide +kernel
theorem dX2_unset_7 : decode cX2_unset 7 = .ok (.bipush (-103), 2) := by decide +kernel
theorem dX2_unset_9 : decode cX2_unset 9 = .ok (.ireturn, 1) := by decide +kernel
theorem dX2_unset_10 : decode cX2_unset 10 = .ok (.iload_n 1, 1) := by decide +kernel
theorem dX2_unset_11 : decode cX2_unset 11 = .ok (.invokestatic 109, 3) := by decide +kernel
theorem dX2_unset_14 : decode cX2_unset 14 = .ok (.ifCond .ne 6, 3) := by decide +kernel
theorem dX2_unset_17 : decode cX2_unset 17 = .ok (.bipush (-102), 2) := by decide +kernel
theorem dX2_unset_19 : decode cX2_unset 19 = .ok (.ireturn, 1) := by decide +kernel
theorem dX2_unset_20 : decode cX2_unset 20 = .ok (.aload_n 0, 1) := by decide +kernel
theorem dX2_unset_21 : decode cX2_unset 21 = .ok (.getfield 56, 3) := by decide +kernel
theorem dX2_unset_24 : decode cX2_unset 24 = .ok (.aload_n 0, 1) := by decide +kernel
theorem dX2_unset_25 : decode cX2_unset 25 = .ok (.getfield 42, 3) := by decide +kernel
theorem dX2_unset_28 : decode cX2_unset 28 = .ok (.invokevirtual 83, 3) := by decide +kernel
theorem dX2_unset_31 : decode cX2_unset 31 = .ok (.aload_n 0, 1) := by decide +kernel
theorem dX2_unset_32 : decode cX2_unset 32 = .ok (.getfield 56, 3) := by decide +kernel
theorem dX2_unset_35 : decode cX2_unset 35 = .ok (.iload_n 1, 1) := by decide +kernel
theorem dX2_unset_36 : decode cX2_unset 36 = .ok (.invokevirtual 129, 3) := by decide +kernel
theorem dX2_unset_39 : decode cX2_unset 39 = .ok (.aload_n 0, 1) := by decide +kernel
theorem dX2_unset_40 : decode cX2_unset 40 = .ok (.invokevirtual 155, 3) := by decide +kernel
theorem dX2_unset_43 : decode cX2_unset 43 = .ok (.ireturn, 1) := by decide +kernel
theorem dX2_seal_0 : decode cX2_seal 0 = .ok (.aload_n 0, 1) := by decide +kernel
theorem dX2_seal_1 : decode cX2_seal 1 = .ok (.getfield 46, 3) := by decide +kernel
theorem dX2_seal_4 : decode cX2_seal 4 = .ok (.ifCond .ne 6, 3) := by decide +kernel
theorem dX2_seal_7 : decode cX2_seal 7 = .ok (.bipush (-103), 2) := by decide +kernel
theorem dX2_seal_9 : decode cX2_seal 9 = .ok (.ireturn, 1) := by decide +kernel
theorem dX2_seal_10 : decode cX2_seal 10 = .ok (.aload_n 0, 1) := by decide +kernel
theorem dX2_seal_11 : decode cX2_seal 11 = .ok (.invokevirtual 73, 3) := by decide +kernel
theorem dX2_seal_14 : decode cX2_seal 14 = .ok (.ifCond .eq 6, 3) := by decide +kernel
theorem dX2_seal_17 : decode cX2_seal 17 = .ok (.bipush (-104), 2) := by decide +kernel
theorem dX2_seal_19 : decode cX2_seal 19 = .ok (.ireturn, 1) := by decide +kernel
theorem dX2_seal_20 : decode cX2_seal 20 = .ok (.aload_n 0, 1) := by decide +kernel
theorem dX2_seal_21 : decode cX2_seal 21 = .ok (.getfield 11, 3) := by decide +kernel
theorem dX2_seal_24 : decode cX2_seal 24 = .ok (.aload_n 0, 1) := by decide +kernel
theorem dX2_seal_25 : decode cX2_seal 25 = .ok (.getfield 15, 3) := by decide +kernel
theorem dX2_seal_28 : decode cX2_seal 28 = .ok (.aaload, 1) := by decide +kernel
theorem dX2_seal_29 : decode cX2_seal 29 = .ok (.astore_n 1, 1) := by decide +kernel
theorem dX2_seal_30 : decode cX2_seal 30 = .ok (.aload_n 0, 1) := by decide +kernel
theorem dX2_seal_31 : decode cX2_seal 31 = .ok (.getfield 11, 3) := by decide +kernel
theorem dX2_seal_34 : decode cX2_seal 34 = .ok (.aload_n 0, 1) := by decide +kernel
theorem dX2_seal_35 : decode cX2_seal 35 = .ok (.getfield 15, 3) := by decide +kernel
theorem dX2_seal_38 : decode cX2_seal 38 = .ok (.aload_n 0, 1) := by decide +kernel
theorem dX2_seal_39 : decode cX2_seal 39 = .ok (.getfield 42, 3) := by decide +kernel
theorem dX2_seal_42 : decode cX2_seal 42 = .ok (.aastore, 1) := by decide +kernel
theorem dX2_seal_43 : decode cX2_seal 43 = .ok (.aload_n 0, 1) := by decide +kernel
theorem dX2_seal_44 : decode cX2_seal 44 = .ok (.aload_n 1, 1) := by decide +kernel
theorem dX2_seal_45 : decode cX2_seal 45 = .ok (.putfield 42, 3) := by decide +kernel
theorem dX2_seal_48 : decode cX2_seal 48 = .ok (.aload_n 0, 1) := by decide +kernel
theorem dX2_seal_49 : decode cX2_seal 49 = .ok (.iconst 0, 1) := by decide +kernel
theorem dX2_seal_50 : decode cX2_seal 50 = .ok (.putfield 46, 3) := by decide +kernel
theorem dX2_seal_53 : decode cX2_seal 53 = .ok (.aload_n 0, 1) := by decide +kernel
theorem dX2_seal_54 : decode cX2_seal 54 = .ok (.dup, 1) := by decide +kernel
theorem dX2_seal_55 : decode cX2_seal 55 = .ok (.getfield 38, 3) := by decide +kernel
theorem dX2_seal_58 : decode cX2_seal 58 = .ok (.iconst 1, 1) := by decide +kernel
theorem dX2_seal_59 : decode cX2_seal 59 = .ok (.iadd, 1) := by decide +kernel
theorem dX2_seal_60 : decode cX2_seal 60 = .ok (.putfield 38, 3) := by decide +kernel
theorem dX2_seal_63 : decode cX2_seal 63 = .ok (.aload_n 0, 1) := by decide +kernel
theorem dX2_seal_64 : decode cX2_seal 64 = .ok (.invokevirtual 105, 3) := by decide +kernel
theorem dX2_seal_67 : decode cX2_seal 67 = .ok (.ireturn, 1) := by decide +kernel
theorem dX2_leave_0 : decode cX2_leave 0 = .ok (.aload_n 0, 1) := by decide +kernel
theorem dX2_leave_1 : decode cX2_leave 1 = .ok (.getfield 46, 3) := by decide +kernel
theorem dX2_leave_4 : decode cX2_leave 4 = .ok (.ifCond .ne 6, 3) := by decide +kernel
theorem dX2_leave_7 : decode cX2_leave 7 = .ok (.bipush (-103), 2) := by decide +kernel
theorem dX2_leave_9 : decode cX2_leave 9 = .ok (.ireturn, 1) := by decide +kernel
theorem dX2_leave_10 : decode cX2_leave 10 = .ok (.aload_n 0, 1) := by decide +kernel
theorem dX2_leave_11 : decode cX2_leave 11 = .ok (.iconst 0, 1) := by decide +kernel
theorem dX2_leave_12 : decode cX2_leave 12 = .ok (.putfield 46, 3) := by decide +kernel
theorem dX2_leave_15 : decode cX2_leave 15 = .ok (.aload_n 0, 1) := by decide +kernel
theorem dX2_leave_16 : decode cX2_leave 16 = .ok (.getfield 42, 3) := by decide +kernel
theorem dX2_leave_19 : decode cX2_leave 19 = .ok (.aload_n 0, 1) := by decide +kernel
theorem dX2_leave_20 : decode cX2_leave 20 = .ok (.getfield 53, 3) := by decide +kernel
theorem dX2_leave_23 : decode cX2_leave 23 = .ok (.invokevirtual 158, 3) := by decide +kernel
theorem dX2_leave_26 : decode cX2_leave 26 = .ok (.ireturn, 1) := by decide +kernel
theorem dX2_edit_0 : decode cX2_edit 0 = .ok (.aload_n 0, 1) := by decide +kernel
theorem dX2_edit_1 : decode cX2_edit 1 = .ok (.getfield 46, 3) := by decide +kernel
theorem dX2_edit_4 : decode cX2_edit 4 = .ok (.ifCond .ne 6, 3) := by decide +kernel
theorem dX2_edit_7 : decode cX2_edit 7 = .ok (.bipush (-103), 2) := by decide +kernel
theorem dX2_edit_9 : decode cX2_edit 9 = .ok (.ireturn, 1) := by decide +kernel
theorem dX2_edit_10 : decode cX2_edit 10 = .ok (.iload_n 1, 1) := by decide +kernel
theorem dX2_edit_11 : decode cX2_edit 11 = .ok (.tableswitch 62 0 3 #[29, 37, 45, 57], 29) := by decide +kernel
theorem dX2_edit_40 : decode cX2_edit 40 = .ok (.aload_n 0, 1) := by decide +kernel
theorem dX2_edit_41 : decode cX2_edit 41 = .ok (.getfield 42, 3) := by decide +kernel
theorem dX2_edit_44 : decode cX2_edit 44 = .ok (.getfield 133, 3) := by decide +kernel
theorem dX2_edit_47 : decode cX2_edit 47 = .ok (.ireturn, 1) := by decide +kernel
theorem dX2_edit_48 : decode cX2_edit 48 = .ok (.aload_n 0, 1) := by decide +kernel
theorem dX2_edit_49 : decode cX2_edit 49 = .ok (.getfield 42, 3) := by decide +kernel
theorem dX2_edit_52 : decode cX2_edit 52 = .ok (.getfield 161, 3) := by decide +kernel
theorem dX2_edit_55 : decode cX2_edit 55 = .ok (.ireturn, 1) := by decide +kernel
theorem dX2_edit_56 : decode cX2_edit 56 = .ok (.aload_n 0, 1) := by decide +kernel
theorem dX2_edit_57 : decode cX2_edit 57 = .ok (.getfield 42, 3) := by decide +kernel
theorem dX2_edit_60 : decode cX2_edit 60 = .ok (.aload_n 0, 1) := by decide +kernel
theorem dX2_edit_61 : decode cX2_edit 61 = .ok (.getfield 53, 3) := by decide +kernel
theorem dX2_edit_64 : decode cX2_edit 64 = .ok (.invokevirtual 158, 3) := by decide +kernel
theorem dX2_edit_67 : decode cX2_edit 67 = .ok (.ireturn, 1) := by decide +kernel
theorem dX2_edit_68 : decode cX2_edit 68 = .ok (.aload_n 0, 1) := by decide +kernel
theorem dX2_edit_69 : decode cX2_edit 69 = .ok (.getfield 50, 3) := by decide +kernel
theorem dX2_edit_72 : decode cX2_edit 72 = .ok (.ireturn, 1) := by decide +kernel
theorem dX2_edit_73 : decode cX2_edit 73 = .ok (.bipush (-102), 2) := by decide +kernel
theorem dX2_edit_75 : decode cX2_edit 75 = .ok (.ireturn, 1) := by decide +kernel
theorem dX2_get_0 : decode cX2_get 0 = .ok (.aload_n 0, 1) := by decide +kernel
theorem dX2_get_1 : decode cX2_get 1 = .ok (.iload_n 1, 1) := by decide +kernel
theorem dX2_get_2 : decode cX2_get 2 = .ok (.invokevirtual 116, 3) := by decide +kernel
theorem dX2_get_5 : decode cX2_get 5 = .ok (.ifCond .ne 6, 3) := by decide +kernel
theorem dX2_get_8 : decode cX2_get 8 = .ok (.bipush (-101), 2) := by decide +kernel
theorem dX2_get_10 : decode cX2_get 10 = .ok (.ireturn, 1) := by decide +kernel
theorem dX2_get_11 : decode cX2_get 11 = .ok (.iload_n 2, 1) := by decide +kernel
theorem dX2_get_12 : decode cX2_get 12 = .ok (.invokestatic 109, 3) := by decide +kernel
theorem dX2_get_15 : decode cX2_get 15 = .ok (.ifCond .ne 6, 3) := by decide +kernel
theorem dX2_get_18 : decode cX2_get 18 = .ok (.bipush (-102), 2) := by decide +kernel
theorem dX2_get_20 : decode cX2_get 20 = .ok (.ireturn, 1) := by decide +kernel
theorem dX2_get_21 : decode cX2_get 21 = .ok (.aload_n 0, 1) := by decide +kernel
theorem dX2_get_22 : decode cX2_get 22 = .ok (.getfield 11, 3) := by decide +kernel
theorem dX2_get_25 : decode cX2_get 25 = .ok (.iload_n 1, 1) := by decide +kernel
theorem dX2_get_26 : decode cX2_get 26 = .ok (.aaload, 1) := by decide +kernel
theorem dX2_get_27 : decode cX2_get 27 = .ok (.astore_n 3, 1) := by decide +kernel
theorem dX2_get_28 : decode cX2_get 28 = .ok (.aload_n 3, 1) := by decide +kernel
theorem dX2_get_29 : decode cX2_get 29 = .ok (.iload_n 2, 1) := by decide +kernel
theorem dX2_get_30 : decode cX2_get 30 = .ok (.invokevirtual 164, 3) := by decide +kernel
theorem dX2_get_33 : decode cX2_get 33 = .ok (.istore 4, 2) := by decide +kernel
theorem dX2_get_35 : decode cX2_get 35 = .ok (.iload 4, 2) := by decide +kernel
theorem dX2_get_37 : decode cX2_get 37 = .ok (.ifCond .ge 7, 3) := by decide +kernel
theorem dX2_get_40 : decode cX2_get 40 = .ok (.iconst (-1), 1) := by decide +kernel
theorem dX2_get_41 : decode cX2_get 41 = .ok (.goto 10, 3) := by decide +kernel
theorem dX2_get_44 : decode cX2_get 44 = .ok (.aload_n 3, 1) := by decide +kernel
theorem dX2_get_45 : decode cX2_get 45 = .ok (.getfield 167, 3) := by decide +kernel
theorem dX2_get_48 : decode cX2_get 48 = .ok (.iload 4, 2) := by decide +kernel
theorem dX2_get_50 : decode cX2_get 50 = .ok (.iaload, 1) := by decide +kernel
theorem dX2_get_51 : decode cX2_get 51 = .ok (.ireturn, 1) := by decide +kernel
theorem dX2_about_0 : decode cX2_about 0 = .ok (.aload_n 0, 1) := by decide +kernel
theorem dX2_about_1 : decode cX2_about 1 = .ok (.iload_n 1, 1) := by decide +kernel
theorem dX2_about_2 : decode cX2_about 2 = .ok (.invokevirtual 116, 3) := by decide +kernel
theorem dX2_about_5 : decode cX2_about 5 = .ok (.ifCond .ne 6, 3) := by decide +kernel
theorem dX2_about_8 : decode cX2_about 8 = .ok (.bipush (-101), 2) := by decide +kernel
theorem dX2_about_10 : decode cX2_about 10 = .ok (.ireturn, 1) := by decide +kernel
theorem dX2_about_11 : decode cX2_about 11 = .ok (.aload_n 0, 1) := by decide +kernel
theorem dX2_about_12 : decode cX2_about 12 = .ok (.getfield 11, 3) := by decide +kernel
theorem dX2_about_15 : decode cX2_about 15 = .ok (.iload_n 1, 1) := by decide +kernel
theorem dX2_about_16 : decode cX2_about 16 = .ok (.aaload, 1) := by decide +kernel
theorem dX2_about_17 : decode cX2_about 17 = .ok (.astore_n 3, 1) := by decide +kernel
theorem dX2_about_18 : decode cX2_about 18 = .ok (.iload_n 2, 1) := by decide +kernel
theorem dX2_about_19 : decode cX2_about 19 = .ok (.tableswitch 70 0 5 #[37, 42, 47, 53, 59, 65], 37) := by decide +kernel
theorem dX2_about_56 : decode cX2_about 56 = .ok (.aload_n 3, 1) := by decide +kernel
theorem dX2_about_57 : decode cX2_about 57 = .ok (.getfield 133, 3) := by decide +kernel
theorem dX2_about_60 : decode cX2_about 60 = .ok (.ireturn, 1) := by decide +kernel
theorem dX2_about_61 : decode cX2_about 61 = .ok (.aload_n 3, 1) := by decide +kernel
theorem dX2_about_62 : decode cX2_about 62 = .ok (.getfield 161, 3) := by decide +kernel
theorem dX2_about_65 : decode cX2_about 65 = .ok (.ireturn, 1) := by decide +kernel
theorem dX2_about_66 : decode cX2_about 66 = .ok (.aload_n 3, 1) := by decide +kernel
theorem dX2_about_67 : decode cX2_about 67 = .ok (.iconst 0, 1) := by decide +kernel
theorem dX2_about_68 : decode cX2_about 68 = .ok (.invokevirtual 168, 3) := by decide +kernel
theorem dX2_about_71 : decode cX2_about 71 = .ok (.ireturn, 1) := by decide +kernel
theorem dX2_about_72 : decode cX2_about 72 = .ok (.aload_n 3, 1) := by decide +kernel
theorem dX2_about_73 : decode cX2_about 73 = .ok (.iconst 1, 1) := by decide +kernel
theorem dX2_about_74 : decode cX2_about 74 = .ok (.invokevirtual 168, 3) := by decide +kernel
theorem dX2_about_77 : decode cX2_about 77 = .ok (.ireturn, 1) := by decide +kernel
theorem dX2_about_78 : decode cX2_about 78 = .ok (.aload_n 3, 1) := by decide +kernel
theorem dX2_about_79 : decode cX2_about 79 = .ok (.iconst 2, 1) := by decide +kernel
theorem dX2_about_80 : decode cX2_about 80 = .ok (.invokevirtual 168, 3) := by decide +kernel
theorem dX2_about_83 : decode cX2_about 83 = .ok (.ireturn, 1) := by decide +kernel
theorem dX2_about_84 : decode cX2_about 84 = .ok (.aload_n 3, 1) := by decide +kernel
theorem dX2_about_85 : decode cX2_about 85 = .ok (.invokevirtual 171, 3) := by decide +kernel
theorem dX2_about_88 : decode cX2_about 88 = .ok (.ireturn, 1) := by decide +kernel
theorem dX2_about_89 : decode cX2_about 89 = .ok (.bipush (-102), 2) := by decide +kernel
theorem dX2_about_91 : decode cX2_about 91 = .ok (.ireturn, 1) := by decide +kernel
theorem dX2_node_0 : decode cX2_node 0 = .ok (.aload_n 0, 1) := by decide +kernel
theorem dX2_node_1 : decode cX2_node 1 = .ok (.iload_n 1, 1) := by decide +kernel
theorem dX2_node_2 : decode cX2_node 2 = .ok (.invokevirtual 116, 3) := by decide +kernel
theorem dX2_node_5 : decode cX2_node 5 = .ok (.ifCond .ne 6, 3) := by decide +kernel
theorem dX2_node_8 : decode cX2_node 8 = .ok (.bipush (-101), 2) := by decide +kernel
theorem dX2_node_10 : decode cX2_node 10 = .ok (.ireturn, 1) := by decide +kernel
theorem dX2_node_11 : decode cX2_node 11 = .ok (.aload_n 0, 1) := by decide +kernel
theorem dX2_node_12 : decode cX2_node 12 = .ok (.getfield 11, 3) := by decide +kernel
theorem dX2_node_15 : decode cX2_node 15 = .ok (.iload_n 1, 1) := by decide +kernel
theorem dX2_node_16 : decode cX2_node 16 = .ok (.aaload, 1) := by decide +kernel
theorem dX2_node_17 : decode cX2_node 17 = .ok (.astore 4, 2) := by decide +kernel
theorem dX2_node_19 : decode cX2_node 19 = .ok (.iload_n 2, 1) := by decide +kernel
theorem dX2_node_20 : decode cX2_node 20 = .ok (.ifCond .lt 12, 3) := by decide +kernel
theorem dX2_node_23 : decode cX2_node 23 = .ok (.iload_n 2, 1) := by decide +kernel
theorem dX2_node_24 : decode cX2_node 24 = .ok (.aload 4, 2) := by decide +kernel
theorem dX2_node_26 : decode cX2_node 26 = .ok (.getfield 161, 3) := by decide +kernel
theorem dX2_node_29 : decode cX2_node 29 = .ok (.if_icmp .lt 6, 3) := by decide +kernel
theorem dX2_node_32 : decode cX2_node 32 = .ok (.bipush (-101), 2) := by decide +kernel
theorem dX2_node_34 : decode cX2_node 34 = .ok (.ireturn, 1) := by decide +kernel
theorem dX2_node_35 : decode cX2_node 35 = .ok (.iload_n 3, 1) := by decide +kernel
theorem dX2_node_36 : decode cX2_node 36 = .ok (.tableswitch 82 0 4 #[36, 44, 52, 60, 74], 36) := by decide +kernel
theorem dX2_node_72 : decode cX2_node 72 = .ok (.aload 4, 2) := by decide +kernel
theorem dX2_node_74 : decode cX2_node 74 = .ok (.getfield 174, 3) := by decide +kernel
theorem dX2_node_77 : decode cX2_node 77 = .ok (.iload_n 2, 1) := by decide +kernel
theorem dX2_node_78 : decode cX2_node 78 = .ok (.iaload, 1) := by decide +kernel
theorem dX2_node_79 : decode cX2_node 79 = .ok (.ireturn, 1) := by decide +kernel
theorem dX2_node_80 : decode cX2_node 80 = .ok (.aload 4, 2) := by decide +kernel
theorem dX2_node_82 : decode cX2_node 82 = .ok (.getfield 177, 3) := by decide +kernel
theorem dX2_node_85 : decode cX2_node 85 = .ok (.iload_n 2, 1) := by decide +kernel
theorem dX2_node_86 : decode cX2_node 86 = .ok (.iaload, 1) := by decide +kernel
theorem dX2_node_87 : decode cX2_node 87 = .ok (.ireturn, 1) := by decide +kernel
theorem dX2_node_88 : decode cX2_node 88 = .ok (.aload 4, 2) := by decide +kernel
theorem dX2_node_90 : decode cX2_node 90 = .ok (.getfield 180, 3) := by decide +kernel
theorem dX2_node_93 : decode cX2_node 93 = .ok (.iload_n 2, 1) := by decide +kernel
theorem dX2_node_94 : decode cX2_node 94 = .ok (.iaload, 1) := by decide +kernel
theorem dX2_node_95 : decode cX2_node 95 = .ok (.ireturn, 1) := by decide +kernel
theorem dX2_node_96 : decode cX2_node 96 = .ok (.aload 4, 2) := by decide +kernel
theorem dX2_node_98 : decode cX2_node 98 = .ok (.getfield 183, 3) := by decide +kernel
theorem dX2_node_101 : decode cX2_node 101 = .ok (.aload 4, 2) := by decide +kernel
theorem dX2_node_103 : decode cX2_node 103 = .ok (.getfield 184, 3) := by decide +kernel
theorem dX2_node_106 : decode cX2_node 106 = .ok (.iload_n 2, 1) := by decide +kernel
theorem dX2_node_107 : decode cX2_node 107 = .ok (.iaload, 1) := by decide +kernel
theorem dX2_node_108 : decode cX2_node 108 = .ok (.iaload, 1) := by decide +kernel
theorem dX2_node_109 : decode cX2_node 109 = .ok (.ireturn, 1) := by decide +kernel
theorem dX2_node_110 : decode cX2_node 110 = .ok (.aload 4, 2) := by decide +kernel
theorem dX2_node_112 : decode cX2_node 112 = .ok (.getfield 187, 3) := by decide +kernel
theorem dX2_node_115 : decode cX2_node 115 = .ok (.iload_n 2, 1) := by decide +kernel
theorem dX2_node_116 : decode cX2_node 116 = .ok (.iaload, 1) := by decide +kernel
theorem dX2_node_117 : decode cX2_node 117 = .ok (.ireturn, 1) := by decide +kernel
theorem dX2_node_118 : decode cX2_node 118 = .ok (.bipush (-102), 2) := by decide +kernel
theorem dX2_node_120 : decode cX2_node 120 = .ok (.ireturn, 1) := by decide +kernel
theorem dX2_entry_0 : decode cX2_entry 0 = .ok (.aload_n 0, 1) := by decide +kernel
theorem dX2_entry_1 : decode cX2_entry 1 = .ok (.iload_n 1, 1) := by decide +kernel
theorem dX2_entry_2 : decode cX2_entry 2 = .ok (.invokevirtual 116, 3) := by decide +kernel
theorem dX2_entry_5 : decode cX2_entry 5 = .ok (.ifCond .ne 6, 3) := by decide +kernel
theorem dX2_entry_8 : decode cX2_entry 8 = .ok (.bipush (-101), 2) := by decide +kernel
theorem dX2_entry_10 : decode cX2_entry 10 = .ok (.ireturn, 1) := by decide +kernel
theorem dX2_entry_11 : decode cX2_entry 11 = .ok (.aload_n 0, 1) := by decide +kernel
theorem dX2_entry_12 : decode cX2_entry 12 = .ok (.getfield 11, 3) := by decide +kernel
theorem dX2_entry_15 : decode cX2_entry 15 = .ok (.iload_n 1, 1) := by decide +kernel
theorem dX2_entry_16 : decode cX2_entry 16 = .ok (.aaload, 1) := by decide +kernel
theorem dX2_entry_17 : decode cX2_entry 17 = .ok (.astore 4, 2) := by decide +kernel
theorem dX2_entry_19 : decode cX2_entry 19 = .ok (.iload_n 2, 1) := by decide +kernel
theorem dX2_entry_20 : decode cX2_entry 20 = .ok (.ifCond .lt 12, 3) := by decide +kernel
theorem dX2_entry_23 : decode cX2_entry 23 = .ok (.iload_n 2, 1) := by decide +kernel
theorem dX2_entry_24 : decode cX2_entry 24 = .ok (.aload 4, 2) := by decide +kernel
theorem dX2_entry_26 : decode cX2_entry 26 = .ok (.getfield 133, 3) := by decide +kernel
theorem dX2_entry_29 : decode cX2_entry 29 = .ok (.if_icmp .lt 6, 3) := by decide +kernel
theorem dX2_entry_32 : decode cX2_entry 32 = .ok (.bipush (-101), 2) := by decide +kernel
theorem dX2_entry_34 : decode cX2_entry 34 = .ok (.ireturn, 1) := by decide +kernel
theorem dX2_entry_35 : decode cX2_entry 35 = .ok (.iload_n 3, 1) := by decide +kernel
theorem dX2_entry_36 : decode cX2_entry 36 = .ok (.tableswitch 52 0 2 #[28, 36, 44], 28) := by decide +kernel
theorem dX2_entry_64 : decode cX2_entry 64 = .ok (.aload 4, 2) := by decide +kernel
theorem dX2_entry_66 : decode cX2_entry 66 = .ok (.getfield 183, 3) := by decide +kernel
theorem dX2_entry_69 : decode cX2_entry 69 = .ok (.iload_n 2, 1) := by decide +kernel
theorem dX2_entry_70 : decode cX2_entry 70 = .ok (.iaload, 1) := by decide +kernel
theorem dX2_entry_71 : decode cX2_entry 71 = .ok (.ireturn, 1) := by decide +kernel
theorem dX2_entry_72 : decode cX2_entry 72 = .ok (.aload 4, 2) := by decide +kernel
theorem dX2_entry_74 : decode cX2_entry 74 = .ok (.getfield 167, 3) := by decide +kernel
theorem dX2_entry_77 : decode cX2_entry 77 = .ok (.iload_n 2, 1) := by decide +kernel
theorem dX2_entry_78 : decode cX2_entry 78 = .ok (.iaload, 1) := by decide +kernel
theorem dX2_entry_79 : decode cX2_entry 79 = .ok (.ireturn, 1) := by decide +kernel
theorem dX2_entry_80 : decode cX2_entry 80 = .ok (.aload 4, 2) := by decide +kernel
theorem dX2_entry_82 : decode cX2_entry 82 = .ok (.getfield 190, 3) := by decide +kernel
theorem dX2_entry_85 : decode cX2_entry 85 = .ok (.iload_n 2, 1) := by decide +kernel
theorem dX2_entry_86 : decode cX2_entry 86 = .ok (.iaload, 1) := by decide +kernel
theorem dX2_entry_87 : decode cX2_entry 87 = .ok (.ireturn, 1) := by decide +kernel
theorem dX2_entry_88 : decode cX2_entry 88 = .ok (.bipush (-102), 2) := by decide +kernel
theorem dX2_entry_90 : decode cX2_entry 90 = .ok (.ireturn, 1) := by decide +kernel
theorem dX2_shared_0 : decode cX2_shared 0 = .ok (.aload_n 0, 1) := by decide +kernel
theorem dX2_shared_1 : decode cX2_shared 1 = .ok (.iload_n 1, 1) := by decide +kernel
theorem dX2_shared_2 : decode cX2_shared 2 = .ok (.invokevirtual 116, 3) := by decide +kernel
theorem dX2_shared_5 : decode cX2_shared 5 = .ok (.ifCond .eq 11, 3) := by decide +kernel
theorem dX2_shared_8 : decode cX2_shared 8 = .ok (.aload_n 0, 1) := by decide +kernel
theorem dX2_shared_9 : decode cX2_shared 9 = .ok (.iload_n 2, 1) := by decide +kernel
theorem dX2_shared_10 : decode cX2_shared 10 = .ok (.invokevirtual 116, 3) := by decide +kernel
theorem dX2_shared_13 : decode cX2_shared 13 = .ok (.ifCond .ne 6, 3) := by decide +kernel
theorem dX2_shared_16 : decode cX2_shared 16 = .ok (.bipush (-101), 2) := by decide +kernel
theorem dX2_shared_18 : decode cX2_shared 18 = .ok (.ireturn, 1) := by decide +kernel
theorem dX2_shared_19 : decode cX2_shared 19 = .ok (.aload_n 0, 1) := by decide +kernel
theorem dX2_shared_20 : decode cX2_shared 20 = .ok (.getfield 11, 3) := by decide +kernel
theorem dX2_shared_23 : decode cX2_shared 23 = .ok (.iload_n 1, 1) := by decide +kernel
theorem dX2_shared_24 : decode cX2_shared 24 = .ok (.aaload, 1) := by decide +kernel
theorem dX2_shared_25 : decode cX2_shared 25 = .ok (.astore_n 3, 1) := by decide +kernel
theorem dX2_shared_26 : decode cX2_shared 26 = .ok (.iconst 0, 1) := by decide +kernel
theorem dX2_shared_27 : decode cX2_shared 27 = .ok (.istore 4, 2) := by decide +kernel
theorem dX2_shared_29 : decode cX2_shared 29 = .ok (.iconst 0, 1) := by decide +kernel
theorem dX2_shared_30 : decode cX2_shared 30 = .ok (.istore 5, 2) := by decide +kernel
theorem dX2_shared_32 : decode cX2_shared 32 = .ok (.iload 5, 2) := by decide +kernel
theorem dX2_shared_34 : decode cX2_shared 34 = .ok (.aload_n 3, 1) := by decide +kernel
theorem dX2_shared_35 : decode cX2_shared 35 = .ok (.getfield 161, 3) := by decide +kernel
theorem dX2_shared_38 : decode cX2_shared 38 = .ok (.if_icmp .ge 27, 3) := by decide +kernel
theorem dX2_shared_41 : decode cX2_shared 41 = .ok (.aload_n 0, 1) := by decide +kernel
theorem dX2_shared_42 : decode cX2_shared 42 = .ok (.getfield 11, 3) := by decide +kernel
theorem dX2_shared_45 : decode cX2_shared 45 = .ok (.iload_n 2, 1) := by decide +kernel
theorem dX2_shared_46 : decode cX2_shared 46 = .ok (.aaload, 1) := by decide +kernel
theorem dX2_shared_47 : decode cX2_shared 47 = .ok (.aload_n 3, 1) := by decide +kernel
theorem dX2_shared_48 : decode cX2_shared 48 = .ok (.iload 5, 2) := by decide +kernel
theorem dX2_shared_50 : decode cX2_shared 50 = .ok (.invokevirtual 193, 3) := by decide +kernel
theorem dX2_shared_53 : decode cX2_shared 53 = .ok (.ifCond .eq 6, 3) := by decide +kernel
theorem dX2_shared_56 : decode cX2_shared 56 = .ok (.iinc 4 1, 3) := by decide +kernel
theorem dX2_shared_59 : decode cX2_shared 59 = .ok (.iinc 5 1, 3) := by decide +kernel
theorem dX2_shared_62 : decode cX2_shared 62 = .ok (.goto (-30), 3) := by decide +kernel
theorem dX2_shared_65 : decode cX2_shared 65 = .ok (.iload 4, 2) := by decide +kernel
theorem dX2_shared_67 : decode cX2_shared 67 = .ok (.ireturn, 1) := by decide +kernel
theorem dX2_two_0 : decode cX2_two 0 = .ok (.aload_n 0, 1) := by decide +kernel
theorem dX2_two_1 : decode cX2_two 1 = .ok (.iload_n 1, 1) := by decide +kernel
theorem dX2_two_2 : decode cX2_two 2 = .ok (.invokevirtual 116, 3) := by decide +kernel
theorem dX2_two_5 : decode cX2_two 5 = .ok (.ifCond .eq 11, 3) := by decide +kernel
theorem dX2_two_8 : decode cX2_two 8 = .ok (.aload_n 0, 1) := by decide +kernel
theorem dX2_two_9 : decode cX2_two 9 = .ok (.iload_n 2, 1) := by decide +kernel
theorem dX2_two_10 : decode cX2_two 10 = .ok (.invokevirtual 116, 3) := by decide +kernel
theorem dX2_two_13 : decode cX2_two 13 = .ok (.ifCond .ne 6, 3) := by decide +kernel
theorem dX2_two_16 : decode cX2_two 16 = .ok (.bipush (-101), 2) := by decide +kernel
theorem dX2_two_18 : decode cX2_two 18 = .ok (.ireturn, 1) := by decide +kernel
theorem dX2_two_19 : decode cX2_two 19 = .ok (.aload_n 0, 1) := by decide +kernel
theorem dX2_two_20 : decode cX2_two 20 = .ok (.getfield 11, 3) := by decide +kernel
theorem dX2_two_23 : decode cX2_two 23 = .ok (.iload_n 1, 1) := by decide +kernel
theorem dX2_two_24 : decode cX2_two 24 = .ok (.aaload, 1) := by decide +kernel
theorem dX2_two_25 : decode cX2_two 25 = .ok (.astore 4, 2) := by decide +kernel
theorem dX2_two_27 : decode cX2_two 27 = .ok (.aload_n 0, 1) := by decide +kernel
theorem dX2_two_28 : decode cX2_two 28 = .ok (.getfield 11, 3) := by decide +kernel
theorem dX2_two_31 : decode cX2_two 31 = .ok (.iload_n 2, 1) := by decide +kernel
theorem dX2_two_32 : decode cX2_two 32 = .ok (.aaload, 1) := by decide +kernel
theorem dX2_two_33 : decode cX2_two 33 = .ok (.astore 5, 2) := by decide +kernel
theorem dX2_two_35 : decode cX2_two 35 = .ok (.aload 4, 2) := by decide +kernel
theorem dX2_two_37 : decode cX2_two 37 = .ok (.aload 5, 2) := by decide +kernel
theorem dX2_two_39 : decode cX2_two 39 = .ok (.invokevirtual 136, 3) := by decide +kernel
theorem dX2_two_42 : decode cX2_two 42 = .ok (.istore 6, 2) := by decide +kernel
theorem dX2_two_44 : decode cX2_two 44 = .ok (.aload 4, 2) := by decide +kernel
theorem dX2_two_46 : decode cX2_two 46 = .ok (.aload 5, 2) := by decide +kernel
theorem dX2_two_48 : decode cX2_two 48 = .ok (.invokevirtual 197, 3) := by decide +kernel
theorem dX2_two_51 : decode cX2_two 51 = .ok (.istore 7, 2) := by decide +kernel
theorem dX2_two_53 : decode cX2_two 53 = .ok (.iload_n 3, 1) := by decide +kernel
theorem dX2_two_54 : decode cX2_two 54 = .ok (.tableswitch 87 0 4 #[34, 60, 63, 69, 78], 34) := by decide +kernel
theorem dX2_two_88 : decode cX2_two 88 = .ok (.iload 7, 2) := by decide +kernel
theorem dX2_two_90 : decode cX2_two 90 = .ok (.aload 4, 2) := by decide +kernel
theorem dX2_two_92 : decode cX2_two 92 = .ok (.getfield 133, 3) := by decide +kernel
theorem dX2_two_95 : decode cX2_two 95 = .ok (.if_icmp .ne 17, 3) := by decide +kernel
theorem dX2_two_98 : decode cX2_two 98 = .ok (.iload 7, 2) := by decide +kernel
theorem dX2_two_100 : decode cX2_two 100 = .ok (.aload 5, 2) := by decide +kernel
theorem dX2_two_102 : decode cX2_two 102 = .ok (.getfield 133, 3) := by decide +kernel
theorem dX2_two_105 : decode cX2_two 105 = .ok (.if_icmp .ne 7, 3) := by decide +kernel
theorem dX2_two_108 : decode cX2_two 108 = .ok (.iconst 1, 1) := by decide +kernel
theorem dX2_two_109 : decode cX2_two 109 = .ok (.goto 4, 3) := by decide +kernel
theorem dX2_two_112 : decode cX2_two 112 = .ok (.iconst 0, 1) := by decide +kernel
theorem dX2_two_113 : decode cX2_two 113 = .ok (.ireturn, 1) := by decide +kernel
theorem dX2_two_114 : decode cX2_two 114 = .ok (.iload 7, 2) := by decide +kernel
theorem dX2_two_116 : decode cX2_two 116 = .ok (.ireturn, 1) := by decide +kernel
theorem dX2_two_117 : decode cX2_two 117 = .ok (.iload 6, 2) := by decide +kernel
theorem dX2_two_119 : decode cX2_two 119 = .ok (.iload 7, 2) := by decide +kernel
theorem dX2_two_121 : decode cX2_two 121 = .ok (.isub, 1) := by decide +kernel
theorem dX2_two_122 : decode cX2_two 122 = .ok (.ireturn, 1) := by decide +kernel
theorem dX2_two_123 : decode cX2_two 123 = .ok (.aload 4, 2) := by decide +kernel
theorem dX2_two_125 : decode cX2_two 125 = .ok (.getfield 133, 3) := by decide +kernel
theorem dX2_two_128 : decode cX2_two 128 = .ok (.iload 6, 2) := by decide +kernel
theorem dX2_two_130 : decode cX2_two 130 = .ok (.isub, 1) := by decide +kernel
theorem dX2_two_131 : decode cX2_two 131 = .ok (.ireturn, 1) := by decide +kernel
theorem dX2_two_132 : decode cX2_two 132 = .ok (.aload 5, 2) := by decide +kernel
theorem dX2_two_134 : decode cX2_two 134 = .ok (.getfield 133, 3) := by decide +kernel
theorem dX2_two_137 : decode cX2_two 137 = .ok (.iload 6, 2) := by decide +kernel
theorem dX2_two_139 : decode cX2_two 139 = .ok (.isub, 1) := by decide +kernel
theorem dX2_two_140 : decode cX2_two 140 = .ok (.ireturn, 1) := by decide +kernel
theorem dX2_two_141 : decode cX2_two 141 = .ok (.bipush (-102), 2) := by decide +kernel
theorem dX2_two_143 : decode cX2_two 143 = .ok (.ireturn, 1) := by decide +kernel
theorem dX2_count_0 : decode cX2_count 0 = .ok (.iload_n 1, 1) := by decide +kernel
theorem dX2_count_1 : decode cX2_count 1 = .ok (.tableswitch 107 0 8 #[51, 56, 61, 66, 74, 79, 84, 97, 102], 51) := by decide +kernel
theorem dX2_count_52 : decode cX2_count 52 = .ok (.aload_n 0, 1) := by decide +kernel
theorem dX2_count_53 : decode cX2_count 53 = .ok (.getfield 15, 3) := by decide +kernel
theorem dX2_count_56 : decode cX2_count 56 = .ok (.ireturn, 1) := by decide +kernel
theorem dX2_count_57 : decode cX2_count 57 = .ok (.aload_n 0, 1) := by decide +kernel
theorem dX2_count_58 : decode cX2_count 58 = .ok (.getfield 32, 3) := by decide +kernel
theorem dX2_count_61 : decode cX2_count 61 = .ok (.ireturn, 1) := by decide +kernel
theorem dX2_count_62 : decode cX2_count 62 = .ok (.aload_n 0, 1) := by decide +kernel
theorem dX2_count_63 : decode cX2_count 63 = .ok (.invokevirtual 200, 3) := by decide +kernel
theorem dX2_count_66 : decode cX2_count 66 = .ok (.ireturn, 1) := by decide +kernel
theorem dX2_count_67 : decode cX2_count 67 = .ok (.aload_n 0, 1) := by decide +kernel
theorem dX2_count_68 : decode cX2_count 68 = .ok (.getfield 22, 3) := by decide +kernel
theorem dX2_count_71 : decode cX2_count 71 = .ok (.getfield 59, 3) := by decide +kernel
theorem dX2_count_74 : decode cX2_count 74 = .ok (.ireturn, 1) := by decide +kernel
theorem dX2_count_75 : decode cX2_count 75 = .ok (.aload_n 0, 1) := by decide +kernel
theorem dX2_count_76 : decode cX2_count 76 = .ok (.getfield 35, 3) := by decide +kernel
theorem dX2_count_79 : decode cX2_count 79 = .ok (.ireturn, 1) := by decide +kernel
theorem dX2_count_80 : decode cX2_count 80 = .ok (.aload_n 0, 1) := by decide +kernel
theorem dX2_count_81 : decode cX2_count 81 = .ok (.getfield 38, 3) := by decide +kernel
theorem dX2_count_84 : decode cX2_count 84 = .ok (.ireturn, 1) := by decide +kernel
theorem dX2_count_85 : decode cX2_count 85 = .ok (.aload_n 0, 1) := by decide +kernel
theorem dX2_count_86 : decode cX2_count 86 = .ok (.getfield 46, 3) := by decide +kernel
theorem dX2_count_89 : decode cX2_count 89 = .ok (.ifCond .eq 7, 3) := by decide +kernel
theorem dX2_count_92 : decode cX2_count 92 = .ok (.iconst 1, 1) := by decide +kernel
theorem dX2_count_93 : decode cX2_count 93 = .ok (.goto 4, 3) := by decide +kernel
theorem dX2_count_96 : decode cX2_count 96 = .ok (.iconst 0, 1) := by decide +kernel
theorem dX2_count_97 : decode cX2_count 97 = .ok (.ireturn, 1) := by decide +kernel
theorem dX2_count_98 : decode cX2_count 98 = .ok (.aload_n 0, 1) := by decide +kernel
theorem dX2_count_99 : decode cX2_count 99 = .ok (.getfield 26, 3) := by decide +kernel
theorem dX2_count_102 : decode cX2_count 102 = .ok (.ireturn, 1) := by decide +kernel
theorem dX2_count_103 : decode cX2_count 103 = .ok (.aload_n 0, 1) := by decide +kernel
theorem dX2_count_104 : decode cX2_count 104 = .ok (.getfield 29, 3) := by decide +kernel
theorem dX2_count_107 : decode cX2_count 107 = .ok (.ireturn, 1) := by decide +kernel
theorem dX2_count_108 : decode cX2_count 108 = .ok (.bipush (-102), 2) := by decide +kernel
theorem dX2_count_110 : decode cX2_count 110 = .ok (.ireturn, 1) := by decide +kernel
theorem dX2_digest_0 : decode cX2_digest 0 = .ok (.ldc2_w 203, 3) := by decide +kernel
theorem dX2_digest_3 : decode cX2_digest 3 = .ok (.lstore_n 1, 1) := by decide +kernel
theorem dX2_digest_4 : decode cX2_digest 4 = .ok (.iconst 0, 1) := by decide +kernel
theorem dX2_digest_5 : decode cX2_digest 5 = .ok (.istore_n 3, 1) := by decide +kernel
theorem dX2_digest_6 : decode cX2_digest 6 = .ok (.iload_n 3, 1) := by decide +kernel
theorem dX2_digest_7 : decode cX2_digest 7 = .ok (.aload_n 0, 1) := by decide +kernel
theorem dX2_digest_8 : decode cX2_digest 8 = .ok (.getfield 15, 3) := by decide +kernel
theorem dX2_digest_11 : decode cX2_digest 11 = .ok (.if_icmp .ge 16, 3) := by decide +kernel
theorem dX2_digest_14 : decode cX2_digest 14 = .ok (.aload_n 0, 1) := by decide +kernel
theorem dX2_digest_15 : decode cX2_digest 15 = .ok (.lload_n 1, 1) := by decide +kernel
theorem dX2_digest_16 : decode cX2_digest 16 = .ok (.iload_n 3, 1) := by decide +kernel
theorem dX2_digest_17 : decode cX2_digest 17 = .ok (.invokevirtual 205, 3) := by decide +kernel
theorem dX2_digest_20 : decode cX2_digest 20 = .ok (.lstore_n 1, 1) := by decide +kernel
theorem dX2_digest_21 : decode cX2_digest 21 = .ok (.iinc 3 1, 3) := by decide +kernel
theorem dX2_digest_24 : decode cX2_digest 24 = .ok (.goto (-18), 3) := by decide +kernel
theorem dX2_digest_27 : decode cX2_digest 27 = .ok (.aload_n 0, 1) := by decide +kernel
theorem dX2_digest_28 : decode cX2_digest 28 = .ok (.getfield 46, 3) := by decide +kernel
theorem dX2_digest_31 : decode cX2_digest 31 = .ok (.ifCond .eq 26, 3) := by decide +kernel
theorem dX2_digest_34 : decode cX2_digest 34 = .ok (.iconst 0, 1) := by decide +kernel
theorem dX2_digest_35 : decode cX2_digest 35 = .ok (.istore_n 3, 1) := by decide +kernel
theorem dX2_digest_36 : decode cX2_digest 36 = .ok (.iload_n 3, 1) := by decide +kernel
theorem dX2_digest_37 : decode cX2_digest 37 = .ok (.iconst 3, 1) := by decide +kernel
theorem dX2_digest_38 : decode cX2_digest 38 = .ok (.if_icmp .gt 19, 3) := by decide +kernel
theorem dX2_digest_41 : decode cX2_digest 41 = .ok (.lload_n 1, 1) := by decide +kernel
theorem dX2_digest_42 : decode cX2_digest 42 = .ok (.aload_n 0, 1) := by decide +kernel
theorem dX2_digest_43 : decode cX2_digest 43 = .ok (.iload_n 3, 1) := by decide +kernel
theorem dX2_digest_44 : decode cX2_digest 44 = .ok (.invokevirtual 209, 3) := by decide +kernel
theorem dX2_digest_47 : decode cX2_digest 47 = .ok (.invokestatic 212, 3) := by decide +kernel
theorem dX2_digest_50 : decode cX2_digest 50 = .ok (.lstore_n 1, 1) := by decide +kernel
theorem dX2_digest_51 : decode cX2_digest 51 = .ok (.iinc 3 1, 3) := by decide +kernel
theorem dX2_digest_54 : decode cX2_digest 54 = .ok (.goto (-18), 3) := by decide +kernel
theorem dX2_digest_57 : decode cX2_digest 57 = .ok (.iconst 0, 1) := by decide +kernel
theorem dX2_digest_58 : decode cX2_digest 58 = .ok (.istore_n 3, 1) := by decide +kernel
theorem dX2_digest_59 : decode cX2_digest 59 = .ok (.iload_n 3, 1) := by decide +kernel
theorem dX2_digest_60 : decode cX2_digest 60 = .ok (.aload_n 0, 1) := by decide +kernel
theorem dX2_digest_61 : decode cX2_digest 61 = .ok (.getfield 22, 3) := by decide +kernel
theorem dX2_digest_64 : decode cX2_digest 64 = .ok (.getfield 59, 3) := by decide +kernel
theorem dX2_digest_67 : decode cX2_digest 67 = .ok (.if_icmp .ge 23, 3) := by decide +kernel
theorem dX2_digest_70 : decode cX2_digest 70 = .ok (.lload_n 1, 1) := by decide +kernel
theorem dX2_digest_71 : decode cX2_digest 71 = .ok (.aload_n 0, 1) := by decide +kernel
theorem dX2_digest_72 : decode cX2_digest 72 = .ok (.getfield 22, 3) := by decide +kernel
theorem dX2_digest_75 : decode cX2_digest 75 = .ok (.getfield 62, 3) := by decide +kernel
theorem dX2_digest_78 : decode cX2_digest 78 = .ok (.iload_n 3, 1) := by decide +kernel
theorem dX2_digest_79 : decode cX2_digest 79 = .ok (.iaload, 1) := by decide +kernel
theorem dX2_digest_80 : decode cX2_digest 80 = .ok (.invokestatic 212, 3) := by decide +kernel
theorem dX2_digest_83 : decode cX2_digest 83 = .ok (.lstore_n 1, 1) := by decide +kernel
theorem dX2_digest_84 : decode cX2_digest 84 = .ok (.iinc 3 1, 3) := by decide +kernel
theorem dX2_digest_87 : decode cX2_digest 87 = .ok (.goto (-28), 3) := by decide +kernel
theorem dX2_digest_90 : decode cX2_digest 90 = .ok (.iconst 0, 1) := by decide +kernel
theorem dX2_digest_91 : decode cX2_digest 91 = .ok (.istore_n 3, 1) := by decide +kernel
theorem dX2_digest_92 : decode cX2_digest 92 = .ok (.iload_n 3, 1) := by decide +kernel
theorem dX2_digest_93 : decode cX2_digest 93 = .ok (.bipush 8, 2) := by decide +kernel
theorem dX2_digest_95 : decode cX2_digest 95 = .ok (.if_icmp .gt 19, 3) := by decide +kernel
theorem dX2_digest_98 : decode cX2_digest 98 = .ok (.lload_n 1, 1) := by decide +kernel
theorem dX2_digest_99 : decode cX2_digest 99 = .ok (.aload_n 0, 1) := by decide +kernel
theorem dX2_digest_100 : decode cX2_digest 100 = .ok (.iload_n 3, 1) := by decide +kernel
theorem dX2_digest_101 : decode cX2_digest 101 = .ok (.invokevirtual 215, 3) := by decide +kernel
theorem dX2_digest_104 : decode cX2_digest 104 = .ok (.invokestatic 212, 3) := by decide +kernel
theorem dX2_digest_107 : decode cX2_digest 107 = .ok (.lstore_n 1, 1) := by decide +kernel
theorem dX2_digest_108 : decode cX2_digest 108 = .ok (.iinc 3 1, 3) := by decide +kernel
theorem dX2_digest_111 : decode cX2_digest 111 = .ok (.goto (-19), 3) := by decide +kernel
theorem dX2_digest_114 : decode cX2_digest 114 = .ok (.lload_n 1, 1) := by decide +kernel
theorem dX2_digest_115 : decode cX2_digest 115 = .ok (.lreturn, 1) := by decide +kernel
theorem dX2_digestOfVersion_0 : decode cX2_digestOfVersion 0 = .ok (.lload_n 1, 1) := by decide +kernel
theorem dX2_digestOfVersion_1 : decode cX2_digestOfVersion 1 = .ok (.lstore 4, 2) := by decide +kernel
theorem dX2_digestOfVersion_3 : decode cX2_digestOfVersion 3 = .ok (.iconst 0, 1) := by decide +kernel
theorem dX2_digestOfVersion_4 : decode cX2_digestOfVersion 4 = .ok (.istore 6, 2) := by decide +kernel
theorem dX2_digestOfVersion_6 : decode cX2_digestOfVersion 6 = .ok (.iload 6, 2) := by decide +kernel
theorem dX2_digestOfVersion_8 : decode cX2_digestOfVersion 8 = .ok (.iconst 5, 1) := by decide +kernel
theorem dX2_digestOfVersion_9 : decode cX2_digestOfVersion 9 = .ok (.if_icmp .gt 23, 3) := by decide +kernel
theorem dX2_digestOfVersion_12 : decode cX2_digestOfVersion 12 = .ok (.lload 4, 2) := by decide +kernel
theorem dX2_digestOfVersion_14 : decode cX2_digestOfVersion 14 = .ok (.aload_n 0, 1) := by decide +kernel
theorem dX2_digestOfVersion_15 : decode cX2_digestOfVersion 15 = .ok (.iload_n 3, 1) := by decide +kernel
theorem dX2_digestOfVersion_16 : decode cX2_digestOfVersion 16 = .ok (.iload 6, 2) := by decide +kernel
theorem dX2_digestOfVersion_18 : decode cX2_digestOfVersion 18 = .ok (.invokevirtual 218, 3) := by decide +kernel
theorem dX2_digestOfVersion_21 : decode cX2_digestOfVersion 21 = .ok (.invokestatic 212, 3) := by decide +kernel
theorem dX2_digestOfVersion_24 : decode cX2_digestOfVersion 24 = .ok (.lstore 4, 2) := by decide +kernel
theorem dX2_digestOfVersion_26 : decode cX2_digestOfVersion 26 = .ok (.iinc 6 1, 3) := by decide +kernel
theorem dX2_digestOfVersion_29 : decode cX2_digestOfVersion 29 = .ok (.goto (-23), 3) := by decide +kernel
theorem dX2_digestOfVersion_32 : decode cX2_digestOfVersion 32 = .ok (.aload_n 0, 1) := by decide +kernel
theorem dX2_digestOfVersion_33 : decode cX2_digestOfVersion 33 = .ok (.getfield 11, 3) := by decide +kernel
theorem dX2_digestOfVersion_36 : decode cX2_digestOfVersion 36 = .ok (.iload_n 3, 1) := by decide +kernel
theorem dX2_digestOfVersion_37 : decode cX2_digestOfVersion 37 = .ok (.aaload, 1) := by decide +kernel
theorem dX2_digestOfVersion_38 : decode cX2_digestOfVersion 38 = .ok (.astore 6, 2) := by decide +kernel
theorem dX2_digestOfVersion_40 : decode cX2_digestOfVersion 40 = .ok (.iconst 0, 1) := by decide +kernel
theorem dX2_digestOfVersion_41 : decode cX2_digestOfVersion 41 = .ok (.istore 7, 2) := by decide +kernel
theorem dX2_digestOfVersion_43 : decode cX2_digestOfVersion 43 = .ok (.iload 7, 2) := by decide +kernel
theorem dX2_digestOfVersion_45 : decode cX2_digestOfVersion 45 = .ok (.aload 6, 2) := by decide +kernel
theorem dX2_digestOfVersion_47 : decode cX2_digestOfVersion 47 = .ok (.getfield 161, 3) := by decide +kernel
theorem dX2_digestOfVersion_50 : decode cX2_digestOfVersion 50 = .ok (.if_icmp .ge 40, 3) := by decide +kernel
theorem dX2_digestOfVersion_53 : decode cX2_digestOfVersion 53 = .ok (.iconst 0, 1) := by decide +kernel
theorem dX2_digestOfVersion_54 : decode cX2_digestOfVersion 54 = .ok (.istore 8, 2) := by decide +kernel
theorem dX2_digestOfVersion_56 : decode cX2_digestOfVersion 56 = .ok (.iload 8, 2) := by decide +kernel
theorem dX2_digestOfVersion_58 : decode cX2_digestOfVersion 58 = .ok (.iconst 4, 1) := by decide +kernel
theorem dX2_digestOfVersion_59 : decode cX2_digestOfVersion 59 = .ok (.if_icmp .gt 25, 3) := by decide +kernel
theorem dX2_digestOfVersion_62 : decode cX2_digestOfVersion 62 = .ok (.lload 4, 2) := by decide +kernel
theorem dX2_digestOfVersion_64 : decode cX2_digestOfVersion 64 = .ok (.aload_n 0, 1) := by decide +kernel
theorem dX2_digestOfVersion_65 : decode cX2_digestOfVersion 65 = .ok (.iload_n 3, 1) := by decide +kernel
theorem dX2_digestOfVersion_66 : decode cX2_digestOfVersion 66 = .ok (.iload 7, 2) := by decide +kernel
theorem dX2_digestOfVersion_68 : decode cX2_digestOfVersion 68 = .ok (.iload 8, 2) := by decide +kernel
theorem dX2_digestOfVersion_70 : decode cX2_digestOfVersion 70 = .ok (.invokevirtual 222, 3) := by decide +kernel
theorem dX2_digestOfVersion_73 : decode cX2_digestOfVersion 73 = .ok (.invokestatic 212, 3) := by decide +kernel
theorem dX2_digestOfVersion_76 : decode cX2_digestOfVersion 76 = .ok (.lstore 4, 2) := by decide +kernel
theorem dX2_digestOfVersion_78 : decode cX2_digestOfVersion 78 = .ok (.iinc 8 1, 3) := by decide +kernel
theorem dX2_digestOfVersion_81 : decode cX2_digestOfVersion 81 = .ok (.goto (-25), 3) := by decide +kernel
theorem dX2_digestOfVersion_84 : decode cX2_digestOfVersion 84 = .ok (.iinc 7 1, 3) := by decide +kernel
theorem dX2_digestOfVersion_87 : decode cX2_digestOfVersion 87 = .ok (.goto (-44), 3) := by decide +kernel
theorem dX2_digestOfVersion_90 : decode cX2_digestOfVersion 90 = .ok (.iconst 0, 1) := by decide +kernel
theorem dX2_digestOfVersion_91 : decode cX2_digestOfVersion 91 = .ok (.istore 7, 2) := by decide +kernel
theorem dX2_digestOfVersion_93 : decode cX2_digestOfVersion 93 = .ok (.iload 7, 2) := by decide +kernel
theorem dX2_digestOfVersion_95 : decode cX2_digestOfVersion 95 = .ok (.aload 6, 2) := by decide +kernel
theorem dX2_digestOfVersion_97 : decode cX2_digestOfVersion 97 = .ok (.getfield 133, 3) := by decide +kernel
theorem dX2_digestOfVersion_100 : decode cX2_digestOfVersion 100 = .ok (.if_icmp .ge 40, 3) := by decide +kernel
theorem dX2_digestOfVersion_103 : decode cX2_digestOfVersion 103 = .ok (.iconst 0, 1) := by decide +kernel
theorem dX2_digestOfVersion_104 : decode cX2_digestOfVersion 104 = .ok (.istore 8, 2) := by decide +kernel
theorem dX2_digestOfVersion_106 : decode cX2_digestOfVersion 106 = .ok (.iload 8, 2) := by decide +kernel
theorem dX2_digestOfVersion_108 : decode cX2_digestOfVersion 108 = .ok (.iconst 2, 1) := by decide +kernel
theorem dX2_digestOfVersion_109 : decode cX2_digestOfVersion 109 = .ok (.if_icmp .gt 25, 3) := by decide +kernel
theorem dX2_digestOfVersion_112 : decode cX2_digestOfVersion 112 = .ok (.lload 4, 2) := by decide +kernel
theorem dX2_digestOfVersion_114 : decode cX2_digestOfVersion 114 = .ok (.aload_n 0, 1) := by decide +kernel
theorem dX2_digestOfVersion_115 : decode cX2_digestOfVersion 115 = .ok (.iload_n 3, 1) := by decide +kernel
theorem dX2_digestOfVersion_116 : decode cX2_digestOfVersion 116 = .ok (.iload 7, 2) := by decide +kernel
theorem dX2_digestOfVersion_118 : decode cX2_digestOfVersion 118 = .ok (.iload 8, 2) := by decide +kernel
theorem dX2_digestOfVersion_120 : decode cX2_digestOfVersion 120 = .ok (.invokevirtual 226, 3) := by decide +kernel
theorem dX2_digestOfVersion_123 : decode cX2_digestOfVersion 123 = .ok (.invokestatic 212, 3) := by decide +kernel
theorem dX2_digestOfVersion_126 : decode cX2_digestOfVersion 126 = .ok (.lstore 4, 2) := by decide +kernel
theorem dX2_digestOfVersion_128 : decode cX2_digestOfVersion 128 = .ok (.iinc 8 1, 3) := by decide +kernel
theorem dX2_digestOfVersion_131 : decode cX2_digestOfVersion 131 = .ok (.goto (-25), 3) := by decide +kernel
theorem dX2_digestOfVersion_134 : decode cX2_digestOfVersion 134 = .ok (.iinc 7 1, 3) := by decide +kernel
theorem dX2_digestOfVersion_137 : decode cX2_digestOfVersion 137 = .ok (.goto (-44), 3) := by decide +kernel
theorem dX2_digestOfVersion_140 : decode cX2_digestOfVersion 140 = .ok (.iload_n 3, 1) := by decide +kernel
theorem dX2_digestOfVersion_141 : decode cX2_digestOfVersion 141 = .ok (.ifCond .ne 8, 3) := by decide +kernel
theorem dX2_digestOfVersion_144 : decode cX2_digestOfVersion 144 = .ok (.lload 4, 2) := by decide +kernel
theorem dX2_digestOfVersion_146 : decode cX2_digestOfVersion 146 = .ok (.goto 16, 3) := by decide +kernel
theorem dX2_digestOfVersion_149 : decode cX2_digestOfVersion 149 = .ok (.lload 4, 2) := by decide +kernel
theorem dX2_digestOfVersion_151 : decode cX2_digestOfVersion 151 = .ok (.aload_n 0, 1) := by decide +kernel
theorem dX2_digestOfVersion_152 : decode cX2_digestOfVersion 152 = .ok (.iload_n 3, 1) := by decide +kernel
theorem dX2_digestOfVersion_153 : decode cX2_digestOfVersion 153 = .ok (.iload_n 3, 1) := by decide +kernel
theorem dX2_digestOfVersion_154 : decode cX2_digestOfVersion 154 = .ok (.iconst 1, 1) := by decide +kernel
theorem dX2_digestOfVersion_155 : decode cX2_digestOfVersion 155 = .ok (.isub, 1) := by decide +kernel
theorem dX2_digestOfVersion_156 : decode cX2_digestOfVersion 156 = .ok (.invokevirtual 229, 3) := by decide +kernel
theorem dX2_digestOfVersion_159 : decode cX2_digestOfVersion 159 = .ok (.invokestatic 212, 3) := by decide +kernel
theorem dX2_digestOfVersion_162 : decode cX2_digestOfVersion 162 = .ok (.lreturn, 1) := by decide +kernel
theorem dX2_joined_0 : decode cX2_joined 0 = .ok (.ldc2_w 232, 3) := by decide +kernel
theorem dX2_joined_3 : decode cX2_joined 3 = .ok (.lload_n 0, 1) := by decide +kernel
theorem dX2_joined_4 : decode cX2_joined 4 = .ok (.lmul, 1) := by decide +kernel
theorem dX2_joined_5 : decode cX2_joined 5 = .ok (.iload_n 2, 1) := by decide +kernel
theorem dX2_joined_6 : decode cX2_joined 6 = .ok (.i2l, 1) := by decide +kernel
theorem dX2_joined_7 : decode cX2_joined 7 = .ok (.ladd, 1) := by decide +kernel
theorem dX2_joined_8 : decode cX2_joined 8 = .ok (.lreturn, 1) := by decide +kernel
theorem dX2_isVersion_0 : decode cX2_isVersion 0 = .ok (.iload_n 1, 1) := by decide +kernel
theorem dX2_isVersion_1 : decode cX2_isVersion 1 = .ok (.ifCond .lt 15, 3) := by decide +kernel
theorem dX2_isVersion_4 : decode cX2_isVersion 4 = .ok (.iload_n 1, 1) := by decide +kernel
theorem dX2_isVersion_5 : decode cX2_isVersion 5 = .ok (.aload_n 0, 1) := by decide +kernel
theorem dX2_isVersion_6 : decode cX2_isVersion 6 = .ok (.getfield 15, 3) := by decide +kernel
theorem dX2_isVersion_9 : decode cX2_isVersion 9 = .ok (.if_icmp .ge 7, 3) := by decide +kernel
theorem dX2_isVersion_12 : decode cX2_isVersion 12 = .ok (.iconst 1, 1) := by decide +kernel
theorem dX2_isVersion_13 : decode cX2_isVersion 13 = .ok (.goto 4, 3) := by decide +kernel
theorem dX2_isVersion_16 : decode cX2_isVersion 16 = .ok (.iconst 0, 1) := by decide +kernel
theorem dX2_isVersion_17 : decode cX2_isVersion 17 = .ok (.ireturn, 1) := by decide +kernel
theorem dX2_isFullOfVersions_0 : decode cX2_isFullOfVersions 0 = .ok (.aload_n 0, 1) := by decide +kernel
theorem dX2_isFullOfVersions_1 : decode cX2_isFullOfVersions 1 = .ok (.getfield 15, 3) := by decide +kernel
theorem dX2_isFullOfVersions_4 : decode cX2_isFullOfVersions 4 = .ok (.bipush 20, 2) := by decide +kernel
theorem dX2_isFullOfVersions_6 : decode cX2_isFullOfVersions 6 = .ok (.if_icmp .lt 7, 3) := by decide +kernel
theorem dX2_isFullOfVersions_9 : decode cX2_isFullOfVersions 9 = .ok (.iconst 1, 1) := by decide +kernel
theorem dX2_isFullOfVersions_10 : decode cX2_isFullOfVersions 10 = .ok (.goto 4, 3) := by decide +kernel
theorem dX2_isFullOfVersions_13 : decode cX2_isFullOfVersions 13 = .ok (.iconst 0, 1) := by decide +kernel
theorem dX2_isFullOfVersions_14 : decode cX2_isFullOfVersions 14 = .ok (.ireturn, 1) := by decide +kernel
theorem dX2_isKey_0 : decode cX2_isKey 0 = .ok (.iload_n 0, 1) := by decide +kernel
theorem dX2_isKey_1 : decode cX2_isKey 1 = .ok (.ifCond .lt 14, 3) := by decide +kernel
theorem dX2_isKey_4 : decode cX2_isKey 4 = .ok (.iload_n 0, 1) := by decide +kernel
theorem dX2_isKey_5 : decode cX2_isKey 5 = .ok (.sipush 4095, 3) := by decide +kernel
theorem dX2_isKey_8 : decode cX2_isKey 8 = .ok (.if_icmp .gt 7, 3) := by decide +kernel
theorem dX2_isKey_11 : decode cX2_isKey 11 = .ok (.iconst 1, 1) := by decide +kernel
theorem dX2_isKey_12 : decode cX2_isKey 12 = .ok (.goto 4, 3) := by decide +kernel
theorem dX2_isKey_15 : decode cX2_isKey 15 = .ok (.iconst 0, 1) := by decide +kernel
theorem dX2_isKey_16 : decode cX2_isKey 16 = .ok (.ireturn, 1) := by decide +kernel
theorem dX2_isValue_0 : decode cX2_isValue 0 = .ok (.iload_n 0, 1) := by decide +kernel
theorem dX2_isValue_1 : decode cX2_isValue 1 = .ok (.ifCond .lt 14, 3) := by decide +kernel
theorem dX2_isValue_4 : decode cX2_isValue 4 = .ok (.iload_n 0, 1) := by decide +kernel
theorem dX2_isValue_5 : decode cX2_isValue 5 = .ok (.sipush 999, 3) := by decide +kernel
theorem dX2_isValue_8 : decode cX2_isValue 8 = .ok (.if_icmp .gt 7, 3) := by decide +kernel
theorem dX2_isValue_11 : decode cX2_isValue 11 = .ok (.iconst 1, 1) := by decide +kernel
theorem dX2_isValue_12 : decode cX2_isValue 12 = .ok (.goto 4, 3) := by decide +kernel
theorem dX2_isValue_15 : decode cX2_isValue 15 = .ok (.iconst 0, 1) := by decide +kernel
theorem dX2_isValue_16 : decode cX2_isValue 16 = .ok (.ireturn, 1) := by decide +kernel
theorem dX2_hashOf_0 : decode cX2_hashOf 0 = .ok (.iload_n 1, 1) := by decide +kernel
theorem dX2_hashOf_1 : decode cX2_hashOf 1 = .ok (.aload_n 0, 1) := by decide +kernel
theorem dX2_hashOf_2 : decode cX2_hashOf 2 = .ok (.getfield 26, 3) := by decide +kernel
theorem dX2_hashOf_5 : decode cX2_hashOf 5 = .ok (.imul, 1) := by decide +kernel
theorem dX2_hashOf_6 : decode cX2_hashOf 6 = .ok (.iconst 1, 1) := by decide +kernel
theorem dX2_hashOf_7 : decode cX2_hashOf 7 = .ok (.aload_n 0, 1) := by decide +kernel
theorem dX2_hashOf_8 : decode cX2_hashOf 8 = .ok (.getfield 29, 3) := by decide +kernel
theorem dX2_hashOf_11 : decode cX2_hashOf 11 = .ok (.ishl, 1) := by decide +kernel
theorem dX2_hashOf_12 : decode cX2_hashOf 12 = .ok (.iconst 1, 1) := by decide +kernel
theorem dX2_hashOf_13 : decode cX2_hashOf 13 = .ok (.isub, 1) := by decide +kernel
theorem dX2_hashOf_14 : decode cX2_hashOf 14 = .ok (.iand, 1) := by decide +kernel
theorem dX2_hashOf_15 : decode cX2_hashOf 15 = .ok (.ireturn, 1) := by decide +kernel
theorem dX2_rankOf_0 : decode cX2_rankOf 0 = .ok (.aload_n 0, 1) := by decide +kernel
theorem dX2_rankOf_1 : decode cX2_rankOf 1 = .ok (.iload_n 1, 1) := by decide +kernel
theorem dX2_rankOf_2 : decode cX2_rankOf 2 = .ok (.invokevirtual 113, 3) := by decide +kernel
theorem dX2_rankOf_5 : decode cX2_rankOf 5 = .ok (.istore_n 2, 1) := by decide +kernel
theorem dX2_rankOf_6 : decode cX2_rankOf 6 = .ok (.iconst 0, 1) := by decide +kernel
theorem dX2_rankOf_7 : decode cX2_rankOf 7 = .ok (.istore_n 3, 1) := by decide +kernel
theorem dX2_rankOf_8 : decode cX2_rankOf 8 = .ok (.iconst 0, 1) := by decide +kernel
theorem dX2_rankOf_9 : decode cX2_rankOf 9 = .ok (.istore 4, 2) := by decide +kernel
theorem dX2_rankOf_11 : decode cX2_rankOf 11 = .ok (.iload 4, 2) := by decide +kernel
theorem dX2_rankOf_13 : decode cX2_rankOf 13 = .ok (.bipush 6, 2) := by decide +kernel
theorem dX2_rankOf_15 : decode cX2_rankOf 15 = .ok (.if_icmp .ge 23, 3) := by decide +kernel
theorem dX2_rankOf_18 : decode cX2_rankOf 18 = .ok (.iload_n 3, 1) := by decide +kernel
theorem dX2_rankOf_19 : decode cX2_rankOf 19 = .ok (.iconst 5, 1) := by decide +kernel
theorem dX2_rankOf_20 : decode cX2_rankOf 20 = .ok (.ishl, 1) := by decide +kernel
theorem dX2_rankOf_21 : decode cX2_rankOf 21 = .ok (.iload_n 2, 1) := by decide +kernel
theorem dX2_rankOf_22 : decode cX2_rankOf 22 = .ok (.iconst 5, 1) := by decide +kernel
theorem dX2_rankOf_23 : decode cX2_rankOf 23 = .ok (.iload 4, 2) := by decide +kernel
theorem dX2_rankOf_25 : decode cX2_rankOf 25 = .ok (.imul, 1) := by decide +kernel
theorem dX2_rankOf_26 : decode cX2_rankOf 26 = .ok (.ishr, 1) := by decide +kernel
theorem dX2_rankOf_27 : decode cX2_rankOf 27 = .ok (.bipush 31, 2) := by decide +kernel
theorem dX2_rankOf_29 : decode cX2_rankOf 29 = .ok (.iand, 1) := by decide +kernel
theorem dX2_rankOf_30 : decode cX2_rankOf 30 = .ok (.ior, 1) := by decide +kernel
theorem dX2_rankOf_31 : decode cX2_rankOf 31 = .ok (.istore_n 3, 1) := by decide +kernel
theorem dX2_rankOf_32 : decode cX2_rankOf 32 = .ok (.iinc 4 1, 3) := by decide +kernel
theorem dX2_rankOf_35 : decode cX2_rankOf 35 = .ok (.goto (-24), 3) := by decide +kernel
theorem dX2_rankOf_38 : decode cX2_rankOf 38 = .ok (.iload_n 3, 1) := by decide +kernel
theorem dX2_rankOf_39 : decode cX2_rankOf 39 = .ok (.ireturn, 1) := by decide +kernel
theorem dX2_shareNodes_0 : decode cX2_shareNodes 0 = .ok (.aload_n 1, 1) := by decide +kernel
theorem dX2_shareNodes_1 : decode cX2_shareNodes 1 = .ok (.invokevirtual 234, 3) := by decide +kernel
theorem dX2_shareNodes_4 : decode cX2_shareNodes 4 = .ok (.iconst 0, 1) := by decide +kernel
theorem dX2_shareNodes_5 : decode cX2_shareNodes 5 = .ok (.istore 4, 2) := by decide +kernel
theorem dX2_shareNodes_7 : decode cX2_shareNodes 7 = .ok (.iload 4, 2) := by decide +kernel
theorem dX2_shareNodes_9 : decode cX2_shareNodes 9 = .ok (.aload_n 1, 1) := by decide +kernel
theorem dX2_shareNodes_10 : decode cX2_shareNodes 10 = .ok (.getfield 161, 3) := by decide +kernel
theorem dX2_shareNodes_13 : decode cX2_shareNodes 13 = .ok (.if_icmp .ge 66, 3) := by decide +kernel
theorem dX2_shareNodes_16 : decode cX2_shareNodes 16 = .ok (.aload_n 1, 1) := by decide +kernel
theorem dX2_shareNodes_17 : decode cX2_shareNodes 17 = .ok (.iload 4, 2) := by decide +kernel
theorem dX2_shareNodes_19 : decode cX2_shareNodes 19 = .ok (.aload_n 2, 1) := by decide +kernel
theorem dX2_shareNodes_20 : decode cX2_shareNodes 20 = .ok (.invokevirtual 237, 3) := by decide +kernel
theorem dX2_shareNodes_23 : decode cX2_shareNodes 23 = .ok (.istore 5, 2) := by decide +kernel
theorem dX2_shareNodes_25 : decode cX2_shareNodes 25 = .ok (.iload 5, 2) := by decide +kernel
theorem dX2_shareNodes_27 : decode cX2_shareNodes 27 = .ok (.ifCond .ne 12, 3) := by decide +kernel
theorem dX2_shareNodes_30 : decode cX2_shareNodes 30 = .ok (.aload_n 1, 1) := by decide +kernel
theorem dX2_shareNodes_31 : decode cX2_shareNodes 31 = .ok (.iload 4, 2) := by decide +kernel
theorem dX2_shareNodes_33 : decode cX2_shareNodes 33 = .ok (.aload_n 3, 1) := by decide +kernel
theorem dX2_shareNodes_34 : decode cX2_shareNodes 34 = .ok (.invokevirtual 237, 3) := by decide +kernel
theorem dX2_shareNodes_37 : decode cX2_shareNodes 37 = .ok (.istore 5, 2) := by decide +kernel
theorem dX2_shareNodes_39 : decode cX2_shareNodes 39 = .ok (.iload 5, 2) := by decide +kernel
theorem dX2_shareNodes_41 : decode cX2_shareNodes 41 = .ok (.ifCond .ne 24, 3) := by decide +kernel
theorem dX2_shareNodes_44 : decode cX2_shareNodes 44 = .ok (.aload_n 1, 1) := by decide +kernel
theorem dX2_shareNodes_45 : decode cX2_shareNodes 45 = .ok (.getfield 241, 3) := by decide +kernel
theorem dX2_shareNodes_48 : decode cX2_shareNodes 48 = .ok (.iload 4, 2) := by decide +kernel
theorem dX2_shareNodes_50 : decode cX2_shareNodes 50 = .ok (.aload_n 0, 1) := by decide +kernel
theorem dX2_shareNodes_51 : decode cX2_shareNodes 51 = .ok (.getfield 32, 3) := by decide +kernel
theorem dX2_shareNodes_54 : decode cX2_shareNodes 54 = .ok (.iastore, 1) := by decide +kernel
theorem dX2_shareNodes_55 : decode cX2_shareNodes 55 = .ok (.aload_n 0, 1) := by decide +kernel
theorem dX2_shareNodes_56 : decode cX2_shareNodes 56 = .ok (.dup, 1) := by decide +kernel
theorem dX2_shareNodes_57 : decode cX2_shareNodes 57 = .ok (.getfield 32, 3) := by decide +kernel
theorem dX2_shareNodes_60 : decode cX2_shareNodes 60 = .ok (.iconst 1, 1) := by decide +kernel
theorem dX2_shareNodes_61 : decode cX2_shareNodes 61 = .ok (.iadd, 1) := by decide +kernel
theorem dX2_shareNodes_62 : decode cX2_shareNodes 62 = .ok (.putfield 32, 3) := by decide +kernel
theorem dX2_shareNodes_65 : decode cX2_shareNodes 65 = .ok (.iload 4, 2) := by decide +kernel
theorem dX2_shareNodes_67 : decode cX2_shareNodes 67 = .ok (.iconst 1, 1) := by decide +kernel
theorem dX2_shareNodes_68 : decode cX2_shareNodes 68 = .ok (.iload 5, 2) := by decide +kernel
theorem dX2_shareNodes_70 : decode cX2_shareNodes 70 = .ok (.invokestatic 244, 3) := by decide +kernel
theorem dX2_shareNodes_73 : decode cX2_shareNodes 73 = .ok (.iadd, 1) := by decide +kernel
theorem dX2_shareNodes_74 : decode cX2_shareNodes 74 = .ok (.istore 4, 2) := by decide +kernel
theorem dX2_shareNodes_76 : decode cX2_shareNodes 76 = .ok (.goto (-69), 3) := by decide +kernel
theorem dX2_shareNodes_79 : decode cX2_shareNodes 79 = .ok (.return_, 1) := by decide +kernel
theorem dX2_editNodes_0 : decode cX2_editNodes 0 = .ok (.aload_n 1, 1) := by decide +kernel
theorem dX2_editNodes_1 : decode cX2_editNodes 1 = .ok (.invokevirtual 234, 3) := by decide +kernel
theorem dX2_editNodes_4 : decode cX2_editNodes 4 = .ok (.aload_n 0, 1) := by decide +kernel
theorem dX2_editNodes_5 : decode cX2_editNodes 5 = .ok (.getfield 32, 3) := by decide +kernel
theorem dX2_editNodes_8 : decode cX2_editNodes 8 = .ok (.istore 4, 2) := by decide +kernel
theorem dX2_editNodes_10 : decode cX2_editNodes 10 = .ok (.iconst 0, 1) := by decide +kernel
theorem dX2_editNodes_11 : decode cX2_editNodes 11 = .ok (.istore 5, 2) := by decide +kernel
theorem dX2_editNodes_13 : decode cX2_editNodes 13 = .ok (.iload 5, 2) := by decide +kernel
theorem dX2_editNodes_15 : decode cX2_editNodes 15 = .ok (.aload_n 1, 1) := by decide +kernel
theorem dX2_editNodes_16 : decode cX2_editNodes 16 = .ok (.getfield 161, 3) := by decide +kernel
theorem dX2_editNodes_19 : decode cX2_editNodes 19 = .ok (.if_icmp .ge 88, 3) := by decide +kernel
theorem dX2_editNodes_22 : decode cX2_editNodes 22 = .ok (.aload_n 2, 1) := by decide +kernel
theorem dX2_editNodes_23 : decode cX2_editNodes 23 = .ok (.aload_n 1, 1) := by decide +kernel
theorem dX2_editNodes_24 : decode cX2_editNodes 24 = .ok (.getfield 249, 3) := by decide +kernel
theorem dX2_editNodes_27 : decode cX2_editNodes 27 = .ok (.iload 5, 2) := by decide +kernel
theorem dX2_editNodes_29 : decode cX2_editNodes 29 = .ok (.laload, 1) := by decide +kernel
theorem dX2_editNodes_30 : decode cX2_editNodes 30 = .ok (.invokevirtual 253, 3) := by decide +kernel
theorem dX2_editNodes_33 : decode cX2_editNodes 33 = .ok (.istore 6, 2) := by decide +kernel
theorem dX2_editNodes_35 : decode cX2_editNodes 35 = .ok (.iload 6, 2) := by decide +kernel
theorem dX2_editNodes_37 : decode cX2_editNodes 37 = .ok (.ifCond .lt 43, 3) := by decide +kernel
theorem dX2_editNodes_40 : decode cX2_editNodes 40 = .ok (.aload_n 2, 1) := by decide +kernel
theorem dX2_editNodes_41 : decode cX2_editNodes 41 = .ok (.getfield 241, 3) := by decide +kernel
theorem dX2_editNodes_44 : decode cX2_editNodes 44 = .ok (.iload 6, 2) := by decide +kernel
theorem dX2_editNodes_46 : decode cX2_editNodes 46 = .ok (.iaload, 1) := by decide +kernel
theorem dX2_editNodes_47 : decode cX2_editNodes 47 = .ok (.iload_n 3, 1) := by decide +kernel
theorem dX2_editNodes_48 : decode cX2_editNodes 48 = .ok (.if_icmp .ge 15, 3) := by decide +kernel
theorem dX2_editNodes_51 : decode cX2_editNodes 51 = .ok (.aload_n 1, 1) := by decide +kernel
theorem dX2_editNodes_52 : decode cX2_editNodes 52 = .ok (.iload 5, 2) := by decide +kernel
theorem dX2_editNodes_54 : decode cX2_editNodes 54 = .ok (.aload_n 2, 1) := by decide +kernel
theorem dX2_editNodes_55 : decode cX2_editNodes 55 = .ok (.iload 6, 2) := by decide +kernel
theorem dX2_editNodes_57 : decode cX2_editNodes 57 = .ok (.invokevirtual 257, 3) := by decide +kernel
theorem dX2_editNodes_60 : decode cX2_editNodes 60 = .ok (.ifCond .eq 20, 3) := by decide +kernel
theorem dX2_editNodes_63 : decode cX2_editNodes 63 = .ok (.aload_n 1, 1) := by decide +kernel
theorem dX2_editNodes_64 : decode cX2_editNodes 64 = .ok (.getfield 241, 3) := by decide +kernel
theorem dX2_editNodes_67 : decode cX2_editNodes 67 = .ok (.iload 5, 2) := by decide +kernel
theorem dX2_editNodes_69 : decode cX2_editNodes 69 = .ok (.aload_n 2, 1) := by decide +kernel
theorem dX2_editNodes_70 : decode cX2_editNodes 70 = .ok (.getfield 241, 3) := by decide +kernel
theorem dX2_editNodes_73 : decode cX2_editNodes 73 = .ok (.iload 6, 2) := by decide +kernel
theorem dX2_editNodes_75 : decode cX2_editNodes 75 = .ok (.iaload, 1) := by decide +kernel
theorem dX2_editNodes_76 : decode cX2_editNodes 76 = .ok (.iastore, 1) := by decide +kernel
theorem dX2_editNodes_77 : decode cX2_editNodes 77 = .ok (.goto 24, 3) := by decide +kernel
theorem dX2_editNodes_80 : decode cX2_editNodes 80 = .ok (.aload_n 1, 1) := by decide +kernel
theorem dX2_editNodes_81 : decode cX2_editNodes 81 = .ok (.getfield 241, 3) := by decide +kernel
theorem dX2_editNodes_84 : decode cX2_editNodes 84 = .ok (.iload 5, 2) := by decide +kernel
theorem dX2_editNodes_86 : decode cX2_editNodes 86 = .ok (.aload_n 0, 1) := by decide +kernel
theorem dX2_editNodes_87 : decode cX2_editNodes 87 = .ok (.getfield 32, 3) := by decide +kernel
theorem dX2_editNodes_90 : decode cX2_editNodes 90 = .ok (.iastore, 1) := by decide +kernel
theorem dX2_editNodes_91 : decode cX2_editNodes 91 = .ok (.aload_n 0, 1) := by decide +kernel
theorem dX2_editNodes_92 : decode cX2_editNodes 92 = .ok (.dup, 1) := by decide +kernel
theorem dX2_editNodes_93 : decode cX2_editNodes 93 = .ok (.getfield 32, 3) := by decide +kernel
theorem dX2_editNodes_96 : decode cX2_editNodes 96 = .ok (.iconst 1, 1) := by decide +kernel
theorem dX2_editNodes_97 : decode cX2_editNodes 97 = .ok (.iadd, 1) := by decide +kernel
theorem dX2_editNodes_98 : decode cX2_editNodes 98 = .ok (.putfield 32, 3) := by decide +kernel
theorem dX2_editNodes_101 : decode cX2_editNodes 101 = .ok (.iinc 5 1, 3) := by decide +kernel
theorem dX2_editNodes_104 : decode cX2_editNodes 104 = .ok (.goto (-91), 3) := by decide +kernel
theorem dX2_editNodes_107 : decode cX2_editNodes 107 = .ok (.aload_n 0, 1) := by decide +kernel
theorem dX2_editNodes_108 : decode cX2_editNodes 108 = .ok (.getfield 32, 3) := by decide +kernel
theorem dX2_editNodes_111 : decode cX2_editNodes 111 = .ok (.iload 4, 2) := by decide +kernel
theorem dX2_editNodes_113 : decode cX2_editNodes 113 = .ok (.isub, 1) := by decide +kernel
theorem dX2_editNodes_114 : decode cX2_editNodes 114 = .ok (.ireturn, 1) := by decide +kernel
theorem dX2_redraft_0 : decode cX2_redraft 0 = .ok (.aload_n 0, 1) := by decide +kernel
theorem dX2_redraft_1 : decode cX2_redraft 1 = .ok (.dup, 1) := by decide +kernel
theorem dX2_redraft_2 : decode cX2_redraft 2 = .ok (.getfield 50, 3) := by decide +kernel
theorem dX2_redraft_5 : decode cX2_redraft 5 = .ok (.aload_n 0, 1) := by decide +kernel
theorem dX2_redraft_6 : decode cX2_redraft 6 = .ok (.aload_n 0, 1) := by decide +kernel
theorem dX2_redraft_7 : decode cX2_redraft 7 = .ok (.getfield 56, 3) := by decide +kernel
theorem dX2_redraft_10 : decode cX2_redraft 10 = .ok (.aload_n 0, 1) := by decide +kernel
theorem dX2_redraft_11 : decode cX2_redraft 11 = .ok (.getfield 42, 3) := by decide +kernel
theorem dX2_redraft_14 : decode cX2_redraft 14 = .ok (.aload_n 0, 1) := by decide +kernel
theorem dX2_redraft_15 : decode cX2_redraft 15 = .ok (.getfield 53, 3) := by decide +kernel
theorem dX2_redraft_18 : decode cX2_redraft 18 = .ok (.invokevirtual 101, 3) := by decide +kernel
theorem dX2_redraft_21 : decode cX2_redraft 21 = .ok (.iadd, 1) := by decide +kernel
theorem dX2_redraft_22 : decode cX2_redraft 22 = .ok (.putfield 50, 3) := by decide +kernel
theorem dX2_redraft_25 : decode cX2_redraft 25 = .ok (.aload_n 0, 1) := by decide +kernel
theorem dX2_redraft_26 : decode cX2_redraft 26 = .ok (.getfield 42, 3) := by decide +kernel
theorem dX2_redraft_29 : decode cX2_redraft 29 = .ok (.astore_n 1, 1) := by decide +kernel
theorem dX2_redraft_30 : decode cX2_redraft 30 = .ok (.aload_n 0, 1) := by decide +kernel
theorem dX2_redraft_31 : decode cX2_redraft 31 = .ok (.aload_n 0, 1) := by decide +kernel
theorem dX2_redraft_32 : decode cX2_redraft 32 = .ok (.getfield 56, 3) := by decide +kernel
theorem dX2_redraft_35 : decode cX2_redraft 35 = .ok (.putfield 42, 3) := by decide +kernel
theorem dX2_redraft_38 : decode cX2_redraft 38 = .ok (.aload_n 0, 1) := by decide +kernel
theorem dX2_redraft_39 : decode cX2_redraft 39 = .ok (.aload_n 1, 1) := by decide +kernel
theorem dX2_redraft_40 : decode cX2_redraft 40 = .ok (.putfield 56, 3) := by decide +kernel
theorem dX2_redraft_43 : decode cX2_redraft 43 = .ok (.aload_n 0, 1) := by decide +kernel
theorem dX2_redraft_44 : decode cX2_redraft 44 = .ok (.getfield 42, 3) := by decide +kernel
theorem dX2_redraft_47 : decode cX2_redraft 47 = .ok (.getfield 133, 3) := by decide +kernel
theorem dX2_redraft_50 : decode cX2_redraft 50 = .ok (.ireturn, 1) := by decide +kernel
theorem dX2_addVersion_0 : decode cX2_addVersion 0 = .ok (.aload_n 0, 1) := by decide +kernel
theorem dX2_addVersion_1 : decode cX2_addVersion 1 = .ok (.getfield 11, 3) := by decide +kernel
theorem dX2_addVersion_4 : decode cX2_addVersion 4 = .ok (.aload_n 0, 1) := by decide +kernel
theorem dX2_addVersion_5 : decode cX2_addVersion 5 = .ok (.getfield 15, 3) := by decide +kernel
theorem dX2_addVersion_8 : decode cX2_addVersion 8 = .ok (.aaload, 1) := by decide +kernel
theorem dX2_addVersion_9 : decode cX2_addVersion 9 = .ok (.astore_n 1, 1) := by decide +kernel
theorem dX2_addVersion_10 : decode cX2_addVersion 10 = .ok (.aload_n 1, 1) := by decide +kernel
theorem dX2_addVersion_11 : decode cX2_addVersion 11 = .ok (.iconst 0, 1) := by decide +kernel
theorem dX2_addVersion_12 : decode cX2_addVersion 12 = .ok (.putfield 261, 3) := by decide +kernel
theorem dX2_addVersion_15 : decode cX2_addVersion 15 = .ok (.iconst 0, 1) := by decide +kernel
theorem dX2_addVersion_16 : decode cX2_addVersion 16 = .ok (.istore_n 2, 1) := by decide +kernel
theorem dX2_addVersion_17 : decode cX2_addVersion 17 = .ok (.iload_n 2, 1) := by decide +kernel
theorem dX2_addVersion_18 : decode cX2_addVersion 18 = .ok (.aload_n 1, 1) := by decide +kernel
theorem dX2_addVersion_19 : decode cX2_addVersion 19 = .ok (.getfield 161, 3) := by decide +kernel
theorem dX2_addVersion_22 : decode cX2_addVersion 22 = .ok (.if_icmp .ge 28, 3) := by decide +kernel
theorem dX2_addVersion_25 : decode cX2_addVersion 25 = .ok (.aload_n 0, 1) := by decide +kernel
theorem dX2_addVersion_26 : decode cX2_addVersion 26 = .ok (.aload_n 1, 1) := by decide +kernel
theorem dX2_addVersion_27 : decode cX2_addVersion 27 = .ok (.iload_n 2, 1) := by decide +kernel
theorem dX2_addVersion_28 : decode cX2_addVersion 28 = .ok (.invokevirtual 264, 3) := by decide +kernel
theorem dX2_addVersion_31 : decode cX2_addVersion 31 = .ok (.ifCond .ne 13, 3) := by decide +kernel
theorem dX2_addVersion_34 : decode cX2_addVersion 34 = .ok (.aload_n 1, 1) := by decide +kernel
theorem dX2_addVersion_35 : decode cX2_addVersion 35 = .ok (.dup, 1) := by decide +kernel
theorem dX2_addVersion_36 : decode cX2_addVersion 36 = .ok (.getfield 261, 3) := by decide +kernel
theorem dX2_addVersion_39 : decode cX2_addVersion 39 = .ok (.iconst 1, 1) := by decide +kernel
theorem dX2_addVersion_40 : decode cX2_addVersion 40 = .ok (.iadd, 1) := by decide +kernel
theorem dX2_addVersion_41 : decode cX2_addVersion 41 = .ok (.putfield 261, 3) := by decide +kernel
theorem dX2_addVersion_44 : decode cX2_addVersion 44 = .ok (.iinc 2 1, 3) := by decide +kernel
theorem dX2_addVersion_47 : decode cX2_addVersion 47 = .ok (.goto (-30), 3) := by decide +kernel
theorem dX2_addVersion_50 : decode cX2_addVersion 50 = .ok (.aload_n 0, 1) := by decide +kernel
theorem dX2_addVersion_51 : decode cX2_addVersion 51 = .ok (.dup, 1) := by decide +kernel
theorem dX2_addVersion_52 : decode cX2_addVersion 52 = .ok (.getfield 15, 3) := by decide +kernel
theorem dX2_addVersion_55 : decode cX2_addVersion 55 = .ok (.iconst 1, 1) := by decide +kernel
theorem dX2_addVersion_56 : decode cX2_addVersion 56 = .ok (.iadd, 1) := by decide +kernel
theorem dX2_addVersion_57 : decode cX2_addVersion 57 = .ok (.putfield 15, 3) := by decide +kernel
theorem dX2_addVersion_60 : decode cX2_addVersion 60 = .ok (.aload_n 0, 1) := by decide +kernel
theorem dX2_addVersion_61 : decode cX2_addVersion 61 = .ok (.getfield 15, 3) := by decide +kernel
theorem dX2_addVersion_64 : decode cX2_addVersion 64 = .ok (.iconst 1, 1) := by decide +kernel
theorem dX2_addVersion_65 : decode cX2_addVersion 65 = .ok (.isub, 1) := by decide +kernel
theorem dX2_addVersion_66 : decode cX2_addVersion 66 = .ok (.ireturn, 1) := by decide +kernel
theorem dX2_isNodeOfVersion_0 : decode cX2_isNodeOfVersion 0 = .ok (.iconst 0, 1) := by decide +kernel
theorem dX2_isNodeOfVersion_1 : decode cX2_isNodeOfVersion 1 = .ok (.istore_n 3, 1) := by decide +kernel
theorem dX2_isNodeOfVersion_2 : decode cX2_isNodeOfVersion 2 = .ok (.iload_n 3, 1) := by decide +kernel
theorem dX2_isNodeOfVersion_3 : decode cX2_isNodeOfVersion 3 = .ok (.aload_n 0, 1) := by decide +kernel
theorem dX2_isNodeOfVersion_4 : decode cX2_isNodeOfVersion 4 = .ok (.getfield 15, 3) := by decide +kernel
theorem dX2_isNodeOfVersion_7 : decode cX2_isNodeOfVersion 7 = .ok (.if_icmp .ge 25, 3) := by decide +kernel
theorem dX2_isNodeOfVersion_10 : decode cX2_isNodeOfVersion 10 = .ok (.aload_n 0, 1) := by decide +kernel
theorem dX2_isNodeOfVersion_11 : decode cX2_isNodeOfVersion 11 = .ok (.getfield 11, 3) := by decide +kernel
theorem dX2_isNodeOfVersion_14 : decode cX2_isNodeOfVersion 14 = .ok (.iload_n 3, 1) := by decide +kernel
theorem dX2_isNodeOfVersion_15 : decode cX2_isNodeOfVersion 15 = .ok (.aaload, 1) := by decide +kernel
theorem dX2_isNodeOfVersion_16 : decode cX2_isNodeOfVersion 16 = .ok (.aload_n 1, 1) := by decide +kernel
theorem dX2_isNodeOfVersion_17 : decode cX2_isNodeOfVersion 17 = .ok (.iload_n 2, 1) := by decide +kernel
theorem dX2_isNodeOfVersion_18 : decode cX2_isNodeOfVersion 18 = .ok (.invokevirtual 193, 3) := by decide +kernel
theorem dX2_isNodeOfVersion_21 : decode cX2_isNodeOfVersion 21 = .ok (.ifCond .eq 5, 3) := by decide +kernel
theorem dX2_isNodeOfVersion_24 : decode cX2_isNodeOfVersion 24 = .ok (.iconst 1, 1) := by decide +kernel
theorem dX2_isNodeOfVersion_25 : decode cX2_isNodeOfVersion 25 = .ok (.ireturn, 1) := by decide +kernel
theorem dX2_isNodeOfVersion_26 : decode cX2_isNodeOfVersion 26 = .ok (.iinc 3 1, 3) := by decide +kernel
theorem dX2_isNodeOfVersion_29 : decode cX2_isNodeOfVersion 29 = .ok (.goto (-27), 3) := by decide +kernel
theorem dX2_isNodeOfVersion_32 : decode cX2_isNodeOfVersion 32 = .ok (.iconst 0, 1) := by decide +kernel
theorem dX2_isNodeOfVersion_33 : decode cX2_isNodeOfVersion 33 = .ok (.ireturn, 1) := by decide +kernel
theorem dX2_differentNodes_0 : decode cX2_differentNodes 0 = .ok (.iconst 0, 1) := by decide +kernel
theorem dX2_differentNodes_1 : decode cX2_differentNodes 1 = .ok (.istore_n 1, 1) := by decide +kernel
theorem dX2_differentNodes_2 : decode cX2_differentNodes 2 = .ok (.iconst 0, 1) := by decide +kernel
theorem dX2_differentNodes_3 : decode cX2_differentNodes 3 = .ok (.istore_n 2, 1) := by decide +kernel
theorem dX2_differentNodes_4 : decode cX2_differentNodes 4 = .ok (.iload_n 2, 1) := by decide +kernel
theorem dX2_differentNodes_5 : decode cX2_differentNodes 5 = .ok (.aload_n 0, 1) := by decide +kernel
theorem dX2_differentNodes_6 : decode cX2_differentNodes 6 = .ok (.getfield 15, 3) := by decide +kernel
theorem dX2_differentNodes_9 : decode cX2_differentNodes 9 = .ok (.if_icmp .ge 21, 3) := by decide +kernel
theorem dX2_differentNodes_12 : decode cX2_differentNodes 12 = .ok (.iload_n 1, 1) := by decide +kernel
theorem dX2_differentNodes_13 : decode cX2_differentNodes 13 = .ok (.aload_n 0, 1) := by decide +kernel
theorem dX2_differentNodes_14 : decode cX2_differentNodes 14 = .ok (.getfield 11, 3) := by decide +kernel
theorem dX2_differentNodes_17 : decode cX2_differentNodes 17 = .ok (.iload_n 2, 1) := by decide +kernel
theorem dX2_differentNodes_18 : decode cX2_differentNodes 18 = .ok (.aaload, 1) := by decide +kernel
theorem dX2_differentNodes_19 : decode cX2_differentNodes 19 = .ok (.getfield 261, 3) := by decide +kernel
theorem dX2_differentNodes_22 : decode cX2_differentNodes 22 = .ok (.iadd, 1) := by decide +kernel
theorem dX2_differentNodes_23 : decode cX2_differentNodes 23 = .ok (.istore_n 1, 1) := by decide +kernel
theorem dX2_differentNodes_24 : decode cX2_differentNodes 24 = .ok (.iinc 2 1, 3) := by decide +kernel
theorem dX2_differentNodes_27 : decode cX2_differentNodes 27 = .ok (.goto (-23), 3) := by decide +kernel
theorem dX2_differentNodes_30 : decode cX2_differentNodes 30 = .ok (.iload_n 1, 1) := by decide +kernel
theorem dX2_differentNodes_31 : decode cX2_differentNodes 31 = .ok (.ireturn, 1) := by decide +kernel
end
section
theorem dX3_init_0 : decode cX3_init 0 = .ok (.aload_n 0, 1) := by decide +kernel
theorem dX3_init_1 : decode cX3_init 1 = .ok (.invokespecial 1, 3) := by decide +kernel
theorem dX3_init_4 : decode cX3_init 4 = .ok (.aload_n 0, 1) := by decide +kernel
theorem dX3_init_5 : decode cX3_init 5 = .ok (.bipush 60, 2) := by decide +kernel
theorem dX3_init_7 : decode cX3_init 7 = .ok (.newarray .int, 2) := by decide +kernel
theorem dX3_init_9 : decode cX3_init 9 = .ok (.putfield 7, 3) := by decide +kernel
theorem dX3_init_12 : decode cX3_init 12 = .ok (.aload_n 0, 1) := by decide +kernel
theorem dX3_init_13 : decode cX3_init 13 = .ok (.iconst 1, 1) := by decide +kernel
theorem dX3_init_14 : decode cX3_init 14 = .ok (.putfield 13, 3) := by decide +kernel
theorem dX3_init_17 : decode cX3_init 17 = .ok (.aload_n 0, 1) := by decide +kernel
theorem dX3_init_18 : decode cX3_init 18 = .ok (.bipush 30, 2) := by decide +kernel
theorem dX3_init_20 : decode cX3_init 20 = .ok (.putfield 17, 3) := by decide +kernel
theorem dX3_init_23 : decode cX3_init 23 = .ok (.aload_n 0, 1) := by decide +kernel
theorem dX3_init_24 : decode cX3_init 24 = .ok (.iconst 1, 1) := by decide +kernel
theorem dX3_init_25 : decode cX3_init 25 = .ok (.putfield 20, 3) := by decide +kernel
theorem dX3_init_28 : decode cX3_init 28 = .ok (.aload_n 0, 1) := by decide +kernel
theorem dX3_init_29 : decode cX3_init 29 = .ok (.bipush 22, 2) := by decide +kernel
theorem dX3_init_31 : decode cX3_init 31 = .ok (.newarray .int, 2) := by decide +kernel
theorem dX3_init_33 : decode cX3_init 33 = .ok (.putfield 23, 3) := by decide +kernel
theorem dX3_init_36 : decode cX3_init 36 = .ok (.aload_n 0, 1) := by decide +kernel
theorem dX3_init_37 : decode cX3_init 37 = .ok (.sipush 528, 3) := by decide +kernel
theorem dX3_init_40 : decode cX3_init 40 = .ok (.newarray .int, 2) := by decide +kernel
theorem dX3_init_42 : decode cX3_init 42 = .ok (.putfield 26, 3) := by decide +kernel
theorem dX3_init_45 : decode cX3_init 45 = .ok (.aload_n 0, 1) := by decide +kernel
theorem dX3_init_46 : decode cX3_init 46 = .ok (.sipush 528, 3) := by decide +kernel
theorem dX3_init_49 : decode cX3_init 49 = .ok (.newarray .int, 2) := by decide +kernel
theorem dX3_init_51 : decode cX3_init 51 = .ok (.putfield 29, 3) := by decide +kernel
theorem dX3_init_54 : decode cX3_init 54 = .ok (.aload_n 0, 1) := by decide +kernel
theorem dX3_init_55 : decode cX3_init 55 = .ok (.bipush 22, 2) := by decide +kernel
theorem dX3_init_57 : decode cX3_init 57 = .ok (.newarray .int, 2) := by decide +kernel
theorem dX3_init_59 : decode cX3_init 59 = .ok (.putfield 32, 3) := by decide +kernel
theorem dX3_init_62 : decode cX3_init 62 = .ok (.aload_n 0, 1) := by decide +kernel
theorem dX3_init_63 : decode cX3_init 63 = .ok (.sipush 2112, 3) := by decide +kernel
theorem dX3_init_66 : decode cX3_init 66 = .ok (.newarray .int, 2) := by decide +kernel
theorem dX3_init_68 : decode cX3_init 68 = .ok (.putfield 35, 3) := by decide +kernel
theorem dX3_init_71 : decode cX3_init 71 = .ok (.aload_n 0, 1) := by decide +kernel
theorem dX3_init_72 : decode cX3_init 72 = .ok (.sipush 2112, 3) := by decide +kernel
theorem dX3_init_75 : decode cX3_init 75 = .ok (.newarray .int, 2) := by decide +kernel
theorem dX3_init_77 : decode cX3_init 77 = .ok (.putfield 38, 3) := by decide +kernel
theorem dX3_init_80 : decode cX3_init 80 = .ok (.aload_n 0, 1) := by decide +kernel
theorem dX3_init_81 : decode cX3_init 81 = .ok (.sipush 2112, 3) := by decide +kernel
theorem dX3_init_84 : decode cX3_init 84 = .ok (.newarray .int, 2) := by decide +kernel
theorem dX3_init_86 : decode cX3_init 86 = .ok (.putfield 41, 3) := by decide +kernel
theorem dX3_init_89 : decode cX3_init 89 = .ok (.aload_n 0, 1) := by decide +kernel
theorem dX3_init_90 : decode cX3_init 90 = .ok (.sipush 2112, 3) := by decide +kernel
theorem dX3_init_93 : decode cX3_init 93 = .ok (.newarray .int, 2) := by decide +kernel
theorem dX3_init_95 : decode cX3_init 95 = .ok (.putfield 44, 3) := by decide +kernel
theorem dX3_init_98 : decode cX3_init 98 = .ok (.aload_n 0, 1) := by decide +kernel
theorem dX3_init_99 : decode cX3_init 99 = .ok (.sipush 2112, 3) := by decide +kernel
theorem dX3_init_102 : decode cX3_init 102 = .ok (.newarray .int, 2) := by decide +kernel
theorem dX3_init_104 : decode cX3_init 104 = .ok (.putfield 47, 3) := by decide +kernel
theorem dX3_init_107 : decode cX3_init 107 = .ok (.aload_n 0, 1) := by decide +kernel
theorem dX3_init_108 : decode cX3_init 108 = .ok (.sipush 2112, 3) := by decide +kernel
theorem dX3_init_111 : decode cX3_init 111 = .ok (.newarray .boolean, 2) := by decide +kernel
theorem dX3_init_113 : decode cX3_init 113 = .ok (.putfield 50, 3) := by decide +kernel
theorem dX3_init_116 : decode cX3_init 116 = .ok (.aload_n 0, 1) := by decide +kernel
theorem dX3_init_117 : decode cX3_init 117 = .ok (.bipush 96, 2) := by decide +kernel
theorem dX3_init_119 : decode cX3_init 119 = .ok (.newarray .int, 2) := by decide +kernel
theorem dX3_init_121 : decode cX3_init 121 = .ok (.putfield 54, 3) := by decide +kernel
theorem dX3_init_124 : decode cX3_init 124 = .ok (.aload_n 0, 1) := by decide +kernel
theorem dX3_init_125 : decode cX3_init 125 = .ok (.bipush 96, 2) := by decide +kernel
theorem dX3_init_127 : decode cX3_init 127 = .ok (.newarray .int, 2) := by decide +kernel
theorem dX3_init_129 : decode cX3_init 129 = .ok (.putfield 57, 3) := by decide +kernel
theorem dX3_init_132 : decode cX3_init 132 = .ok (.aload_n 0, 1) := by decide +kernel
theorem dX3_init_133 : decode cX3_init 133 = .ok (.bipush 96, 2) := by decide +kernel
theorem dX3_init_135 : decode cX3_init 135 = .ok (.newarray .int, 2) := by decide +kernel
theorem dX3_init_137 : decode cX3_init 137 = .ok (.putfield 60, 3) := by decide +kernel
theorem dX3_init_140 : decode cX3_init 140 = .ok (.aload_n 0, 1) := by decide +kernel
theorem dX3_init_141 : decode cX3_init 141 = .ok (.bipush 24, 2) := by decide +kernel
theorem dX3_init_143 : decode cX3_init 143 = .ok (.newarray .int, 2) := by decide +kernel
theorem dX3_init_145 : decode cX3_init 145 = .ok (.putfield 63, 3) := by decide +kernel
theorem dX3_init_148 : decode cX3_init 148 = .ok (.aload_n 0, 1) := by decide +kernel
theorem dX3_init_149 : decode cX3_init 149 = .ok (.bipush 24, 2) := by decide +kernel
theorem dX3_init_151 : decode cX3_init 151 = .ok (.newarray .int, 2) := by decide +kernel
theorem dX3_init_153 : decode cX3_init 153 = .ok (.putfield 66, 3) := by decide +kernel
theorem dX3_init_156 : decode cX3_init 156 = .ok (.aload_n 0, 1) := by decide +kernel
theorem dX3_init_157 : decode cX3_init 157 = .ok (.bipush 24, 2) := by decide +kernel
theorem dX3_init_159 : decode cX3_init 159 = .ok (.newarray .int, 2) := by decide +kernel
theorem dX3_init_161 : decode cX3_init 161 = .ok (.putfield 69, 3) := by decide +kernel
theorem dX3_init_164 : decode cX3_init 164 = .ok (.aload_n 0, 1) := by decide +kernel
theorem dX3_init_165 : decode cX3_init 165 = .ok (.bipush 24, 2) := by decide +kernel
theorem dX3_init_167 : decode cX3_init 167 = .ok (.newarray .int, 2) := by decide +kernel
theorem dX3_init_169 : decode cX3_init 169 = .ok (.putfield 72, 3) := by decide +kernel
theorem dX3_init_172 : decode cX3_init 172 = .ok (.aload_n 0, 1) := by decide +kernel
theorem dX3_init_173 : decode cX3_init 173 = .ok (.bipush 96, 2) := by decide +kernel
theorem dX3_init_175 : decode cX3_init 175 = .ok (.newarray .int, 2) := by decide +kernel
theorem dX3_init_177 : decode cX3_init 177 = .ok (.putfield 75, 3) := by decide +kernel
theorem dX3_init_180 : decode cX3_init 180 = .ok (.aload_n 0, 1) := by decide +kernel
theorem dX3_init_181 : decode cX3_init 181 = .ok (.bipush 96, 2) := by decide +kernel
theorem dX3_init_183 : decode cX3_init 183 = .ok (.newarray .boolean, 2) := by decide +kernel
theorem dX3_init_185 : decode cX3_init 185 = .ok (.putfield 78, 3) := by decide +kernel
theorem dX3_init_188 : decode cX3_init 188 = .ok (.return_, 1) := by decide +kernel
theorem dX3_within_0 : decode cX3_within 0 = .ok (.iload_n 0, 1) := by decide +kernel
theorem dX3_within_1 : decode cX3_within 1 = .ok (.iload_n 1, 1) := by decide +kernel
theorem dX3_within_2 : decode cX3_within 2 = .ok (.if_icmp .lt 12, 3) := by decide +kernel
theorem dX3_within_5 : decode cX3_within 5 = .ok (.iload_n 0, 1) := by decide +kernel
theorem dX3_within_6 : decode cX3_within 6 = .ok (.iload_n 2, 1) := by decide +kernel
theorem dX3_within_7 : decode cX3_within 7 = .ok (.if_icmp .gt 7, 3) := by decide +kernel
theorem dX3_within_10 : decode cX3_within 10 = .ok (.iconst 1, 1) := by decide +kernel
theorem dX3_within_11 : decode cX3_within 11 = .ok (.goto 4, 3) := by decide +kernel
theorem dX3_within_14 : decode cX3_within 14 = .ok (.iconst 0, 1) := by decide +kernel
theorem dX3_within_15 : decode cX3_within 15 = .ok (.ireturn, 1) := by decide +kernel
theorem dX3_hashOf_0 : decode cX3_hashOf 0 = .ok (.iload_n 1, 1) := by decide +kernel
theorem dX3_hashOf_1 : decode cX3_hashOf 1 = .ok (.aload_n 0, 1) := by decide +kernel
theorem dX3_hashOf_2 : decode cX3_hashOf 2 = .ok (.getfield 13, 3) := by decide +kernel
theorem dX3_hashOf_5 : decode cX3_hashOf 5 = .ok (.imul, 1) := by decide +kernel
theorem dX3_hashOf_6 : decode cX3_hashOf 6 = .ok (.iconst 1, 1) := by decide +kernel
theorem dX3_hashOf_7 : decode cX3_hashOf 7 = .ok (.aload_n 0, 1) := by decide +kernel
theorem dX3_hashOf_8 : decode cX3_hashOf 8 = .ok (.getfield 17, 3) := by decide +kernel
theorem dX3_hashOf_11 : decode cX3_hashOf 11 = .ok (.ishl, 1) := by decide +kernel
theorem dX3_hashOf_12 : decode cX3_hashOf 12 = .ok (.iconst 1, 1) := by decide +kernel
theorem dX3_hashOf_13 : decode cX3_hashOf 13 = .ok (.isub, 1) := by decide +kernel
theorem dX3_hashOf_14 : decode cX3_hashOf 14 = .ok (.iand, 1) := by decide +kernel
theorem dX3_hashOf_15 : decode cX3_hashOf 15 = .ok (.ireturn, 1) := by decide +kernel
theorem dX3_partOf_0 : decode cX3_partOf 0 = .ok (.iload_n 0, 1) := by decide +kernel
theorem dX3_partOf_1 : decode cX3_partOf 1 = .ok (.iconst 5, 1) := by decide +kernel
theorem dX3_partOf_2 : decode cX3_partOf 2 = .ok (.iload_n 1, 1) := by decide +kernel
theorem dX3_partOf_3 : decode cX3_partOf 3 = .ok (.imul, 1) := by decide +kernel
theorem dX3_partOf_4 : decode cX3_partOf 4 = .ok (.ishr, 1) := by decide +kernel
theorem dX3_partOf_5 : decode cX3_partOf 5 = .ok (.bipush 31, 2) := by decide +kernel
theorem dX3_partOf_7 : decode cX3_partOf 7 = .ok (.iand, 1) := by decide +kernel
theorem dX3_partOf_8 : decode cX3_partOf 8 = .ok (.ireturn, 1) := by decide +kernel
theorem dX3_hash_0 : decode cX3_hash 0 = .ok (.iload_n 1, 1) := by decide +kernel
theorem dX3_hash_1 : decode cX3_hash 1 = .ok (.iconst 0, 1) := by decide +kernel
theorem dX3_hash_2 : decode cX3_hash 2 = .ok (.sipush 4095, 3) := by decide +kernel
theorem dX3_hash_5 : decode cX3_hash 5 = .ok (.invokestatic 81, 3) := by decide +kernel
theorem dX3_hash_8 : decode cX3_hash 8 = .ok (.ifCond .eq 11, 3) := by decide +kernel
theorem dX3_hash_11 : decode cX3_hash 11 = .ok (.aload_n 0, 1) := by decide +kernel
theorem dX3_hash_12 : decode cX3_hash 12 = .ok (.iload_n 1, 1) := by decide +kernel
theorem dX3_hash_13 : decode cX3_hash 13 = .ok (.invokevirtual 85, 3) := by decide +kernel
theorem dX3_hash_16 : decode cX3_hash 16 = .ok (.goto 5, 3) := by decide +kernel
theorem dX3_hash_19 : decode cX3_hash 19 = .ok (.bipush (-102), 2) := by decide +kernel
theorem dX3_hash_21 : decode cX3_hash 21 = .ok (.ireturn, 1) := by decide +kernel
theorem dX3_scheme_0 : decode cX3_scheme 0 = .ok (.iload_n 1, 1) := by decide +kernel
theorem dX3_scheme_1 : decode cX3_scheme 1 = .ok (.iconst 1, 1) := by decide +kernel
theorem dX3_scheme_2 : decode cX3_scheme 2 = .ok (.ldc 89, 2) := by decide +kernel
theorem dX3_scheme_4 : decode cX3_scheme 4 = .ok (.invokestatic 81, 3) := by decide +kernel
theorem dX3_scheme_7 : decode cX3_scheme 7 = .ok (.ifCond .eq 19, 3) := by decide +kernel
theorem dX3_scheme_10 : decode cX3_scheme 10 = .ok (.iload_n 1, 1) := by decide +kernel
theorem dX3_scheme_11 : decode cX3_scheme 11 = .ok (.iconst 2, 1) := by decide +kernel
theorem dX3_scheme_12 : decode cX3_scheme 12 = .ok (.irem, 1) := by decide +kernel
theorem dX3_scheme_13 : decode cX3_scheme 13 = .ok (.ifCond .eq 13, 3) := by decide +kernel
theorem dX3_scheme_16 : decode cX3_scheme 16 = .ok (.iload_n 2, 1) := by decide +kernel
theorem dX3_scheme_17 : decode cX3_scheme 17 = .ok (.iconst 3, 1) := by decide +kernel
theorem dX3_scheme_18 : decode cX3_scheme 18 = .ok (.bipush 30, 2) := by decide +kernel
theorem dX3_scheme_20 : decode cX3_scheme 20 = .ok (.invokestatic 81, 3) := by decide +kernel
theorem dX3_scheme_23 : decode cX3_scheme 23 = .ok (.ifCond .ne 6, 3) := by decide +kernel
theorem dX3_scheme_26 : decode cX3_scheme 26 = .ok (.bipush (-102), 2) := by decide +kernel
theorem dX3_scheme_28 : decode cX3_scheme 28 = .ok (.ireturn, 1) := by decide +kernel
theorem dX3_scheme_29 : decode cX3_scheme 29 = .ok (.aload_n 0, 1) := by decide +kernel
theorem dX3_scheme_30 : decode cX3_scheme 30 = .ok (.getfield 20, 3) := by decide +kernel
theorem dX3_scheme_33 : decode cX3_scheme 33 = .ok (.iconst 1, 1) := by decide +kernel
theorem dX3_scheme_34 : decode cX3_scheme 34 = .ok (.isub, 1) := by decide +kernel
theorem dX3_scheme_35 : decode cX3_scheme 35 = .ok (.istore_n 3, 1) := by decide +kernel
theorem dX3_scheme_36 : decode cX3_scheme 36 = .ok (.aload_n 0, 1) := by decide +kernel
theorem dX3_scheme_37 : decode cX3_scheme 37 = .ok (.iconst 1, 1) := by decide +kernel
theorem dX3_scheme_38 : decode cX3_scheme 38 = .ok (.putfield 20, 3) := by decide +kernel
theorem dX3_scheme_41 : decode cX3_scheme 41 = .ok (.aload_n 0, 1) := by decide +kernel
theorem dX3_scheme_42 : decode cX3_scheme 42 = .ok (.iconst 0, 1) := by decide +kernel
theorem dX3_scheme_43 : decode cX3_scheme 43 = .ok (.putfield 90, 3) := by decide +kernel
theorem dX3_scheme_46 : decode cX3_scheme 46 = .ok (.aload_n 0, 1) := by decide +kernel
theorem dX3_scheme_47 : decode cX3_scheme 47 = .ok (.iload_n 1, 1) := by decide +kernel
theorem dX3_scheme_48 : decode cX3_scheme 48 = .ok (.putfield 13, 3) := by decide +kernel
theorem dX3_scheme_51 : decode cX3_scheme 51 = .ok (.aload_n 0, 1) := by decide +kernel
theorem dX3_scheme_52 : decode cX3_scheme 52 = .ok (.iload_n 2, 1) := by decide +kernel
theorem dX3_scheme_53 : decode cX3_scheme 53 = .ok (.putfield 17, 3) := by decide +kernel
theorem dX3_scheme_56 : decode cX3_scheme 56 = .ok (.iload_n 3, 1) := by decide +kernel
theorem dX3_scheme_57 : decode cX3_scheme 57 = .ok (.ireturn, 1) := by decide +kernel
theorem dX3_isAhead_0 : decode cX3_isAhead 0 = .ok (.aload_n 0, 1) := by decide +kernel
theorem dX3_isAhead_1 : decode cX3_isAhead 1 = .ok (.iload_n 1, 1) := by decide +kernel
theorem dX3_isAhead_2 : decode cX3_isAhead 2 = .ok (.invokevirtual 85, 3) := by decide +kernel
theorem dX3_isAhead_5 : decode cX3_isAhead 5 = .ok (.istore_n 3, 1) := by decide +kernel
theorem dX3_isAhead_6 : decode cX3_isAhead 6 = .ok (.aload_n 0, 1) := by decide +kernel
theorem dX3_isAhead_7 : decode cX3_isAhead 7 = .ok (.iload_n 2, 1) := by decide +kernel
theorem dX3_isAhead_8 : decode cX3_isAhead 8 = .ok (.invokevirtual 85, 3) := by decide +kernel
theorem dX3_isAhead_11 : decode cX3_isAhead 11 = .ok (.istore 4, 2) := by decide +kernel
theorem dX3_isAhead_13 : decode cX3_isAhead 13 = .ok (.iconst 0, 1) := by decide +kernel
theorem dX3_isAhead_14 : decode cX3_isAhead 14 = .ok (.istore 5, 2) := by decide +kernel
theorem dX3_isAhead_16 : decode cX3_isAhead 16 = .ok (.iload 5, 2) := by decide +kernel
theorem dX3_isAhead_18 : decode cX3_isAhead 18 = .ok (.bipush 6, 2) := by decide +kernel
theorem dX3_isAhead_20 : decode cX3_isAhead 20 = .ok (.if_icmp .ge 47, 3) := by decide +kernel
theorem dX3_isAhead_23 : decode cX3_isAhead 23 = .ok (.iload_n 3, 1) := by decide +kernel
theorem dX3_isAhead_24 : decode cX3_isAhead 24 = .ok (.iload 5, 2) := by decide +kernel
theorem dX3_isAhead_26 : decode cX3_isAhead 26 = .ok (.invokestatic 94, 3) := by decide +kernel
theorem dX3_isAhead_29 : decode cX3_isAhead 29 = .ok (.iload 4, 2) := by decide +kernel
theorem dX3_isAhead_31 : decode cX3_isAhead 31 = .ok (.iload 5, 2) := by decide +kernel
theorem dX3_isAhead_33 : decode cX3_isAhead 33 = .ok (.invokestatic 94, 3) := by decide +kernel
theorem dX3_isAhead_36 : decode cX3_isAhead 36 = .ok (.if_icmp .eq 25, 3) := by decide +kernel
theorem dX3_isAhead_39 : decode cX3_isAhead 39 = .ok (.iload_n 3, 1) := by decide +kernel
theorem dX3_isAhead_40 : decode cX3_isAhead 40 = .ok (.iload 5, 2) := by decide +kernel
theorem dX3_isAhead_42 : decode cX3_isAhead 42 = .ok (.invokestatic 94, 3) := by decide +kernel
theorem dX3_isAhead_45 : decode cX3_isAhead 45 = .ok (.iload 4, 2) := by decide +kernel
theorem dX3_isAhead_47 : decode cX3_isAhead 47 = .ok (.iload 5, 2) := by decide +kernel
theorem dX3_isAhead_49 : decode cX3_isAhead 49 = .ok (.invokestatic 94, 3) := by decide +kernel
theorem dX3_isAhead_52 : decode cX3_isAhead 52 = .ok (.if_icmp .ge 7, 3) := by decide +kernel
theorem dX3_isAhead_55 : decode cX3_isAhead 55 = .ok (.iconst 1, 1) := by decide +kernel
theorem dX3_isAhead_56 : decode cX3_isAhead 56 = .ok (.goto 4, 3) := by decide +kernel
theorem dX3_isAhead_59 : decode cX3_isAhead 59 = .ok (.iconst 0, 1) := by decide +kernel
theorem dX3_isAhead_60 : decode cX3_isAhead 60 = .ok (.ireturn, 1) := by decide +kernel
theorem dX3_isAhead_61 : decode cX3_isAhead 61 = .ok (.iinc 5 1, 3) := by decide +kernel
theorem dX3_isAhead_64 : decode cX3_isAhead 64 = .ok (.goto (-48), 3) := by decide +kernel
theorem dX3_isAhead_67 : decode cX3_isAhead 67 = .ok (.iload_n 1, 1) := by decide +kernel
theorem dX3_isAhead_68 : decode cX3_isAhead 68 = .ok (.iload_n 2, 1) := by decide +kernel
theorem dX3_isAhead_69 : decode cX3_isAhead 69 = .ok (.if_icmp .ge 7, 3) := by decide +kernel
theorem dX3_isAhead_72 : decode cX3_isAhead 72 = .ok (.iconst 1, 1) := by decide +kernel
theorem dX3_isAhead_73 : decode cX3_isAhead 73 = .ok (.goto 4, 3) := by decide +kernel
theorem dX3_isAhead_76 : decode cX3_isAhead 76 = .ok (.iconst 0, 1) := by decide +kernel
theorem dX3_isAhead_77 : decode cX3_isAhead 77 = .ok (.ireturn, 1) := by decide +kernel
theorem dX3_keyAt_0 : decode cX3_keyAt 0 = .ok (.aload_n 0, 1) := by decide +kernel
theorem dX3_keyAt_1 : decode cX3_keyAt 1 = .ok (.getfield 26, 3) := by decide +kernel
theorem dX3_keyAt_4 : decode cX3_keyAt 4 = .ok (.bipush 24, 2) := by decide +kernel
theorem dX3_keyAt_6 : decode cX3_keyAt 6 = .ok (.iload_n 1, 1) := by decide +kernel
theorem dX3_keyAt_7 : decode cX3_keyAt 7 = .ok (.imul, 1) := by decide +kernel
theorem dX3_keyAt_8 : decode cX3_keyAt 8 = .ok (.iload_n 2, 1) := by decide +kernel
theorem dX3_keyAt_9 : decode cX3_keyAt 9 = .ok (.iadd, 1) := by decide +kernel
theorem dX3_keyAt_10 : decode cX3_keyAt 10 = .ok (.iaload, 1) := by decide +kernel
theorem dX3_keyAt_11 : decode cX3_keyAt 11 = .ok (.ireturn, 1) := by decide +kernel
theorem dX3_valueAt_0 : decode cX3_valueAt 0 = .ok (.aload_n 0, 1) := by decide +kernel
theorem dX3_valueAt_1 : decode cX3_valueAt 1 = .ok (.getfield 29, 3) := by decide +kernel
theorem dX3_valueAt_4 : decode cX3_valueAt 4 = .ok (.bipush 24, 2) := by decide +kernel
theorem dX3_valueAt_6 : decode cX3_valueAt 6 = .ok (.iload_n 1, 1) := by decide +kernel
theorem dX3_valueAt_7 : decode cX3_valueAt 7 = .ok (.imul, 1) := by decide +kernel
theorem dX3_valueAt_8 : decode cX3_valueAt 8 = .ok (.iload_n 2, 1) := by decide +kernel
theorem dX3_valueAt_9 : decode cX3_valueAt 9 = .ok (.iadd, 1) := by decide +kernel
theorem dX3_valueAt_10 : decode cX3_valueAt 10 = .ok (.iaload, 1) := by decide +kernel
theorem dX3_valueAt_11 : decode cX3_valueAt 11 = .ok (.ireturn, 1) := by decide +kernel
theorem dX3_placeOf_0 : decode cX3_placeOf 0 = .ok (.iconst 0, 1) := by decide +kernel
theorem dX3_placeOf_1 : decode cX3_placeOf 1 = .ok (.istore_n 3, 1) := by decide +kernel
theorem dX3_placeOf_2 : decode cX3_placeOf 2 = .ok (.iload_n 3, 1) := by decide +kernel
theorem dX3_placeOf_3 : decode cX3_placeOf 3 = .ok (.aload_n 0, 1) := by decide +kernel
theorem dX3_placeOf_4 : decode cX3_placeOf 4 = .ok (.getfield 23, 3) := by decide +kernel
theorem dX3_placeOf_7 : decode cX3_placeOf 7 = .ok (.iload_n 1, 1) := by decide +kernel
theorem dX3_placeOf_8 : decode cX3_placeOf 8 = .ok (.iaload, 1) := by decide +kernel
theorem dX3_placeOf_9 : decode cX3_placeOf 9 = .ok (.if_icmp .ge 21, 3) := by decide +kernel
theorem dX3_placeOf_12 : decode cX3_placeOf 12 = .ok (.aload_n 0, 1) := by decide +kernel
theorem dX3_placeOf_13 : decode cX3_placeOf 13 = .ok (.iload_n 1, 1) := by decide +kernel
theorem dX3_placeOf_14 : decode cX3_placeOf 14 = .ok (.iload_n 3, 1) := by decide +kernel
theorem dX3_placeOf_15 : decode cX3_placeOf 15 = .ok (.invokevirtual 98, 3) := by decide +kernel
theorem dX3_placeOf_18 : decode cX3_placeOf 18 = .ok (.iload_n 2, 1) := by decide +kernel
theorem dX3_placeOf_19 : decode cX3_placeOf 19 = .ok (.if_icmp .ne 5, 3) := by decide +kernel
theorem dX3_placeOf_22 : decode cX3_placeOf 22 = .ok (.iload_n 3, 1) := by decide +kernel
theorem dX3_placeOf_23 : decode cX3_placeOf 23 = .ok (.ireturn, 1) := by decide +kernel
theorem dX3_placeOf_24 : decode cX3_placeOf 24 = .ok (.iinc 3 1, 3) := by decide +kernel
theorem dX3_placeOf_27 : decode cX3_placeOf 27 = .ok (.goto (-25), 3) := by decide +kernel
theorem dX3_placeOf_30 : decode cX3_placeOf 30 = .ok (.iconst (-1), 1) := by decide +kernel
theorem dX3_placeOf_31 : decode cX3_placeOf 31 = .ok (.ireturn, 1) := by decide +kernel
theorem dX3_copyTo_0 : decode cX3_copyTo 0 = .ok (.aload_n 0, 1) := by decide +kernel
theorem dX3_copyTo_1 : decode cX3_copyTo 1 = .ok (.getfield 23, 3) := by decide +kernel
theorem dX3_copyTo_4 : decode cX3_copyTo 4 = .ok (.iload_n 1, 1) := by decide +kernel
theorem dX3_copyTo_5 : decode cX3_copyTo 5 = .ok (.aload_n 0, 1) := by decide +kernel
theorem dX3_copyTo_6 : decode cX3_copyTo 6 = .ok (.getfield 23, 3) := by decide +kernel
theorem dX3_copyTo_9 : decode cX3_copyTo 9 = .ok (.iload_n 2, 1) := by decide +kernel
theorem dX3_copyTo_10 : decode cX3_copyTo 10 = .ok (.iaload, 1) := by decide +kernel
theorem dX3_copyTo_11 : decode cX3_copyTo 11 = .ok (.iastore, 1) := by decide +kernel
theorem dX3_copyTo_12 : decode cX3_copyTo 12 = .ok (.iconst 0, 1) := by decide +kernel
theorem dX3_copyTo_13 : decode cX3_copyTo 13 = .ok (.istore_n 3, 1) := by decide +kernel
theorem dX3_copyTo_14 : decode cX3_copyTo 14 = .ok (.iload_n 3, 1) := by decide +kernel
theorem dX3_copyTo_15 : decode cX3_copyTo 15 = .ok (.aload_n 0, 1) := by decide +kernel
theorem dX3_copyTo_16 : decode cX3_copyTo 16 = .ok (.getfield 23, 3) := by decide +kernel
theorem dX3_copyTo_19 : decode cX3_copyTo 19 = .ok (.iload_n 2, 1) := by decide +kernel
theorem dX3_copyTo_20 : decode cX3_copyTo 20 = .ok (.iaload, 1) := by decide +kernel
theorem dX3_copyTo_21 : decode cX3_copyTo 21 = .ok (.if_icmp .ge 43, 3) := by decide +kernel
theorem dX3_copyTo_24 : decode cX3_copyTo 24 = .ok (.aload_n 0, 1) := by decide +kernel
theorem dX3_copyTo_25 : decode cX3_copyTo 25 = .ok (.getfield 26, 3) := by decide +kernel
theorem dX3_copyTo_28 : decode cX3_copyTo 28 = .ok (.bipush 24, 2) := by decide +kernel
theorem dX3_copyTo_30 : decode cX3_copyTo 30 = .ok (.iload_n 1, 1) := by decide +kernel
theorem dX3_copyTo_31 : decode cX3_copyTo 31 = .ok (.imul, 1) := by decide +kernel
theorem dX3_copyTo_32 : decode cX3_copyTo 32 = .ok (.iload_n 3, 1) := by decide +kernel
theorem dX3_copyTo_33 : decode cX3_copyTo 33 = .ok (.iadd, 1) := by decide +kernel
theorem dX3_copyTo_34 : decode cX3_copyTo 34 = .ok (.aload_n 0, 1) := by decide +kernel
theorem dX3_copyTo_35 : decode cX3_copyTo 35 = .ok (.iload_n 2, 1) := by decide +kernel
theorem dX3_copyTo_36 : decode cX3_copyTo 36 = .ok (.iload_n 3, 1) := by decide +kernel
theorem dX3_copyTo_37 : decode cX3_copyTo 37 = .ok (.invokevirtual 98, 3) := by decide +kernel
theorem dX3_copyTo_40 : decode cX3_copyTo 40 = .ok (.iastore, 1) := by decide +kernel
theorem dX3_copyTo_41 : decode cX3_copyTo 41 = .ok (.aload_n 0, 1) := by decide +kernel
theorem dX3_copyTo_42 : decode cX3_copyTo 42 = .ok (.getfield 29, 3) := by decide +kernel
theorem dX3_copyTo_45 : decode cX3_copyTo 45 = .ok (.bipush 24, 2) := by decide +kernel
theorem dX3_copyTo_47 : decode cX3_copyTo 47 = .ok (.iload_n 1, 1) := by decide +kernel
theorem dX3_copyTo_48 : decode cX3_copyTo 48 = .ok (.imul, 1) := by decide +kernel
theorem dX3_copyTo_49 : decode cX3_copyTo 49 = .ok (.iload_n 3, 1) := by decide +kernel
theorem dX3_copyTo_50 : decode cX3_copyTo 50 = .ok (.iadd, 1) := by decide +kernel
theorem dX3_copyTo_51 : decode cX3_copyTo 51 = .ok (.aload_n 0, 1) := by decide +kernel
theorem dX3_copyTo_52 : decode cX3_copyTo 52 = .ok (.iload_n 2, 1) := by decide +kernel
theorem dX3_copyTo_53 : decode cX3_copyTo 53 = .ok (.iload_n 3, 1) := by decide +kernel
theorem dX3_copyTo_54 : decode cX3_copyTo 54 = .ok (.invokevirtual 101, 3) := by decide +kernel
theorem dX3_copyTo_57 : decode cX3_copyTo 57 = .ok (.iastore, 1) := by decide +kernel
theorem dX3_copyTo_58 : decode cX3_copyTo 58 = .ok (.iinc 3 1, 3) := by decide +kernel
theorem dX3_copyTo_61 : decode cX3_copyTo 61 = .ok (.goto (-47), 3) := by decide +kernel
theorem dX3_copyTo_64 : decode cX3_copyTo 64 = .ok (.return_, 1) := by decide +kernel
theorem dX3_give_0 : decode cX3_give 0 = .ok (.aload_n 0, 1) := by decide +kernel
theorem dX3_give_1 : decode cX3_give 1 = .ok (.iload_n 1, 1) := by decide +kernel
theorem dX3_give_2 : decode cX3_give 2 = .ok (.iload_n 2, 1) := by decide +kernel
theorem dX3_give_3 : decode cX3_give 3 = .ok (.invokevirtual 104, 3) := by decide +kernel
theorem dX3_give_6 : decode cX3_give 6 = .ok (.istore 4, 2) := by decide +kernel
theorem dX3_give_8 : decode cX3_give 8 = .ok (.iload 4, 2) := by decide +kernel
theorem dX3_give_10 : decode cX3_give 10 = .ok (.iconst (-1), 1) := by decide +kernel
theorem dX3_give_11 : decode cX3_give 11 = .ok (.if_icmp .ne 91, 3) := by decide +kernel
theorem dX3_give_14 : decode cX3_give 14 = .ok (.aload_n 0, 1) := by decide +kernel
theorem dX3_give_15 : decode cX3_give 15 = .ok (.getfield 23, 3) := by decide +kernel
theorem dX3_give_18 : decode cX3_give 18 = .ok (.iload_n 1, 1) := by decide +kernel
theorem dX3_give_19 : decode cX3_give 19 = .ok (.iaload, 1) := by decide +kernel
theorem dX3_give_20 : decode cX3_give 20 = .ok (.istore 4, 2) := by decide +kernel
theorem dX3_give_22 : decode cX3_give 22 = .ok (.iload 4, 2) := by decide +kernel
theorem dX3_give_24 : decode cX3_give 24 = .ok (.ifCond .le 68, 3) := by decide +kernel
theorem dX3_give_27 : decode cX3_give 27 = .ok (.aload_n 0, 1) := by decide +kernel
theorem dX3_give_28 : decode cX3_give 28 = .ok (.iload_n 2, 1) := by decide +kernel
theorem dX3_give_29 : decode cX3_give 29 = .ok (.aload_n 0, 1) := by decide +kernel
theorem dX3_give_30 : decode cX3_give 30 = .ok (.iload_n 1, 1) := by decide +kernel
theorem dX3_give_31 : decode cX3_give 31 = .ok (.iload 4, 2) := by decide +kernel
theorem dX3_give_33 : decode cX3_give 33 = .ok (.iconst 1, 1) := by decide +kernel
theorem dX3_give_34 : decode cX3_give 34 = .ok (.isub, 1) := by decide +kernel
theorem dX3_give_35 : decode cX3_give 35 = .ok (.invokevirtual 98, 3) := by decide +kernel
theorem dX3_give_38 : decode cX3_give 38 = .ok (.invokevirtual 107, 3) := by decide +kernel
theorem dX3_give_41 : decode cX3_give 41 = .ok (.ifCond .eq 51, 3) := by decide +kernel
theorem dX3_give_44 : decode cX3_give 44 = .ok (.aload_n 0, 1) := by decide +kernel
theorem dX3_give_45 : decode cX3_give 45 = .ok (.getfield 26, 3) := by decide +kernel
theorem dX3_give_48 : decode cX3_give 48 = .ok (.bipush 24, 2) := by decide +kernel
theorem dX3_give_50 : decode cX3_give 50 = .ok (.iload_n 1, 1) := by decide +kernel
theorem dX3_give_51 : decode cX3_give 51 = .ok (.imul, 1) := by decide +kernel
theorem dX3_give_52 : decode cX3_give 52 = .ok (.iload 4, 2) := by decide +kernel
theorem dX3_give_54 : decode cX3_give 54 = .ok (.iadd, 1) := by decide +kernel
theorem dX3_give_55 : decode cX3_give 55 = .ok (.aload_n 0, 1) := by decide +kernel
theorem dX3_give_56 : decode cX3_give 56 = .ok (.iload_n 1, 1) := by decide +kernel
theorem dX3_give_57 : decode cX3_give 57 = .ok (.iload 4, 2) := by decide +kernel
theorem dX3_give_59 : decode cX3_give 59 = .ok (.iconst 1, 1) := by decide +kernel
theorem dX3_give_60 : decode cX3_give 60 = .ok (.isub, 1) := by decide +kernel
theorem dX3_give_61 : decode cX3_give 61 = .ok (.invokevirtual 98, 3) := by decide +kernel
theorem dX3_give_64 : decode cX3_give 64 = .ok (.iastore, 1) := by decide +kernel
theorem dX3_give_65 : decode cX3_give 65 = .ok (.aload_n 0, 1) := by decide +kernel
theorem dX3_give_66 : decode cX3_give 66 = .ok (.getfield 29, 3) := by decide +kernel
theorem dX3_give_69 : decode cX3_give 69 = .ok (.bipush 24, 2) := by decide +kernel
theorem dX3_give_71 : decode cX3_give 71 = .ok (.iload_n 1, 1) := by decide +kernel
theorem dX3_give_72 : decode cX3_give 72 = .ok (.imul, 1) := by decide +kernel
theorem dX3_give_73 : decode cX3_give 73 = .ok (.iload 4, 2) := by decide +kernel
theorem dX3_give_75 : decode cX3_give 75 = .ok (.iadd, 1) := by decide +kernel
theorem dX3_give_76 : decode cX3_give 76 = .ok (.aload_n 0, 1) := by decide +kernel
theorem dX3_give_77 : decode cX3_give 77 = .ok (.iload_n 1, 1) := by decide +kernel
theorem dX3_give_78 : decode cX3_give 78 = .ok (.iload 4, 2) := by decide +kernel
theorem dX3_give_80 : decode cX3_give 80 = .ok (.iconst 1, 1) := by decide +kernel
theorem dX3_give_81 : decode cX3_give 81 = .ok (.isub, 1) := by decide +kernel
theorem dX3_give_82 : decode cX3_give 82 = .ok (.invokevirtual 101, 3) := by decide +kernel
theorem dX3_give_85 : decode cX3_give 85 = .ok (.iastore, 1) := by decide +kernel
theorem dX3_give_86 : decode cX3_give 86 = .ok (.iinc 4 (-1), 3) := by decide +kernel
theorem dX3_give_89 : decode cX3_give 89 = .ok (.goto (-67), 3) := by decide +kernel
theorem dX3_give_92 : decode cX3_give 92 = .ok (.aload_n 0, 1) := by decide +kernel
theorem dX3_give_93 : decode cX3_give 93 = .ok (.getfield 23, 3) := by decide +kernel
theorem dX3_give_96 : decode cX3_give 96 = .ok (.iload_n 1, 1) := by decide +kernel
theorem dX3_give_97 : decode cX3_give 97 = .ok (.dup2, 1) := by decide +kernel
theorem dX3_give_98 : decode cX3_give 98 = .ok (.iaload, 1) := by decide +kernel
theorem dX3_give_99 : decode cX3_give 99 = .ok (.iconst 1, 1) := by decide +kernel
theorem dX3_give_100 : decode cX3_give 100 = .ok (.iadd, 1) := by decide +kernel
theorem dX3_give_101 : decode cX3_give 101 = .ok (.iastore, 1) := by decide +kernel
theorem dX3_give_102 : decode cX3_give 102 = .ok (.aload_n 0, 1) := by decide +kernel
theorem dX3_give_103 : decode cX3_give 103 = .ok (.getfield 26, 3) := by decide +kernel
theorem dX3_give_106 : decode cX3_give 106 = .ok (.bipush 24, 2) := by decide +kernel
theorem dX3_give_108 : decode cX3_give 108 = .ok (.iload_n 1, 1) := by decide +kernel
theorem dX3_give_109 : decode cX3_give 109 = .ok (.imul, 1) := by decide +kernel
theorem dX3_give_110 : decode cX3_give 110 = .ok (.iload 4, 2) := by decide +kernel
theorem dX3_give_112 : decode cX3_give 112 = .ok (.iadd, 1) := by decide +kernel
theorem dX3_give_113 : decode cX3_give 113 = .ok (.iload_n 2, 1) := by decide +kernel
theorem dX3_give_114 : decode cX3_give 114 = .ok (.iastore, 1) := by decide +kernel
theorem dX3_give_115 : decode cX3_give 115 = .ok (.aload_n 0, 1) := by decide +kernel
theorem dX3_give_116 : decode cX3_give 116 = .ok (.getfield 29, 3) := by decide +kernel
theorem dX3_give_119 : decode cX3_give 119 = .ok (.bipush 24, 2) := by decide +kernel
theorem dX3_give_121 : decode cX3_give 121 = .ok (.iload_n 1, 1) := by decide +kernel
theorem dX3_give_122 : decode cX3_give 122 = .ok (.imul, 1) := by decide +kernel
theorem dX3_give_123 : decode cX3_give 123 = .ok (.iload 4, 2) := by decide +kernel
theorem dX3_give_125 : decode cX3_give 125 = .ok (.iadd, 1) := by decide +kernel
theorem dX3_give_126 : decode cX3_give 126 = .ok (.iload_n 3, 1) := by decide +kernel
theorem dX3_give_127 : decode cX3_give 127 = .ok (.iastore, 1) := by decide +kernel
theorem dX3_give_128 : decode cX3_give 128 = .ok (.return_, 1) := by decide +kernel
theorem dX3_takeFrom_0 : decode cX3_takeFrom 0 = .ok (.aload_n 0, 1) := by decide +kernel
theorem dX3_takeFrom_1 : decode cX3_takeFrom 1 = .ok (.iload_n 1, 1) := by decide +kernel
theorem dX3_takeFrom_2 : decode cX3_takeFrom 2 = .ok (.iload_n 2, 1) := by decide +kernel
theorem dX3_takeFrom_3 : decode cX3_takeFrom 3 = .ok (.invokevirtual 104, 3) := by decide +kernel
theorem dX3_takeFrom_6 : decode cX3_takeFrom 6 = .ok (.istore_n 3, 1) := by decide +kernel
theorem dX3_takeFrom_7 : decode cX3_takeFrom 7 = .ok (.iload_n 3, 1) := by decide +kernel
theorem dX3_takeFrom_8 : decode cX3_takeFrom 8 = .ok (.iconst (-1), 1) := by decide +kernel
theorem dX3_takeFrom_9 : decode cX3_takeFrom 9 = .ok (.if_icmp .eq 75, 3) := by decide +kernel
theorem dX3_takeFrom_12 : decode cX3_takeFrom 12 = .ok (.aload_n 0, 1) := by decide +kernel
theorem dX3_takeFrom_13 : decode cX3_takeFrom 13 = .ok (.getfield 23, 3) := by decide +kernel
theorem dX3_takeFrom_16 : decode cX3_takeFrom 16 = .ok (.iload_n 1, 1) := by decide +kernel
theorem dX3_takeFrom_17 : decode cX3_takeFrom 17 = .ok (.dup2, 1) := by decide +kernel
theorem dX3_takeFrom_18 : decode cX3_takeFrom 18 = .ok (.iaload, 1) := by decide +kernel
theorem dX3_takeFrom_19 : decode cX3_takeFrom 19 = .ok (.iconst 1, 1) := by decide +kernel
theorem dX3_takeFrom_20 : decode cX3_takeFrom 20 = .ok (.isub, 1) := by decide +kernel
theorem dX3_takeFrom_21 : decode cX3_takeFrom 21 = .ok (.iastore, 1) := by decide +kernel
theorem dX3_takeFrom_22 : decode cX3_takeFrom 22 = .ok (.iload_n 3, 1) := by decide +kernel
theorem dX3_takeFrom_23 : decode cX3_takeFrom 23 = .ok (.istore 4, 2) := by decide +kernel
theorem dX3_takeFrom_25 : decode cX3_takeFrom 25 = .ok (.iload 4, 2) := by decide +kernel
theorem dX3_takeFrom_27 : decode cX3_takeFrom 27 = .ok (.aload_n 0, 1) := by decide +kernel
theorem dX3_takeFrom_28 : decode cX3_takeFrom 28 = .ok (.getfield 23, 3) := by decide +kernel
theorem dX3_takeFrom_31 : decode cX3_takeFrom 31 = .ok (.iload_n 1, 1) := by decide +kernel
theorem dX3_takeFrom_32 : decode cX3_takeFrom 32 = .ok (.iaload, 1) := by decide +kernel
theorem dX3_takeFrom_33 : decode cX3_takeFrom 33 = .ok (.if_icmp .ge 51, 3) := by decide +kernel
theorem dX3_takeFrom_36 : decode cX3_takeFrom 36 = .ok (.aload_n 0, 1) := by decide +kernel
theorem dX3_takeFrom_37 : decode cX3_takeFrom 37 = .ok (.getfield 26, 3) := by decide +kernel
theorem dX3_takeFrom_40 : decode cX3_takeFrom 40 = .ok (.bipush 24, 2) := by decide +kernel
theorem dX3_takeFrom_42 : decode cX3_takeFrom 42 = .ok (.iload_n 1, 1) := by decide +kernel
theorem dX3_takeFrom_43 : decode cX3_takeFrom 43 = .ok (.imul, 1) := by decide +kernel
theorem dX3_takeFrom_44 : decode cX3_takeFrom 44 = .ok (.iload 4, 2) := by decide +kernel
theorem dX3_takeFrom_46 : decode cX3_takeFrom 46 = .ok (.iadd, 1) := by decide +kernel
theorem dX3_takeFrom_47 : decode cX3_takeFrom 47 = .ok (.aload_n 0, 1) := by decide +kernel
theorem dX3_takeFrom_48 : decode cX3_takeFrom 48 = .ok (.iload_n 1, 1) := by decide +kernel
theorem dX3_takeFrom_49 : decode cX3_takeFrom 49 = .ok (.iload 4, 2) := by decide +kernel
theorem dX3_takeFrom_51 : decode cX3_takeFrom 51 = .ok (.iconst 1, 1) := by decide +kernel
theorem dX3_takeFrom_52 : decode cX3_takeFrom 52 = .ok (.iadd, 1) := by decide +kernel
theorem dX3_takeFrom_53 : decode cX3_takeFrom 53 = .ok (.invokevirtual 98, 3) := by decide +kernel
theorem dX3_takeFrom_56 : decode cX3_takeFrom 56 = .ok (.iastore, 1) := by decide +kernel
theorem dX3_takeFrom_57 : decode cX3_takeFrom 57 = .ok (.aload_n 0, 1) := by decide +kernel
theorem dX3_takeFrom_58 : decode cX3_takeFrom 58 = .ok (.getfield 29, 3) := by decide +kernel
theorem dX3_takeFrom_61 : decode cX3_takeFrom 61 = .ok (.bipush 24, 2) := by decide +kernel
theorem dX3_takeFrom_63 : decode cX3_takeFrom 63 = .ok (.iload_n 1, 1) := by decide +kernel
theorem dX3_takeFrom_64 : decode cX3_takeFrom 64 = .ok (.imul, 1) := by decide +kernel
theorem dX3_takeFrom_65 : decode cX3_takeFrom 65 = .ok (.iload 4, 2) := by decide +kernel
theorem dX3_takeFrom_67 : decode cX3_takeFrom 67 = .ok (.iadd, 1) := by decide +kernel
theorem dX3_takeFrom_68 : decode cX3_takeFrom 68 = .ok (.aload_n 0, 1) := by decide +kernel
theorem dX3_takeFrom_69 : decode cX3_takeFrom 69 = .ok (.iload_n 1, 1) := by decide +kernel
theorem dX3_takeFrom_70 : decode cX3_takeFrom 70 = .ok (.iload 4, 2) := by decide +kernel
theorem dX3_takeFrom_72 : decode cX3_takeFrom 72 = .ok (.iconst 1, 1) := by decide +kernel
theorem dX3_takeFrom_73 : decode cX3_takeFrom 73 = .ok (.iadd, 1) := by decide +kernel
theorem dX3_takeFrom_74 : decode cX3_takeFrom 74 = .ok (.invokevirtual 101, 3) := by decide +kernel
theorem dX3_takeFrom_77 : decode cX3_takeFrom 77 = .ok (.iastore, 1) := by decide +kernel
theorem dX3_takeFrom_78 : decode cX3_takeFrom 78 = .ok (.iinc 4 1, 3) := by decide +kernel
theorem dX3_takeFrom_81 : decode cX3_takeFrom 81 = .ok (.goto (-56), 3) := by decide +kernel
theorem dX3_takeFrom_84 : decode cX3_takeFrom 84 = .ok (.return_, 1) := by decide +kernel
theorem dX3_pile_0 : decode cX3_pile 0 = .ok (.aload_n 0, 1) := by decide +kernel
theorem dX3_pile_1 : decode cX3_pile 1 = .ok (.getfield 54, 3) := by decide +kernel
theorem dX3_pile_4 : decode cX3_pile 4 = .ok (.aload_n 0, 1) := by decide +kernel
theorem dX3_pile_5 : decode cX3_pile 5 = .ok (.getfield 111, 3) := by decide +kernel
theorem dX3_pile_8 : decode cX3_pile 8 = .ok (.iload_n 1, 1) := by decide +kernel
theorem dX3_pile_9 : decode cX3_pile 9 = .ok (.iastore, 1) := by decide +kernel
theorem dX3_pile_10 : decode cX3_pile 10 = .ok (.aload_n 0, 1) := by decide +kernel
theorem dX3_pile_11 : decode cX3_pile 11 = .ok (.getfield 57, 3) := by decide +kernel
theorem dX3_pile_14 : decode cX3_pile 14 = .ok (.aload_n 0, 1) := by decide +kernel
theorem dX3_pile_15 : decode cX3_pile 15 = .ok (.getfield 111, 3) := by decide +kernel
theorem dX3_pile_18 : decode cX3_pile 18 = .ok (.iload_n 2, 1) := by decide +kernel
theorem dX3_pile_19 : decode cX3_pile 19 = .ok (.iastore, 1) := by decide +kernel
theorem dX3_pile_20 : decode cX3_pile 20 = .ok (.aload_n 0, 1) := by decide +kernel
theorem dX3_pile_21 : decode cX3_pile 21 = .ok (.getfield 60, 3) := by decide +kernel
theorem dX3_pile_24 : decode cX3_pile 24 = .ok (.aload_n 0, 1) := by decide +kernel
theorem dX3_pile_25 : decode cX3_pile 25 = .ok (.getfield 111, 3) := by decide +kernel
theorem dX3_pile_28 : decode cX3_pile 28 = .ok (.iload_n 3, 1) := by decide +kernel
theorem dX3_pile_29 : decode cX3_pile 29 = .ok (.iastore, 1) := by decide +kernel
theorem dX3_pile_30 : decode cX3_pile 30 = .ok (.aload_n 0, 1) := by decide +kernel
theorem dX3_pile_31 : decode cX3_pile 31 = .ok (.dup, 1) := by decide +kernel
theorem dX3_pile_32 : decode cX3_pile 32 = .ok (.getfield 111, 3) := by decide +kernel
theorem dX3_pile_35 : decode cX3_pile 35 = .ok (.iconst 1, 1) := by decide +kernel
theorem dX3_pile_36 : decode cX3_pile 36 = .ok (.iadd, 1) := by decide +kernel
theorem dX3_pile_37 : decode cX3_pile 37 = .ok (.putfield 111, 3) := by decide +kernel
theorem dX3_pile_40 : decode cX3_pile 40 = .ok (.return_, 1) := by decide +kernel
theorem dX3_isOneHash_0 : decode cX3_isOneHash 0 = .ok (.iconst 1, 1) := by decide +kernel
theorem dX3_isOneHash_1 : decode cX3_isOneHash 1 = .ok (.istore 4, 2) := by decide +kernel
theorem dX3_isOneHash_3 : decode cX3_isOneHash 3 = .ok (.iload_n 2, 1) := by decide +kernel
theorem dX3_isOneHash_4 : decode cX3_isOneHash 4 = .ok (.iconst 1, 1) := by decide +kernel
theorem dX3_isOneHash_5 : decode cX3_isOneHash 5 = .ok (.iadd, 1) := by decide +kernel
theorem dX3_isOneHash_6 : decode cX3_isOneHash 6 = .ok (.istore 5, 2) := by decide +kernel
theorem dX3_isOneHash_8 : decode cX3_isOneHash 8 = .ok (.iload 5, 2) := by decide +kernel
theorem dX3_isOneHash_10 : decode cX3_isOneHash 10 = .ok (.iload_n 3, 1) := by decide +kernel
theorem dX3_isOneHash_11 : decode cX3_isOneHash 11 = .ok (.if_icmp .ge 45, 3) := by decide +kernel
theorem dX3_isOneHash_14 : decode cX3_isOneHash 14 = .ok (.iload 4, 2) := by decide +kernel
theorem dX3_isOneHash_16 : decode cX3_isOneHash 16 = .ok (.ifCond .eq 31, 3) := by decide +kernel
theorem dX3_isOneHash_19 : decode cX3_isOneHash 19 = .ok (.aload_n 0, 1) := by decide +kernel
theorem dX3_isOneHash_20 : decode cX3_isOneHash 20 = .ok (.aload_n 0, 1) := by decide +kernel
theorem dX3_isOneHash_21 : decode cX3_isOneHash 21 = .ok (.iload_n 1, 1) := by decide +kernel
theorem dX3_isOneHash_22 : decode cX3_isOneHash 22 = .ok (.iload 5, 2) := by decide +kernel
theorem dX3_isOneHash_24 : decode cX3_isOneHash 24 = .ok (.invokevirtual 98, 3) := by decide +kernel
theorem dX3_isOneHash_27 : decode cX3_isOneHash 27 = .ok (.invokevirtual 85, 3) := by decide +kernel
theorem dX3_isOneHash_30 : decode cX3_isOneHash 30 = .ok (.aload_n 0, 1) := by decide +kernel
theorem dX3_isOneHash_31 : decode cX3_isOneHash 31 = .ok (.aload_n 0, 1) := by decide +kernel
theorem dX3_isOneHash_32 : decode cX3_isOneHash 32 = .ok (.iload_n 1, 1) := by decide +kernel
theorem dX3_isOneHash_33 : decode cX3_isOneHash 33 = .ok (.iload_n 2, 1) := by decide +kernel
theorem dX3_isOneHash_34 : decode cX3_isOneHash 34 = .ok (.invokevirtual 98, 3) := by decide +kernel
theorem dX3_isOneHash_37 : decode cX3_isOneHash 37 = .ok (.invokevirtual 85, 3) := by decide +kernel
theorem dX3_isOneHash_40 : decode cX3_isOneHash 40 = .ok (.if_icmp .ne 7, 3) := by decide +kernel
theorem dX3_isOneHash_43 : decode cX3_isOneHash 43 = .ok (.iconst 1, 1) := by decide +kernel
theorem dX3_isOneHash_44 : decode cX3_isOneHash 44 = .ok (.goto 4, 3) := by decide +kernel
theorem dX3_isOneHash_47 : decode cX3_isOneHash 47 = .ok (.iconst 0, 1) := by decide +kernel
theorem dX3_isOneHash_48 : decode cX3_isOneHash 48 = .ok (.istore 4, 2) := by decide +kernel
theorem dX3_isOneHash_50 : decode cX3_isOneHash 50 = .ok (.iinc 5 1, 3) := by decide +kernel
theorem dX3_isOneHash_53 : decode cX3_isOneHash 53 = .ok (.goto (-45), 3) := by decide +kernel
theorem dX3_isOneHash_56 : decode cX3_isOneHash 56 = .ok (.iload 4, 2) := by decide +kernel
theorem dX3_isOneHash_58 : decode cX3_isOneHash 58 = .ok (.ireturn, 1) := by decide +kernel
theorem dX3_partAt_0 : decode cX3_partAt 0 = .ok (.aload_n 0, 1) := by decide +kernel
theorem dX3_partAt_1 : decode cX3_partAt 1 = .ok (.aload_n 0, 1) := by decide +kernel
theorem dX3_partAt_2 : decode cX3_partAt 2 = .ok (.iload_n 1, 1) := by decide +kernel
theorem dX3_partAt_3 : decode cX3_partAt 3 = .ok (.iload_n 2, 1) := by decide +kernel
theorem dX3_partAt_4 : decode cX3_partAt 4 = .ok (.invokevirtual 98, 3) := by decide +kernel
theorem dX3_partAt_7 : decode cX3_partAt 7 = .ok (.invokevirtual 85, 3) := by decide +kernel
theorem dX3_partAt_10 : decode cX3_partAt 10 = .ok (.iload_n 3, 1) := by decide +kernel
theorem dX3_partAt_11 : decode cX3_partAt 11 = .ok (.invokestatic 94, 3) := by decide +kernel
theorem dX3_partAt_14 : decode cX3_partAt 14 = .ok (.ireturn, 1) := by decide +kernel
theorem dX3_layNodes_0 : decode cX3_layNodes 0 = .ok (.aload_n 0, 1) := by decide +kernel
theorem dX3_layNodes_1 : decode cX3_layNodes 1 = .ok (.getfield 32, 3) := by decide +kernel
theorem dX3_layNodes_4 : decode cX3_layNodes 4 = .ok (.iload_n 1, 1) := by decide +kernel
theorem dX3_layNodes_5 : decode cX3_layNodes 5 = .ok (.iconst 0, 1) := by decide +kernel
theorem dX3_layNodes_6 : decode cX3_layNodes 6 = .ok (.iastore, 1) := by decide +kernel
theorem dX3_layNodes_7 : decode cX3_layNodes 7 = .ok (.aload_n 0, 1) := by decide +kernel
theorem dX3_layNodes_8 : decode cX3_layNodes 8 = .ok (.iconst 0, 1) := by decide +kernel
theorem dX3_layNodes_9 : decode cX3_layNodes 9 = .ok (.putfield 111, 3) := by decide +kernel
theorem dX3_layNodes_12 : decode cX3_layNodes 12 = .ok (.aload_n 0, 1) := by decide +kernel
theorem dX3_layNodes_13 : decode cX3_layNodes 13 = .ok (.getfield 23, 3) := by decide +kernel
theorem dX3_layNodes_16 : decode cX3_layNodes 16 = .ok (.iload_n 1, 1) := by decide +kernel
theorem dX3_layNodes_17 : decode cX3_layNodes 17 = .ok (.iaload, 1) := by decide +kernel
theorem dX3_layNodes_18 : decode cX3_layNodes 18 = .ok (.ifCond .le 15, 3) := by decide +kernel
theorem dX3_layNodes_21 : decode cX3_layNodes 21 = .ok (.aload_n 0, 1) := by decide +kernel
theorem dX3_layNodes_22 : decode cX3_layNodes 22 = .ok (.iconst 0, 1) := by decide +kernel
theorem dX3_layNodes_23 : decode cX3_layNodes 23 = .ok (.aload_n 0, 1) := by decide +kernel
theorem dX3_layNodes_24 : decode cX3_layNodes 24 = .ok (.getfield 23, 3) := by decide +kernel
theorem dX3_layNodes_27 : decode cX3_layNodes 27 = .ok (.iload_n 1, 1) := by decide +kernel
theorem dX3_layNodes_28 : decode cX3_layNodes 28 = .ok (.iaload, 1) := by decide +kernel
theorem dX3_layNodes_29 : decode cX3_layNodes 29 = .ok (.iconst 0, 1) := by decide +kernel
theorem dX3_layNodes_30 : decode cX3_layNodes 30 = .ok (.invokevirtual 114, 3) := by decide +kernel
theorem dX3_layNodes_33 : decode cX3_layNodes 33 = .ok (.aload_n 0, 1) := by decide +kernel
theorem dX3_layNodes_34 : decode cX3_layNodes 34 = .ok (.getfield 111, 3) := by decide +kernel
theorem dX3_layNodes_37 : decode cX3_layNodes 37 = .ok (.ifCond .le 48, 3) := by decide +kernel
theorem dX3_layNodes_40 : decode cX3_layNodes 40 = .ok (.aload_n 0, 1) := by decide +kernel
theorem dX3_layNodes_41 : decode cX3_layNodes 41 = .ok (.dup, 1) := by decide +kernel
theorem dX3_layNodes_42 : decode cX3_layNodes 42 = .ok (.getfield 111, 3) := by decide +kernel
theorem dX3_layNodes_45 : decode cX3_layNodes 45 = .ok (.iconst 1, 1) := by decide +kernel
theorem dX3_layNodes_46 : decode cX3_layNodes 46 = .ok (.isub, 1) := by decide +kernel
theorem dX3_layNodes_47 : decode cX3_layNodes 47 = .ok (.putfield 111, 3) := by decide +kernel
theorem dX3_layNodes_50 : decode cX3_layNodes 50 = .ok (.aload_n 0, 1) := by decide +kernel
theorem dX3_layNodes_51 : decode cX3_layNodes 51 = .ok (.iload_n 1, 1) := by decide +kernel
theorem dX3_layNodes_52 : decode cX3_layNodes 52 = .ok (.aload_n 0, 1) := by decide +kernel
theorem dX3_layNodes_53 : decode cX3_layNodes 53 = .ok (.getfield 54, 3) := by decide +kernel
theorem dX3_layNodes_56 : decode cX3_layNodes 56 = .ok (.aload_n 0, 1) := by decide +kernel
theorem dX3_layNodes_57 : decode cX3_layNodes 57 = .ok (.getfield 111, 3) := by decide +kernel
theorem dX3_layNodes_60 : decode cX3_layNodes 60 = .ok (.iaload, 1) := by decide +kernel
theorem dX3_layNodes_61 : decode cX3_layNodes 61 = .ok (.aload_n 0, 1) := by decide +kernel
theorem dX3_layNodes_62 : decode cX3_layNodes 62 = .ok (.getfield 57, 3) := by decide +kernel
theorem dX3_layNodes_65 : decode cX3_layNodes 65 = .ok (.aload_n 0, 1) := by decide +kernel
theorem dX3_layNodes_66 : decode cX3_layNodes 66 = .ok (.getfield 111, 3) := by decide +kernel
theorem dX3_layNodes_69 : decode cX3_layNodes 69 = .ok (.iaload, 1) := by decide +kernel
theorem dX3_layNodes_70 : decode cX3_layNodes 70 = .ok (.aload_n 0, 1) := by decide +kernel
theorem dX3_layNodes_71 : decode cX3_layNodes 71 = .ok (.getfield 60, 3) := by decide +kernel
theorem dX3_layNodes_74 : decode cX3_layNodes 74 = .ok (.aload_n 0, 1) := by decide +kernel
theorem dX3_layNodes_75 : decode cX3_layNodes 75 = .ok (.getfield 111, 3) := by decide +kernel
theorem dX3_layNodes_78 : decode cX3_layNodes 78 = .ok (.iaload, 1) := by decide +kernel
theorem dX3_layNodes_79 : decode cX3_layNodes 79 = .ok (.invokevirtual 118, 3) := by decide +kernel
theorem dX3_layNodes_82 : decode cX3_layNodes 82 = .ok (.goto (-49), 3) := by decide +kernel
theorem dX3_layNodes_85 : decode cX3_layNodes 85 = .ok (.return_, 1) := by decide +kernel
theorem dX3_layNode_0 : decode cX3_layNode 0 = .ok (.bipush 96, 2) := by decide +kernel
theorem dX3_layNode_2 : decode cX3_layNode 2 = .ok (.iload_n 1, 1) := by decide +kernel
theorem dX3_layNode_3 : decode cX3_layNode 3 = .ok (.imul, 1) := by decide +kernel
theorem dX3_layNode_4 : decode cX3_layNode 4 = .ok (.aload_n 0, 1) := by decide +kernel
theorem dX3_layNode_5 : decode cX3_layNode 5 = .ok (.getfield 32, 3) := by decide +kernel
theorem dX3_layNode_8 : decode cX3_layNode 8 = .ok (.iload_n 1, 1) := by decide +kernel
theorem dX3_layNode_9 : decode cX3_layNode 9 = .ok (.iaload, 1) := by decide +kernel
theorem dX3_layNode_10 : decode cX3_layNode 10 = .ok (.iadd, 1) := by decide +kernel
theorem dX3_layNode_11 : decode cX3_layNode 11 = .ok (.istore 5, 2) := by decide +kernel
theorem dX3_layNode_13 : decode cX3_layNode 13 = .ok (.aload_n 0, 1) := by decide +kernel
theorem dX3_layNode_14 : decode cX3_layNode 14 = .ok (.getfield 35, 3) := by decide +kernel
theorem dX3_layNode_17 : decode cX3_layNode 17 = .ok (.iload 5, 2) := by decide +kernel
theorem dX3_layNode_19 : decode cX3_layNode 19 = .ok (.iload_n 3, 1) := by decide +kernel
theorem dX3_layNode_20 : decode cX3_layNode 20 = .ok (.iload_n 2, 1) := by decide +kernel
theorem dX3_layNode_21 : decode cX3_layNode 21 = .ok (.isub, 1) := by decide +kernel
theorem dX3_layNode_22 : decode cX3_layNode 22 = .ok (.iconst 1, 1) := by decide +kernel
theorem dX3_layNode_23 : decode cX3_layNode 23 = .ok (.if_icmp .ne 7, 3) := by decide +kernel
theorem dX3_layNode_26 : decode cX3_layNode 26 = .ok (.iconst 0, 1) := by decide +kernel
theorem dX3_layNode_27 : decode cX3_layNode 27 = .ok (.goto 18, 3) := by decide +kernel
theorem dX3_layNode_30 : decode cX3_layNode 30 = .ok (.aload_n 0, 1) := by decide +kernel
theorem dX3_layNode_31 : decode cX3_layNode 31 = .ok (.iload_n 1, 1) := by decide +kernel
theorem dX3_layNode_32 : decode cX3_layNode 32 = .ok (.iload_n 2, 1) := by decide +kernel
theorem dX3_layNode_33 : decode cX3_layNode 33 = .ok (.iload_n 3, 1) := by decide +kernel
theorem dX3_layNode_34 : decode cX3_layNode 34 = .ok (.invokevirtual 122, 3) := by decide +kernel
theorem dX3_layNode_37 : decode cX3_layNode 37 = .ok (.ifCond .eq 7, 3) := by decide +kernel
theorem dX3_layNode_40 : decode cX3_layNode 40 = .ok (.iconst 1, 1) := by decide +kernel
theorem dX3_layNode_41 : decode cX3_layNode 41 = .ok (.goto 4, 3) := by decide +kernel
theorem dX3_layNode_44 : decode cX3_layNode 44 = .ok (.iconst 2, 1) := by decide +kernel
theorem dX3_layNode_45 : decode cX3_layNode 45 = .ok (.iastore, 1) := by decide +kernel
theorem dX3_layNode_46 : decode cX3_layNode 46 = .ok (.aload_n 0, 1) := by decide +kernel
theorem dX3_layNode_47 : decode cX3_layNode 47 = .ok (.getfield 38, 3) := by decide +kernel
theorem dX3_layNode_50 : decode cX3_layNode 50 = .ok (.iload 5, 2) := by decide +kernel
theorem dX3_layNode_52 : decode cX3_layNode 52 = .ok (.iload 4, 2) := by decide +kernel
theorem dX3_layNode_54 : decode cX3_layNode 54 = .ok (.iastore, 1) := by decide +kernel
theorem dX3_layNode_55 : decode cX3_layNode 55 = .ok (.aload_n 0, 1) := by decide +kernel
theorem dX3_layNode_56 : decode cX3_layNode 56 = .ok (.getfield 41, 3) := by decide +kernel
theorem dX3_layNode_59 : decode cX3_layNode 59 = .ok (.iload 5, 2) := by decide +kernel
theorem dX3_layNode_61 : decode cX3_layNode 61 = .ok (.iload_n 2, 1) := by decide +kernel
theorem dX3_layNode_62 : decode cX3_layNode 62 = .ok (.iastore, 1) := by decide +kernel
theorem dX3_layNode_63 : decode cX3_layNode 63 = .ok (.aload_n 0, 1) := by decide +kernel
theorem dX3_layNode_64 : decode cX3_layNode 64 = .ok (.getfield 44, 3) := by decide +kernel
theorem dX3_layNode_67 : decode cX3_layNode 67 = .ok (.iload 5, 2) := by decide +kernel
theorem dX3_layNode_69 : decode cX3_layNode 69 = .ok (.iload_n 3, 1) := by decide +kernel
theorem dX3_layNode_70 : decode cX3_layNode 70 = .ok (.iload_n 2, 1) := by decide +kernel
theorem dX3_layNode_71 : decode cX3_layNode 71 = .ok (.isub, 1) := by decide +kernel
theorem dX3_layNode_72 : decode cX3_layNode 72 = .ok (.iastore, 1) := by decide +kernel
theorem dX3_layNode_73 : decode cX3_layNode 73 = .ok (.aload_n 0, 1) := by decide +kernel
theorem dX3_layNode_74 : decode cX3_layNode 74 = .ok (.getfield 47, 3) := by decide +kernel
theorem dX3_layNode_77 : decode cX3_layNode 77 = .ok (.iload 5, 2) := by decide +kernel
theorem dX3_layNode_79 : decode cX3_layNode 79 = .ok (.iconst (-1), 1) := by decide +kernel
theorem dX3_layNode_80 : decode cX3_layNode 80 = .ok (.iastore, 1) := by decide +kernel
theorem dX3_layNode_81 : decode cX3_layNode 81 = .ok (.aload_n 0, 1) := by decide +kernel
theorem dX3_layNode_82 : decode cX3_layNode 82 = .ok (.getfield 50, 3) := by decide +kernel
theorem dX3_layNode_85 : decode cX3_layNode 85 = .ok (.iload 5, 2) := by decide +kernel
theorem dX3_layNode_87 : decode cX3_layNode 87 = .ok (.iconst 0, 1) := by decide +kernel
theorem dX3_layNode_88 : decode cX3_layNode 88 = .ok (.bastore, 1) := by decide +kernel
theorem dX3_layNode_89 : decode cX3_layNode 89 = .ok (.aload_n 0, 1) := by decide +kernel
theorem dX3_layNode_90 : decode cX3_layNode 90 = .ok (.getfield 32, 3) := by decide +kernel
theorem dX3_layNode_93 : decode cX3_layNode 93 = .ok (.iload_n 1, 1) := by decide +kernel
theorem dX3_layNode_94 : decode cX3_layNode 94 = .ok (.dup2, 1) := by decide +kernel
theorem dX3_layNode_95 : decode cX3_layNode 95 = .ok (.iaload, 1) := by decide +kernel
theorem dX3_layNode_96 : decode cX3_layNode 96 = .ok (.iconst 1, 1) := by decide +kernel
theorem dX3_layNode_97 : decode cX3_layNode 97 = .ok (.iadd, 1) := by decide +kernel
theorem dX3_layNode_98 : decode cX3_layNode 98 = .ok (.iastore, 1) := by decide +kernel
theorem dX3_layNode_99 : decode cX3_layNode 99 = .ok (.aload_n 0, 1) := by decide +kernel
theorem dX3_layNode_100 : decode cX3_layNode 100 = .ok (.getfield 35, 3) := by decide +kernel
theorem dX3_layNode_103 : decode cX3_layNode 103 = .ok (.iload 5, 2) := by decide +kernel
theorem dX3_layNode_105 : decode cX3_layNode 105 = .ok (.iaload, 1) := by decide +kernel
theorem dX3_layNode_106 : decode cX3_layNode 106 = .ok (.iconst 2, 1) := by decide +kernel
theorem dX3_layNode_107 : decode cX3_layNode 107 = .ok (.if_icmp .ne 74, 3) := by decide +kernel
theorem dX3_layNode_110 : decode cX3_layNode 110 = .ok (.iload_n 3, 1) := by decide +kernel
theorem dX3_layNode_111 : decode cX3_layNode 111 = .ok (.istore 6, 2) := by decide +kernel
theorem dX3_layNode_113 : decode cX3_layNode 113 = .ok (.iload 6, 2) := by decide +kernel
theorem dX3_layNode_115 : decode cX3_layNode 115 = .ok (.iload_n 2, 1) := by decide +kernel
theorem dX3_layNode_116 : decode cX3_layNode 116 = .ok (.if_icmp .le 65, 3) := by decide +kernel
theorem dX3_layNode_119 : decode cX3_layNode 119 = .ok (.iload 6, 2) := by decide +kernel
theorem dX3_layNode_121 : decode cX3_layNode 121 = .ok (.iconst 1, 1) := by decide +kernel
theorem dX3_layNode_122 : decode cX3_layNode 122 = .ok (.isub, 1) := by decide +kernel
theorem dX3_layNode_123 : decode cX3_layNode 123 = .ok (.istore 7, 2) := by decide +kernel
theorem dX3_layNode_125 : decode cX3_layNode 125 = .ok (.iload 7, 2) := by decide +kernel
theorem dX3_layNode_127 : decode cX3_layNode 127 = .ok (.iload_n 2, 1) := by decide +kernel
theorem dX3_layNode_128 : decode cX3_layNode 128 = .ok (.if_icmp .le 34, 3) := by decide +kernel
theorem dX3_layNode_131 : decode cX3_layNode 131 = .ok (.aload_n 0, 1) := by decide +kernel
theorem dX3_layNode_132 : decode cX3_layNode 132 = .ok (.iload_n 1, 1) := by decide +kernel
theorem dX3_layNode_133 : decode cX3_layNode 133 = .ok (.iload 7, 2) := by decide +kernel
theorem dX3_layNode_135 : decode cX3_layNode 135 = .ok (.iconst 1, 1) := by decide +kernel
theorem dX3_layNode_136 : decode cX3_layNode 136 = .ok (.isub, 1) := by decide +kernel
theorem dX3_layNode_137 : decode cX3_layNode 137 = .ok (.iload 4, 2) := by decide +kernel
theorem dX3_layNode_139 : decode cX3_layNode 139 = .ok (.invokevirtual 125, 3) := by decide +kernel
theorem dX3_layNode_142 : decode cX3_layNode 142 = .ok (.aload_n 0, 1) := by decide +kernel
theorem dX3_layNode_143 : decode cX3_layNode 143 = .ok (.iload_n 1, 1) := by decide +kernel
theorem dX3_layNode_144 : decode cX3_layNode 144 = .ok (.iload 6, 2) := by decide +kernel
theorem dX3_layNode_146 : decode cX3_layNode 146 = .ok (.iconst 1, 1) := by decide +kernel
theorem dX3_layNode_147 : decode cX3_layNode 147 = .ok (.isub, 1) := by decide +kernel
theorem dX3_layNode_148 : decode cX3_layNode 148 = .ok (.iload 4, 2) := by decide +kernel
theorem dX3_layNode_150 : decode cX3_layNode 150 = .ok (.invokevirtual 125, 3) := by decide +kernel
theorem dX3_layNode_153 : decode cX3_layNode 153 = .ok (.if_icmp .ne 9, 3) := by decide +kernel
theorem dX3_layNode_156 : decode cX3_layNode 156 = .ok (.iinc 7 (-1), 3) := by decide +kernel
theorem dX3_layNode_159 : decode cX3_layNode 159 = .ok (.goto (-34), 3) := by decide +kernel
theorem dX3_layNode_162 : decode cX3_layNode 162 = .ok (.aload_n 0, 1) := by decide +kernel
theorem dX3_layNode_163 : decode cX3_layNode 163 = .ok (.iload 7, 2) := by decide +kernel
theorem dX3_layNode_165 : decode cX3_layNode 165 = .ok (.iload 6, 2) := by decide +kernel
theorem dX3_layNode_167 : decode cX3_layNode 167 = .ok (.iload 4, 2) := by decide +kernel
theorem dX3_layNode_169 : decode cX3_layNode 169 = .ok (.iconst 1, 1) := by decide +kernel
theorem dX3_layNode_170 : decode cX3_layNode 170 = .ok (.iadd, 1) := by decide +kernel
theorem dX3_layNode_171 : decode cX3_layNode 171 = .ok (.invokevirtual 114, 3) := by decide +kernel
theorem dX3_layNode_174 : decode cX3_layNode 174 = .ok (.iload 7, 2) := by decide +kernel
theorem dX3_layNode_176 : decode cX3_layNode 176 = .ok (.istore 6, 2) := by decide +kernel
theorem dX3_layNode_178 : decode cX3_layNode 178 = .ok (.goto (-65), 3) := by decide +kernel
theorem dX3_layNode_181 : decode cX3_layNode 181 = .ok (.return_, 1) := by decide +kernel
theorem dX3_widthOf_0 : decode cX3_widthOf 0 = .ok (.aload_n 0, 1) := by decide +kernel
theorem dX3_widthOf_1 : decode cX3_widthOf 1 = .ok (.getfield 41, 3) := by decide +kernel
theorem dX3_widthOf_4 : decode cX3_widthOf 4 = .ok (.bipush 96, 2) := by decide +kernel
theorem dX3_widthOf_6 : decode cX3_widthOf 6 = .ok (.iload_n 1, 1) := by decide +kernel
theorem dX3_widthOf_7 : decode cX3_widthOf 7 = .ok (.imul, 1) := by decide +kernel
theorem dX3_widthOf_8 : decode cX3_widthOf 8 = .ok (.iload_n 2, 1) := by decide +kernel
theorem dX3_widthOf_9 : decode cX3_widthOf 9 = .ok (.iadd, 1) := by decide +kernel
theorem dX3_widthOf_10 : decode cX3_widthOf 10 = .ok (.iaload, 1) := by decide +kernel
theorem dX3_widthOf_11 : decode cX3_widthOf 11 = .ok (.aload_n 0, 1) := by decide +kernel
theorem dX3_widthOf_12 : decode cX3_widthOf 12 = .ok (.getfield 44, 3) := by decide +kernel
theorem dX3_widthOf_15 : decode cX3_widthOf 15 = .ok (.bipush 96, 2) := by decide +kernel
theorem dX3_widthOf_17 : decode cX3_widthOf 17 = .ok (.iload_n 1, 1) := by decide +kernel
theorem dX3_widthOf_18 : decode cX3_widthOf 18 = .ok (.imul, 1) := by decide +kernel
theorem dX3_widthOf_19 : decode cX3_widthOf 19 = .ok (.iload_n 2, 1) := by decide +kernel
theorem dX3_widthOf_20 : decode cX3_widthOf 20 = .ok (.iadd, 1) := by decide +kernel
theorem dX3_widthOf_21 : decode cX3_widthOf 21 = .ok (.iaload, 1) := by decide +kernel
theorem dX3_widthOf_22 : decode cX3_widthOf 22 = .ok (.iadd, 1) := by decide +kernel
theorem dX3_widthOf_23 : decode cX3_widthOf 23 = .ok (.istore_n 3, 1) := by decide +kernel
theorem dX3_widthOf_24 : decode cX3_widthOf 24 = .ok (.iload_n 2, 1) := by decide +kernel
theorem dX3_widthOf_25 : decode cX3_widthOf 25 = .ok (.iconst 1, 1) := by decide +kernel
theorem dX3_widthOf_26 : decode cX3_widthOf 26 = .ok (.iadd, 1) := by decide +kernel
theorem dX3_widthOf_27 : decode cX3_widthOf 27 = .ok (.istore 4, 2) := by decide +kernel
theorem dX3_widthOf_29 : decode cX3_widthOf 29 = .ok (.iload 4, 2) := by decide +kernel
theorem dX3_widthOf_31 : decode cX3_widthOf 31 = .ok (.aload_n 0, 1) := by decide +kernel
theorem dX3_widthOf_32 : decode cX3_widthOf 32 = .ok (.getfield 32, 3) := by decide +kernel
theorem dX3_widthOf_35 : decode cX3_widthOf 35 = .ok (.iload_n 1, 1) := by decide +kernel
theorem dX3_widthOf_36 : decode cX3_widthOf 36 = .ok (.iaload, 1) := by decide +kernel
theorem dX3_widthOf_37 : decode cX3_widthOf 37 = .ok (.if_icmp .ge 25, 3) := by decide +kernel
theorem dX3_widthOf_40 : decode cX3_widthOf 40 = .ok (.aload_n 0, 1) := by decide +kernel
theorem dX3_widthOf_41 : decode cX3_widthOf 41 = .ok (.getfield 41, 3) := by decide +kernel
theorem dX3_widthOf_44 : decode cX3_widthOf 44 = .ok (.bipush 96, 2) := by decide +kernel
theorem dX3_widthOf_46 : decode cX3_widthOf 46 = .ok (.iload_n 1, 1) := by decide +kernel
theorem dX3_widthOf_47 : decode cX3_widthOf 47 = .ok (.imul, 1) := by decide +kernel
theorem dX3_widthOf_48 : decode cX3_widthOf 48 = .ok (.iload 4, 2) := by decide +kernel
theorem dX3_widthOf_50 : decode cX3_widthOf 50 = .ok (.iadd, 1) := by decide +kernel
theorem dX3_widthOf_51 : decode cX3_widthOf 51 = .ok (.iaload, 1) := by decide +kernel
theorem dX3_widthOf_52 : decode cX3_widthOf 52 = .ok (.iload_n 3, 1) := by decide +kernel
theorem dX3_widthOf_53 : decode cX3_widthOf 53 = .ok (.if_icmp .ge 9, 3) := by decide +kernel
theorem dX3_widthOf_56 : decode cX3_widthOf 56 = .ok (.iinc 4 1, 3) := by decide +kernel
theorem dX3_widthOf_59 : decode cX3_widthOf 59 = .ok (.goto (-30), 3) := by decide +kernel
theorem dX3_widthOf_62 : decode cX3_widthOf 62 = .ok (.iload 4, 2) := by decide +kernel
theorem dX3_widthOf_64 : decode cX3_widthOf 64 = .ok (.iload_n 2, 1) := by decide +kernel
theorem dX3_widthOf_65 : decode cX3_widthOf 65 = .ok (.isub, 1) := by decide +kernel
theorem dX3_widthOf_66 : decode cX3_widthOf 66 = .ok (.ireturn, 1) := by decide +kernel
theorem dX3_isLike_0 : decode cX3_isLike 0 = .ok (.bipush 96, 2) := by decide +kernel
theorem dX3_isLike_2 : decode cX3_isLike 2 = .ok (.iload_n 1, 1) := by decide +kernel
theorem dX3_isLike_3 : decode cX3_isLike 3 = .ok (.imul, 1) := by decide +kernel
theorem dX3_isLike_4 : decode cX3_isLike 4 = .ok (.iload_n 2, 1) := by decide +kernel
theorem dX3_isLike_5 : decode cX3_isLike 5 = .ok (.iadd, 1) := by decide +kernel
theorem dX3_isLike_6 : decode cX3_isLike 6 = .ok (.istore 5, 2) := by decide +kernel
theorem dX3_isLike_8 : decode cX3_isLike 8 = .ok (.bipush 96, 2) := by decide +kernel
theorem dX3_isLike_10 : decode cX3_isLike 10 = .ok (.iload_n 3, 1) := by decide +kernel
theorem dX3_isLike_11 : decode cX3_isLike 11 = .ok (.imul, 1) := by decide +kernel
theorem dX3_isLike_12 : decode cX3_isLike 12 = .ok (.iload 4, 2) := by decide +kernel
theorem dX3_isLike_14 : decode cX3_isLike 14 = .ok (.iadd, 1) := by decide +kernel
theorem dX3_isLike_15 : decode cX3_isLike 15 = .ok (.istore 6, 2) := by decide +kernel
theorem dX3_isLike_17 : decode cX3_isLike 17 = .ok (.aload_n 0, 1) := by decide +kernel
theorem dX3_isLike_18 : decode cX3_isLike 18 = .ok (.getfield 35, 3) := by decide +kernel
theorem dX3_isLike_21 : decode cX3_isLike 21 = .ok (.iload 5, 2) := by decide +kernel
theorem dX3_isLike_23 : decode cX3_isLike 23 = .ok (.iaload, 1) := by decide +kernel
theorem dX3_isLike_24 : decode cX3_isLike 24 = .ok (.aload_n 0, 1) := by decide +kernel
theorem dX3_isLike_25 : decode cX3_isLike 25 = .ok (.getfield 35, 3) := by decide +kernel
theorem dX3_isLike_28 : decode cX3_isLike 28 = .ok (.iload 6, 2) := by decide +kernel
theorem dX3_isLike_30 : decode cX3_isLike 30 = .ok (.iaload, 1) := by decide +kernel
theorem dX3_isLike_31 : decode cX3_isLike 31 = .ok (.if_icmp .ne 52, 3) := by decide +kernel
theorem dX3_isLike_34 : decode cX3_isLike 34 = .ok (.aload_n 0, 1) := by decide +kernel
theorem dX3_isLike_35 : decode cX3_isLike 35 = .ok (.getfield 44, 3) := by decide +kernel
theorem dX3_isLike_38 : decode cX3_isLike 38 = .ok (.iload 5, 2) := by decide +kernel
theorem dX3_isLike_40 : decode cX3_isLike 40 = .ok (.iaload, 1) := by decide +kernel
theorem dX3_isLike_41 : decode cX3_isLike 41 = .ok (.aload_n 0, 1) := by decide +kernel
theorem dX3_isLike_42 : decode cX3_isLike 42 = .ok (.getfield 44, 3) := by decide +kernel
theorem dX3_isLike_45 : decode cX3_isLike 45 = .ok (.iload 6, 2) := by decide +kernel
theorem dX3_isLike_47 : decode cX3_isLike 47 = .ok (.iaload, 1) := by decide +kernel
theorem dX3_isLike_48 : decode cX3_isLike 48 = .ok (.if_icmp .ne 35, 3) := by decide +kernel
theorem dX3_isLike_51 : decode cX3_isLike 51 = .ok (.aload_n 0, 1) := by decide +kernel
theorem dX3_isLike_52 : decode cX3_isLike 52 = .ok (.getfield 35, 3) := by decide +kernel
theorem dX3_isLike_55 : decode cX3_isLike 55 = .ok (.iload 5, 2) := by decide +kernel
theorem dX3_isLike_57 : decode cX3_isLike 57 = .ok (.iaload, 1) := by decide +kernel
theorem dX3_isLike_58 : decode cX3_isLike 58 = .ok (.iconst 2, 1) := by decide +kernel
theorem dX3_isLike_59 : decode cX3_isLike 59 = .ok (.if_icmp .ne 20, 3) := by decide +kernel
theorem dX3_isLike_62 : decode cX3_isLike 62 = .ok (.aload_n 0, 1) := by decide +kernel
theorem dX3_isLike_63 : decode cX3_isLike 63 = .ok (.getfield 38, 3) := by decide +kernel
theorem dX3_isLike_66 : decode cX3_isLike 66 = .ok (.iload 5, 2) := by decide +kernel
theorem dX3_isLike_68 : decode cX3_isLike 68 = .ok (.iaload, 1) := by decide +kernel
theorem dX3_isLike_69 : decode cX3_isLike 69 = .ok (.aload_n 0, 1) := by decide +kernel
theorem dX3_isLike_70 : decode cX3_isLike 70 = .ok (.getfield 38, 3) := by decide +kernel
theorem dX3_isLike_73 : decode cX3_isLike 73 = .ok (.iload 6, 2) := by decide +kernel
theorem dX3_isLike_75 : decode cX3_isLike 75 = .ok (.iaload, 1) := by decide +kernel
theorem dX3_isLike_76 : decode cX3_isLike 76 = .ok (.if_icmp .ne 7, 3) := by decide +kernel
theorem dX3_isLike_79 : decode cX3_isLike 79 = .ok (.iconst 1, 1) := by decide +kernel
theorem dX3_isLike_80 : decode cX3_isLike 80 = .ok (.goto 4, 3) := by decide +kernel
theorem dX3_isLike_83 : decode cX3_isLike 83 = .ok (.iconst 0, 1) := by decide +kernel
theorem dX3_isLike_84 : decode cX3_isLike 84 = .ok (.istore 7, 2) := by decide +kernel
theorem dX3_isLike_86 : decode cX3_isLike 86 = .ok (.iconst 0, 1) := by decide +kernel
theorem dX3_isLike_87 : decode cX3_isLike 87 = .ok (.istore 8, 2) := by decide +kernel
theorem dX3_isLike_89 : decode cX3_isLike 89 = .ok (.iload 8, 2) := by decide +kernel
theorem dX3_isLike_91 : decode cX3_isLike 91 = .ok (.aload_n 0, 1) := by decide +kernel
theorem dX3_isLike_92 : decode cX3_isLike 92 = .ok (.getfield 44, 3) := by decide +kernel
theorem dX3_isLike_95 : decode cX3_isLike 95 = .ok (.iload 5, 2) := by decide +kernel
theorem dX3_isLike_97 : decode cX3_isLike 97 = .ok (.iaload, 1) := by decide +kernel
theorem dX3_isLike_98 : decode cX3_isLike 98 = .ok (.if_icmp .ge 87, 3) := by decide +kernel
theorem dX3_isLike_101 : decode cX3_isLike 101 = .ok (.iload 7, 2) := by decide +kernel
theorem dX3_isLike_103 : decode cX3_isLike 103 = .ok (.ifCond .eq 82, 3) := by decide +kernel
theorem dX3_isLike_106 : decode cX3_isLike 106 = .ok (.aload_n 0, 1) := by decide +kernel
theorem dX3_isLike_107 : decode cX3_isLike 107 = .ok (.iload_n 1, 1) := by decide +kernel
theorem dX3_isLike_108 : decode cX3_isLike 108 = .ok (.aload_n 0, 1) := by decide +kernel
theorem dX3_isLike_109 : decode cX3_isLike 109 = .ok (.getfield 41, 3) := by decide +kernel
theorem dX3_isLike_112 : decode cX3_isLike 112 = .ok (.iload 5, 2) := by decide +kernel
theorem dX3_isLike_114 : decode cX3_isLike 114 = .ok (.iaload, 1) := by decide +kernel
theorem dX3_isLike_115 : decode cX3_isLike 115 = .ok (.iload 8, 2) := by decide +kernel
theorem dX3_isLike_117 : decode cX3_isLike 117 = .ok (.iadd, 1) := by decide +kernel
theorem dX3_isLike_118 : decode cX3_isLike 118 = .ok (.invokevirtual 98, 3) := by decide +kernel
theorem dX3_isLike_121 : decode cX3_isLike 121 = .ok (.aload_n 0, 1) := by decide +kernel
theorem dX3_isLike_122 : decode cX3_isLike 122 = .ok (.iload_n 3, 1) := by decide +kernel
theorem dX3_isLike_123 : decode cX3_isLike 123 = .ok (.aload_n 0, 1) := by decide +kernel
theorem dX3_isLike_124 : decode cX3_isLike 124 = .ok (.getfield 41, 3) := by decide +kernel
theorem dX3_isLike_127 : decode cX3_isLike 127 = .ok (.iload 6, 2) := by decide +kernel
theorem dX3_isLike_129 : decode cX3_isLike 129 = .ok (.iaload, 1) := by decide +kernel
theorem dX3_isLike_130 : decode cX3_isLike 130 = .ok (.iload 8, 2) := by decide +kernel
theorem dX3_isLike_132 : decode cX3_isLike 132 = .ok (.iadd, 1) := by decide +kernel
theorem dX3_isLike_133 : decode cX3_isLike 133 = .ok (.invokevirtual 98, 3) := by decide +kernel
theorem dX3_isLike_136 : decode cX3_isLike 136 = .ok (.if_icmp .ne 40, 3) := by decide +kernel
theorem dX3_isLike_139 : decode cX3_isLike 139 = .ok (.aload_n 0, 1) := by decide +kernel
theorem dX3_isLike_140 : decode cX3_isLike 140 = .ok (.iload_n 1, 1) := by decide +kernel
theorem dX3_isLike_141 : decode cX3_isLike 141 = .ok (.aload_n 0, 1) := by decide +kernel
theorem dX3_isLike_142 : decode cX3_isLike 142 = .ok (.getfield 41, 3) := by decide +kernel
theorem dX3_isLike_145 : decode cX3_isLike 145 = .ok (.iload 5, 2) := by decide +kernel
theorem dX3_isLike_147 : decode cX3_isLike 147 = .ok (.iaload, 1) := by decide +kernel
theorem dX3_isLike_148 : decode cX3_isLike 148 = .ok (.iload 8, 2) := by decide +kernel
theorem dX3_isLike_150 : decode cX3_isLike 150 = .ok (.iadd, 1) := by decide +kernel
theorem dX3_isLike_151 : decode cX3_isLike 151 = .ok (.invokevirtual 101, 3) := by decide +kernel
theorem dX3_isLike_154 : decode cX3_isLike 154 = .ok (.aload_n 0, 1) := by decide +kernel
theorem dX3_isLike_155 : decode cX3_isLike 155 = .ok (.iload_n 3, 1) := by decide +kernel
theorem dX3_isLike_156 : decode cX3_isLike 156 = .ok (.aload_n 0, 1) := by decide +kernel
theorem dX3_isLike_157 : decode cX3_isLike 157 = .ok (.getfield 41, 3) := by decide +kernel
theorem dX3_isLike_160 : decode cX3_isLike 160 = .ok (.iload 6, 2) := by decide +kernel
theorem dX3_isLike_162 : decode cX3_isLike 162 = .ok (.iaload, 1) := by decide +kernel
theorem dX3_isLike_163 : decode cX3_isLike 163 = .ok (.iload 8, 2) := by decide +kernel
theorem dX3_isLike_165 : decode cX3_isLike 165 = .ok (.iadd, 1) := by decide +kernel
theorem dX3_isLike_166 : decode cX3_isLike 166 = .ok (.invokevirtual 101, 3) := by decide +kernel
theorem dX3_isLike_169 : decode cX3_isLike 169 = .ok (.if_icmp .ne 7, 3) := by decide +kernel
theorem dX3_isLike_172 : decode cX3_isLike 172 = .ok (.iconst 1, 1) := by decide +kernel
theorem dX3_isLike_173 : decode cX3_isLike 173 = .ok (.goto 4, 3) := by decide +kernel
theorem dX3_isLike_176 : decode cX3_isLike 176 = .ok (.iconst 0, 1) := by decide +kernel
theorem dX3_isLike_177 : decode cX3_isLike 177 = .ok (.istore 7, 2) := by decide +kernel
theorem dX3_isLike_179 : decode cX3_isLike 179 = .ok (.iinc 8 1, 3) := by decide +kernel
theorem dX3_isLike_182 : decode cX3_isLike 182 = .ok (.goto (-93), 3) := by decide +kernel
theorem dX3_isLike_185 : decode cX3_isLike 185 = .ok (.iload 7, 2) := by decide +kernel
theorem dX3_isLike_187 : decode cX3_isLike 187 = .ok (.ireturn, 1) := by decide +kernel
theorem dX3_likeIn_0 : decode cX3_likeIn 0 = .ok (.iconst 0, 1) := by decide +kernel
theorem dX3_likeIn_1 : decode cX3_likeIn 1 = .ok (.istore 4, 2) := by decide +kernel
theorem dX3_likeIn_3 : decode cX3_likeIn 3 = .ok (.iload 4, 2) := by decide +kernel
theorem dX3_likeIn_5 : decode cX3_likeIn 5 = .ok (.aload_n 0, 1) := by decide +kernel
theorem dX3_likeIn_6 : decode cX3_likeIn 6 = .ok (.getfield 32, 3) := by decide +kernel
theorem dX3_likeIn_9 : decode cX3_likeIn 9 = .ok (.iload_n 3, 1) := by decide +kernel
theorem dX3_likeIn_10 : decode cX3_likeIn 10 = .ok (.iaload, 1) := by decide +kernel
theorem dX3_likeIn_11 : decode cX3_likeIn 11 = .ok (.if_icmp .ge 24, 3) := by decide +kernel
theorem dX3_likeIn_14 : decode cX3_likeIn 14 = .ok (.aload_n 0, 1) := by decide +kernel
theorem dX3_likeIn_15 : decode cX3_likeIn 15 = .ok (.iload_n 1, 1) := by decide +kernel
theorem dX3_likeIn_16 : decode cX3_likeIn 16 = .ok (.iload_n 2, 1) := by decide +kernel
theorem dX3_likeIn_17 : decode cX3_likeIn 17 = .ok (.iload_n 3, 1) := by decide +kernel
theorem dX3_likeIn_18 : decode cX3_likeIn 18 = .ok (.iload 4, 2) := by decide +kernel
theorem dX3_likeIn_20 : decode cX3_likeIn 20 = .ok (.invokevirtual 129, 3) := by decide +kernel
theorem dX3_likeIn_23 : decode cX3_likeIn 23 = .ok (.ifCond .eq 6, 3) := by decide +kernel
theorem dX3_likeIn_26 : decode cX3_likeIn 26 = .ok (.iload 4, 2) := by decide +kernel
theorem dX3_likeIn_28 : decode cX3_likeIn 28 = .ok (.ireturn, 1) := by decide +kernel
theorem dX3_likeIn_29 : decode cX3_likeIn 29 = .ok (.iinc 4 1, 3) := by decide +kernel
theorem dX3_likeIn_32 : decode cX3_likeIn 32 = .ok (.goto (-29), 3) := by decide +kernel
theorem dX3_likeIn_35 : decode cX3_likeIn 35 = .ok (.iconst (-1), 1) := by decide +kernel
theorem dX3_likeIn_36 : decode cX3_likeIn 36 = .ok (.ireturn, 1) := by decide +kernel
theorem dX3_takeAll_0 : decode cX3_takeAll 0 = .ok (.aload_n 0, 1) := by decide +kernel
theorem dX3_takeAll_1 : decode cX3_takeAll 1 = .ok (.iload_n 1, 1) := by decide +kernel
theorem dX3_takeAll_2 : decode cX3_takeAll 2 = .ok (.iload_n 2, 1) := by decide +kernel
theorem dX3_takeAll_3 : decode cX3_takeAll 3 = .ok (.invokevirtual 133, 3) := by decide +kernel
theorem dX3_takeAll_6 : decode cX3_takeAll 6 = .ok (.istore 5, 2) := by decide +kernel
theorem dX3_takeAll_8 : decode cX3_takeAll 8 = .ok (.iconst 0, 1) := by decide +kernel
theorem dX3_takeAll_9 : decode cX3_takeAll 9 = .ok (.istore 6, 2) := by decide +kernel
theorem dX3_takeAll_11 : decode cX3_takeAll 11 = .ok (.iload 6, 2) := by decide +kernel
theorem dX3_takeAll_13 : decode cX3_takeAll 13 = .ok (.iload 5, 2) := by decide +kernel
theorem dX3_takeAll_15 : decode cX3_takeAll 15 = .ok (.if_icmp .ge 67, 3) := by decide +kernel
theorem dX3_takeAll_18 : decode cX3_takeAll 18 = .ok (.aload_n 0, 1) := by decide +kernel
theorem dX3_takeAll_19 : decode cX3_takeAll 19 = .ok (.getfield 47, 3) := by decide +kernel
theorem dX3_takeAll_22 : decode cX3_takeAll 22 = .ok (.bipush 96, 2) := by decide +kernel
theorem dX3_takeAll_24 : decode cX3_takeAll 24 = .ok (.iload_n 1, 1) := by decide +kernel
theorem dX3_takeAll_25 : decode cX3_takeAll 25 = .ok (.imul, 1) := by decide +kernel
theorem dX3_takeAll_26 : decode cX3_takeAll 26 = .ok (.iload_n 2, 1) := by decide +kernel
theorem dX3_takeAll_27 : decode cX3_takeAll 27 = .ok (.iadd, 1) := by decide +kernel
theorem dX3_takeAll_28 : decode cX3_takeAll 28 = .ok (.iload 6, 2) := by decide +kernel
theorem dX3_takeAll_30 : decode cX3_takeAll 30 = .ok (.iadd, 1) := by decide +kernel
theorem dX3_takeAll_31 : decode cX3_takeAll 31 = .ok (.aload_n 0, 1) := by decide +kernel
theorem dX3_takeAll_32 : decode cX3_takeAll 32 = .ok (.getfield 47, 3) := by decide +kernel
theorem dX3_takeAll_35 : decode cX3_takeAll 35 = .ok (.bipush 96, 2) := by decide +kernel
theorem dX3_takeAll_37 : decode cX3_takeAll 37 = .ok (.iload_n 3, 1) := by decide +kernel
theorem dX3_takeAll_38 : decode cX3_takeAll 38 = .ok (.imul, 1) := by decide +kernel
theorem dX3_takeAll_39 : decode cX3_takeAll 39 = .ok (.iload 4, 2) := by decide +kernel
theorem dX3_takeAll_41 : decode cX3_takeAll 41 = .ok (.iadd, 1) := by decide +kernel
theorem dX3_takeAll_42 : decode cX3_takeAll 42 = .ok (.iload 6, 2) := by decide +kernel
theorem dX3_takeAll_44 : decode cX3_takeAll 44 = .ok (.iadd, 1) := by decide +kernel
theorem dX3_takeAll_45 : decode cX3_takeAll 45 = .ok (.iaload, 1) := by decide +kernel
theorem dX3_takeAll_46 : decode cX3_takeAll 46 = .ok (.iastore, 1) := by decide +kernel
theorem dX3_takeAll_47 : decode cX3_takeAll 47 = .ok (.aload_n 0, 1) := by decide +kernel
theorem dX3_takeAll_48 : decode cX3_takeAll 48 = .ok (.getfield 50, 3) := by decide +kernel
theorem dX3_takeAll_51 : decode cX3_takeAll 51 = .ok (.bipush 96, 2) := by decide +kernel
theorem dX3_takeAll_53 : decode cX3_takeAll 53 = .ok (.iload_n 1, 1) := by decide +kernel
theorem dX3_takeAll_54 : decode cX3_takeAll 54 = .ok (.imul, 1) := by decide +kernel
theorem dX3_takeAll_55 : decode cX3_takeAll 55 = .ok (.iload_n 2, 1) := by decide +kernel
theorem dX3_takeAll_56 : decode cX3_takeAll 56 = .ok (.iadd, 1) := by decide +kernel
theorem dX3_takeAll_57 : decode cX3_takeAll 57 = .ok (.iload 6, 2) := by decide +kernel
theorem dX3_takeAll_59 : decode cX3_takeAll 59 = .ok (.iadd, 1) := by decide +kernel
theorem dX3_takeAll_60 : decode cX3_takeAll 60 = .ok (.aload_n 0, 1) := by decide +kernel
theorem dX3_takeAll_61 : decode cX3_takeAll 61 = .ok (.getfield 50, 3) := by decide +kernel
theorem dX3_takeAll_64 : decode cX3_takeAll 64 = .ok (.bipush 96, 2) := by decide +kernel
theorem dX3_takeAll_66 : decode cX3_takeAll 66 = .ok (.iload_n 3, 1) := by decide +kernel
theorem dX3_takeAll_67 : decode cX3_takeAll 67 = .ok (.imul, 1) := by decide +kernel
theorem dX3_takeAll_68 : decode cX3_takeAll 68 = .ok (.iload 4, 2) := by decide +kernel
theorem dX3_takeAll_70 : decode cX3_takeAll 70 = .ok (.iadd, 1) := by decide +kernel
theorem dX3_takeAll_71 : decode cX3_takeAll 71 = .ok (.iload 6, 2) := by decide +kernel
theorem dX3_takeAll_73 : decode cX3_takeAll 73 = .ok (.iadd, 1) := by decide +kernel
theorem dX3_takeAll_74 : decode cX3_takeAll 74 = .ok (.baload, 1) := by decide +kernel
theorem dX3_takeAll_75 : decode cX3_takeAll 75 = .ok (.bastore, 1) := by decide +kernel
theorem dX3_takeAll_76 : decode cX3_takeAll 76 = .ok (.iinc 6 1, 3) := by decide +kernel
theorem dX3_takeAll_79 : decode cX3_takeAll 79 = .ok (.goto (-68), 3) := by decide +kernel
theorem dX3_takeAll_82 : decode cX3_takeAll 82 = .ok (.iload 5, 2) := by decide +kernel
theorem dX3_takeAll_84 : decode cX3_takeAll 84 = .ok (.ireturn, 1) := by decide +kernel
theorem dX3_make_0 : decode cX3_make 0 = .ok (.aload_n 0, 1) := by decide +kernel
theorem dX3_make_1 : decode cX3_make 1 = .ok (.getfield 47, 3) := by decide +kernel
theorem dX3_make_4 : decode cX3_make 4 = .ok (.iload_n 1, 1) := by decide +kernel
theorem dX3_make_5 : decode cX3_make 5 = .ok (.aload_n 0, 1) := by decide +kernel
theorem dX3_make_6 : decode cX3_make 6 = .ok (.getfield 136, 3) := by decide +kernel
theorem dX3_make_9 : decode cX3_make 9 = .ok (.iastore, 1) := by decide +kernel
theorem dX3_make_10 : decode cX3_make 10 = .ok (.aload_n 0, 1) := by decide +kernel
theorem dX3_make_11 : decode cX3_make 11 = .ok (.dup, 1) := by decide +kernel
theorem dX3_make_12 : decode cX3_make 12 = .ok (.getfield 136, 3) := by decide +kernel
theorem dX3_make_15 : decode cX3_make 15 = .ok (.iconst 1, 1) := by decide +kernel
theorem dX3_make_16 : decode cX3_make 16 = .ok (.iadd, 1) := by decide +kernel
theorem dX3_make_17 : decode cX3_make 17 = .ok (.putfield 136, 3) := by decide +kernel
theorem dX3_make_20 : decode cX3_make 20 = .ok (.return_, 1) := by decide +kernel
theorem dX3_tellNew_0 : decode cX3_tellNew 0 = .ok (.aload_n 0, 1) := by decide +kernel
theorem dX3_tellNew_1 : decode cX3_tellNew 1 = .ok (.bipush 21, 2) := by decide +kernel
theorem dX3_tellNew_3 : decode cX3_tellNew 3 = .ok (.invokevirtual 139, 3) := by decide +kernel
theorem dX3_tellNew_6 : decode cX3_tellNew 6 = .ok (.iconst 0, 1) := by decide +kernel
theorem dX3_tellNew_7 : decode cX3_tellNew 7 = .ok (.istore_n 3, 1) := by decide +kernel
theorem dX3_tellNew_8 : decode cX3_tellNew 8 = .ok (.iload_n 3, 1) := by decide +kernel
theorem dX3_tellNew_9 : decode cX3_tellNew 9 = .ok (.aload_n 0, 1) := by decide +kernel
theorem dX3_tellNew_10 : decode cX3_tellNew 10 = .ok (.getfield 32, 3) := by decide +kernel
theorem dX3_tellNew_13 : decode cX3_tellNew 13 = .ok (.bipush 21, 2) := by decide +kernel
theorem dX3_tellNew_15 : decode cX3_tellNew 15 = .ok (.iaload, 1) := by decide +kernel
theorem dX3_tellNew_16 : decode cX3_tellNew 16 = .ok (.if_icmp .ge 97, 3) := by decide +kernel
theorem dX3_tellNew_19 : decode cX3_tellNew 19 = .ok (.aload_n 0, 1) := by decide +kernel
theorem dX3_tellNew_20 : decode cX3_tellNew 20 = .ok (.bipush 21, 2) := by decide +kernel
theorem dX3_tellNew_22 : decode cX3_tellNew 22 = .ok (.iload_n 3, 1) := by decide +kernel
theorem dX3_tellNew_23 : decode cX3_tellNew 23 = .ok (.iload_n 1, 1) := by decide +kernel
theorem dX3_tellNew_24 : decode cX3_tellNew 24 = .ok (.invokevirtual 143, 3) := by decide +kernel
theorem dX3_tellNew_27 : decode cX3_tellNew 27 = .ok (.istore 4, 2) := by decide +kernel
theorem dX3_tellNew_29 : decode cX3_tellNew 29 = .ok (.iload 4, 2) := by decide +kernel
theorem dX3_tellNew_31 : decode cX3_tellNew 31 = .ok (.iconst (-1), 1) := by decide +kernel
theorem dX3_tellNew_32 : decode cX3_tellNew 32 = .ok (.if_icmp .ne 19, 3) := by decide +kernel
theorem dX3_tellNew_35 : decode cX3_tellNew 35 = .ok (.iload_n 2, 1) := by decide +kernel
theorem dX3_tellNew_36 : decode cX3_tellNew 36 = .ok (.iconst (-1), 1) := by decide +kernel
theorem dX3_tellNew_37 : decode cX3_tellNew 37 = .ok (.if_icmp .eq 14, 3) := by decide +kernel
theorem dX3_tellNew_40 : decode cX3_tellNew 40 = .ok (.aload_n 0, 1) := by decide +kernel
theorem dX3_tellNew_41 : decode cX3_tellNew 41 = .ok (.bipush 21, 2) := by decide +kernel
theorem dX3_tellNew_43 : decode cX3_tellNew 43 = .ok (.iload_n 3, 1) := by decide +kernel
theorem dX3_tellNew_44 : decode cX3_tellNew 44 = .ok (.iload_n 2, 1) := by decide +kernel
theorem dX3_tellNew_45 : decode cX3_tellNew 45 = .ok (.invokevirtual 143, 3) := by decide +kernel
theorem dX3_tellNew_48 : decode cX3_tellNew 48 = .ok (.goto 4, 3) := by decide +kernel
theorem dX3_tellNew_51 : decode cX3_tellNew 51 = .ok (.iconst (-1), 1) := by decide +kernel
theorem dX3_tellNew_52 : decode cX3_tellNew 52 = .ok (.istore 5, 2) := by decide +kernel
theorem dX3_tellNew_54 : decode cX3_tellNew 54 = .ok (.iload 4, 2) := by decide +kernel
theorem dX3_tellNew_56 : decode cX3_tellNew 56 = .ok (.iconst (-1), 1) := by decide +kernel
theorem dX3_tellNew_57 : decode cX3_tellNew 57 = .ok (.if_icmp .eq 19, 3) := by decide +kernel
theorem dX3_tellNew_60 : decode cX3_tellNew 60 = .ok (.iload_n 3, 1) := by decide +kernel
theorem dX3_tellNew_61 : decode cX3_tellNew 61 = .ok (.aload_n 0, 1) := by decide +kernel
theorem dX3_tellNew_62 : decode cX3_tellNew 62 = .ok (.bipush 21, 2) := by decide +kernel
theorem dX3_tellNew_64 : decode cX3_tellNew 64 = .ok (.iload_n 3, 1) := by decide +kernel
theorem dX3_tellNew_65 : decode cX3_tellNew 65 = .ok (.iload_n 1, 1) := by decide +kernel
theorem dX3_tellNew_66 : decode cX3_tellNew 66 = .ok (.iload 4, 2) := by decide +kernel
theorem dX3_tellNew_68 : decode cX3_tellNew 68 = .ok (.invokevirtual 146, 3) := by decide +kernel
theorem dX3_tellNew_71 : decode cX3_tellNew 71 = .ok (.iadd, 1) := by decide +kernel
theorem dX3_tellNew_72 : decode cX3_tellNew 72 = .ok (.istore_n 3, 1) := by decide +kernel
theorem dX3_tellNew_73 : decode cX3_tellNew 73 = .ok (.goto 37, 3) := by decide +kernel
theorem dX3_tellNew_76 : decode cX3_tellNew 76 = .ok (.iload 5, 2) := by decide +kernel
theorem dX3_tellNew_78 : decode cX3_tellNew 78 = .ok (.iconst (-1), 1) := by decide +kernel
theorem dX3_tellNew_79 : decode cX3_tellNew 79 = .ok (.if_icmp .eq 19, 3) := by decide +kernel
theorem dX3_tellNew_82 : decode cX3_tellNew 82 = .ok (.iload_n 3, 1) := by decide +kernel
theorem dX3_tellNew_83 : decode cX3_tellNew 83 = .ok (.aload_n 0, 1) := by decide +kernel
theorem dX3_tellNew_84 : decode cX3_tellNew 84 = .ok (.bipush 21, 2) := by decide +kernel
theorem dX3_tellNew_86 : decode cX3_tellNew 86 = .ok (.iload_n 3, 1) := by decide +kernel
theorem dX3_tellNew_87 : decode cX3_tellNew 87 = .ok (.iload_n 2, 1) := by decide +kernel
theorem dX3_tellNew_88 : decode cX3_tellNew 88 = .ok (.iload 5, 2) := by decide +kernel
theorem dX3_tellNew_90 : decode cX3_tellNew 90 = .ok (.invokevirtual 146, 3) := by decide +kernel
theorem dX3_tellNew_93 : decode cX3_tellNew 93 = .ok (.iadd, 1) := by decide +kernel
theorem dX3_tellNew_94 : decode cX3_tellNew 94 = .ok (.istore_n 3, 1) := by decide +kernel
theorem dX3_tellNew_95 : decode cX3_tellNew 95 = .ok (.goto 15, 3) := by decide +kernel
theorem dX3_tellNew_98 : decode cX3_tellNew 98 = .ok (.aload_n 0, 1) := by decide +kernel
theorem dX3_tellNew_99 : decode cX3_tellNew 99 = .ok (.sipush 2016, 3) := by decide +kernel
theorem dX3_tellNew_102 : decode cX3_tellNew 102 = .ok (.iload_n 3, 1) := by decide +kernel
theorem dX3_tellNew_103 : decode cX3_tellNew 103 = .ok (.iadd, 1) := by decide +kernel
theorem dX3_tellNew_104 : decode cX3_tellNew 104 = .ok (.invokevirtual 150, 3) := by decide +kernel
theorem dX3_tellNew_107 : decode cX3_tellNew 107 = .ok (.iinc 3 1, 3) := by decide +kernel
theorem dX3_tellNew_110 : decode cX3_tellNew 110 = .ok (.goto (-102), 3) := by decide +kernel
theorem dX3_tellNew_113 : decode cX3_tellNew 113 = .ok (.return_, 1) := by decide +kernel
theorem dX3_keepNew_0 : decode cX3_keepNew 0 = .ok (.aload_n 0, 1) := by decide +kernel
theorem dX3_keepNew_1 : decode cX3_keepNew 1 = .ok (.aload_n 0, 1) := by decide +kernel
theorem dX3_keepNew_2 : decode cX3_keepNew 2 = .ok (.getfield 20, 3) := by decide +kernel
theorem dX3_keepNew_5 : decode cX3_keepNew 5 = .ok (.iload_n 1, 1) := by decide +kernel
theorem dX3_keepNew_6 : decode cX3_keepNew 6 = .ok (.invokevirtual 153, 3) := by decide +kernel
theorem dX3_keepNew_9 : decode cX3_keepNew 9 = .ok (.aload_n 0, 1) := by decide +kernel
theorem dX3_keepNew_10 : decode cX3_keepNew 10 = .ok (.getfield 32, 3) := by decide +kernel
theorem dX3_keepNew_13 : decode cX3_keepNew 13 = .ok (.aload_n 0, 1) := by decide +kernel
theorem dX3_keepNew_14 : decode cX3_keepNew 14 = .ok (.getfield 20, 3) := by decide +kernel
theorem dX3_keepNew_17 : decode cX3_keepNew 17 = .ok (.aload_n 0, 1) := by decide +kernel
theorem dX3_keepNew_18 : decode cX3_keepNew 18 = .ok (.getfield 32, 3) := by decide +kernel
theorem dX3_keepNew_21 : decode cX3_keepNew 21 = .ok (.iload_n 1, 1) := by decide +kernel
theorem dX3_keepNew_22 : decode cX3_keepNew 22 = .ok (.iaload, 1) := by decide +kernel
theorem dX3_keepNew_23 : decode cX3_keepNew 23 = .ok (.iastore, 1) := by decide +kernel
theorem dX3_keepNew_24 : decode cX3_keepNew 24 = .ok (.iconst 0, 1) := by decide +kernel
theorem dX3_keepNew_25 : decode cX3_keepNew 25 = .ok (.istore_n 2, 1) := by decide +kernel
theorem dX3_keepNew_26 : decode cX3_keepNew 26 = .ok (.iload_n 2, 1) := by decide +kernel
theorem dX3_keepNew_27 : decode cX3_keepNew 27 = .ok (.aload_n 0, 1) := by decide +kernel
theorem dX3_keepNew_28 : decode cX3_keepNew 28 = .ok (.getfield 32, 3) := by decide +kernel
theorem dX3_keepNew_31 : decode cX3_keepNew 31 = .ok (.iload_n 1, 1) := by decide +kernel
theorem dX3_keepNew_32 : decode cX3_keepNew 32 = .ok (.iaload, 1) := by decide +kernel
theorem dX3_keepNew_33 : decode cX3_keepNew 33 = .ok (.if_icmp .ge 34, 3) := by decide +kernel
theorem dX3_keepNew_36 : decode cX3_keepNew 36 = .ok (.aload_n 0, 1) := by decide +kernel
theorem dX3_keepNew_37 : decode cX3_keepNew 37 = .ok (.aload_n 0, 1) := by decide +kernel
theorem dX3_keepNew_38 : decode cX3_keepNew 38 = .ok (.getfield 20, 3) := by decide +kernel
theorem dX3_keepNew_41 : decode cX3_keepNew 41 = .ok (.iload_n 2, 1) := by decide +kernel
theorem dX3_keepNew_42 : decode cX3_keepNew 42 = .ok (.iload_n 1, 1) := by decide +kernel
theorem dX3_keepNew_43 : decode cX3_keepNew 43 = .ok (.invokevirtual 157, 3) := by decide +kernel
theorem dX3_keepNew_46 : decode cX3_keepNew 46 = .ok (.aload_n 0, 1) := by decide +kernel
theorem dX3_keepNew_47 : decode cX3_keepNew 47 = .ok (.getfield 50, 3) := by decide +kernel
theorem dX3_keepNew_50 : decode cX3_keepNew 50 = .ok (.bipush 96, 2) := by decide +kernel
theorem dX3_keepNew_52 : decode cX3_keepNew 52 = .ok (.aload_n 0, 1) := by decide +kernel
theorem dX3_keepNew_53 : decode cX3_keepNew 53 = .ok (.getfield 20, 3) := by decide +kernel
theorem dX3_keepNew_56 : decode cX3_keepNew 56 = .ok (.imul, 1) := by decide +kernel
theorem dX3_keepNew_57 : decode cX3_keepNew 57 = .ok (.iload_n 2, 1) := by decide +kernel
theorem dX3_keepNew_58 : decode cX3_keepNew 58 = .ok (.iadd, 1) := by decide +kernel
theorem dX3_keepNew_59 : decode cX3_keepNew 59 = .ok (.iconst 0, 1) := by decide +kernel
theorem dX3_keepNew_60 : decode cX3_keepNew 60 = .ok (.bastore, 1) := by decide +kernel
theorem dX3_keepNew_61 : decode cX3_keepNew 61 = .ok (.iinc 2 1, 3) := by decide +kernel
theorem dX3_keepNew_64 : decode cX3_keepNew 64 = .ok (.goto (-38), 3) := by decide +kernel
theorem dX3_keepNew_67 : decode cX3_keepNew 67 = .ok (.aload_n 0, 1) := by decide +kernel
theorem dX3_keepNew_68 : decode cX3_keepNew 68 = .ok (.dup, 1) := by decide +kernel
theorem dX3_keepNew_69 : decode cX3_keepNew 69 = .ok (.getfield 20, 3) := by decide +kernel
theorem dX3_keepNew_72 : decode cX3_keepNew 72 = .ok (.iconst 1, 1) := by decide +kernel
theorem dX3_keepNew_73 : decode cX3_keepNew 73 = .ok (.iadd, 1) := by decide +kernel
theorem dX3_keepNew_74 : decode cX3_keepNew 74 = .ok (.putfield 20, 3) := by decide +kernel
theorem dX3_keepNew_77 : decode cX3_keepNew 77 = .ok (.aload_n 0, 1) := by decide +kernel
theorem dX3_keepNew_78 : decode cX3_keepNew 78 = .ok (.getfield 20, 3) := by decide +kernel
theorem dX3_keepNew_81 : decode cX3_keepNew 81 = .ok (.iconst 1, 1) := by decide +kernel
theorem dX3_keepNew_82 : decode cX3_keepNew 82 = .ok (.isub, 1) := by decide +kernel
theorem dX3_keepNew_83 : decode cX3_keepNew 83 = .ok (.ireturn, 1) := by decide +kernel
theorem dX3_copyNode_0 : decode cX3_copyNode 0 = .ok (.bipush 96, 2) := by decide +kernel
theorem dX3_copyNode_2 : decode cX3_copyNode 2 = .ok (.iload_n 1, 1) := by decide +kernel
theorem dX3_copyNode_3 : decode cX3_copyNode 3 = .ok (.imul, 1) := by decide +kernel
theorem dX3_copyNode_4 : decode cX3_copyNode 4 = .ok (.iload_n 2, 1) := by decide +kernel
theorem dX3_copyNode_5 : decode cX3_copyNode 5 = .ok (.iadd, 1) := by decide +kernel
end
section
theorem dX3_copyNode_6 : decode cX3_copyNode 6 = .ok (.istore 4, 2) := by decide +kernel
theorem dX3_copyNode_8 : decode cX3_copyNode 8 = .ok (.bipush 96, 2) := by decide +kernel
theorem dX3_copyNode_10 : decode cX3_copyNode 10 = .ok (.iload_n 3, 1) := by decide +kernel
theorem dX3_copyNode_11 : decode cX3_copyNode 11 = .ok (.imul, 1) := by decide +kernel
theorem dX3_copyNode_12 : decode cX3_copyNode 12 = .ok (.iload_n 2, 1) := by decide +kernel
theorem dX3_copyNode_13 : decode cX3_copyNode 13 = .ok (.iadd, 1) := by decide +kernel
theorem dX3_copyNode_14 : decode cX3_copyNode 14 = .ok (.istore 5, 2) := by decide +kernel
theorem dX3_copyNode_16 : decode cX3_copyNode 16 = .ok (.aload_n 0, 1) := by decide +kernel
theorem dX3_copyNode_17 : decode cX3_copyNode 17 = .ok (.getfield 35, 3) := by decide +kernel
theorem dX3_copyNode_20 : decode cX3_copyNode 20 = .ok (.iload 4, 2) := by decide +kernel
theorem dX3_copyNode_22 : decode cX3_copyNode 22 = .ok (.aload_n 0, 1) := by decide +kernel
theorem dX3_copyNode_23 : decode cX3_copyNode 23 = .ok (.getfield 35, 3) := by decide +kernel
theorem dX3_copyNode_26 : decode cX3_copyNode 26 = .ok (.iload 5, 2) := by decide +kernel
theorem dX3_copyNode_28 : decode cX3_copyNode 28 = .ok (.iaload, 1) := by decide +kernel
theorem dX3_copyNode_29 : decode cX3_copyNode 29 = .ok (.iastore, 1) := by decide +kernel
theorem dX3_copyNode_30 : decode cX3_copyNode 30 = .ok (.aload_n 0, 1) := by decide +kernel
theorem dX3_copyNode_31 : decode cX3_copyNode 31 = .ok (.getfield 38, 3) := by decide +kernel
theorem dX3_copyNode_34 : decode cX3_copyNode 34 = .ok (.iload 4, 2) := by decide +kernel
theorem dX3_copyNode_36 : decode cX3_copyNode 36 = .ok (.aload_n 0, 1) := by decide +kernel
theorem dX3_copyNode_37 : decode cX3_copyNode 37 = .ok (.getfield 38, 3) := by decide +kernel
theorem dX3_copyNode_40 : decode cX3_copyNode 40 = .ok (.iload 5, 2) := by decide +kernel
theorem dX3_copyNode_42 : decode cX3_copyNode 42 = .ok (.iaload, 1) := by decide +kernel
theorem dX3_copyNode_43 : decode cX3_copyNode 43 = .ok (.iastore, 1) := by decide +kernel
theorem dX3_copyNode_44 : decode cX3_copyNode 44 = .ok (.aload_n 0, 1) := by decide +kernel
theorem dX3_copyNode_45 : decode cX3_copyNode 45 = .ok (.getfield 41, 3) := by decide +kernel
theorem dX3_copyNode_48 : decode cX3_copyNode 48 = .ok (.iload 4, 2) := by decide +kernel
theorem dX3_copyNode_50 : decode cX3_copyNode 50 = .ok (.aload_n 0, 1) := by decide +kernel
theorem dX3_copyNode_51 : decode cX3_copyNode 51 = .ok (.getfield 41, 3) := by decide +kernel
theorem dX3_copyNode_54 : decode cX3_copyNode 54 = .ok (.iload 5, 2) := by decide +kernel
theorem dX3_copyNode_56 : decode cX3_copyNode 56 = .ok (.iaload, 1) := by decide +kernel
theorem dX3_copyNode_57 : decode cX3_copyNode 57 = .ok (.iastore, 1) := by decide +kernel
theorem dX3_copyNode_58 : decode cX3_copyNode 58 = .ok (.aload_n 0, 1) := by decide +kernel
theorem dX3_copyNode_59 : decode cX3_copyNode 59 = .ok (.getfield 44, 3) := by decide +kernel
theorem dX3_copyNode_62 : decode cX3_copyNode 62 = .ok (.iload 4, 2) := by decide +kernel
theorem dX3_copyNode_64 : decode cX3_copyNode 64 = .ok (.aload_n 0, 1) := by decide +kernel
theorem dX3_copyNode_65 : decode cX3_copyNode 65 = .ok (.getfield 44, 3) := by decide +kernel
theorem dX3_copyNode_68 : decode cX3_copyNode 68 = .ok (.iload 5, 2) := by decide +kernel
theorem dX3_copyNode_70 : decode cX3_copyNode 70 = .ok (.iaload, 1) := by decide +kernel
theorem dX3_copyNode_71 : decode cX3_copyNode 71 = .ok (.iastore, 1) := by decide +kernel
theorem dX3_copyNode_72 : decode cX3_copyNode 72 = .ok (.aload_n 0, 1) := by decide +kernel
theorem dX3_copyNode_73 : decode cX3_copyNode 73 = .ok (.getfield 47, 3) := by decide +kernel
theorem dX3_copyNode_76 : decode cX3_copyNode 76 = .ok (.iload 4, 2) := by decide +kernel
theorem dX3_copyNode_78 : decode cX3_copyNode 78 = .ok (.aload_n 0, 1) := by decide +kernel
theorem dX3_copyNode_79 : decode cX3_copyNode 79 = .ok (.getfield 47, 3) := by decide +kernel
theorem dX3_copyNode_82 : decode cX3_copyNode 82 = .ok (.iload 5, 2) := by decide +kernel
theorem dX3_copyNode_84 : decode cX3_copyNode 84 = .ok (.iaload, 1) := by decide +kernel
theorem dX3_copyNode_85 : decode cX3_copyNode 85 = .ok (.iastore, 1) := by decide +kernel
theorem dX3_copyNode_86 : decode cX3_copyNode 86 = .ok (.aload_n 0, 1) := by decide +kernel
theorem dX3_copyNode_87 : decode cX3_copyNode 87 = .ok (.getfield 50, 3) := by decide +kernel
theorem dX3_copyNode_90 : decode cX3_copyNode 90 = .ok (.iload 4, 2) := by decide +kernel
theorem dX3_copyNode_92 : decode cX3_copyNode 92 = .ok (.aload_n 0, 1) := by decide +kernel
theorem dX3_copyNode_93 : decode cX3_copyNode 93 = .ok (.getfield 50, 3) := by decide +kernel
theorem dX3_copyNode_96 : decode cX3_copyNode 96 = .ok (.iload 5, 2) := by decide +kernel
theorem dX3_copyNode_98 : decode cX3_copyNode 98 = .ok (.baload, 1) := by decide +kernel
theorem dX3_copyNode_99 : decode cX3_copyNode 99 = .ok (.bastore, 1) := by decide +kernel
theorem dX3_copyNode_100 : decode cX3_copyNode 100 = .ok (.return_, 1) := by decide +kernel
theorem dX3_isVersion_0 : decode cX3_isVersion 0 = .ok (.iload_n 1, 1) := by decide +kernel
theorem dX3_isVersion_1 : decode cX3_isVersion 1 = .ok (.iconst 0, 1) := by decide +kernel
theorem dX3_isVersion_2 : decode cX3_isVersion 2 = .ok (.aload_n 0, 1) := by decide +kernel
theorem dX3_isVersion_3 : decode cX3_isVersion 3 = .ok (.getfield 20, 3) := by decide +kernel
theorem dX3_isVersion_6 : decode cX3_isVersion 6 = .ok (.iconst 1, 1) := by decide +kernel
theorem dX3_isVersion_7 : decode cX3_isVersion 7 = .ok (.isub, 1) := by decide +kernel
theorem dX3_isVersion_8 : decode cX3_isVersion 8 = .ok (.invokestatic 81, 3) := by decide +kernel
theorem dX3_isVersion_11 : decode cX3_isVersion 11 = .ok (.ireturn, 1) := by decide +kernel
theorem dX3_put_0 : decode cX3_put 0 = .ok (.aload_n 0, 1) := by decide +kernel
theorem dX3_put_1 : decode cX3_put 1 = .ok (.iload_n 1, 1) := by decide +kernel
theorem dX3_put_2 : decode cX3_put 2 = .ok (.invokevirtual 160, 3) := by decide +kernel
theorem dX3_put_5 : decode cX3_put 5 = .ok (.ifCond .ne 6, 3) := by decide +kernel
theorem dX3_put_8 : decode cX3_put 8 = .ok (.bipush (-101), 2) := by decide +kernel
theorem dX3_put_10 : decode cX3_put 10 = .ok (.ireturn, 1) := by decide +kernel
theorem dX3_put_11 : decode cX3_put 11 = .ok (.iload_n 2, 1) := by decide +kernel
theorem dX3_put_12 : decode cX3_put 12 = .ok (.iconst 0, 1) := by decide +kernel
theorem dX3_put_13 : decode cX3_put 13 = .ok (.sipush 4095, 3) := by decide +kernel
theorem dX3_put_16 : decode cX3_put 16 = .ok (.invokestatic 81, 3) := by decide +kernel
theorem dX3_put_19 : decode cX3_put 19 = .ok (.ifCond .eq 14, 3) := by decide +kernel
theorem dX3_put_22 : decode cX3_put 22 = .ok (.iload_n 3, 1) := by decide +kernel
theorem dX3_put_23 : decode cX3_put 23 = .ok (.iconst 0, 1) := by decide +kernel
theorem dX3_put_24 : decode cX3_put 24 = .ok (.sipush 999, 3) := by decide +kernel
theorem dX3_put_27 : decode cX3_put 27 = .ok (.invokestatic 81, 3) := by decide +kernel
theorem dX3_put_30 : decode cX3_put 30 = .ok (.ifCond .ne 6, 3) := by decide +kernel
theorem dX3_put_33 : decode cX3_put 33 = .ok (.bipush (-102), 2) := by decide +kernel
theorem dX3_put_35 : decode cX3_put 35 = .ok (.ireturn, 1) := by decide +kernel
theorem dX3_put_36 : decode cX3_put 36 = .ok (.aload_n 0, 1) := by decide +kernel
theorem dX3_put_37 : decode cX3_put 37 = .ok (.getfield 20, 3) := by decide +kernel
theorem dX3_put_40 : decode cX3_put 40 = .ok (.bipush 20, 2) := by decide +kernel
theorem dX3_put_42 : decode cX3_put 42 = .ok (.if_icmp .eq 24, 3) := by decide +kernel
theorem dX3_put_45 : decode cX3_put 45 = .ok (.aload_n 0, 1) := by decide +kernel
theorem dX3_put_46 : decode cX3_put 46 = .ok (.getfield 23, 3) := by decide +kernel
theorem dX3_put_49 : decode cX3_put 49 = .ok (.iload_n 1, 1) := by decide +kernel
theorem dX3_put_50 : decode cX3_put 50 = .ok (.iaload, 1) := by decide +kernel
theorem dX3_put_51 : decode cX3_put 51 = .ok (.bipush 24, 2) := by decide +kernel
theorem dX3_put_53 : decode cX3_put 53 = .ok (.if_icmp .ne 16, 3) := by decide +kernel
theorem dX3_put_56 : decode cX3_put 56 = .ok (.aload_n 0, 1) := by decide +kernel
theorem dX3_put_57 : decode cX3_put 57 = .ok (.iload_n 1, 1) := by decide +kernel
theorem dX3_put_58 : decode cX3_put 58 = .ok (.iload_n 2, 1) := by decide +kernel
theorem dX3_put_59 : decode cX3_put 59 = .ok (.invokevirtual 104, 3) := by decide +kernel
theorem dX3_put_62 : decode cX3_put 62 = .ok (.iconst (-1), 1) := by decide +kernel
theorem dX3_put_63 : decode cX3_put 63 = .ok (.if_icmp .ne 6, 3) := by decide +kernel
theorem dX3_put_66 : decode cX3_put 66 = .ok (.bipush (-104), 2) := by decide +kernel
theorem dX3_put_68 : decode cX3_put 68 = .ok (.ireturn, 1) := by decide +kernel
theorem dX3_put_69 : decode cX3_put 69 = .ok (.aload_n 0, 1) := by decide +kernel
theorem dX3_put_70 : decode cX3_put 70 = .ok (.bipush 21, 2) := by decide +kernel
theorem dX3_put_72 : decode cX3_put 72 = .ok (.iload_n 1, 1) := by decide +kernel
theorem dX3_put_73 : decode cX3_put 73 = .ok (.invokevirtual 153, 3) := by decide +kernel
theorem dX3_put_76 : decode cX3_put 76 = .ok (.aload_n 0, 1) := by decide +kernel
theorem dX3_put_77 : decode cX3_put 77 = .ok (.bipush 21, 2) := by decide +kernel
theorem dX3_put_79 : decode cX3_put 79 = .ok (.iload_n 2, 1) := by decide +kernel
theorem dX3_put_80 : decode cX3_put 80 = .ok (.iload_n 3, 1) := by decide +kernel
theorem dX3_put_81 : decode cX3_put 81 = .ok (.invokevirtual 164, 3) := by decide +kernel
theorem dX3_put_84 : decode cX3_put 84 = .ok (.aload_n 0, 1) := by decide +kernel
theorem dX3_put_85 : decode cX3_put 85 = .ok (.iload_n 1, 1) := by decide +kernel
theorem dX3_put_86 : decode cX3_put 86 = .ok (.iconst (-1), 1) := by decide +kernel
theorem dX3_put_87 : decode cX3_put 87 = .ok (.invokevirtual 167, 3) := by decide +kernel
theorem dX3_put_90 : decode cX3_put 90 = .ok (.aload_n 0, 1) := by decide +kernel
theorem dX3_put_91 : decode cX3_put 91 = .ok (.bipush 21, 2) := by decide +kernel
theorem dX3_put_93 : decode cX3_put 93 = .ok (.invokevirtual 170, 3) := by decide +kernel
theorem dX3_put_96 : decode cX3_put 96 = .ok (.ireturn, 1) := by decide +kernel
theorem dX3_remove_0 : decode cX3_remove 0 = .ok (.aload_n 0, 1) := by decide +kernel
theorem dX3_remove_1 : decode cX3_remove 1 = .ok (.iload_n 1, 1) := by decide +kernel
theorem dX3_remove_2 : decode cX3_remove 2 = .ok (.invokevirtual 160, 3) := by decide +kernel
theorem dX3_remove_5 : decode cX3_remove 5 = .ok (.ifCond .ne 6, 3) := by decide +kernel
theorem dX3_remove_8 : decode cX3_remove 8 = .ok (.bipush (-101), 2) := by decide +kernel
theorem dX3_remove_10 : decode cX3_remove 10 = .ok (.ireturn, 1) := by decide +kernel
theorem dX3_remove_11 : decode cX3_remove 11 = .ok (.iload_n 2, 1) := by decide +kernel
theorem dX3_remove_12 : decode cX3_remove 12 = .ok (.iconst 0, 1) := by decide +kernel
theorem dX3_remove_13 : decode cX3_remove 13 = .ok (.sipush 4095, 3) := by decide +kernel
theorem dX3_remove_16 : decode cX3_remove 16 = .ok (.invokestatic 81, 3) := by decide +kernel
theorem dX3_remove_19 : decode cX3_remove 19 = .ok (.ifCond .ne 6, 3) := by decide +kernel
theorem dX3_remove_22 : decode cX3_remove 22 = .ok (.bipush (-102), 2) := by decide +kernel
theorem dX3_remove_24 : decode cX3_remove 24 = .ok (.ireturn, 1) := by decide +kernel
theorem dX3_remove_25 : decode cX3_remove 25 = .ok (.aload_n 0, 1) := by decide +kernel
theorem dX3_remove_26 : decode cX3_remove 26 = .ok (.getfield 20, 3) := by decide +kernel
theorem dX3_remove_29 : decode cX3_remove 29 = .ok (.bipush 20, 2) := by decide +kernel
theorem dX3_remove_31 : decode cX3_remove 31 = .ok (.if_icmp .ne 6, 3) := by decide +kernel
theorem dX3_remove_34 : decode cX3_remove 34 = .ok (.bipush (-104), 2) := by decide +kernel
theorem dX3_remove_36 : decode cX3_remove 36 = .ok (.ireturn, 1) := by decide +kernel
theorem dX3_remove_37 : decode cX3_remove 37 = .ok (.aload_n 0, 1) := by decide +kernel
theorem dX3_remove_38 : decode cX3_remove 38 = .ok (.bipush 21, 2) := by decide +kernel
theorem dX3_remove_40 : decode cX3_remove 40 = .ok (.iload_n 1, 1) := by decide +kernel
theorem dX3_remove_41 : decode cX3_remove 41 = .ok (.invokevirtual 153, 3) := by decide +kernel
theorem dX3_remove_44 : decode cX3_remove 44 = .ok (.aload_n 0, 1) := by decide +kernel
theorem dX3_remove_45 : decode cX3_remove 45 = .ok (.bipush 21, 2) := by decide +kernel
theorem dX3_remove_47 : decode cX3_remove 47 = .ok (.iload_n 2, 1) := by decide +kernel
theorem dX3_remove_48 : decode cX3_remove 48 = .ok (.invokevirtual 173, 3) := by decide +kernel
theorem dX3_remove_51 : decode cX3_remove 51 = .ok (.aload_n 0, 1) := by decide +kernel
theorem dX3_remove_52 : decode cX3_remove 52 = .ok (.iload_n 1, 1) := by decide +kernel
theorem dX3_remove_53 : decode cX3_remove 53 = .ok (.iconst (-1), 1) := by decide +kernel
theorem dX3_remove_54 : decode cX3_remove 54 = .ok (.invokevirtual 167, 3) := by decide +kernel
theorem dX3_remove_57 : decode cX3_remove 57 = .ok (.aload_n 0, 1) := by decide +kernel
theorem dX3_remove_58 : decode cX3_remove 58 = .ok (.bipush 21, 2) := by decide +kernel
theorem dX3_remove_60 : decode cX3_remove 60 = .ok (.invokevirtual 170, 3) := by decide +kernel
theorem dX3_remove_63 : decode cX3_remove 63 = .ok (.ireturn, 1) := by decide +kernel
theorem dX3_inBoth_0 : decode cX3_inBoth 0 = .ok (.iconst 0, 1) := by decide +kernel
theorem dX3_inBoth_1 : decode cX3_inBoth 1 = .ok (.istore_n 3, 1) := by decide +kernel
theorem dX3_inBoth_2 : decode cX3_inBoth 2 = .ok (.iconst 0, 1) := by decide +kernel
theorem dX3_inBoth_3 : decode cX3_inBoth 3 = .ok (.istore 4, 2) := by decide +kernel
theorem dX3_inBoth_5 : decode cX3_inBoth 5 = .ok (.iload 4, 2) := by decide +kernel
theorem dX3_inBoth_7 : decode cX3_inBoth 7 = .ok (.aload_n 0, 1) := by decide +kernel
theorem dX3_inBoth_8 : decode cX3_inBoth 8 = .ok (.getfield 23, 3) := by decide +kernel
theorem dX3_inBoth_11 : decode cX3_inBoth 11 = .ok (.iload_n 1, 1) := by decide +kernel
theorem dX3_inBoth_12 : decode cX3_inBoth 12 = .ok (.iaload, 1) := by decide +kernel
theorem dX3_inBoth_13 : decode cX3_inBoth 13 = .ok (.if_icmp .ge 33, 3) := by decide +kernel
theorem dX3_inBoth_16 : decode cX3_inBoth 16 = .ok (.iload_n 3, 1) := by decide +kernel
theorem dX3_inBoth_17 : decode cX3_inBoth 17 = .ok (.aload_n 0, 1) := by decide +kernel
theorem dX3_inBoth_18 : decode cX3_inBoth 18 = .ok (.iload_n 2, 1) := by decide +kernel
theorem dX3_inBoth_19 : decode cX3_inBoth 19 = .ok (.aload_n 0, 1) := by decide +kernel
theorem dX3_inBoth_20 : decode cX3_inBoth 20 = .ok (.iload_n 1, 1) := by decide +kernel
theorem dX3_inBoth_21 : decode cX3_inBoth 21 = .ok (.iload 4, 2) := by decide +kernel
theorem dX3_inBoth_23 : decode cX3_inBoth 23 = .ok (.invokevirtual 98, 3) := by decide +kernel
theorem dX3_inBoth_26 : decode cX3_inBoth 26 = .ok (.invokevirtual 104, 3) := by decide +kernel
theorem dX3_inBoth_29 : decode cX3_inBoth 29 = .ok (.iconst (-1), 1) := by decide +kernel
theorem dX3_inBoth_30 : decode cX3_inBoth 30 = .ok (.if_icmp .ne 7, 3) := by decide +kernel
theorem dX3_inBoth_33 : decode cX3_inBoth 33 = .ok (.iconst 0, 1) := by decide +kernel
theorem dX3_inBoth_34 : decode cX3_inBoth 34 = .ok (.goto 4, 3) := by decide +kernel
theorem dX3_inBoth_37 : decode cX3_inBoth 37 = .ok (.iconst 1, 1) := by decide +kernel
theorem dX3_inBoth_38 : decode cX3_inBoth 38 = .ok (.iadd, 1) := by decide +kernel
theorem dX3_inBoth_39 : decode cX3_inBoth 39 = .ok (.istore_n 3, 1) := by decide +kernel
theorem dX3_inBoth_40 : decode cX3_inBoth 40 = .ok (.iinc 4 1, 3) := by decide +kernel
theorem dX3_inBoth_43 : decode cX3_inBoth 43 = .ok (.goto (-38), 3) := by decide +kernel
theorem dX3_inBoth_46 : decode cX3_inBoth 46 = .ok (.iload_n 3, 1) := by decide +kernel
theorem dX3_inBoth_47 : decode cX3_inBoth 47 = .ok (.ireturn, 1) := by decide +kernel
theorem dX3_layBoth_0 : decode cX3_layBoth 0 = .ok (.aload_n 0, 1) := by decide +kernel
theorem dX3_layBoth_1 : decode cX3_layBoth 1 = .ok (.getfield 23, 3) := by decide +kernel
theorem dX3_layBoth_4 : decode cX3_layBoth 4 = .ok (.bipush 21, 2) := by decide +kernel
theorem dX3_layBoth_6 : decode cX3_layBoth 6 = .ok (.iconst 0, 1) := by decide +kernel
theorem dX3_layBoth_7 : decode cX3_layBoth 7 = .ok (.iastore, 1) := by decide +kernel
theorem dX3_layBoth_8 : decode cX3_layBoth 8 = .ok (.iconst 0, 1) := by decide +kernel
theorem dX3_layBoth_9 : decode cX3_layBoth 9 = .ok (.istore 4, 2) := by decide +kernel
theorem dX3_layBoth_11 : decode cX3_layBoth 11 = .ok (.iload 4, 2) := by decide +kernel
theorem dX3_layBoth_13 : decode cX3_layBoth 13 = .ok (.aload_n 0, 1) := by decide +kernel
theorem dX3_layBoth_14 : decode cX3_layBoth 14 = .ok (.getfield 23, 3) := by decide +kernel
theorem dX3_layBoth_17 : decode cX3_layBoth 17 = .ok (.iload_n 1, 1) := by decide +kernel
theorem dX3_layBoth_18 : decode cX3_layBoth 18 = .ok (.iaload, 1) := by decide +kernel
theorem dX3_layBoth_19 : decode cX3_layBoth 19 = .ok (.if_icmp .ge 71, 3) := by decide +kernel
theorem dX3_layBoth_22 : decode cX3_layBoth 22 = .ok (.aload_n 0, 1) := by decide +kernel
theorem dX3_layBoth_23 : decode cX3_layBoth 23 = .ok (.iload_n 2, 1) := by decide +kernel
theorem dX3_layBoth_24 : decode cX3_layBoth 24 = .ok (.aload_n 0, 1) := by decide +kernel
theorem dX3_layBoth_25 : decode cX3_layBoth 25 = .ok (.iload_n 1, 1) := by decide +kernel
theorem dX3_layBoth_26 : decode cX3_layBoth 26 = .ok (.iload 4, 2) := by decide +kernel
theorem dX3_layBoth_28 : decode cX3_layBoth 28 = .ok (.invokevirtual 98, 3) := by decide +kernel
theorem dX3_layBoth_31 : decode cX3_layBoth 31 = .ok (.invokevirtual 104, 3) := by decide +kernel
theorem dX3_layBoth_34 : decode cX3_layBoth 34 = .ok (.iconst (-1), 1) := by decide +kernel
theorem dX3_layBoth_35 : decode cX3_layBoth 35 = .ok (.if_icmp .eq 7, 3) := by decide +kernel
theorem dX3_layBoth_38 : decode cX3_layBoth 38 = .ok (.iconst 1, 1) := by decide +kernel
theorem dX3_layBoth_39 : decode cX3_layBoth 39 = .ok (.goto 4, 3) := by decide +kernel
theorem dX3_layBoth_42 : decode cX3_layBoth 42 = .ok (.iconst 0, 1) := by decide +kernel
theorem dX3_layBoth_43 : decode cX3_layBoth 43 = .ok (.istore 5, 2) := by decide +kernel
theorem dX3_layBoth_45 : decode cX3_layBoth 45 = .ok (.iload_n 3, 1) := by decide +kernel
theorem dX3_layBoth_46 : decode cX3_layBoth 46 = .ok (.ifCond .eq 18, 3) := by decide +kernel
theorem dX3_layBoth_49 : decode cX3_layBoth 49 = .ok (.iload 5, 2) := by decide +kernel
theorem dX3_layBoth_51 : decode cX3_layBoth 51 = .ok (.iload_n 3, 1) := by decide +kernel
theorem dX3_layBoth_52 : decode cX3_layBoth 52 = .ok (.iconst 1, 1) := by decide +kernel
theorem dX3_layBoth_53 : decode cX3_layBoth 53 = .ok (.if_icmp .ne 7, 3) := by decide +kernel
theorem dX3_layBoth_56 : decode cX3_layBoth 56 = .ok (.iconst 1, 1) := by decide +kernel
theorem dX3_layBoth_57 : decode cX3_layBoth 57 = .ok (.goto 4, 3) := by decide +kernel
theorem dX3_layBoth_60 : decode cX3_layBoth 60 = .ok (.iconst 0, 1) := by decide +kernel
theorem dX3_layBoth_61 : decode cX3_layBoth 61 = .ok (.if_icmp .ne 23, 3) := by decide +kernel
theorem dX3_layBoth_64 : decode cX3_layBoth 64 = .ok (.aload_n 0, 1) := by decide +kernel
theorem dX3_layBoth_65 : decode cX3_layBoth 65 = .ok (.bipush 21, 2) := by decide +kernel
theorem dX3_layBoth_67 : decode cX3_layBoth 67 = .ok (.aload_n 0, 1) := by decide +kernel
theorem dX3_layBoth_68 : decode cX3_layBoth 68 = .ok (.iload_n 1, 1) := by decide +kernel
theorem dX3_layBoth_69 : decode cX3_layBoth 69 = .ok (.iload 4, 2) := by decide +kernel
theorem dX3_layBoth_71 : decode cX3_layBoth 71 = .ok (.invokevirtual 98, 3) := by decide +kernel
theorem dX3_layBoth_74 : decode cX3_layBoth 74 = .ok (.aload_n 0, 1) := by decide +kernel
theorem dX3_layBoth_75 : decode cX3_layBoth 75 = .ok (.iload_n 1, 1) := by decide +kernel
theorem dX3_layBoth_76 : decode cX3_layBoth 76 = .ok (.iload 4, 2) := by decide +kernel
theorem dX3_layBoth_78 : decode cX3_layBoth 78 = .ok (.invokevirtual 101, 3) := by decide +kernel
theorem dX3_layBoth_81 : decode cX3_layBoth 81 = .ok (.invokevirtual 164, 3) := by decide +kernel
theorem dX3_layBoth_84 : decode cX3_layBoth 84 = .ok (.iinc 4 1, 3) := by decide +kernel
theorem dX3_layBoth_87 : decode cX3_layBoth 87 = .ok (.goto (-76), 3) := by decide +kernel
theorem dX3_layBoth_90 : decode cX3_layBoth 90 = .ok (.iconst 0, 1) := by decide +kernel
theorem dX3_layBoth_91 : decode cX3_layBoth 91 = .ok (.istore 4, 2) := by decide +kernel
theorem dX3_layBoth_93 : decode cX3_layBoth 93 = .ok (.iload 4, 2) := by decide +kernel
theorem dX3_layBoth_95 : decode cX3_layBoth 95 = .ok (.aload_n 0, 1) := by decide +kernel
theorem dX3_layBoth_96 : decode cX3_layBoth 96 = .ok (.getfield 23, 3) := by decide +kernel
theorem dX3_layBoth_99 : decode cX3_layBoth 99 = .ok (.iload_n 2, 1) := by decide +kernel
theorem dX3_layBoth_100 : decode cX3_layBoth 100 = .ok (.iaload, 1) := by decide +kernel
theorem dX3_layBoth_101 : decode cX3_layBoth 101 = .ok (.if_icmp .ge 49, 3) := by decide +kernel
theorem dX3_layBoth_104 : decode cX3_layBoth 104 = .ok (.iload_n 3, 1) := by decide +kernel
theorem dX3_layBoth_105 : decode cX3_layBoth 105 = .ok (.ifCond .ne 45, 3) := by decide +kernel
theorem dX3_layBoth_108 : decode cX3_layBoth 108 = .ok (.aload_n 0, 1) := by decide +kernel
theorem dX3_layBoth_109 : decode cX3_layBoth 109 = .ok (.iload_n 1, 1) := by decide +kernel
theorem dX3_layBoth_110 : decode cX3_layBoth 110 = .ok (.aload_n 0, 1) := by decide +kernel
theorem dX3_layBoth_111 : decode cX3_layBoth 111 = .ok (.iload_n 2, 1) := by decide +kernel
theorem dX3_layBoth_112 : decode cX3_layBoth 112 = .ok (.iload 4, 2) := by decide +kernel
theorem dX3_layBoth_114 : decode cX3_layBoth 114 = .ok (.invokevirtual 98, 3) := by decide +kernel
theorem dX3_layBoth_117 : decode cX3_layBoth 117 = .ok (.invokevirtual 104, 3) := by decide +kernel
theorem dX3_layBoth_120 : decode cX3_layBoth 120 = .ok (.iconst (-1), 1) := by decide +kernel
theorem dX3_layBoth_121 : decode cX3_layBoth 121 = .ok (.if_icmp .ne 23, 3) := by decide +kernel
theorem dX3_layBoth_124 : decode cX3_layBoth 124 = .ok (.aload_n 0, 1) := by decide +kernel
theorem dX3_layBoth_125 : decode cX3_layBoth 125 = .ok (.bipush 21, 2) := by decide +kernel
theorem dX3_layBoth_127 : decode cX3_layBoth 127 = .ok (.aload_n 0, 1) := by decide +kernel
theorem dX3_layBoth_128 : decode cX3_layBoth 128 = .ok (.iload_n 2, 1) := by decide +kernel
theorem dX3_layBoth_129 : decode cX3_layBoth 129 = .ok (.iload 4, 2) := by decide +kernel
theorem dX3_layBoth_131 : decode cX3_layBoth 131 = .ok (.invokevirtual 98, 3) := by decide +kernel
theorem dX3_layBoth_134 : decode cX3_layBoth 134 = .ok (.aload_n 0, 1) := by decide +kernel
theorem dX3_layBoth_135 : decode cX3_layBoth 135 = .ok (.iload_n 2, 1) := by decide +kernel
theorem dX3_layBoth_136 : decode cX3_layBoth 136 = .ok (.iload 4, 2) := by decide +kernel
theorem dX3_layBoth_138 : decode cX3_layBoth 138 = .ok (.invokevirtual 101, 3) := by decide +kernel
theorem dX3_layBoth_141 : decode cX3_layBoth 141 = .ok (.invokevirtual 164, 3) := by decide +kernel
theorem dX3_layBoth_144 : decode cX3_layBoth 144 = .ok (.iinc 4 1, 3) := by decide +kernel
theorem dX3_layBoth_147 : decode cX3_layBoth 147 = .ok (.goto (-54), 3) := by decide +kernel
theorem dX3_layBoth_150 : decode cX3_layBoth 150 = .ok (.return_, 1) := by decide +kernel
theorem dX3_both_0 : decode cX3_both 0 = .ok (.aload_n 0, 1) := by decide +kernel
theorem dX3_both_1 : decode cX3_both 1 = .ok (.iload_n 1, 1) := by decide +kernel
theorem dX3_both_2 : decode cX3_both 2 = .ok (.invokevirtual 160, 3) := by decide +kernel
theorem dX3_both_5 : decode cX3_both 5 = .ok (.ifCond .eq 11, 3) := by decide +kernel
theorem dX3_both_8 : decode cX3_both 8 = .ok (.aload_n 0, 1) := by decide +kernel
theorem dX3_both_9 : decode cX3_both 9 = .ok (.iload_n 2, 1) := by decide +kernel
theorem dX3_both_10 : decode cX3_both 10 = .ok (.invokevirtual 160, 3) := by decide +kernel
theorem dX3_both_13 : decode cX3_both 13 = .ok (.ifCond .ne 6, 3) := by decide +kernel
theorem dX3_both_16 : decode cX3_both 16 = .ok (.bipush (-101), 2) := by decide +kernel
theorem dX3_both_18 : decode cX3_both 18 = .ok (.ireturn, 1) := by decide +kernel
theorem dX3_both_19 : decode cX3_both 19 = .ok (.iload_n 3, 1) := by decide +kernel
theorem dX3_both_20 : decode cX3_both 20 = .ok (.iconst 0, 1) := by decide +kernel
theorem dX3_both_21 : decode cX3_both 21 = .ok (.iconst 2, 1) := by decide +kernel
theorem dX3_both_22 : decode cX3_both 22 = .ok (.invokestatic 81, 3) := by decide +kernel
theorem dX3_both_25 : decode cX3_both 25 = .ok (.ifCond .ne 6, 3) := by decide +kernel
theorem dX3_both_28 : decode cX3_both 28 = .ok (.bipush (-102), 2) := by decide +kernel
theorem dX3_both_30 : decode cX3_both 30 = .ok (.ireturn, 1) := by decide +kernel
theorem dX3_both_31 : decode cX3_both 31 = .ok (.aload_n 0, 1) := by decide +kernel
theorem dX3_both_32 : decode cX3_both 32 = .ok (.getfield 20, 3) := by decide +kernel
theorem dX3_both_35 : decode cX3_both 35 = .ok (.bipush 20, 2) := by decide +kernel
theorem dX3_both_37 : decode cX3_both 37 = .ok (.if_icmp .eq 32, 3) := by decide +kernel
theorem dX3_both_40 : decode cX3_both 40 = .ok (.iload_n 3, 1) := by decide +kernel
theorem dX3_both_41 : decode cX3_both 41 = .ok (.ifCond .ne 31, 3) := by decide +kernel
theorem dX3_both_44 : decode cX3_both 44 = .ok (.aload_n 0, 1) := by decide +kernel
theorem dX3_both_45 : decode cX3_both 45 = .ok (.getfield 23, 3) := by decide +kernel
theorem dX3_both_48 : decode cX3_both 48 = .ok (.iload_n 1, 1) := by decide +kernel
theorem dX3_both_49 : decode cX3_both 49 = .ok (.iaload, 1) := by decide +kernel
theorem dX3_both_50 : decode cX3_both 50 = .ok (.aload_n 0, 1) := by decide +kernel
theorem dX3_both_51 : decode cX3_both 51 = .ok (.getfield 23, 3) := by decide +kernel
theorem dX3_both_54 : decode cX3_both 54 = .ok (.iload_n 2, 1) := by decide +kernel
theorem dX3_both_55 : decode cX3_both 55 = .ok (.iaload, 1) := by decide +kernel
theorem dX3_both_56 : decode cX3_both 56 = .ok (.iadd, 1) := by decide +kernel
theorem dX3_both_57 : decode cX3_both 57 = .ok (.aload_n 0, 1) := by decide +kernel
theorem dX3_both_58 : decode cX3_both 58 = .ok (.iload_n 1, 1) := by decide +kernel
theorem dX3_both_59 : decode cX3_both 59 = .ok (.iload_n 2, 1) := by decide +kernel
theorem dX3_both_60 : decode cX3_both 60 = .ok (.invokevirtual 176, 3) := by decide +kernel
theorem dX3_both_63 : decode cX3_both 63 = .ok (.isub, 1) := by decide +kernel
theorem dX3_both_64 : decode cX3_both 64 = .ok (.bipush 24, 2) := by decide +kernel
theorem dX3_both_66 : decode cX3_both 66 = .ok (.if_icmp .le 6, 3) := by decide +kernel
theorem dX3_both_69 : decode cX3_both 69 = .ok (.bipush (-104), 2) := by decide +kernel
theorem dX3_both_71 : decode cX3_both 71 = .ok (.ireturn, 1) := by decide +kernel
theorem dX3_both_72 : decode cX3_both 72 = .ok (.aload_n 0, 1) := by decide +kernel
theorem dX3_both_73 : decode cX3_both 73 = .ok (.iload_n 1, 1) := by decide +kernel
theorem dX3_both_74 : decode cX3_both 74 = .ok (.iload_n 2, 1) := by decide +kernel
theorem dX3_both_75 : decode cX3_both 75 = .ok (.iload_n 3, 1) := by decide +kernel
theorem dX3_both_76 : decode cX3_both 76 = .ok (.invokevirtual 179, 3) := by decide +kernel
theorem dX3_both_79 : decode cX3_both 79 = .ok (.aload_n 0, 1) := by decide +kernel
theorem dX3_both_80 : decode cX3_both 80 = .ok (.iload_n 1, 1) := by decide +kernel
theorem dX3_both_81 : decode cX3_both 81 = .ok (.iload_n 2, 1) := by decide +kernel
theorem dX3_both_82 : decode cX3_both 82 = .ok (.invokevirtual 167, 3) := by decide +kernel
theorem dX3_both_85 : decode cX3_both 85 = .ok (.aload_n 0, 1) := by decide +kernel
theorem dX3_both_86 : decode cX3_both 86 = .ok (.bipush 21, 2) := by decide +kernel
theorem dX3_both_88 : decode cX3_both 88 = .ok (.invokevirtual 170, 3) := by decide +kernel
theorem dX3_both_91 : decode cX3_both 91 = .ok (.ireturn, 1) := by decide +kernel
theorem dX3_chosen_0 : decode cX3_chosen 0 = .ok (.aload_n 0, 1) := by decide +kernel
theorem dX3_chosen_1 : decode cX3_chosen 1 = .ok (.iload_n 1, 1) := by decide +kernel
theorem dX3_chosen_2 : decode cX3_chosen 2 = .ok (.invokevirtual 160, 3) := by decide +kernel
theorem dX3_chosen_5 : decode cX3_chosen 5 = .ok (.ifCond .ne 6, 3) := by decide +kernel
theorem dX3_chosen_8 : decode cX3_chosen 8 = .ok (.bipush (-101), 2) := by decide +kernel
theorem dX3_chosen_10 : decode cX3_chosen 10 = .ok (.ireturn, 1) := by decide +kernel
theorem dX3_chosen_11 : decode cX3_chosen 11 = .ok (.iload_n 2, 1) := by decide +kernel
theorem dX3_chosen_12 : decode cX3_chosen 12 = .ok (.iconst 1, 1) := by decide +kernel
theorem dX3_chosen_13 : decode cX3_chosen 13 = .ok (.sipush 999, 3) := by decide +kernel
theorem dX3_chosen_16 : decode cX3_chosen 16 = .ok (.invokestatic 81, 3) := by decide +kernel
theorem dX3_chosen_19 : decode cX3_chosen 19 = .ok (.ifCond .eq 14, 3) := by decide +kernel
theorem dX3_chosen_22 : decode cX3_chosen 22 = .ok (.iload_n 3, 1) := by decide +kernel
theorem dX3_chosen_23 : decode cX3_chosen 23 = .ok (.iconst 0, 1) := by decide +kernel
theorem dX3_chosen_24 : decode cX3_chosen 24 = .ok (.iload_n 2, 1) := by decide +kernel
theorem dX3_chosen_25 : decode cX3_chosen 25 = .ok (.iconst 1, 1) := by decide +kernel
theorem dX3_chosen_26 : decode cX3_chosen 26 = .ok (.isub, 1) := by decide +kernel
theorem dX3_chosen_27 : decode cX3_chosen 27 = .ok (.invokestatic 81, 3) := by decide +kernel
theorem dX3_chosen_30 : decode cX3_chosen 30 = .ok (.ifCond .ne 6, 3) := by decide +kernel
theorem dX3_chosen_33 : decode cX3_chosen 33 = .ok (.bipush (-102), 2) := by decide +kernel
theorem dX3_chosen_35 : decode cX3_chosen 35 = .ok (.ireturn, 1) := by decide +kernel
theorem dX3_chosen_36 : decode cX3_chosen 36 = .ok (.aload_n 0, 1) := by decide +kernel
theorem dX3_chosen_37 : decode cX3_chosen 37 = .ok (.getfield 20, 3) := by decide +kernel
theorem dX3_chosen_40 : decode cX3_chosen 40 = .ok (.bipush 20, 2) := by decide +kernel
theorem dX3_chosen_42 : decode cX3_chosen 42 = .ok (.if_icmp .ne 6, 3) := by decide +kernel
theorem dX3_chosen_45 : decode cX3_chosen 45 = .ok (.bipush (-104), 2) := by decide +kernel
theorem dX3_chosen_47 : decode cX3_chosen 47 = .ok (.ireturn, 1) := by decide +kernel
theorem dX3_chosen_48 : decode cX3_chosen 48 = .ok (.aload_n 0, 1) := by decide +kernel
theorem dX3_chosen_49 : decode cX3_chosen 49 = .ok (.getfield 23, 3) := by decide +kernel
theorem dX3_chosen_52 : decode cX3_chosen 52 = .ok (.bipush 21, 2) := by decide +kernel
theorem dX3_chosen_54 : decode cX3_chosen 54 = .ok (.iconst 0, 1) := by decide +kernel
theorem dX3_chosen_55 : decode cX3_chosen 55 = .ok (.iastore, 1) := by decide +kernel
theorem dX3_chosen_56 : decode cX3_chosen 56 = .ok (.iconst 0, 1) := by decide +kernel
theorem dX3_chosen_57 : decode cX3_chosen 57 = .ok (.istore 4, 2) := by decide +kernel
theorem dX3_chosen_59 : decode cX3_chosen 59 = .ok (.iload 4, 2) := by decide +kernel
theorem dX3_chosen_61 : decode cX3_chosen 61 = .ok (.aload_n 0, 1) := by decide +kernel
theorem dX3_chosen_62 : decode cX3_chosen 62 = .ok (.getfield 23, 3) := by decide +kernel
theorem dX3_chosen_65 : decode cX3_chosen 65 = .ok (.iload_n 1, 1) := by decide +kernel
theorem dX3_chosen_66 : decode cX3_chosen 66 = .ok (.iaload, 1) := by decide +kernel
theorem dX3_chosen_67 : decode cX3_chosen 67 = .ok (.if_icmp .ge 42, 3) := by decide +kernel
theorem dX3_chosen_70 : decode cX3_chosen 70 = .ok (.aload_n 0, 1) := by decide +kernel
theorem dX3_chosen_71 : decode cX3_chosen 71 = .ok (.iload_n 1, 1) := by decide +kernel
theorem dX3_chosen_72 : decode cX3_chosen 72 = .ok (.iload 4, 2) := by decide +kernel
theorem dX3_chosen_74 : decode cX3_chosen 74 = .ok (.invokevirtual 101, 3) := by decide +kernel
theorem dX3_chosen_77 : decode cX3_chosen 77 = .ok (.iload_n 2, 1) := by decide +kernel
theorem dX3_chosen_78 : decode cX3_chosen 78 = .ok (.irem, 1) := by decide +kernel
theorem dX3_chosen_79 : decode cX3_chosen 79 = .ok (.iload_n 3, 1) := by decide +kernel
theorem dX3_chosen_80 : decode cX3_chosen 80 = .ok (.if_icmp .ne 23, 3) := by decide +kernel
theorem dX3_chosen_83 : decode cX3_chosen 83 = .ok (.aload_n 0, 1) := by decide +kernel
theorem dX3_chosen_84 : decode cX3_chosen 84 = .ok (.bipush 21, 2) := by decide +kernel
theorem dX3_chosen_86 : decode cX3_chosen 86 = .ok (.aload_n 0, 1) := by decide +kernel
theorem dX3_chosen_87 : decode cX3_chosen 87 = .ok (.iload_n 1, 1) := by decide +kernel
theorem dX3_chosen_88 : decode cX3_chosen 88 = .ok (.iload 4, 2) := by decide +kernel
theorem dX3_chosen_90 : decode cX3_chosen 90 = .ok (.invokevirtual 98, 3) := by decide +kernel
theorem dX3_chosen_93 : decode cX3_chosen 93 = .ok (.aload_n 0, 1) := by decide +kernel
theorem dX3_chosen_94 : decode cX3_chosen 94 = .ok (.iload_n 1, 1) := by decide +kernel
theorem dX3_chosen_95 : decode cX3_chosen 95 = .ok (.iload 4, 2) := by decide +kernel
theorem dX3_chosen_97 : decode cX3_chosen 97 = .ok (.invokevirtual 101, 3) := by decide +kernel
theorem dX3_chosen_100 : decode cX3_chosen 100 = .ok (.invokevirtual 164, 3) := by decide +kernel
theorem dX3_chosen_103 : decode cX3_chosen 103 = .ok (.iinc 4 1, 3) := by decide +kernel
theorem dX3_chosen_106 : decode cX3_chosen 106 = .ok (.goto (-47), 3) := by decide +kernel
theorem dX3_chosen_109 : decode cX3_chosen 109 = .ok (.aload_n 0, 1) := by decide +kernel
theorem dX3_chosen_110 : decode cX3_chosen 110 = .ok (.iload_n 1, 1) := by decide +kernel
theorem dX3_chosen_111 : decode cX3_chosen 111 = .ok (.iconst (-1), 1) := by decide +kernel
theorem dX3_chosen_112 : decode cX3_chosen 112 = .ok (.invokevirtual 167, 3) := by decide +kernel
theorem dX3_chosen_115 : decode cX3_chosen 115 = .ok (.aload_n 0, 1) := by decide +kernel
theorem dX3_chosen_116 : decode cX3_chosen 116 = .ok (.bipush 21, 2) := by decide +kernel
theorem dX3_chosen_118 : decode cX3_chosen 118 = .ok (.invokevirtual 170, 3) := by decide +kernel
theorem dX3_chosen_121 : decode cX3_chosen 121 = .ok (.ireturn, 1) := by decide +kernel
theorem dX3_forget_0 : decode cX3_forget 0 = .ok (.aload_n 0, 1) := by decide +kernel
theorem dX3_forget_1 : decode cX3_forget 1 = .ok (.getfield 20, 3) := by decide +kernel
theorem dX3_forget_4 : decode cX3_forget 4 = .ok (.iconst 1, 1) := by decide +kernel
theorem dX3_forget_5 : decode cX3_forget 5 = .ok (.if_icmp .ne 6, 3) := by decide +kernel
theorem dX3_forget_8 : decode cX3_forget 8 = .ok (.bipush (-103), 2) := by decide +kernel
theorem dX3_forget_10 : decode cX3_forget 10 = .ok (.ireturn, 1) := by decide +kernel
theorem dX3_forget_11 : decode cX3_forget 11 = .ok (.aload_n 0, 1) := by decide +kernel
theorem dX3_forget_12 : decode cX3_forget 12 = .ok (.dup, 1) := by decide +kernel
theorem dX3_forget_13 : decode cX3_forget 13 = .ok (.getfield 20, 3) := by decide +kernel
theorem dX3_forget_16 : decode cX3_forget 16 = .ok (.iconst 1, 1) := by decide +kernel
theorem dX3_forget_17 : decode cX3_forget 17 = .ok (.isub, 1) := by decide +kernel
theorem dX3_forget_18 : decode cX3_forget 18 = .ok (.putfield 20, 3) := by decide +kernel
theorem dX3_forget_21 : decode cX3_forget 21 = .ok (.aload_n 0, 1) := by decide +kernel
theorem dX3_forget_22 : decode cX3_forget 22 = .ok (.getfield 20, 3) := by decide +kernel
theorem dX3_forget_25 : decode cX3_forget 25 = .ok (.ireturn, 1) := by decide +kernel
theorem dX3_steadOf_0 : decode cX3_steadOf 0 = .ok (.sipush 2016, 3) := by decide +kernel
theorem dX3_steadOf_3 : decode cX3_steadOf 3 = .ok (.iload_n 1, 1) := by decide +kernel
theorem dX3_steadOf_4 : decode cX3_steadOf 4 = .ok (.iadd, 1) := by decide +kernel
theorem dX3_steadOf_5 : decode cX3_steadOf 5 = .ok (.istore_n 2, 1) := by decide +kernel
theorem dX3_steadOf_6 : decode cX3_steadOf 6 = .ok (.aload_n 0, 1) := by decide +kernel
theorem dX3_steadOf_7 : decode cX3_steadOf 7 = .ok (.bipush 21, 2) := by decide +kernel
theorem dX3_steadOf_9 : decode cX3_steadOf 9 = .ok (.aload_n 0, 1) := by decide +kernel
theorem dX3_steadOf_10 : decode cX3_steadOf 10 = .ok (.getfield 41, 3) := by decide +kernel
theorem dX3_steadOf_13 : decode cX3_steadOf 13 = .ok (.iload_n 2, 1) := by decide +kernel
theorem dX3_steadOf_14 : decode cX3_steadOf 14 = .ok (.iaload, 1) := by decide +kernel
theorem dX3_steadOf_15 : decode cX3_steadOf 15 = .ok (.invokevirtual 98, 3) := by decide +kernel
theorem dX3_steadOf_18 : decode cX3_steadOf 18 = .ok (.istore_n 3, 1) := by decide +kernel
theorem dX3_steadOf_19 : decode cX3_steadOf 19 = .ok (.iconst 0, 1) := by decide +kernel
theorem dX3_steadOf_20 : decode cX3_steadOf 20 = .ok (.istore 4, 2) := by decide +kernel
theorem dX3_steadOf_22 : decode cX3_steadOf 22 = .ok (.iload 4, 2) := by decide +kernel
theorem dX3_steadOf_24 : decode cX3_steadOf 24 = .ok (.aload_n 0, 1) := by decide +kernel
theorem dX3_steadOf_25 : decode cX3_steadOf 25 = .ok (.getfield 32, 3) := by decide +kernel
theorem dX3_steadOf_28 : decode cX3_steadOf 28 = .ok (.bipush 20, 2) := by decide +kernel
theorem dX3_steadOf_30 : decode cX3_steadOf 30 = .ok (.iaload, 1) := by decide +kernel
theorem dX3_steadOf_31 : decode cX3_steadOf 31 = .ok (.if_icmp .ge 70, 3) := by decide +kernel
theorem dX3_steadOf_34 : decode cX3_steadOf 34 = .ok (.sipush 1920, 3) := by decide +kernel
theorem dX3_steadOf_37 : decode cX3_steadOf 37 = .ok (.iload 4, 2) := by decide +kernel
theorem dX3_steadOf_39 : decode cX3_steadOf 39 = .ok (.iadd, 1) := by decide +kernel
theorem dX3_steadOf_40 : decode cX3_steadOf 40 = .ok (.istore 5, 2) := by decide +kernel
theorem dX3_steadOf_42 : decode cX3_steadOf 42 = .ok (.aload_n 0, 1) := by decide +kernel
theorem dX3_steadOf_43 : decode cX3_steadOf 43 = .ok (.getfield 50, 3) := by decide +kernel
theorem dX3_steadOf_46 : decode cX3_steadOf 46 = .ok (.iload 5, 2) := by decide +kernel
theorem dX3_steadOf_48 : decode cX3_steadOf 48 = .ok (.baload, 1) := by decide +kernel
theorem dX3_steadOf_49 : decode cX3_steadOf 49 = .ok (.ifCond .eq 46, 3) := by decide +kernel
theorem dX3_steadOf_52 : decode cX3_steadOf 52 = .ok (.aload_n 0, 1) := by decide +kernel
theorem dX3_steadOf_53 : decode cX3_steadOf 53 = .ok (.getfield 35, 3) := by decide +kernel
theorem dX3_steadOf_56 : decode cX3_steadOf 56 = .ok (.iload 5, 2) := by decide +kernel
theorem dX3_steadOf_58 : decode cX3_steadOf 58 = .ok (.iaload, 1) := by decide +kernel
theorem dX3_steadOf_59 : decode cX3_steadOf 59 = .ok (.aload_n 0, 1) := by decide +kernel
theorem dX3_steadOf_60 : decode cX3_steadOf 60 = .ok (.getfield 35, 3) := by decide +kernel
theorem dX3_steadOf_63 : decode cX3_steadOf 63 = .ok (.iload_n 2, 1) := by decide +kernel
theorem dX3_steadOf_64 : decode cX3_steadOf 64 = .ok (.iaload, 1) := by decide +kernel
theorem dX3_steadOf_65 : decode cX3_steadOf 65 = .ok (.if_icmp .ne 30, 3) := by decide +kernel
theorem dX3_steadOf_68 : decode cX3_steadOf 68 = .ok (.aload_n 0, 1) := by decide +kernel
theorem dX3_steadOf_69 : decode cX3_steadOf 69 = .ok (.iload_n 2, 1) := by decide +kernel
theorem dX3_steadOf_70 : decode cX3_steadOf 70 = .ok (.iload_n 3, 1) := by decide +kernel
theorem dX3_steadOf_71 : decode cX3_steadOf 71 = .ok (.iload 5, 2) := by decide +kernel
theorem dX3_steadOf_73 : decode cX3_steadOf 73 = .ok (.aload_n 0, 1) := by decide +kernel
theorem dX3_steadOf_74 : decode cX3_steadOf 74 = .ok (.bipush 20, 2) := by decide +kernel
theorem dX3_steadOf_76 : decode cX3_steadOf 76 = .ok (.aload_n 0, 1) := by decide +kernel
theorem dX3_steadOf_77 : decode cX3_steadOf 77 = .ok (.getfield 41, 3) := by decide +kernel
theorem dX3_steadOf_80 : decode cX3_steadOf 80 = .ok (.iload 5, 2) := by decide +kernel
theorem dX3_steadOf_82 : decode cX3_steadOf 82 = .ok (.iaload, 1) := by decide +kernel
theorem dX3_steadOf_83 : decode cX3_steadOf 83 = .ok (.invokevirtual 98, 3) := by decide +kernel
theorem dX3_steadOf_86 : decode cX3_steadOf 86 = .ok (.invokevirtual 182, 3) := by decide +kernel
theorem dX3_steadOf_89 : decode cX3_steadOf 89 = .ok (.ifCond .eq 6, 3) := by decide +kernel
theorem dX3_steadOf_92 : decode cX3_steadOf 92 = .ok (.iload 4, 2) := by decide +kernel
theorem dX3_steadOf_94 : decode cX3_steadOf 94 = .ok (.ireturn, 1) := by decide +kernel
theorem dX3_steadOf_95 : decode cX3_steadOf 95 = .ok (.iinc 4 1, 3) := by decide +kernel
theorem dX3_steadOf_98 : decode cX3_steadOf 98 = .ok (.goto (-76), 3) := by decide +kernel
theorem dX3_steadOf_101 : decode cX3_steadOf 101 = .ok (.iconst (-1), 1) := by decide +kernel
theorem dX3_steadOf_102 : decode cX3_steadOf 102 = .ok (.ireturn, 1) := by decide +kernel
theorem dX3_isStead_0 : decode cX3_isStead 0 = .ok (.aload_n 0, 1) := by decide +kernel
theorem dX3_isStead_1 : decode cX3_isStead 1 = .ok (.getfield 35, 3) := by decide +kernel
theorem dX3_isStead_4 : decode cX3_isStead 4 = .ok (.iload_n 1, 1) := by decide +kernel
theorem dX3_isStead_5 : decode cX3_isStead 5 = .ok (.iaload, 1) := by decide +kernel
theorem dX3_isStead_6 : decode cX3_isStead 6 = .ok (.lookupswitch 58 #[(0, 26), (1, 38)], 26) := by decide +kernel
theorem dX3_isStead_32 : decode cX3_isStead 32 = .ok (.iload_n 2, 1) := by decide +kernel
theorem dX3_isStead_33 : decode cX3_isStead 33 = .ok (.iload 4, 2) := by decide +kernel
theorem dX3_isStead_35 : decode cX3_isStead 35 = .ok (.if_icmp .ne 7, 3) := by decide +kernel
theorem dX3_isStead_38 : decode cX3_isStead 38 = .ok (.iconst 1, 1) := by decide +kernel
theorem dX3_isStead_39 : decode cX3_isStead 39 = .ok (.goto 4, 3) := by decide +kernel
theorem dX3_isStead_42 : decode cX3_isStead 42 = .ok (.iconst 0, 1) := by decide +kernel
theorem dX3_isStead_43 : decode cX3_isStead 43 = .ok (.ireturn, 1) := by decide +kernel
theorem dX3_isStead_44 : decode cX3_isStead 44 = .ok (.aload_n 0, 1) := by decide +kernel
theorem dX3_isStead_45 : decode cX3_isStead 45 = .ok (.iload_n 2, 1) := by decide +kernel
theorem dX3_isStead_46 : decode cX3_isStead 46 = .ok (.invokevirtual 85, 3) := by decide +kernel
theorem dX3_isStead_49 : decode cX3_isStead 49 = .ok (.aload_n 0, 1) := by decide +kernel
theorem dX3_isStead_50 : decode cX3_isStead 50 = .ok (.iload 4, 2) := by decide +kernel
theorem dX3_isStead_52 : decode cX3_isStead 52 = .ok (.invokevirtual 85, 3) := by decide +kernel
theorem dX3_isStead_55 : decode cX3_isStead 55 = .ok (.if_icmp .ne 7, 3) := by decide +kernel
theorem dX3_isStead_58 : decode cX3_isStead 58 = .ok (.iconst 1, 1) := by decide +kernel
theorem dX3_isStead_59 : decode cX3_isStead 59 = .ok (.goto 4, 3) := by decide +kernel
theorem dX3_isStead_62 : decode cX3_isStead 62 = .ok (.iconst 0, 1) := by decide +kernel
theorem dX3_isStead_63 : decode cX3_isStead 63 = .ok (.ireturn, 1) := by decide +kernel
theorem dX3_isStead_64 : decode cX3_isStead 64 = .ok (.iconst 1, 1) := by decide +kernel
theorem dX3_isStead_65 : decode cX3_isStead 65 = .ok (.iconst 5, 1) := by decide +kernel
theorem dX3_isStead_66 : decode cX3_isStead 66 = .ok (.aload_n 0, 1) := by decide +kernel
theorem dX3_isStead_67 : decode cX3_isStead 67 = .ok (.getfield 38, 3) := by decide +kernel
theorem dX3_isStead_70 : decode cX3_isStead 70 = .ok (.iload_n 1, 1) := by decide +kernel
theorem dX3_isStead_71 : decode cX3_isStead 71 = .ok (.iaload, 1) := by decide +kernel
theorem dX3_isStead_72 : decode cX3_isStead 72 = .ok (.imul, 1) := by decide +kernel
theorem dX3_isStead_73 : decode cX3_isStead 73 = .ok (.ishl, 1) := by decide +kernel
theorem dX3_isStead_74 : decode cX3_isStead 74 = .ok (.iconst 1, 1) := by decide +kernel
theorem dX3_isStead_75 : decode cX3_isStead 75 = .ok (.isub, 1) := by decide +kernel
theorem dX3_isStead_76 : decode cX3_isStead 76 = .ok (.istore 5, 2) := by decide +kernel
theorem dX3_isStead_78 : decode cX3_isStead 78 = .ok (.aload_n 0, 1) := by decide +kernel
theorem dX3_isStead_79 : decode cX3_isStead 79 = .ok (.getfield 38, 3) := by decide +kernel
theorem dX3_isStead_82 : decode cX3_isStead 82 = .ok (.iload_n 1, 1) := by decide +kernel
theorem dX3_isStead_83 : decode cX3_isStead 83 = .ok (.iaload, 1) := by decide +kernel
theorem dX3_isStead_84 : decode cX3_isStead 84 = .ok (.aload_n 0, 1) := by decide +kernel
theorem dX3_isStead_85 : decode cX3_isStead 85 = .ok (.getfield 38, 3) := by decide +kernel
theorem dX3_isStead_88 : decode cX3_isStead 88 = .ok (.iload_n 3, 1) := by decide +kernel
theorem dX3_isStead_89 : decode cX3_isStead 89 = .ok (.iaload, 1) := by decide +kernel
theorem dX3_isStead_90 : decode cX3_isStead 90 = .ok (.if_icmp .ne 27, 3) := by decide +kernel
theorem dX3_isStead_93 : decode cX3_isStead 93 = .ok (.aload_n 0, 1) := by decide +kernel
theorem dX3_isStead_94 : decode cX3_isStead 94 = .ok (.iload_n 2, 1) := by decide +kernel
theorem dX3_isStead_95 : decode cX3_isStead 95 = .ok (.invokevirtual 85, 3) := by decide +kernel
theorem dX3_isStead_98 : decode cX3_isStead 98 = .ok (.iload 5, 2) := by decide +kernel
theorem dX3_isStead_100 : decode cX3_isStead 100 = .ok (.iand, 1) := by decide +kernel
theorem dX3_isStead_101 : decode cX3_isStead 101 = .ok (.aload_n 0, 1) := by decide +kernel
theorem dX3_isStead_102 : decode cX3_isStead 102 = .ok (.iload 4, 2) := by decide +kernel
theorem dX3_isStead_104 : decode cX3_isStead 104 = .ok (.invokevirtual 85, 3) := by decide +kernel
theorem dX3_isStead_107 : decode cX3_isStead 107 = .ok (.iload 5, 2) := by decide +kernel
theorem dX3_isStead_109 : decode cX3_isStead 109 = .ok (.iand, 1) := by decide +kernel
theorem dX3_isStead_110 : decode cX3_isStead 110 = .ok (.if_icmp .ne 7, 3) := by decide +kernel
theorem dX3_isStead_113 : decode cX3_isStead 113 = .ok (.iconst 1, 1) := by decide +kernel
theorem dX3_isStead_114 : decode cX3_isStead 114 = .ok (.goto 4, 3) := by decide +kernel
theorem dX3_isStead_117 : decode cX3_isStead 117 = .ok (.iconst 0, 1) := by decide +kernel
theorem dX3_isStead_118 : decode cX3_isStead 118 = .ok (.ireturn, 1) := by decide +kernel
theorem dX3_tellEdit_0 : decode cX3_tellEdit 0 = .ok (.aload_n 0, 1) := by decide +kernel
theorem dX3_tellEdit_1 : decode cX3_tellEdit 1 = .ok (.bipush 21, 2) := by decide +kernel
theorem dX3_tellEdit_3 : decode cX3_tellEdit 3 = .ok (.invokevirtual 139, 3) := by decide +kernel
theorem dX3_tellEdit_6 : decode cX3_tellEdit 6 = .ok (.iconst 0, 1) := by decide +kernel
theorem dX3_tellEdit_7 : decode cX3_tellEdit 7 = .ok (.istore_n 1, 1) := by decide +kernel
theorem dX3_tellEdit_8 : decode cX3_tellEdit 8 = .ok (.iload_n 1, 1) := by decide +kernel
theorem dX3_tellEdit_9 : decode cX3_tellEdit 9 = .ok (.aload_n 0, 1) := by decide +kernel
theorem dX3_tellEdit_10 : decode cX3_tellEdit 10 = .ok (.getfield 32, 3) := by decide +kernel
theorem dX3_tellEdit_13 : decode cX3_tellEdit 13 = .ok (.bipush 21, 2) := by decide +kernel
theorem dX3_tellEdit_15 : decode cX3_tellEdit 15 = .ok (.iaload, 1) := by decide +kernel
theorem dX3_tellEdit_16 : decode cX3_tellEdit 16 = .ok (.if_icmp .ge 101, 3) := by decide +kernel
theorem dX3_tellEdit_19 : decode cX3_tellEdit 19 = .ok (.aload_n 0, 1) := by decide +kernel
theorem dX3_tellEdit_20 : decode cX3_tellEdit 20 = .ok (.bipush 21, 2) := by decide +kernel
theorem dX3_tellEdit_22 : decode cX3_tellEdit 22 = .ok (.iload_n 1, 1) := by decide +kernel
theorem dX3_tellEdit_23 : decode cX3_tellEdit 23 = .ok (.bipush 20, 2) := by decide +kernel
theorem dX3_tellEdit_25 : decode cX3_tellEdit 25 = .ok (.invokevirtual 143, 3) := by decide +kernel
theorem dX3_tellEdit_28 : decode cX3_tellEdit 28 = .ok (.istore_n 2, 1) := by decide +kernel
theorem dX3_tellEdit_29 : decode cX3_tellEdit 29 = .ok (.iload_n 2, 1) := by decide +kernel
theorem dX3_tellEdit_30 : decode cX3_tellEdit 30 = .ok (.iconst (-1), 1) := by decide +kernel
theorem dX3_tellEdit_31 : decode cX3_tellEdit 31 = .ok (.if_icmp .eq 19, 3) := by decide +kernel
theorem dX3_tellEdit_34 : decode cX3_tellEdit 34 = .ok (.iload_n 1, 1) := by decide +kernel
theorem dX3_tellEdit_35 : decode cX3_tellEdit 35 = .ok (.aload_n 0, 1) := by decide +kernel
theorem dX3_tellEdit_36 : decode cX3_tellEdit 36 = .ok (.bipush 21, 2) := by decide +kernel
theorem dX3_tellEdit_38 : decode cX3_tellEdit 38 = .ok (.iload_n 1, 1) := by decide +kernel
theorem dX3_tellEdit_39 : decode cX3_tellEdit 39 = .ok (.bipush 20, 2) := by decide +kernel
theorem dX3_tellEdit_41 : decode cX3_tellEdit 41 = .ok (.iload_n 2, 1) := by decide +kernel
theorem dX3_tellEdit_42 : decode cX3_tellEdit 42 = .ok (.invokevirtual 146, 3) := by decide +kernel
theorem dX3_tellEdit_45 : decode cX3_tellEdit 45 = .ok (.iadd, 1) := by decide +kernel
theorem dX3_tellEdit_46 : decode cX3_tellEdit 46 = .ok (.istore_n 1, 1) := by decide +kernel
theorem dX3_tellEdit_47 : decode cX3_tellEdit 47 = .ok (.goto 67, 3) := by decide +kernel
theorem dX3_tellEdit_50 : decode cX3_tellEdit 50 = .ok (.sipush 2016, 3) := by decide +kernel
theorem dX3_tellEdit_53 : decode cX3_tellEdit 53 = .ok (.iload_n 1, 1) := by decide +kernel
theorem dX3_tellEdit_54 : decode cX3_tellEdit 54 = .ok (.iadd, 1) := by decide +kernel
theorem dX3_tellEdit_55 : decode cX3_tellEdit 55 = .ok (.istore_n 3, 1) := by decide +kernel
theorem dX3_tellEdit_56 : decode cX3_tellEdit 56 = .ok (.aload_n 0, 1) := by decide +kernel
theorem dX3_tellEdit_57 : decode cX3_tellEdit 57 = .ok (.iload_n 1, 1) := by decide +kernel
theorem dX3_tellEdit_58 : decode cX3_tellEdit 58 = .ok (.invokevirtual 185, 3) := by decide +kernel
theorem dX3_tellEdit_61 : decode cX3_tellEdit 61 = .ok (.istore 4, 2) := by decide +kernel
theorem dX3_tellEdit_63 : decode cX3_tellEdit 63 = .ok (.iload 4, 2) := by decide +kernel
theorem dX3_tellEdit_65 : decode cX3_tellEdit 65 = .ok (.iconst (-1), 1) := by decide +kernel
theorem dX3_tellEdit_66 : decode cX3_tellEdit 66 = .ok (.if_icmp .ne 21, 3) := by decide +kernel
theorem dX3_tellEdit_69 : decode cX3_tellEdit 69 = .ok (.aload_n 0, 1) := by decide +kernel
theorem dX3_tellEdit_70 : decode cX3_tellEdit 70 = .ok (.iload_n 3, 1) := by decide +kernel
theorem dX3_tellEdit_71 : decode cX3_tellEdit 71 = .ok (.invokevirtual 150, 3) := by decide +kernel
theorem dX3_tellEdit_74 : decode cX3_tellEdit 74 = .ok (.aload_n 0, 1) := by decide +kernel
theorem dX3_tellEdit_75 : decode cX3_tellEdit 75 = .ok (.dup, 1) := by decide +kernel
theorem dX3_tellEdit_76 : decode cX3_tellEdit 76 = .ok (.getfield 188, 3) := by decide +kernel
theorem dX3_tellEdit_79 : decode cX3_tellEdit 79 = .ok (.iconst 1, 1) := by decide +kernel
theorem dX3_tellEdit_80 : decode cX3_tellEdit 80 = .ok (.iadd, 1) := by decide +kernel
theorem dX3_tellEdit_81 : decode cX3_tellEdit 81 = .ok (.putfield 188, 3) := by decide +kernel
theorem dX3_tellEdit_84 : decode cX3_tellEdit 84 = .ok (.goto 20, 3) := by decide +kernel
theorem dX3_tellEdit_87 : decode cX3_tellEdit 87 = .ok (.aload_n 0, 1) := by decide +kernel
theorem dX3_tellEdit_88 : decode cX3_tellEdit 88 = .ok (.getfield 47, 3) := by decide +kernel
theorem dX3_tellEdit_91 : decode cX3_tellEdit 91 = .ok (.iload_n 3, 1) := by decide +kernel
theorem dX3_tellEdit_92 : decode cX3_tellEdit 92 = .ok (.aload_n 0, 1) := by decide +kernel
theorem dX3_tellEdit_93 : decode cX3_tellEdit 93 = .ok (.getfield 47, 3) := by decide +kernel
theorem dX3_tellEdit_96 : decode cX3_tellEdit 96 = .ok (.sipush 1920, 3) := by decide +kernel
theorem dX3_tellEdit_99 : decode cX3_tellEdit 99 = .ok (.iload 4, 2) := by decide +kernel
theorem dX3_tellEdit_101 : decode cX3_tellEdit 101 = .ok (.iadd, 1) := by decide +kernel
theorem dX3_tellEdit_102 : decode cX3_tellEdit 102 = .ok (.iaload, 1) := by decide +kernel
theorem dX3_tellEdit_103 : decode cX3_tellEdit 103 = .ok (.iastore, 1) := by decide +kernel
theorem dX3_tellEdit_104 : decode cX3_tellEdit 104 = .ok (.aload_n 0, 1) := by decide +kernel
theorem dX3_tellEdit_105 : decode cX3_tellEdit 105 = .ok (.getfield 50, 3) := by decide +kernel
theorem dX3_tellEdit_108 : decode cX3_tellEdit 108 = .ok (.iload_n 3, 1) := by decide +kernel
theorem dX3_tellEdit_109 : decode cX3_tellEdit 109 = .ok (.iconst 1, 1) := by decide +kernel
theorem dX3_tellEdit_110 : decode cX3_tellEdit 110 = .ok (.bastore, 1) := by decide +kernel
theorem dX3_tellEdit_111 : decode cX3_tellEdit 111 = .ok (.iinc 1 1, 3) := by decide +kernel
theorem dX3_tellEdit_114 : decode cX3_tellEdit 114 = .ok (.goto (-106), 3) := by decide +kernel
theorem dX3_tellEdit_117 : decode cX3_tellEdit 117 = .ok (.aload_n 0, 1) := by decide +kernel
theorem dX3_tellEdit_118 : decode cX3_tellEdit 118 = .ok (.invokevirtual 191, 3) := by decide +kernel
theorem dX3_tellEdit_121 : decode cX3_tellEdit 121 = .ok (.return_, 1) := by decide +kernel
theorem dX3_takeNew_0 : decode cX3_takeNew 0 = .ok (.aload_n 0, 1) := by decide +kernel
theorem dX3_takeNew_1 : decode cX3_takeNew 1 = .ok (.bipush 20, 2) := by decide +kernel
theorem dX3_takeNew_3 : decode cX3_takeNew 3 = .ok (.bipush 21, 2) := by decide +kernel
theorem dX3_takeNew_5 : decode cX3_takeNew 5 = .ok (.invokevirtual 153, 3) := by decide +kernel
theorem dX3_takeNew_8 : decode cX3_takeNew 8 = .ok (.aload_n 0, 1) := by decide +kernel
theorem dX3_takeNew_9 : decode cX3_takeNew 9 = .ok (.getfield 32, 3) := by decide +kernel
theorem dX3_takeNew_12 : decode cX3_takeNew 12 = .ok (.bipush 20, 2) := by decide +kernel
theorem dX3_takeNew_14 : decode cX3_takeNew 14 = .ok (.aload_n 0, 1) := by decide +kernel
theorem dX3_takeNew_15 : decode cX3_takeNew 15 = .ok (.getfield 32, 3) := by decide +kernel
theorem dX3_takeNew_18 : decode cX3_takeNew 18 = .ok (.bipush 21, 2) := by decide +kernel
theorem dX3_takeNew_20 : decode cX3_takeNew 20 = .ok (.iaload, 1) := by decide +kernel
theorem dX3_takeNew_21 : decode cX3_takeNew 21 = .ok (.iastore, 1) := by decide +kernel
theorem dX3_takeNew_22 : decode cX3_takeNew 22 = .ok (.iconst 0, 1) := by decide +kernel
theorem dX3_takeNew_23 : decode cX3_takeNew 23 = .ok (.istore_n 1, 1) := by decide +kernel
theorem dX3_takeNew_24 : decode cX3_takeNew 24 = .ok (.iload_n 1, 1) := by decide +kernel
theorem dX3_takeNew_25 : decode cX3_takeNew 25 = .ok (.aload_n 0, 1) := by decide +kernel
theorem dX3_takeNew_26 : decode cX3_takeNew 26 = .ok (.getfield 32, 3) := by decide +kernel
theorem dX3_takeNew_29 : decode cX3_takeNew 29 = .ok (.bipush 21, 2) := by decide +kernel
theorem dX3_takeNew_31 : decode cX3_takeNew 31 = .ok (.iaload, 1) := by decide +kernel
theorem dX3_takeNew_32 : decode cX3_takeNew 32 = .ok (.if_icmp .ge 18, 3) := by decide +kernel
theorem dX3_takeNew_35 : decode cX3_takeNew 35 = .ok (.aload_n 0, 1) := by decide +kernel
theorem dX3_takeNew_36 : decode cX3_takeNew 36 = .ok (.bipush 20, 2) := by decide +kernel
theorem dX3_takeNew_38 : decode cX3_takeNew 38 = .ok (.iload_n 1, 1) := by decide +kernel
theorem dX3_takeNew_39 : decode cX3_takeNew 39 = .ok (.bipush 21, 2) := by decide +kernel
theorem dX3_takeNew_41 : decode cX3_takeNew 41 = .ok (.invokevirtual 157, 3) := by decide +kernel
theorem dX3_takeNew_44 : decode cX3_takeNew 44 = .ok (.iinc 1 1, 3) := by decide +kernel
theorem dX3_takeNew_47 : decode cX3_takeNew 47 = .ok (.goto (-23), 3) := by decide +kernel
theorem dX3_takeNew_50 : decode cX3_takeNew 50 = .ok (.return_, 1) := by decide +kernel
theorem dX3_beginEdit_0 : decode cX3_beginEdit 0 = .ok (.aload_n 0, 1) := by decide +kernel
theorem dX3_beginEdit_1 : decode cX3_beginEdit 1 = .ok (.bipush 20, 2) := by decide +kernel
theorem dX3_beginEdit_3 : decode cX3_beginEdit 3 = .ok (.iload_n 1, 1) := by decide +kernel
theorem dX3_beginEdit_4 : decode cX3_beginEdit 4 = .ok (.invokevirtual 153, 3) := by decide +kernel
theorem dX3_beginEdit_7 : decode cX3_beginEdit 7 = .ok (.aload_n 0, 1) := by decide +kernel
theorem dX3_beginEdit_8 : decode cX3_beginEdit 8 = .ok (.getfield 32, 3) := by decide +kernel
theorem dX3_beginEdit_11 : decode cX3_beginEdit 11 = .ok (.bipush 20, 2) := by decide +kernel
theorem dX3_beginEdit_13 : decode cX3_beginEdit 13 = .ok (.aload_n 0, 1) := by decide +kernel
theorem dX3_beginEdit_14 : decode cX3_beginEdit 14 = .ok (.getfield 32, 3) := by decide +kernel
theorem dX3_beginEdit_17 : decode cX3_beginEdit 17 = .ok (.iload_n 1, 1) := by decide +kernel
theorem dX3_beginEdit_18 : decode cX3_beginEdit 18 = .ok (.iaload, 1) := by decide +kernel
theorem dX3_beginEdit_19 : decode cX3_beginEdit 19 = .ok (.iastore, 1) := by decide +kernel
theorem dX3_beginEdit_20 : decode cX3_beginEdit 20 = .ok (.iconst 0, 1) := by decide +kernel
theorem dX3_beginEdit_21 : decode cX3_beginEdit 21 = .ok (.istore_n 2, 1) := by decide +kernel
theorem dX3_beginEdit_22 : decode cX3_beginEdit 22 = .ok (.iload_n 2, 1) := by decide +kernel
theorem dX3_beginEdit_23 : decode cX3_beginEdit 23 = .ok (.aload_n 0, 1) := by decide +kernel
theorem dX3_beginEdit_24 : decode cX3_beginEdit 24 = .ok (.getfield 32, 3) := by decide +kernel
theorem dX3_beginEdit_27 : decode cX3_beginEdit 27 = .ok (.iload_n 1, 1) := by decide +kernel
theorem dX3_beginEdit_28 : decode cX3_beginEdit 28 = .ok (.iaload, 1) := by decide +kernel
theorem dX3_beginEdit_29 : decode cX3_beginEdit 29 = .ok (.if_icmp .ge 28, 3) := by decide +kernel
theorem dX3_beginEdit_32 : decode cX3_beginEdit 32 = .ok (.aload_n 0, 1) := by decide +kernel
theorem dX3_beginEdit_33 : decode cX3_beginEdit 33 = .ok (.bipush 20, 2) := by decide +kernel
theorem dX3_beginEdit_35 : decode cX3_beginEdit 35 = .ok (.iload_n 2, 1) := by decide +kernel
theorem dX3_beginEdit_36 : decode cX3_beginEdit 36 = .ok (.iload_n 1, 1) := by decide +kernel
theorem dX3_beginEdit_37 : decode cX3_beginEdit 37 = .ok (.invokevirtual 157, 3) := by decide +kernel
theorem dX3_beginEdit_40 : decode cX3_beginEdit 40 = .ok (.aload_n 0, 1) := by decide +kernel
theorem dX3_beginEdit_41 : decode cX3_beginEdit 41 = .ok (.getfield 50, 3) := by decide +kernel
theorem dX3_beginEdit_44 : decode cX3_beginEdit 44 = .ok (.sipush 1920, 3) := by decide +kernel
theorem dX3_beginEdit_47 : decode cX3_beginEdit 47 = .ok (.iload_n 2, 1) := by decide +kernel
theorem dX3_beginEdit_48 : decode cX3_beginEdit 48 = .ok (.iadd, 1) := by decide +kernel
theorem dX3_beginEdit_49 : decode cX3_beginEdit 49 = .ok (.iconst 0, 1) := by decide +kernel
theorem dX3_beginEdit_50 : decode cX3_beginEdit 50 = .ok (.bastore, 1) := by decide +kernel
theorem dX3_beginEdit_51 : decode cX3_beginEdit 51 = .ok (.iinc 2 1, 3) := by decide +kernel
theorem dX3_beginEdit_54 : decode cX3_beginEdit 54 = .ok (.goto (-32), 3) := by decide +kernel
theorem dX3_beginEdit_57 : decode cX3_beginEdit 57 = .ok (.aload_n 0, 1) := by decide +kernel
theorem dX3_beginEdit_58 : decode cX3_beginEdit 58 = .ok (.iconst 0, 1) := by decide +kernel
theorem dX3_beginEdit_59 : decode cX3_beginEdit 59 = .ok (.putfield 188, 3) := by decide +kernel
theorem dX3_beginEdit_62 : decode cX3_beginEdit 62 = .ok (.return_, 1) := by decide +kernel
theorem dX3_setNow_0 : decode cX3_setNow 0 = .ok (.aload_n 0, 1) := by decide +kernel
theorem dX3_setNow_1 : decode cX3_setNow 1 = .ok (.bipush 21, 2) := by decide +kernel
theorem dX3_setNow_3 : decode cX3_setNow 3 = .ok (.bipush 20, 2) := by decide +kernel
theorem dX3_setNow_5 : decode cX3_setNow 5 = .ok (.invokevirtual 153, 3) := by decide +kernel
theorem dX3_setNow_8 : decode cX3_setNow 8 = .ok (.aload_n 0, 1) := by decide +kernel
theorem dX3_setNow_9 : decode cX3_setNow 9 = .ok (.bipush 21, 2) := by decide +kernel
theorem dX3_setNow_11 : decode cX3_setNow 11 = .ok (.iload_n 1, 1) := by decide +kernel
theorem dX3_setNow_12 : decode cX3_setNow 12 = .ok (.iload_n 2, 1) := by decide +kernel
theorem dX3_setNow_13 : decode cX3_setNow 13 = .ok (.invokevirtual 164, 3) := by decide +kernel
theorem dX3_setNow_16 : decode cX3_setNow 16 = .ok (.aload_n 0, 1) := by decide +kernel
theorem dX3_setNow_17 : decode cX3_setNow 17 = .ok (.invokevirtual 194, 3) := by decide +kernel
theorem dX3_setNow_20 : decode cX3_setNow 20 = .ok (.return_, 1) := by decide +kernel
theorem dX3_begin_0 : decode cX3_begin 0 = .ok (.aload_n 0, 1) := by decide +kernel
theorem dX3_begin_1 : decode cX3_begin 1 = .ok (.iload_n 1, 1) := by decide +kernel
theorem dX3_begin_2 : decode cX3_begin 2 = .ok (.invokevirtual 160, 3) := by decide +kernel
theorem dX3_begin_5 : decode cX3_begin 5 = .ok (.ifCond .ne 6, 3) := by decide +kernel
theorem dX3_begin_8 : decode cX3_begin 8 = .ok (.bipush (-101), 2) := by decide +kernel
theorem dX3_begin_10 : decode cX3_begin 10 = .ok (.ireturn, 1) := by decide +kernel
theorem dX3_begin_11 : decode cX3_begin 11 = .ok (.aload_n 0, 1) := by decide +kernel
theorem dX3_begin_12 : decode cX3_begin 12 = .ok (.getfield 90, 3) := by decide +kernel
theorem dX3_begin_15 : decode cX3_begin 15 = .ok (.ifCond .eq 6, 3) := by decide +kernel
theorem dX3_begin_18 : decode cX3_begin 18 = .ok (.bipush (-103), 2) := by decide +kernel
theorem dX3_begin_20 : decode cX3_begin 20 = .ok (.ireturn, 1) := by decide +kernel
theorem dX3_begin_21 : decode cX3_begin 21 = .ok (.aload_n 0, 1) := by decide +kernel
theorem dX3_begin_22 : decode cX3_begin 22 = .ok (.iload_n 1, 1) := by decide +kernel
theorem dX3_begin_23 : decode cX3_begin 23 = .ok (.invokevirtual 197, 3) := by decide +kernel
theorem dX3_begin_26 : decode cX3_begin 26 = .ok (.aload_n 0, 1) := by decide +kernel
theorem dX3_begin_27 : decode cX3_begin 27 = .ok (.iconst 1, 1) := by decide +kernel
theorem dX3_begin_28 : decode cX3_begin 28 = .ok (.putfield 90, 3) := by decide +kernel
theorem dX3_begin_31 : decode cX3_begin 31 = .ok (.aload_n 0, 1) := by decide +kernel
theorem dX3_begin_32 : decode cX3_begin 32 = .ok (.getfield 23, 3) := by decide +kernel
theorem dX3_begin_35 : decode cX3_begin 35 = .ok (.bipush 20, 2) := by decide +kernel
theorem dX3_begin_37 : decode cX3_begin 37 = .ok (.iaload, 1) := by decide +kernel
theorem dX3_begin_38 : decode cX3_begin 38 = .ok (.ireturn, 1) := by decide +kernel
theorem dX3_set_0 : decode cX3_set 0 = .ok (.aload_n 0, 1) := by decide +kernel
theorem dX3_set_1 : decode cX3_set 1 = .ok (.getfield 90, 3) := by decide +kernel
theorem dX3_set_4 : decode cX3_set 4 = .ok (.ifCond .ne 6, 3) := by decide +kernel
theorem dX3_set_7 : decode cX3_set 7 = .ok (.bipush (-103), 2) := by decide +kernel
theorem dX3_set_9 : decode cX3_set 9 = .ok (.ireturn, 1) := by decide +kernel
theorem dX3_set_10 : decode cX3_set 10 = .ok (.iload_n 1, 1) := by decide +kernel
theorem dX3_set_11 : decode cX3_set 11 = .ok (.iconst 0, 1) := by decide +kernel
theorem dX3_set_12 : decode cX3_set 12 = .ok (.sipush 4095, 3) := by decide +kernel
theorem dX3_set_15 : decode cX3_set 15 = .ok (.invokestatic 81, 3) := by decide +kernel
theorem dX3_set_18 : decode cX3_set 18 = .ok (.ifCond .eq 14, 3) := by decide +kernel
theorem dX3_set_21 : decode cX3_set 21 = .ok (.iload_n 2, 1) := by decide +kernel
theorem dX3_set_22 : decode cX3_set 22 = .ok (.iconst 0, 1) := by decide +kernel
theorem dX3_set_23 : decode cX3_set 23 = .ok (.sipush 999, 3) := by decide +kernel
theorem dX3_set_26 : decode cX3_set 26 = .ok (.invokestatic 81, 3) := by decide +kernel
theorem dX3_set_29 : decode cX3_set 29 = .ok (.ifCond .ne 6, 3) := by decide +kernel
theorem dX3_set_32 : decode cX3_set 32 = .ok (.bipush (-102), 2) := by decide +kernel
theorem dX3_set_34 : decode cX3_set 34 = .ok (.ireturn, 1) := by decide +kernel
theorem dX3_set_35 : decode cX3_set 35 = .ok (.aload_n 0, 1) := by decide +kernel
theorem dX3_set_36 : decode cX3_set 36 = .ok (.getfield 23, 3) := by decide +kernel
theorem dX3_set_39 : decode cX3_set 39 = .ok (.bipush 20, 2) := by decide +kernel
theorem dX3_set_41 : decode cX3_set 41 = .ok (.iaload, 1) := by decide +kernel
theorem dX3_set_42 : decode cX3_set 42 = .ok (.bipush 24, 2) := by decide +kernel
theorem dX3_set_44 : decode cX3_set 44 = .ok (.if_icmp .ne 17, 3) := by decide +kernel
theorem dX3_set_47 : decode cX3_set 47 = .ok (.aload_n 0, 1) := by decide +kernel
theorem dX3_set_48 : decode cX3_set 48 = .ok (.bipush 20, 2) := by decide +kernel
theorem dX3_set_50 : decode cX3_set 50 = .ok (.iload_n 1, 1) := by decide +kernel
theorem dX3_set_51 : decode cX3_set 51 = .ok (.invokevirtual 104, 3) := by decide +kernel
theorem dX3_set_54 : decode cX3_set 54 = .ok (.iconst (-1), 1) := by decide +kernel
theorem dX3_set_55 : decode cX3_set 55 = .ok (.if_icmp .ne 6, 3) := by decide +kernel
theorem dX3_set_58 : decode cX3_set 58 = .ok (.bipush (-104), 2) := by decide +kernel
theorem dX3_set_60 : decode cX3_set 60 = .ok (.ireturn, 1) := by decide +kernel
theorem dX3_set_61 : decode cX3_set 61 = .ok (.aload_n 0, 1) := by decide +kernel
theorem dX3_set_62 : decode cX3_set 62 = .ok (.iload_n 1, 1) := by decide +kernel
theorem dX3_set_63 : decode cX3_set 63 = .ok (.iload_n 2, 1) := by decide +kernel
theorem dX3_set_64 : decode cX3_set 64 = .ok (.invokevirtual 200, 3) := by decide +kernel
theorem dX3_set_67 : decode cX3_set 67 = .ok (.aload_n 0, 1) := by decide +kernel
theorem dX3_set_68 : decode cX3_set 68 = .ok (.getfield 23, 3) := by decide +kernel
theorem dX3_set_71 : decode cX3_set 71 = .ok (.bipush 20, 2) := by decide +kernel
theorem dX3_set_73 : decode cX3_set 73 = .ok (.iaload, 1) := by decide +kernel
theorem dX3_set_74 : decode cX3_set 74 = .ok (.ireturn, 1) := by decide +kernel
theorem dX3_unset_0 : decode cX3_unset 0 = .ok (.aload_n 0, 1) := by decide +kernel
theorem dX3_unset_1 : decode cX3_unset 1 = .ok (.getfield 90, 3) := by decide +kernel
theorem dX3_unset_4 : decode cX3_unset 4 = .ok (.ifCond .ne 6, 3) := by decide +kernel
theorem dX3_unset_7 : decode cX3_unset 7 = .ok (.bipush (-103), 2) := by decide +kernel
theorem dX3_unset_9 : decode cX3_unset 9 = .ok (.ireturn, 1) := by decide +kernel
theorem dX3_unset_10 : decode cX3_unset 10 = .ok (.iload_n 1, 1) := by decide +kernel
theorem dX3_unset_11 : decode cX3_unset 11 = .ok (.iconst 0, 1) := by decide +kernel
theorem dX3_unset_12 : decode cX3_unset 12 = .ok (.sipush 4095, 3) := by decide +kernel
theorem dX3_unset_15 : decode cX3_unset 15 = .ok (.invokestatic 81, 3) := by decide +kernel
theorem dX3_unset_18 : decode cX3_unset 18 = .ok (.ifCond .ne 6, 3) := by decide +kernel
theorem dX3_unset_21 : decode cX3_unset 21 = .ok (.bipush (-102), 2) := by decide +kernel
theorem dX3_unset_23 : decode cX3_unset 23 = .ok (.ireturn, 1) := by decide +kernel
theorem dX3_unset_24 : decode cX3_unset 24 = .ok (.aload_n 0, 1) := by decide +kernel
theorem dX3_unset_25 : decode cX3_unset 25 = .ok (.bipush 21, 2) := by decide +kernel
theorem dX3_unset_27 : decode cX3_unset 27 = .ok (.bipush 20, 2) := by decide +kernel
theorem dX3_unset_29 : decode cX3_unset 29 = .ok (.invokevirtual 153, 3) := by decide +kernel
theorem dX3_unset_32 : decode cX3_unset 32 = .ok (.aload_n 0, 1) := by decide +kernel
theorem dX3_unset_33 : decode cX3_unset 33 = .ok (.bipush 21, 2) := by decide +kernel
theorem dX3_unset_35 : decode cX3_unset 35 = .ok (.iload_n 1, 1) := by decide +kernel
theorem dX3_unset_36 : decode cX3_unset 36 = .ok (.invokevirtual 173, 3) := by decide +kernel
theorem dX3_unset_39 : decode cX3_unset 39 = .ok (.aload_n 0, 1) := by decide +kernel
theorem dX3_unset_40 : decode cX3_unset 40 = .ok (.invokevirtual 194, 3) := by decide +kernel
theorem dX3_unset_43 : decode cX3_unset 43 = .ok (.aload_n 0, 1) := by decide +kernel
theorem dX3_unset_44 : decode cX3_unset 44 = .ok (.getfield 23, 3) := by decide +kernel
theorem dX3_unset_47 : decode cX3_unset 47 = .ok (.bipush 20, 2) := by decide +kernel
theorem dX3_unset_49 : decode cX3_unset 49 = .ok (.iaload, 1) := by decide +kernel
theorem dX3_unset_50 : decode cX3_unset 50 = .ok (.ireturn, 1) := by decide +kernel
theorem dX3_seal_0 : decode cX3_seal 0 = .ok (.aload_n 0, 1) := by decide +kernel
theorem dX3_seal_1 : decode cX3_seal 1 = .ok (.getfield 90, 3) := by decide +kernel
theorem dX3_seal_4 : decode cX3_seal 4 = .ok (.ifCond .ne 6, 3) := by decide +kernel
theorem dX3_seal_7 : decode cX3_seal 7 = .ok (.bipush (-103), 2) := by decide +kernel
theorem dX3_seal_9 : decode cX3_seal 9 = .ok (.ireturn, 1) := by decide +kernel
theorem dX3_seal_10 : decode cX3_seal 10 = .ok (.aload_n 0, 1) := by decide +kernel
theorem dX3_seal_11 : decode cX3_seal 11 = .ok (.getfield 20, 3) := by decide +kernel
theorem dX3_seal_14 : decode cX3_seal 14 = .ok (.bipush 20, 2) := by decide +kernel
theorem dX3_seal_16 : decode cX3_seal 16 = .ok (.if_icmp .ne 6, 3) := by decide +kernel
theorem dX3_seal_19 : decode cX3_seal 19 = .ok (.bipush (-104), 2) := by decide +kernel
theorem dX3_seal_21 : decode cX3_seal 21 = .ok (.ireturn, 1) := by decide +kernel
theorem dX3_seal_22 : decode cX3_seal 22 = .ok (.aload_n 0, 1) := by decide +kernel
theorem dX3_seal_23 : decode cX3_seal 23 = .ok (.iconst 0, 1) := by decide +kernel
theorem dX3_seal_24 : decode cX3_seal 24 = .ok (.putfield 90, 3) := by decide +kernel
theorem dX3_seal_27 : decode cX3_seal 27 = .ok (.aload_n 0, 1) := by decide +kernel
theorem dX3_seal_28 : decode cX3_seal 28 = .ok (.dup, 1) := by decide +kernel
theorem dX3_seal_29 : decode cX3_seal 29 = .ok (.getfield 203, 3) := by decide +kernel
theorem dX3_seal_32 : decode cX3_seal 32 = .ok (.iconst 1, 1) := by decide +kernel
theorem dX3_seal_33 : decode cX3_seal 33 = .ok (.iadd, 1) := by decide +kernel
theorem dX3_seal_34 : decode cX3_seal 34 = .ok (.putfield 203, 3) := by decide +kernel
theorem dX3_seal_37 : decode cX3_seal 37 = .ok (.aload_n 0, 1) := by decide +kernel
theorem dX3_seal_38 : decode cX3_seal 38 = .ok (.bipush 20, 2) := by decide +kernel
theorem dX3_seal_40 : decode cX3_seal 40 = .ok (.invokevirtual 170, 3) := by decide +kernel
theorem dX3_seal_43 : decode cX3_seal 43 = .ok (.ireturn, 1) := by decide +kernel
theorem dX3_ownMany_0 : decode cX3_ownMany 0 = .ok (.iconst 0, 1) := by decide +kernel
theorem dX3_ownMany_1 : decode cX3_ownMany 1 = .ok (.istore_n 1, 1) := by decide +kernel
theorem dX3_ownMany_2 : decode cX3_ownMany 2 = .ok (.iconst 0, 1) := by decide +kernel
theorem dX3_ownMany_3 : decode cX3_ownMany 3 = .ok (.istore_n 2, 1) := by decide +kernel
theorem dX3_ownMany_4 : decode cX3_ownMany 4 = .ok (.iload_n 2, 1) := by decide +kernel
theorem dX3_ownMany_5 : decode cX3_ownMany 5 = .ok (.aload_n 0, 1) := by decide +kernel
theorem dX3_ownMany_6 : decode cX3_ownMany 6 = .ok (.getfield 32, 3) := by decide +kernel
theorem dX3_ownMany_9 : decode cX3_ownMany 9 = .ok (.bipush 20, 2) := by decide +kernel
theorem dX3_ownMany_11 : decode cX3_ownMany 11 = .ok (.iaload, 1) := by decide +kernel
theorem dX3_ownMany_12 : decode cX3_ownMany 12 = .ok (.if_icmp .ge 30, 3) := by decide +kernel
theorem dX3_ownMany_15 : decode cX3_ownMany 15 = .ok (.iload_n 1, 1) := by decide +kernel
theorem dX3_ownMany_16 : decode cX3_ownMany 16 = .ok (.aload_n 0, 1) := by decide +kernel
theorem dX3_ownMany_17 : decode cX3_ownMany 17 = .ok (.getfield 50, 3) := by decide +kernel
theorem dX3_ownMany_20 : decode cX3_ownMany 20 = .ok (.sipush 1920, 3) := by decide +kernel
theorem dX3_ownMany_23 : decode cX3_ownMany 23 = .ok (.iload_n 2, 1) := by decide +kernel
theorem dX3_ownMany_24 : decode cX3_ownMany 24 = .ok (.iadd, 1) := by decide +kernel
theorem dX3_ownMany_25 : decode cX3_ownMany 25 = .ok (.baload, 1) := by decide +kernel
theorem dX3_ownMany_26 : decode cX3_ownMany 26 = .ok (.ifCond .eq 7, 3) := by decide +kernel
theorem dX3_ownMany_29 : decode cX3_ownMany 29 = .ok (.iconst 1, 1) := by decide +kernel
theorem dX3_ownMany_30 : decode cX3_ownMany 30 = .ok (.goto 4, 3) := by decide +kernel
theorem dX3_ownMany_33 : decode cX3_ownMany 33 = .ok (.iconst 0, 1) := by decide +kernel
theorem dX3_ownMany_34 : decode cX3_ownMany 34 = .ok (.iadd, 1) := by decide +kernel
theorem dX3_ownMany_35 : decode cX3_ownMany 35 = .ok (.istore_n 1, 1) := by decide +kernel
theorem dX3_ownMany_36 : decode cX3_ownMany 36 = .ok (.iinc 2 1, 3) := by decide +kernel
theorem dX3_ownMany_39 : decode cX3_ownMany 39 = .ok (.goto (-35), 3) := by decide +kernel
theorem dX3_ownMany_42 : decode cX3_ownMany 42 = .ok (.iload_n 1, 1) := by decide +kernel
theorem dX3_ownMany_43 : decode cX3_ownMany 43 = .ok (.ireturn, 1) := by decide +kernel
theorem dX3_leave_0 : decode cX3_leave 0 = .ok (.aload_n 0, 1) := by decide +kernel
theorem dX3_leave_1 : decode cX3_leave 1 = .ok (.getfield 90, 3) := by decide +kernel
theorem dX3_leave_4 : decode cX3_leave 4 = .ok (.ifCond .ne 6, 3) := by decide +kernel
theorem dX3_leave_7 : decode cX3_leave 7 = .ok (.bipush (-103), 2) := by decide +kernel
theorem dX3_leave_9 : decode cX3_leave 9 = .ok (.ireturn, 1) := by decide +kernel
theorem dX3_leave_10 : decode cX3_leave 10 = .ok (.aload_n 0, 1) := by decide +kernel
theorem dX3_leave_11 : decode cX3_leave 11 = .ok (.iconst 0, 1) := by decide +kernel
theorem dX3_leave_12 : decode cX3_leave 12 = .ok (.putfield 90, 3) := by decide +kernel
theorem dX3_leave_15 : decode cX3_leave 15 = .ok (.aload_n 0, 1) := by decide +kernel
theorem dX3_leave_16 : decode cX3_leave 16 = .ok (.invokevirtual 206, 3) := by decide +kernel
theorem dX3_leave_19 : decode cX3_leave 19 = .ok (.ireturn, 1) := by decide +kernel
theorem dX3_editNow_0 : decode cX3_editNow 0 = .ok (.iload_n 1, 1) := by decide +kernel
theorem dX3_editNow_1 : decode cX3_editNow 1 = .ok (.ifCond .ne 13, 3) := by decide +kernel
theorem dX3_editNow_4 : decode cX3_editNow 4 = .ok (.aload_n 0, 1) := by decide +kernel
theorem dX3_editNow_5 : decode cX3_editNow 5 = .ok (.getfield 23, 3) := by decide +kernel
theorem dX3_editNow_8 : decode cX3_editNow 8 = .ok (.bipush 20, 2) := by decide +kernel
theorem dX3_editNow_10 : decode cX3_editNow 10 = .ok (.iaload, 1) := by decide +kernel
theorem dX3_editNow_11 : decode cX3_editNow 11 = .ok (.goto 34, 3) := by decide +kernel
theorem dX3_editNow_14 : decode cX3_editNow 14 = .ok (.iload_n 1, 1) := by decide +kernel
theorem dX3_editNow_15 : decode cX3_editNow 15 = .ok (.iconst 1, 1) := by decide +kernel
theorem dX3_editNow_16 : decode cX3_editNow 16 = .ok (.if_icmp .ne 13, 3) := by decide +kernel
theorem dX3_editNow_19 : decode cX3_editNow 19 = .ok (.aload_n 0, 1) := by decide +kernel
theorem dX3_editNow_20 : decode cX3_editNow 20 = .ok (.getfield 32, 3) := by decide +kernel
theorem dX3_editNow_23 : decode cX3_editNow 23 = .ok (.bipush 20, 2) := by decide +kernel
theorem dX3_editNow_25 : decode cX3_editNow 25 = .ok (.iaload, 1) := by decide +kernel
theorem dX3_editNow_26 : decode cX3_editNow 26 = .ok (.goto 19, 3) := by decide +kernel
theorem dX3_editNow_29 : decode cX3_editNow 29 = .ok (.iload_n 1, 1) := by decide +kernel
theorem dX3_editNow_30 : decode cX3_editNow 30 = .ok (.iconst 2, 1) := by decide +kernel
theorem dX3_editNow_31 : decode cX3_editNow 31 = .ok (.if_icmp .ne 10, 3) := by decide +kernel
theorem dX3_editNow_34 : decode cX3_editNow 34 = .ok (.aload_n 0, 1) := by decide +kernel
theorem dX3_editNow_35 : decode cX3_editNow 35 = .ok (.invokevirtual 206, 3) := by decide +kernel
theorem dX3_editNow_38 : decode cX3_editNow 38 = .ok (.goto 7, 3) := by decide +kernel
theorem dX3_editNow_41 : decode cX3_editNow 41 = .ok (.aload_n 0, 1) := by decide +kernel
theorem dX3_editNow_42 : decode cX3_editNow 42 = .ok (.getfield 188, 3) := by decide +kernel
theorem dX3_editNow_45 : decode cX3_editNow 45 = .ok (.ireturn, 1) := by decide +kernel
theorem dX3_edit_0 : decode cX3_edit 0 = .ok (.aload_n 0, 1) := by decide +kernel
theorem dX3_edit_1 : decode cX3_edit 1 = .ok (.getfield 90, 3) := by decide +kernel
theorem dX3_edit_4 : decode cX3_edit 4 = .ok (.ifCond .ne 6, 3) := by decide +kernel
theorem dX3_edit_7 : decode cX3_edit 7 = .ok (.bipush (-103), 2) := by decide +kernel
theorem dX3_edit_9 : decode cX3_edit 9 = .ok (.ireturn, 1) := by decide +kernel
theorem dX3_edit_10 : decode cX3_edit 10 = .ok (.iload_n 1, 1) := by decide +kernel
theorem dX3_edit_11 : decode cX3_edit 11 = .ok (.iconst 0, 1) := by decide +kernel
theorem dX3_edit_12 : decode cX3_edit 12 = .ok (.iconst 3, 1) := by decide +kernel
theorem dX3_edit_13 : decode cX3_edit 13 = .ok (.invokestatic 81, 3) := by decide +kernel
theorem dX3_edit_16 : decode cX3_edit 16 = .ok (.ifCond .eq 11, 3) := by decide +kernel
theorem dX3_edit_19 : decode cX3_edit 19 = .ok (.aload_n 0, 1) := by decide +kernel
theorem dX3_edit_20 : decode cX3_edit 20 = .ok (.iload_n 1, 1) := by decide +kernel
theorem dX3_edit_21 : decode cX3_edit 21 = .ok (.invokevirtual 210, 3) := by decide +kernel
theorem dX3_edit_24 : decode cX3_edit 24 = .ok (.goto 5, 3) := by decide +kernel
theorem dX3_edit_27 : decode cX3_edit 27 = .ok (.bipush (-102), 2) := by decide +kernel
theorem dX3_edit_29 : decode cX3_edit 29 = .ok (.ireturn, 1) := by decide +kernel
theorem dX3_letter_0 : decode cX3_letter 0 = .ok (.iload_n 1, 1) := by decide +kernel
theorem dX3_letter_1 : decode cX3_letter 1 = .ok (.bipush 32, 2) := by decide +kernel
theorem dX3_letter_3 : decode cX3_letter 3 = .ok (.bipush 126, 2) := by decide +kernel
theorem dX3_letter_5 : decode cX3_letter 5 = .ok (.invokestatic 81, 3) := by decide +kernel
theorem dX3_letter_8 : decode cX3_letter 8 = .ok (.ifCond .ne 6, 3) := by decide +kernel
theorem dX3_letter_11 : decode cX3_letter 11 = .ok (.bipush (-102), 2) := by decide +kernel
theorem dX3_letter_13 : decode cX3_letter 13 = .ok (.ireturn, 1) := by decide +kernel
theorem dX3_letter_14 : decode cX3_letter 14 = .ok (.aload_n 0, 1) := by decide +kernel
theorem dX3_letter_15 : decode cX3_letter 15 = .ok (.getfield 213, 3) := by decide +kernel
theorem dX3_letter_18 : decode cX3_letter 18 = .ok (.bipush 60, 2) := by decide +kernel
theorem dX3_letter_20 : decode cX3_letter 20 = .ok (.if_icmp .ne 6, 3) := by decide +kernel
theorem dX3_letter_23 : decode cX3_letter 23 = .ok (.bipush (-104), 2) := by decide +kernel
theorem dX3_letter_25 : decode cX3_letter 25 = .ok (.ireturn, 1) := by decide +kernel
theorem dX3_letter_26 : decode cX3_letter 26 = .ok (.aload_n 0, 1) := by decide +kernel
theorem dX3_letter_27 : decode cX3_letter 27 = .ok (.getfield 7, 3) := by decide +kernel
theorem dX3_letter_30 : decode cX3_letter 30 = .ok (.aload_n 0, 1) := by decide +kernel
theorem dX3_letter_31 : decode cX3_letter 31 = .ok (.getfield 213, 3) := by decide +kernel
theorem dX3_letter_34 : decode cX3_letter 34 = .ok (.iload_n 1, 1) := by decide +kernel
theorem dX3_letter_35 : decode cX3_letter 35 = .ok (.iastore, 1) := by decide +kernel
theorem dX3_letter_36 : decode cX3_letter 36 = .ok (.aload_n 0, 1) := by decide +kernel
theorem dX3_letter_37 : decode cX3_letter 37 = .ok (.dup, 1) := by decide +kernel
theorem dX3_letter_38 : decode cX3_letter 38 = .ok (.getfield 213, 3) := by decide +kernel
theorem dX3_letter_41 : decode cX3_letter 41 = .ok (.iconst 1, 1) := by decide +kernel
theorem dX3_letter_42 : decode cX3_letter 42 = .ok (.iadd, 1) := by decide +kernel
theorem dX3_letter_43 : decode cX3_letter 43 = .ok (.putfield 213, 3) := by decide +kernel
theorem dX3_letter_46 : decode cX3_letter 46 = .ok (.aload_n 0, 1) := by decide +kernel
theorem dX3_letter_47 : decode cX3_letter 47 = .ok (.getfield 213, 3) := by decide +kernel
theorem dX3_letter_50 : decode cX3_letter 50 = .ok (.ireturn, 1) := by decide +kernel
theorem dX3_blank_0 : decode cX3_blank 0 = .ok (.aload_n 0, 1) := by decide +kernel
theorem dX3_blank_1 : decode cX3_blank 1 = .ok (.getfield 213, 3) := by decide +kernel
theorem dX3_blank_4 : decode cX3_blank 4 = .ok (.istore_n 1, 1) := by decide +kernel
theorem dX3_blank_5 : decode cX3_blank 5 = .ok (.aload_n 0, 1) := by decide +kernel
theorem dX3_blank_6 : decode cX3_blank 6 = .ok (.iconst 0, 1) := by decide +kernel
theorem dX3_blank_7 : decode cX3_blank 7 = .ok (.putfield 213, 3) := by decide +kernel
theorem dX3_blank_10 : decode cX3_blank 10 = .ok (.iload_n 1, 1) := by decide +kernel
theorem dX3_blank_11 : decode cX3_blank 11 = .ok (.ireturn, 1) := by decide +kernel
theorem dX3_takesFigure_0 : decode cX3_takesFigure 0 = .ok (.aload_n 0, 1) := by decide +kernel
theorem dX3_takesFigure_1 : decode cX3_takesFigure 1 = .ok (.getfield 216, 3) := by decide +kernel
theorem dX3_takesFigure_4 : decode cX3_takesFigure 4 = .ok (.iconst (-1), 1) := by decide +kernel
theorem dX3_takesFigure_5 : decode cX3_takesFigure 5 = .ok (.if_icmp .ne 7, 3) := by decide +kernel
theorem dX3_takesFigure_8 : decode cX3_takesFigure 8 = .ok (.iload_n 1, 1) := by decide +kernel
theorem dX3_takesFigure_9 : decode cX3_takesFigure 9 = .ok (.goto 12, 3) := by decide +kernel
theorem dX3_takesFigure_12 : decode cX3_takesFigure 12 = .ok (.bipush 10, 2) := by decide +kernel
theorem dX3_takesFigure_14 : decode cX3_takesFigure 14 = .ok (.aload_n 0, 1) := by decide +kernel
theorem dX3_takesFigure_15 : decode cX3_takesFigure 15 = .ok (.getfield 216, 3) := by decide +kernel
theorem dX3_takesFigure_18 : decode cX3_takesFigure 18 = .ok (.imul, 1) := by decide +kernel
theorem dX3_takesFigure_19 : decode cX3_takesFigure 19 = .ok (.iload_n 1, 1) := by decide +kernel
theorem dX3_takesFigure_20 : decode cX3_takesFigure 20 = .ok (.iadd, 1) := by decide +kernel
theorem dX3_takesFigure_21 : decode cX3_takesFigure 21 = .ok (.istore_n 2, 1) := by decide +kernel
theorem dX3_takesFigure_22 : decode cX3_takesFigure 22 = .ok (.aload_n 0, 1) := by decide +kernel
theorem dX3_takesFigure_23 : decode cX3_takesFigure 23 = .ok (.getfield 216, 3) := by decide +kernel
theorem dX3_takesFigure_26 : decode cX3_takesFigure 26 = .ok (.ifCond .eq 27, 3) := by decide +kernel
theorem dX3_takesFigure_29 : decode cX3_takesFigure 29 = .ok (.iload_n 2, 1) := by decide +kernel
theorem dX3_takesFigure_30 : decode cX3_takesFigure 30 = .ok (.aload_n 0, 1) := by decide +kernel
theorem dX3_takesFigure_31 : decode cX3_takesFigure 31 = .ok (.getfield 219, 3) := by decide +kernel
theorem dX3_takesFigure_34 : decode cX3_takesFigure 34 = .ok (.ifCond .eq 9, 3) := by decide +kernel
theorem dX3_takesFigure_37 : decode cX3_takesFigure 37 = .ok (.sipush 999, 3) := by decide +kernel
theorem dX3_takesFigure_40 : decode cX3_takesFigure 40 = .ok (.goto 6, 3) := by decide +kernel
theorem dX3_takesFigure_43 : decode cX3_takesFigure 43 = .ok (.sipush 4095, 3) := by decide +kernel
theorem dX3_takesFigure_46 : decode cX3_takesFigure 46 = .ok (.if_icmp .gt 7, 3) := by decide +kernel
theorem dX3_takesFigure_49 : decode cX3_takesFigure 49 = .ok (.iconst 1, 1) := by decide +kernel
theorem dX3_takesFigure_50 : decode cX3_takesFigure 50 = .ok (.goto 4, 3) := by decide +kernel
theorem dX3_takesFigure_53 : decode cX3_takesFigure 53 = .ok (.iconst 0, 1) := by decide +kernel
theorem dX3_takesFigure_54 : decode cX3_takesFigure 54 = .ok (.istore_n 3, 1) := by decide +kernel
theorem dX3_takesFigure_55 : decode cX3_takesFigure 55 = .ok (.aload_n 0, 1) := by decide +kernel
theorem dX3_takesFigure_56 : decode cX3_takesFigure 56 = .ok (.iload_n 3, 1) := by decide +kernel
theorem dX3_takesFigure_57 : decode cX3_takesFigure 57 = .ok (.ifCond .eq 7, 3) := by decide +kernel
theorem dX3_takesFigure_60 : decode cX3_takesFigure 60 = .ok (.iload_n 2, 1) := by decide +kernel
theorem dX3_takesFigure_61 : decode cX3_takesFigure 61 = .ok (.goto 7, 3) := by decide +kernel
theorem dX3_takesFigure_64 : decode cX3_takesFigure 64 = .ok (.aload_n 0, 1) := by decide +kernel
theorem dX3_takesFigure_65 : decode cX3_takesFigure 65 = .ok (.getfield 216, 3) := by decide +kernel
theorem dX3_takesFigure_68 : decode cX3_takesFigure 68 = .ok (.putfield 216, 3) := by decide +kernel
theorem dX3_takesFigure_71 : decode cX3_takesFigure 71 = .ok (.iload_n 3, 1) := by decide +kernel
theorem dX3_takesFigure_72 : decode cX3_takesFigure 72 = .ok (.ireturn, 1) := by decide +kernel
theorem dX3_takes_0 : decode cX3_takes 0 = .ok (.iload_n 1, 1) := by decide +kernel
theorem dX3_takes_1 : decode cX3_takes 1 = .ok (.bipush 48, 2) := by decide +kernel
theorem dX3_takes_3 : decode cX3_takes 3 = .ok (.bipush 57, 2) := by decide +kernel
theorem dX3_takes_5 : decode cX3_takes 5 = .ok (.invokestatic 81, 3) := by decide +kernel
theorem dX3_takes_8 : decode cX3_takes 8 = .ok (.ifCond .eq 12, 3) := by decide +kernel
theorem dX3_takes_11 : decode cX3_takes 11 = .ok (.aload_n 0, 1) := by decide +kernel
theorem dX3_takes_12 : decode cX3_takes 12 = .ok (.iload_n 1, 1) := by decide +kernel
theorem dX3_takes_13 : decode cX3_takes 13 = .ok (.bipush 48, 2) := by decide +kernel
theorem dX3_takes_15 : decode cX3_takes 15 = .ok (.isub, 1) := by decide +kernel
theorem dX3_takes_16 : decode cX3_takes 16 = .ok (.invokevirtual 222, 3) := by decide +kernel
theorem dX3_takes_19 : decode cX3_takes 19 = .ok (.ireturn, 1) := by decide +kernel
theorem dX3_takes_20 : decode cX3_takes 20 = .ok (.aload_n 0, 1) := by decide +kernel
theorem dX3_takes_21 : decode cX3_takes 21 = .ok (.getfield 216, 3) := by decide +kernel
theorem dX3_takes_24 : decode cX3_takes 24 = .ok (.iconst (-1), 1) := by decide +kernel
theorem dX3_takes_25 : decode cX3_takes 25 = .ok (.if_icmp .eq 25, 3) := by decide +kernel
theorem dX3_takes_28 : decode cX3_takes 28 = .ok (.iload_n 1, 1) := by decide +kernel
theorem dX3_takes_29 : decode cX3_takes 29 = .ok (.aload_n 0, 1) := by decide +kernel
theorem dX3_takes_30 : decode cX3_takes 30 = .ok (.getfield 219, 3) := by decide +kernel
theorem dX3_takes_33 : decode cX3_takes 33 = .ok (.ifCond .eq 8, 3) := by decide +kernel
theorem dX3_takes_36 : decode cX3_takes 36 = .ok (.bipush 59, 2) := by decide +kernel
theorem dX3_takes_38 : decode cX3_takes 38 = .ok (.goto 5, 3) := by decide +kernel
theorem dX3_takes_41 : decode cX3_takes 41 = .ok (.bipush 61, 2) := by decide +kernel
theorem dX3_takes_43 : decode cX3_takes 43 = .ok (.if_icmp .ne 7, 3) := by decide +kernel
theorem dX3_takes_46 : decode cX3_takes 46 = .ok (.iconst 1, 1) := by decide +kernel
theorem dX3_takes_47 : decode cX3_takes 47 = .ok (.goto 4, 3) := by decide +kernel
theorem dX3_takes_50 : decode cX3_takes 50 = .ok (.iconst 0, 1) := by decide +kernel
theorem dX3_takes_51 : decode cX3_takes 51 = .ok (.istore_n 2, 1) := by decide +kernel
theorem dX3_takes_52 : decode cX3_takes 52 = .ok (.iload_n 2, 1) := by decide +kernel
theorem dX3_takes_53 : decode cX3_takes 53 = .ok (.ifCond .eq 51, 3) := by decide +kernel
theorem dX3_takes_56 : decode cX3_takes 56 = .ok (.aload_n 0, 1) := by decide +kernel
theorem dX3_takes_57 : decode cX3_takes 57 = .ok (.getfield 219, 3) := by decide +kernel
theorem dX3_takes_60 : decode cX3_takes 60 = .ok (.ifCond .eq 10, 3) := by decide +kernel
theorem dX3_takes_63 : decode cX3_takes 63 = .ok (.aload_n 0, 1) := by decide +kernel
theorem dX3_takes_64 : decode cX3_takes 64 = .ok (.invokevirtual 225, 3) := by decide +kernel
theorem dX3_takes_67 : decode cX3_takes 67 = .ok (.goto 16, 3) := by decide +kernel
theorem dX3_takes_70 : decode cX3_takes 70 = .ok (.aload_n 0, 1) := by decide +kernel
theorem dX3_takes_71 : decode cX3_takes 71 = .ok (.getfield 63, 3) := by decide +kernel
theorem dX3_takes_74 : decode cX3_takes 74 = .ok (.aload_n 0, 1) := by decide +kernel
theorem dX3_takes_75 : decode cX3_takes 75 = .ok (.getfield 228, 3) := by decide +kernel
theorem dX3_takes_78 : decode cX3_takes 78 = .ok (.aload_n 0, 1) := by decide +kernel
theorem dX3_takes_79 : decode cX3_takes 79 = .ok (.getfield 216, 3) := by decide +kernel
theorem dX3_takes_82 : decode cX3_takes 82 = .ok (.iastore, 1) := by decide +kernel
theorem dX3_takes_83 : decode cX3_takes 83 = .ok (.aload_n 0, 1) := by decide +kernel
theorem dX3_takes_84 : decode cX3_takes 84 = .ok (.aload_n 0, 1) := by decide +kernel
theorem dX3_takes_85 : decode cX3_takes 85 = .ok (.getfield 219, 3) := by decide +kernel
theorem dX3_takes_88 : decode cX3_takes 88 = .ok (.ifCond .ne 7, 3) := by decide +kernel
theorem dX3_takes_91 : decode cX3_takes 91 = .ok (.iconst 1, 1) := by decide +kernel
theorem dX3_takes_92 : decode cX3_takes 92 = .ok (.goto 4, 3) := by decide +kernel
theorem dX3_takes_95 : decode cX3_takes 95 = .ok (.iconst 0, 1) := by decide +kernel
theorem dX3_takes_96 : decode cX3_takes 96 = .ok (.putfield 219, 3) := by decide +kernel
theorem dX3_takes_99 : decode cX3_takes 99 = .ok (.aload_n 0, 1) := by decide +kernel
theorem dX3_takes_100 : decode cX3_takes 100 = .ok (.iconst (-1), 1) := by decide +kernel
theorem dX3_takes_101 : decode cX3_takes 101 = .ok (.putfield 216, 3) := by decide +kernel
theorem dX3_takes_104 : decode cX3_takes 104 = .ok (.iload_n 2, 1) := by decide +kernel
theorem dX3_takes_105 : decode cX3_takes 105 = .ok (.ireturn, 1) := by decide +kernel
theorem dX3_keepEntry_0 : decode cX3_keepEntry 0 = .ok (.aload_n 0, 1) := by decide +kernel
theorem dX3_keepEntry_1 : decode cX3_keepEntry 1 = .ok (.getfield 66, 3) := by decide +kernel
theorem dX3_keepEntry_4 : decode cX3_keepEntry 4 = .ok (.aload_n 0, 1) := by decide +kernel
theorem dX3_keepEntry_5 : decode cX3_keepEntry 5 = .ok (.getfield 228, 3) := by decide +kernel
theorem dX3_keepEntry_8 : decode cX3_keepEntry 8 = .ok (.aload_n 0, 1) := by decide +kernel
theorem dX3_keepEntry_9 : decode cX3_keepEntry 9 = .ok (.getfield 216, 3) := by decide +kernel
theorem dX3_keepEntry_12 : decode cX3_keepEntry 12 = .ok (.iastore, 1) := by decide +kernel
theorem dX3_keepEntry_13 : decode cX3_keepEntry 13 = .ok (.aload_n 0, 1) := by decide +kernel
theorem dX3_keepEntry_14 : decode cX3_keepEntry 14 = .ok (.dup, 1) := by decide +kernel
theorem dX3_keepEntry_15 : decode cX3_keepEntry 15 = .ok (.getfield 228, 3) := by decide +kernel
theorem dX3_keepEntry_18 : decode cX3_keepEntry 18 = .ok (.iconst 1, 1) := by decide +kernel
theorem dX3_keepEntry_19 : decode cX3_keepEntry 19 = .ok (.iadd, 1) := by decide +kernel
theorem dX3_keepEntry_20 : decode cX3_keepEntry 20 = .ok (.putfield 228, 3) := by decide +kernel
theorem dX3_keepEntry_23 : decode cX3_keepEntry 23 = .ok (.return_, 1) := by decide +kernel
theorem dX3_goAlong_0 : decode cX3_goAlong 0 = .ok (.aload_n 0, 1) := by decide +kernel
theorem dX3_goAlong_1 : decode cX3_goAlong 1 = .ok (.iconst 0, 1) := by decide +kernel
theorem dX3_goAlong_2 : decode cX3_goAlong 2 = .ok (.putfield 228, 3) := by decide +kernel
theorem dX3_goAlong_5 : decode cX3_goAlong 5 = .ok (.aload_n 0, 1) := by decide +kernel
theorem dX3_goAlong_6 : decode cX3_goAlong 6 = .ok (.iconst 0, 1) := by decide +kernel
theorem dX3_goAlong_7 : decode cX3_goAlong 7 = .ok (.putfield 219, 3) := by decide +kernel
theorem dX3_goAlong_10 : decode cX3_goAlong 10 = .ok (.aload_n 0, 1) := by decide +kernel
theorem dX3_goAlong_11 : decode cX3_goAlong 11 = .ok (.iconst (-1), 1) := by decide +kernel
theorem dX3_goAlong_12 : decode cX3_goAlong 12 = .ok (.putfield 216, 3) := by decide +kernel
theorem dX3_goAlong_15 : decode cX3_goAlong 15 = .ok (.iconst 0, 1) := by decide +kernel
theorem dX3_goAlong_16 : decode cX3_goAlong 16 = .ok (.istore_n 1, 1) := by decide +kernel
theorem dX3_goAlong_17 : decode cX3_goAlong 17 = .ok (.iload_n 1, 1) := by decide +kernel
end
section
theorem dX3_goAlong_18 : decode cX3_goAlong 18 = .ok (.aload_n 0, 1) := by decide +kernel
theorem dX3_goAlong_19 : decode cX3_goAlong 19 = .ok (.getfield 213, 3) := by decide +kernel
theorem dX3_goAlong_22 : decode cX3_goAlong 22 = .ok (.if_icmp .ge 22, 3) := by decide +kernel
theorem dX3_goAlong_25 : decode cX3_goAlong 25 = .ok (.aload_n 0, 1) := by decide +kernel
theorem dX3_goAlong_26 : decode cX3_goAlong 26 = .ok (.aload_n 0, 1) := by decide +kernel
theorem dX3_goAlong_27 : decode cX3_goAlong 27 = .ok (.getfield 7, 3) := by decide +kernel
theorem dX3_goAlong_30 : decode cX3_goAlong 30 = .ok (.iload_n 1, 1) := by decide +kernel
theorem dX3_goAlong_31 : decode cX3_goAlong 31 = .ok (.iaload, 1) := by decide +kernel
theorem dX3_goAlong_32 : decode cX3_goAlong 32 = .ok (.invokevirtual 231, 3) := by decide +kernel
theorem dX3_goAlong_35 : decode cX3_goAlong 35 = .ok (.ifCond .eq 9, 3) := by decide +kernel
theorem dX3_goAlong_38 : decode cX3_goAlong 38 = .ok (.iinc 1 1, 3) := by decide +kernel
theorem dX3_goAlong_41 : decode cX3_goAlong 41 = .ok (.goto (-24), 3) := by decide +kernel
theorem dX3_goAlong_44 : decode cX3_goAlong 44 = .ok (.iload_n 1, 1) := by decide +kernel
theorem dX3_goAlong_45 : decode cX3_goAlong 45 = .ok (.ireturn, 1) := by decide +kernel
theorem dX3_fault_0 : decode cX3_fault 0 = .ok (.aload_n 0, 1) := by decide +kernel
theorem dX3_fault_1 : decode cX3_fault 1 = .ok (.invokevirtual 234, 3) := by decide +kernel
theorem dX3_fault_4 : decode cX3_fault 4 = .ok (.ireturn, 1) := by decide +kernel
theorem dX3_readNow_0 : decode cX3_readNow 0 = .ok (.aload_n 0, 1) := by decide +kernel
theorem dX3_readNow_1 : decode cX3_readNow 1 = .ok (.getfield 23, 3) := by decide +kernel
theorem dX3_readNow_4 : decode cX3_readNow 4 = .ok (.bipush 20, 2) := by decide +kernel
theorem dX3_readNow_6 : decode cX3_readNow 6 = .ok (.iaload, 1) := by decide +kernel
theorem dX3_readNow_7 : decode cX3_readNow 7 = .ok (.istore_n 1, 1) := by decide +kernel
theorem dX3_readNow_8 : decode cX3_readNow 8 = .ok (.aload_n 0, 1) := by decide +kernel
theorem dX3_readNow_9 : decode cX3_readNow 9 = .ok (.getfield 32, 3) := by decide +kernel
theorem dX3_readNow_12 : decode cX3_readNow 12 = .ok (.bipush 20, 2) := by decide +kernel
theorem dX3_readNow_14 : decode cX3_readNow 14 = .ok (.iaload, 1) := by decide +kernel
theorem dX3_readNow_15 : decode cX3_readNow 15 = .ok (.istore_n 2, 1) := by decide +kernel
theorem dX3_readNow_16 : decode cX3_readNow 16 = .ok (.aload_n 0, 1) := by decide +kernel
theorem dX3_readNow_17 : decode cX3_readNow 17 = .ok (.getfield 188, 3) := by decide +kernel
theorem dX3_readNow_20 : decode cX3_readNow 20 = .ok (.istore_n 3, 1) := by decide +kernel
theorem dX3_readNow_21 : decode cX3_readNow 21 = .ok (.iconst 0, 1) := by decide +kernel
theorem dX3_readNow_22 : decode cX3_readNow 22 = .ok (.istore 4, 2) := by decide +kernel
theorem dX3_readNow_24 : decode cX3_readNow 24 = .ok (.iload 4, 2) := by decide +kernel
theorem dX3_readNow_26 : decode cX3_readNow 26 = .ok (.bipush 24, 2) := by decide +kernel
theorem dX3_readNow_28 : decode cX3_readNow 28 = .ok (.if_icmp .ge 39, 3) := by decide +kernel
theorem dX3_readNow_31 : decode cX3_readNow 31 = .ok (.aload_n 0, 1) := by decide +kernel
theorem dX3_readNow_32 : decode cX3_readNow 32 = .ok (.getfield 69, 3) := by decide +kernel
theorem dX3_readNow_35 : decode cX3_readNow 35 = .ok (.iload 4, 2) := by decide +kernel
theorem dX3_readNow_37 : decode cX3_readNow 37 = .ok (.aload_n 0, 1) := by decide +kernel
theorem dX3_readNow_38 : decode cX3_readNow 38 = .ok (.bipush 20, 2) := by decide +kernel
theorem dX3_readNow_40 : decode cX3_readNow 40 = .ok (.iload 4, 2) := by decide +kernel
theorem dX3_readNow_42 : decode cX3_readNow 42 = .ok (.invokevirtual 98, 3) := by decide +kernel
theorem dX3_readNow_45 : decode cX3_readNow 45 = .ok (.iastore, 1) := by decide +kernel
theorem dX3_readNow_46 : decode cX3_readNow 46 = .ok (.aload_n 0, 1) := by decide +kernel
theorem dX3_readNow_47 : decode cX3_readNow 47 = .ok (.getfield 72, 3) := by decide +kernel
theorem dX3_readNow_50 : decode cX3_readNow 50 = .ok (.iload 4, 2) := by decide +kernel
theorem dX3_readNow_52 : decode cX3_readNow 52 = .ok (.aload_n 0, 1) := by decide +kernel
theorem dX3_readNow_53 : decode cX3_readNow 53 = .ok (.bipush 20, 2) := by decide +kernel
theorem dX3_readNow_55 : decode cX3_readNow 55 = .ok (.iload 4, 2) := by decide +kernel
theorem dX3_readNow_57 : decode cX3_readNow 57 = .ok (.invokevirtual 101, 3) := by decide +kernel
theorem dX3_readNow_60 : decode cX3_readNow 60 = .ok (.iastore, 1) := by decide +kernel
theorem dX3_readNow_61 : decode cX3_readNow 61 = .ok (.iinc 4 1, 3) := by decide +kernel
theorem dX3_readNow_64 : decode cX3_readNow 64 = .ok (.goto (-40), 3) := by decide +kernel
theorem dX3_readNow_67 : decode cX3_readNow 67 = .ok (.iconst 0, 1) := by decide +kernel
theorem dX3_readNow_68 : decode cX3_readNow 68 = .ok (.istore 4, 2) := by decide +kernel
theorem dX3_readNow_70 : decode cX3_readNow 70 = .ok (.iload 4, 2) := by decide +kernel
theorem dX3_readNow_72 : decode cX3_readNow 72 = .ok (.bipush 96, 2) := by decide +kernel
theorem dX3_readNow_74 : decode cX3_readNow 74 = .ok (.if_icmp .ge 45, 3) := by decide +kernel
theorem dX3_readNow_77 : decode cX3_readNow 77 = .ok (.aload_n 0, 1) := by decide +kernel
theorem dX3_readNow_78 : decode cX3_readNow 78 = .ok (.getfield 75, 3) := by decide +kernel
theorem dX3_readNow_81 : decode cX3_readNow 81 = .ok (.iload 4, 2) := by decide +kernel
theorem dX3_readNow_83 : decode cX3_readNow 83 = .ok (.aload_n 0, 1) := by decide +kernel
theorem dX3_readNow_84 : decode cX3_readNow 84 = .ok (.getfield 47, 3) := by decide +kernel
theorem dX3_readNow_87 : decode cX3_readNow 87 = .ok (.sipush 1920, 3) := by decide +kernel
theorem dX3_readNow_90 : decode cX3_readNow 90 = .ok (.iload 4, 2) := by decide +kernel
theorem dX3_readNow_92 : decode cX3_readNow 92 = .ok (.iadd, 1) := by decide +kernel
theorem dX3_readNow_93 : decode cX3_readNow 93 = .ok (.iaload, 1) := by decide +kernel
theorem dX3_readNow_94 : decode cX3_readNow 94 = .ok (.iastore, 1) := by decide +kernel
theorem dX3_readNow_95 : decode cX3_readNow 95 = .ok (.aload_n 0, 1) := by decide +kernel
theorem dX3_readNow_96 : decode cX3_readNow 96 = .ok (.getfield 78, 3) := by decide +kernel
theorem dX3_readNow_99 : decode cX3_readNow 99 = .ok (.iload 4, 2) := by decide +kernel
theorem dX3_readNow_101 : decode cX3_readNow 101 = .ok (.aload_n 0, 1) := by decide +kernel
theorem dX3_readNow_102 : decode cX3_readNow 102 = .ok (.getfield 50, 3) := by decide +kernel
theorem dX3_readNow_105 : decode cX3_readNow 105 = .ok (.sipush 1920, 3) := by decide +kernel
theorem dX3_readNow_108 : decode cX3_readNow 108 = .ok (.iload 4, 2) := by decide +kernel
theorem dX3_readNow_110 : decode cX3_readNow 110 = .ok (.iadd, 1) := by decide +kernel
theorem dX3_readNow_111 : decode cX3_readNow 111 = .ok (.baload, 1) := by decide +kernel
theorem dX3_readNow_112 : decode cX3_readNow 112 = .ok (.bastore, 1) := by decide +kernel
theorem dX3_readNow_113 : decode cX3_readNow 113 = .ok (.iinc 4 1, 3) := by decide +kernel
theorem dX3_readNow_116 : decode cX3_readNow 116 = .ok (.goto (-46), 3) := by decide +kernel
theorem dX3_readNow_119 : decode cX3_readNow 119 = .ok (.aload_n 0, 1) := by decide +kernel
theorem dX3_readNow_120 : decode cX3_readNow 120 = .ok (.iconst 0, 1) := by decide +kernel
theorem dX3_readNow_121 : decode cX3_readNow 121 = .ok (.invokevirtual 197, 3) := by decide +kernel
theorem dX3_readNow_124 : decode cX3_readNow 124 = .ok (.iconst 0, 1) := by decide +kernel
theorem dX3_readNow_125 : decode cX3_readNow 125 = .ok (.istore 4, 2) := by decide +kernel
theorem dX3_readNow_127 : decode cX3_readNow 127 = .ok (.iload 4, 2) := by decide +kernel
theorem dX3_readNow_129 : decode cX3_readNow 129 = .ok (.aload_n 0, 1) := by decide +kernel
theorem dX3_readNow_130 : decode cX3_readNow 130 = .ok (.getfield 228, 3) := by decide +kernel
theorem dX3_readNow_133 : decode cX3_readNow 133 = .ok (.if_icmp .ge 27, 3) := by decide +kernel
theorem dX3_readNow_136 : decode cX3_readNow 136 = .ok (.aload_n 0, 1) := by decide +kernel
theorem dX3_readNow_137 : decode cX3_readNow 137 = .ok (.aload_n 0, 1) := by decide +kernel
theorem dX3_readNow_138 : decode cX3_readNow 138 = .ok (.getfield 63, 3) := by decide +kernel
theorem dX3_readNow_141 : decode cX3_readNow 141 = .ok (.iload 4, 2) := by decide +kernel
theorem dX3_readNow_143 : decode cX3_readNow 143 = .ok (.iaload, 1) := by decide +kernel
theorem dX3_readNow_144 : decode cX3_readNow 144 = .ok (.aload_n 0, 1) := by decide +kernel
theorem dX3_readNow_145 : decode cX3_readNow 145 = .ok (.getfield 66, 3) := by decide +kernel
theorem dX3_readNow_148 : decode cX3_readNow 148 = .ok (.iload 4, 2) := by decide +kernel
theorem dX3_readNow_150 : decode cX3_readNow 150 = .ok (.iaload, 1) := by decide +kernel
theorem dX3_readNow_151 : decode cX3_readNow 151 = .ok (.invokevirtual 200, 3) := by decide +kernel
theorem dX3_readNow_154 : decode cX3_readNow 154 = .ok (.iinc 4 1, 3) := by decide +kernel
theorem dX3_readNow_157 : decode cX3_readNow 157 = .ok (.goto (-30), 3) := by decide +kernel
theorem dX3_readNow_160 : decode cX3_readNow 160 = .ok (.aload_n 0, 1) := by decide +kernel
theorem dX3_readNow_161 : decode cX3_readNow 161 = .ok (.bipush 20, 2) := by decide +kernel
theorem dX3_readNow_163 : decode cX3_readNow 163 = .ok (.invokevirtual 170, 3) := by decide +kernel
theorem dX3_readNow_166 : decode cX3_readNow 166 = .ok (.istore 4, 2) := by decide +kernel
theorem dX3_readNow_168 : decode cX3_readNow 168 = .ok (.aload_n 0, 1) := by decide +kernel
theorem dX3_readNow_169 : decode cX3_readNow 169 = .ok (.getfield 23, 3) := by decide +kernel
theorem dX3_readNow_172 : decode cX3_readNow 172 = .ok (.bipush 20, 2) := by decide +kernel
theorem dX3_readNow_174 : decode cX3_readNow 174 = .ok (.iload_n 1, 1) := by decide +kernel
theorem dX3_readNow_175 : decode cX3_readNow 175 = .ok (.iastore, 1) := by decide +kernel
theorem dX3_readNow_176 : decode cX3_readNow 176 = .ok (.iconst 0, 1) := by decide +kernel
theorem dX3_readNow_177 : decode cX3_readNow 177 = .ok (.istore 5, 2) := by decide +kernel
theorem dX3_readNow_179 : decode cX3_readNow 179 = .ok (.iload 5, 2) := by decide +kernel
theorem dX3_readNow_181 : decode cX3_readNow 181 = .ok (.bipush 24, 2) := by decide +kernel
theorem dX3_readNow_183 : decode cX3_readNow 183 = .ok (.if_icmp .ge 45, 3) := by decide +kernel
theorem dX3_readNow_186 : decode cX3_readNow 186 = .ok (.aload_n 0, 1) := by decide +kernel
theorem dX3_readNow_187 : decode cX3_readNow 187 = .ok (.getfield 26, 3) := by decide +kernel
theorem dX3_readNow_190 : decode cX3_readNow 190 = .ok (.sipush 480, 3) := by decide +kernel
theorem dX3_readNow_193 : decode cX3_readNow 193 = .ok (.iload 5, 2) := by decide +kernel
theorem dX3_readNow_195 : decode cX3_readNow 195 = .ok (.iadd, 1) := by decide +kernel
theorem dX3_readNow_196 : decode cX3_readNow 196 = .ok (.aload_n 0, 1) := by decide +kernel
theorem dX3_readNow_197 : decode cX3_readNow 197 = .ok (.getfield 69, 3) := by decide +kernel
theorem dX3_readNow_200 : decode cX3_readNow 200 = .ok (.iload 5, 2) := by decide +kernel
theorem dX3_readNow_202 : decode cX3_readNow 202 = .ok (.iaload, 1) := by decide +kernel
theorem dX3_readNow_203 : decode cX3_readNow 203 = .ok (.iastore, 1) := by decide +kernel
theorem dX3_readNow_204 : decode cX3_readNow 204 = .ok (.aload_n 0, 1) := by decide +kernel
theorem dX3_readNow_205 : decode cX3_readNow 205 = .ok (.getfield 29, 3) := by decide +kernel
theorem dX3_readNow_208 : decode cX3_readNow 208 = .ok (.sipush 480, 3) := by decide +kernel
theorem dX3_readNow_211 : decode cX3_readNow 211 = .ok (.iload 5, 2) := by decide +kernel
theorem dX3_readNow_213 : decode cX3_readNow 213 = .ok (.iadd, 1) := by decide +kernel
theorem dX3_readNow_214 : decode cX3_readNow 214 = .ok (.aload_n 0, 1) := by decide +kernel
theorem dX3_readNow_215 : decode cX3_readNow 215 = .ok (.getfield 72, 3) := by decide +kernel
theorem dX3_readNow_218 : decode cX3_readNow 218 = .ok (.iload 5, 2) := by decide +kernel
theorem dX3_readNow_220 : decode cX3_readNow 220 = .ok (.iaload, 1) := by decide +kernel
theorem dX3_readNow_221 : decode cX3_readNow 221 = .ok (.iastore, 1) := by decide +kernel
theorem dX3_readNow_222 : decode cX3_readNow 222 = .ok (.iinc 5 1, 3) := by decide +kernel
theorem dX3_readNow_225 : decode cX3_readNow 225 = .ok (.goto (-46), 3) := by decide +kernel
theorem dX3_readNow_228 : decode cX3_readNow 228 = .ok (.aload_n 0, 1) := by decide +kernel
theorem dX3_readNow_229 : decode cX3_readNow 229 = .ok (.bipush 20, 2) := by decide +kernel
theorem dX3_readNow_231 : decode cX3_readNow 231 = .ok (.invokevirtual 139, 3) := by decide +kernel
theorem dX3_readNow_234 : decode cX3_readNow 234 = .ok (.aload_n 0, 1) := by decide +kernel
theorem dX3_readNow_235 : decode cX3_readNow 235 = .ok (.getfield 32, 3) := by decide +kernel
theorem dX3_readNow_238 : decode cX3_readNow 238 = .ok (.bipush 20, 2) := by decide +kernel
theorem dX3_readNow_240 : decode cX3_readNow 240 = .ok (.iload_n 2, 1) := by decide +kernel
theorem dX3_readNow_241 : decode cX3_readNow 241 = .ok (.iastore, 1) := by decide +kernel
theorem dX3_readNow_242 : decode cX3_readNow 242 = .ok (.iconst 0, 1) := by decide +kernel
theorem dX3_readNow_243 : decode cX3_readNow 243 = .ok (.istore 5, 2) := by decide +kernel
theorem dX3_readNow_245 : decode cX3_readNow 245 = .ok (.iload 5, 2) := by decide +kernel
theorem dX3_readNow_247 : decode cX3_readNow 247 = .ok (.bipush 96, 2) := by decide +kernel
theorem dX3_readNow_249 : decode cX3_readNow 249 = .ok (.if_icmp .ge 45, 3) := by decide +kernel
theorem dX3_readNow_252 : decode cX3_readNow 252 = .ok (.aload_n 0, 1) := by decide +kernel
theorem dX3_readNow_253 : decode cX3_readNow 253 = .ok (.getfield 47, 3) := by decide +kernel
theorem dX3_readNow_256 : decode cX3_readNow 256 = .ok (.sipush 1920, 3) := by decide +kernel
theorem dX3_readNow_259 : decode cX3_readNow 259 = .ok (.iload 5, 2) := by decide +kernel
theorem dX3_readNow_261 : decode cX3_readNow 261 = .ok (.iadd, 1) := by decide +kernel
theorem dX3_readNow_262 : decode cX3_readNow 262 = .ok (.aload_n 0, 1) := by decide +kernel
theorem dX3_readNow_263 : decode cX3_readNow 263 = .ok (.getfield 75, 3) := by decide +kernel
theorem dX3_readNow_266 : decode cX3_readNow 266 = .ok (.iload 5, 2) := by decide +kernel
theorem dX3_readNow_268 : decode cX3_readNow 268 = .ok (.iaload, 1) := by decide +kernel
theorem dX3_readNow_269 : decode cX3_readNow 269 = .ok (.iastore, 1) := by decide +kernel
theorem dX3_readNow_270 : decode cX3_readNow 270 = .ok (.aload_n 0, 1) := by decide +kernel
theorem dX3_readNow_271 : decode cX3_readNow 271 = .ok (.getfield 50, 3) := by decide +kernel
theorem dX3_readNow_274 : decode cX3_readNow 274 = .ok (.sipush 1920, 3) := by decide +kernel
theorem dX3_readNow_277 : decode cX3_readNow 277 = .ok (.iload 5, 2) := by decide +kernel
theorem dX3_readNow_279 : decode cX3_readNow 279 = .ok (.iadd, 1) := by decide +kernel
theorem dX3_readNow_280 : decode cX3_readNow 280 = .ok (.aload_n 0, 1) := by decide +kernel
theorem dX3_readNow_281 : decode cX3_readNow 281 = .ok (.getfield 78, 3) := by decide +kernel
theorem dX3_readNow_284 : decode cX3_readNow 284 = .ok (.iload 5, 2) := by decide +kernel
theorem dX3_readNow_286 : decode cX3_readNow 286 = .ok (.baload, 1) := by decide +kernel
theorem dX3_readNow_287 : decode cX3_readNow 287 = .ok (.bastore, 1) := by decide +kernel
theorem dX3_readNow_288 : decode cX3_readNow 288 = .ok (.iinc 5 1, 3) := by decide +kernel
theorem dX3_readNow_291 : decode cX3_readNow 291 = .ok (.goto (-46), 3) := by decide +kernel
theorem dX3_readNow_294 : decode cX3_readNow 294 = .ok (.aload_n 0, 1) := by decide +kernel
theorem dX3_readNow_295 : decode cX3_readNow 295 = .ok (.iload_n 3, 1) := by decide +kernel
theorem dX3_readNow_296 : decode cX3_readNow 296 = .ok (.putfield 188, 3) := by decide +kernel
theorem dX3_readNow_299 : decode cX3_readNow 299 = .ok (.iload 4, 2) := by decide +kernel
theorem dX3_readNow_301 : decode cX3_readNow 301 = .ok (.ireturn, 1) := by decide +kernel
theorem dX3_read_0 : decode cX3_read 0 = .ok (.aload_n 0, 1) := by decide +kernel
theorem dX3_read_1 : decode cX3_read 1 = .ok (.invokevirtual 234, 3) := by decide +kernel
theorem dX3_read_4 : decode cX3_read 4 = .ok (.aload_n 0, 1) := by decide +kernel
theorem dX3_read_5 : decode cX3_read 5 = .ok (.getfield 213, 3) := by decide +kernel
theorem dX3_read_8 : decode cX3_read 8 = .ok (.if_icmp .ne 29, 3) := by decide +kernel
theorem dX3_read_11 : decode cX3_read 11 = .ok (.aload_n 0, 1) := by decide +kernel
theorem dX3_read_12 : decode cX3_read 12 = .ok (.getfield 213, 3) := by decide +kernel
theorem dX3_read_15 : decode cX3_read 15 = .ok (.ifCond .eq 18, 3) := by decide +kernel
theorem dX3_read_18 : decode cX3_read 18 = .ok (.aload_n 0, 1) := by decide +kernel
theorem dX3_read_19 : decode cX3_read 19 = .ok (.getfield 219, 3) := by decide +kernel
theorem dX3_read_22 : decode cX3_read 22 = .ok (.ifCond .eq 15, 3) := by decide +kernel
theorem dX3_read_25 : decode cX3_read 25 = .ok (.aload_n 0, 1) := by decide +kernel
theorem dX3_read_26 : decode cX3_read 26 = .ok (.getfield 216, 3) := by decide +kernel
theorem dX3_read_29 : decode cX3_read 29 = .ok (.iconst (-1), 1) := by decide +kernel
theorem dX3_read_30 : decode cX3_read 30 = .ok (.if_icmp .eq 7, 3) := by decide +kernel
theorem dX3_read_33 : decode cX3_read 33 = .ok (.iconst 1, 1) := by decide +kernel
theorem dX3_read_34 : decode cX3_read 34 = .ok (.goto 4, 3) := by decide +kernel
theorem dX3_read_37 : decode cX3_read 37 = .ok (.iconst 0, 1) := by decide +kernel
theorem dX3_read_38 : decode cX3_read 38 = .ok (.istore_n 1, 1) := by decide +kernel
theorem dX3_read_39 : decode cX3_read 39 = .ok (.iload_n 1, 1) := by decide +kernel
theorem dX3_read_40 : decode cX3_read 40 = .ok (.ifCond .ne 6, 3) := by decide +kernel
theorem dX3_read_43 : decode cX3_read 43 = .ok (.bipush (-103), 2) := by decide +kernel
theorem dX3_read_45 : decode cX3_read 45 = .ok (.ireturn, 1) := by decide +kernel
theorem dX3_read_46 : decode cX3_read 46 = .ok (.aload_n 0, 1) := by decide +kernel
theorem dX3_read_47 : decode cX3_read 47 = .ok (.getfield 20, 3) := by decide +kernel
theorem dX3_read_50 : decode cX3_read 50 = .ok (.bipush 20, 2) := by decide +kernel
theorem dX3_read_52 : decode cX3_read 52 = .ok (.if_icmp .ne 6, 3) := by decide +kernel
theorem dX3_read_55 : decode cX3_read 55 = .ok (.bipush (-104), 2) := by decide +kernel
theorem dX3_read_57 : decode cX3_read 57 = .ok (.ireturn, 1) := by decide +kernel
theorem dX3_read_58 : decode cX3_read 58 = .ok (.aload_n 0, 1) := by decide +kernel
theorem dX3_read_59 : decode cX3_read 59 = .ok (.getfield 213, 3) := by decide +kernel
theorem dX3_read_62 : decode cX3_read 62 = .ok (.ifCond .le 7, 3) := by decide +kernel
theorem dX3_read_65 : decode cX3_read 65 = .ok (.aload_n 0, 1) := by decide +kernel
theorem dX3_read_66 : decode cX3_read 66 = .ok (.invokevirtual 225, 3) := by decide +kernel
theorem dX3_read_69 : decode cX3_read 69 = .ok (.aload_n 0, 1) := by decide +kernel
theorem dX3_read_70 : decode cX3_read 70 = .ok (.dup, 1) := by decide +kernel
theorem dX3_read_71 : decode cX3_read 71 = .ok (.getfield 237, 3) := by decide +kernel
theorem dX3_read_74 : decode cX3_read 74 = .ok (.iconst 1, 1) := by decide +kernel
theorem dX3_read_75 : decode cX3_read 75 = .ok (.iadd, 1) := by decide +kernel
theorem dX3_read_76 : decode cX3_read 76 = .ok (.putfield 237, 3) := by decide +kernel
theorem dX3_read_79 : decode cX3_read 79 = .ok (.aload_n 0, 1) := by decide +kernel
theorem dX3_read_80 : decode cX3_read 80 = .ok (.iconst 0, 1) := by decide +kernel
theorem dX3_read_81 : decode cX3_read 81 = .ok (.putfield 213, 3) := by decide +kernel
theorem dX3_read_84 : decode cX3_read 84 = .ok (.aload_n 0, 1) := by decide +kernel
theorem dX3_read_85 : decode cX3_read 85 = .ok (.invokevirtual 240, 3) := by decide +kernel
theorem dX3_read_88 : decode cX3_read 88 = .ok (.ireturn, 1) := by decide +kernel
theorem dX3_valueOf_0 : decode cX3_valueOf 0 = .ok (.aload_n 0, 1) := by decide +kernel
theorem dX3_valueOf_1 : decode cX3_valueOf 1 = .ok (.iload_n 1, 1) := by decide +kernel
theorem dX3_valueOf_2 : decode cX3_valueOf 2 = .ok (.iload_n 2, 1) := by decide +kernel
theorem dX3_valueOf_3 : decode cX3_valueOf 3 = .ok (.invokevirtual 104, 3) := by decide +kernel
theorem dX3_valueOf_6 : decode cX3_valueOf 6 = .ok (.istore_n 3, 1) := by decide +kernel
theorem dX3_valueOf_7 : decode cX3_valueOf 7 = .ok (.iload_n 3, 1) := by decide +kernel
theorem dX3_valueOf_8 : decode cX3_valueOf 8 = .ok (.iconst (-1), 1) := by decide +kernel
theorem dX3_valueOf_9 : decode cX3_valueOf 9 = .ok (.if_icmp .ne 7, 3) := by decide +kernel
theorem dX3_valueOf_12 : decode cX3_valueOf 12 = .ok (.iconst (-1), 1) := by decide +kernel
theorem dX3_valueOf_13 : decode cX3_valueOf 13 = .ok (.goto 9, 3) := by decide +kernel
theorem dX3_valueOf_16 : decode cX3_valueOf 16 = .ok (.aload_n 0, 1) := by decide +kernel
theorem dX3_valueOf_17 : decode cX3_valueOf 17 = .ok (.iload_n 1, 1) := by decide +kernel
theorem dX3_valueOf_18 : decode cX3_valueOf 18 = .ok (.iload_n 3, 1) := by decide +kernel
theorem dX3_valueOf_19 : decode cX3_valueOf 19 = .ok (.invokevirtual 101, 3) := by decide +kernel
theorem dX3_valueOf_22 : decode cX3_valueOf 22 = .ok (.ireturn, 1) := by decide +kernel
theorem dX3_get_0 : decode cX3_get 0 = .ok (.aload_n 0, 1) := by decide +kernel
theorem dX3_get_1 : decode cX3_get 1 = .ok (.iload_n 1, 1) := by decide +kernel
theorem dX3_get_2 : decode cX3_get 2 = .ok (.invokevirtual 160, 3) := by decide +kernel
theorem dX3_get_5 : decode cX3_get 5 = .ok (.ifCond .ne 6, 3) := by decide +kernel
theorem dX3_get_8 : decode cX3_get 8 = .ok (.bipush (-101), 2) := by decide +kernel
theorem dX3_get_10 : decode cX3_get 10 = .ok (.ireturn, 1) := by decide +kernel
theorem dX3_get_11 : decode cX3_get 11 = .ok (.iload_n 2, 1) := by decide +kernel
theorem dX3_get_12 : decode cX3_get 12 = .ok (.iconst 0, 1) := by decide +kernel
theorem dX3_get_13 : decode cX3_get 13 = .ok (.sipush 4095, 3) := by decide +kernel
theorem dX3_get_16 : decode cX3_get 16 = .ok (.invokestatic 81, 3) := by decide +kernel
theorem dX3_get_19 : decode cX3_get 19 = .ok (.ifCond .eq 12, 3) := by decide +kernel
theorem dX3_get_22 : decode cX3_get 22 = .ok (.aload_n 0, 1) := by decide +kernel
theorem dX3_get_23 : decode cX3_get 23 = .ok (.iload_n 1, 1) := by decide +kernel
theorem dX3_get_24 : decode cX3_get 24 = .ok (.iload_n 2, 1) := by decide +kernel
theorem dX3_get_25 : decode cX3_get 25 = .ok (.invokevirtual 243, 3) := by decide +kernel
theorem dX3_get_28 : decode cX3_get 28 = .ok (.goto 5, 3) := by decide +kernel
theorem dX3_get_31 : decode cX3_get 31 = .ok (.bipush (-102), 2) := by decide +kernel
theorem dX3_get_33 : decode cX3_get 33 = .ok (.ireturn, 1) := by decide +kernel
theorem dX3_ofKind_0 : decode cX3_ofKind 0 = .ok (.iconst 0, 1) := by decide +kernel
theorem dX3_ofKind_1 : decode cX3_ofKind 1 = .ok (.istore_n 3, 1) := by decide +kernel
theorem dX3_ofKind_2 : decode cX3_ofKind 2 = .ok (.iconst 0, 1) := by decide +kernel
theorem dX3_ofKind_3 : decode cX3_ofKind 3 = .ok (.istore 4, 2) := by decide +kernel
theorem dX3_ofKind_5 : decode cX3_ofKind 5 = .ok (.iload 4, 2) := by decide +kernel
theorem dX3_ofKind_7 : decode cX3_ofKind 7 = .ok (.aload_n 0, 1) := by decide +kernel
theorem dX3_ofKind_8 : decode cX3_ofKind 8 = .ok (.getfield 32, 3) := by decide +kernel
theorem dX3_ofKind_11 : decode cX3_ofKind 11 = .ok (.iload_n 1, 1) := by decide +kernel
theorem dX3_ofKind_12 : decode cX3_ofKind 12 = .ok (.iaload, 1) := by decide +kernel
theorem dX3_ofKind_13 : decode cX3_ofKind 13 = .ok (.if_icmp .ge 33, 3) := by decide +kernel
theorem dX3_ofKind_16 : decode cX3_ofKind 16 = .ok (.iload_n 3, 1) := by decide +kernel
theorem dX3_ofKind_17 : decode cX3_ofKind 17 = .ok (.aload_n 0, 1) := by decide +kernel
theorem dX3_ofKind_18 : decode cX3_ofKind 18 = .ok (.getfield 35, 3) := by decide +kernel
theorem dX3_ofKind_21 : decode cX3_ofKind 21 = .ok (.bipush 96, 2) := by decide +kernel
theorem dX3_ofKind_23 : decode cX3_ofKind 23 = .ok (.iload_n 1, 1) := by decide +kernel
theorem dX3_ofKind_24 : decode cX3_ofKind 24 = .ok (.imul, 1) := by decide +kernel
theorem dX3_ofKind_25 : decode cX3_ofKind 25 = .ok (.iload 4, 2) := by decide +kernel
theorem dX3_ofKind_27 : decode cX3_ofKind 27 = .ok (.iadd, 1) := by decide +kernel
theorem dX3_ofKind_28 : decode cX3_ofKind 28 = .ok (.iaload, 1) := by decide +kernel
theorem dX3_ofKind_29 : decode cX3_ofKind 29 = .ok (.iload_n 2, 1) := by decide +kernel
theorem dX3_ofKind_30 : decode cX3_ofKind 30 = .ok (.if_icmp .ne 7, 3) := by decide +kernel
theorem dX3_ofKind_33 : decode cX3_ofKind 33 = .ok (.iconst 1, 1) := by decide +kernel
theorem dX3_ofKind_34 : decode cX3_ofKind 34 = .ok (.goto 4, 3) := by decide +kernel
theorem dX3_ofKind_37 : decode cX3_ofKind 37 = .ok (.iconst 0, 1) := by decide +kernel
theorem dX3_ofKind_38 : decode cX3_ofKind 38 = .ok (.iadd, 1) := by decide +kernel
theorem dX3_ofKind_39 : decode cX3_ofKind 39 = .ok (.istore_n 3, 1) := by decide +kernel
theorem dX3_ofKind_40 : decode cX3_ofKind 40 = .ok (.iinc 4 1, 3) := by decide +kernel
theorem dX3_ofKind_43 : decode cX3_ofKind 43 = .ok (.goto (-38), 3) := by decide +kernel
theorem dX3_ofKind_46 : decode cX3_ofKind 46 = .ok (.iload_n 3, 1) := by decide +kernel
theorem dX3_ofKind_47 : decode cX3_ofKind 47 = .ok (.ireturn, 1) := by decide +kernel
theorem dX3_deepest_0 : decode cX3_deepest 0 = .ok (.iconst (-1), 1) := by decide +kernel
theorem dX3_deepest_1 : decode cX3_deepest 1 = .ok (.istore_n 2, 1) := by decide +kernel
theorem dX3_deepest_2 : decode cX3_deepest 2 = .ok (.iconst 0, 1) := by decide +kernel
theorem dX3_deepest_3 : decode cX3_deepest 3 = .ok (.istore_n 3, 1) := by decide +kernel
theorem dX3_deepest_4 : decode cX3_deepest 4 = .ok (.iload_n 3, 1) := by decide +kernel
theorem dX3_deepest_5 : decode cX3_deepest 5 = .ok (.aload_n 0, 1) := by decide +kernel
theorem dX3_deepest_6 : decode cX3_deepest 6 = .ok (.getfield 32, 3) := by decide +kernel
theorem dX3_deepest_9 : decode cX3_deepest 9 = .ok (.iload_n 1, 1) := by decide +kernel
theorem dX3_deepest_10 : decode cX3_deepest 10 = .ok (.iaload, 1) := by decide +kernel
theorem dX3_deepest_11 : decode cX3_deepest 11 = .ok (.if_icmp .ge 35, 3) := by decide +kernel
theorem dX3_deepest_14 : decode cX3_deepest 14 = .ok (.aload_n 0, 1) := by decide +kernel
theorem dX3_deepest_15 : decode cX3_deepest 15 = .ok (.getfield 38, 3) := by decide +kernel
theorem dX3_deepest_18 : decode cX3_deepest 18 = .ok (.bipush 96, 2) := by decide +kernel
theorem dX3_deepest_20 : decode cX3_deepest 20 = .ok (.iload_n 1, 1) := by decide +kernel
theorem dX3_deepest_21 : decode cX3_deepest 21 = .ok (.imul, 1) := by decide +kernel
theorem dX3_deepest_22 : decode cX3_deepest 22 = .ok (.iload_n 3, 1) := by decide +kernel
theorem dX3_deepest_23 : decode cX3_deepest 23 = .ok (.iadd, 1) := by decide +kernel
theorem dX3_deepest_24 : decode cX3_deepest 24 = .ok (.iaload, 1) := by decide +kernel
theorem dX3_deepest_25 : decode cX3_deepest 25 = .ok (.istore 4, 2) := by decide +kernel
theorem dX3_deepest_27 : decode cX3_deepest 27 = .ok (.iload 4, 2) := by decide +kernel
theorem dX3_deepest_29 : decode cX3_deepest 29 = .ok (.iload_n 2, 1) := by decide +kernel
theorem dX3_deepest_30 : decode cX3_deepest 30 = .ok (.if_icmp .le 8, 3) := by decide +kernel
theorem dX3_deepest_33 : decode cX3_deepest 33 = .ok (.iload 4, 2) := by decide +kernel
theorem dX3_deepest_35 : decode cX3_deepest 35 = .ok (.goto 4, 3) := by decide +kernel
theorem dX3_deepest_38 : decode cX3_deepest 38 = .ok (.iload_n 2, 1) := by decide +kernel
theorem dX3_deepest_39 : decode cX3_deepest 39 = .ok (.istore_n 2, 1) := by decide +kernel
theorem dX3_deepest_40 : decode cX3_deepest 40 = .ok (.iinc 3 1, 3) := by decide +kernel
theorem dX3_deepest_43 : decode cX3_deepest 43 = .ok (.goto (-39), 3) := by decide +kernel
theorem dX3_deepest_46 : decode cX3_deepest 46 = .ok (.iload_n 2, 1) := by decide +kernel
theorem dX3_deepest_47 : decode cX3_deepest 47 = .ok (.ireturn, 1) := by decide +kernel
theorem dX3_aboutNow_0 : decode cX3_aboutNow 0 = .ok (.iload_n 2, 1) := by decide +kernel
theorem dX3_aboutNow_1 : decode cX3_aboutNow 1 = .ok (.tableswitch 58 0 4 #[35, 42, 49, 49, 49], 35) := by decide +kernel
theorem dX3_aboutNow_36 : decode cX3_aboutNow 36 = .ok (.aload_n 0, 1) := by decide +kernel
theorem dX3_aboutNow_37 : decode cX3_aboutNow 37 = .ok (.getfield 23, 3) := by decide +kernel
theorem dX3_aboutNow_40 : decode cX3_aboutNow 40 = .ok (.iload_n 1, 1) := by decide +kernel
theorem dX3_aboutNow_41 : decode cX3_aboutNow 41 = .ok (.iaload, 1) := by decide +kernel
theorem dX3_aboutNow_42 : decode cX3_aboutNow 42 = .ok (.ireturn, 1) := by decide +kernel
theorem dX3_aboutNow_43 : decode cX3_aboutNow 43 = .ok (.aload_n 0, 1) := by decide +kernel
theorem dX3_aboutNow_44 : decode cX3_aboutNow 44 = .ok (.getfield 32, 3) := by decide +kernel
theorem dX3_aboutNow_47 : decode cX3_aboutNow 47 = .ok (.iload_n 1, 1) := by decide +kernel
theorem dX3_aboutNow_48 : decode cX3_aboutNow 48 = .ok (.iaload, 1) := by decide +kernel
theorem dX3_aboutNow_49 : decode cX3_aboutNow 49 = .ok (.ireturn, 1) := by decide +kernel
theorem dX3_aboutNow_50 : decode cX3_aboutNow 50 = .ok (.aload_n 0, 1) := by decide +kernel
theorem dX3_aboutNow_51 : decode cX3_aboutNow 51 = .ok (.iload_n 1, 1) := by decide +kernel
theorem dX3_aboutNow_52 : decode cX3_aboutNow 52 = .ok (.iload_n 2, 1) := by decide +kernel
theorem dX3_aboutNow_53 : decode cX3_aboutNow 53 = .ok (.iconst 2, 1) := by decide +kernel
theorem dX3_aboutNow_54 : decode cX3_aboutNow 54 = .ok (.isub, 1) := by decide +kernel
theorem dX3_aboutNow_55 : decode cX3_aboutNow 55 = .ok (.invokevirtual 246, 3) := by decide +kernel
theorem dX3_aboutNow_58 : decode cX3_aboutNow 58 = .ok (.ireturn, 1) := by decide +kernel
theorem dX3_aboutNow_59 : decode cX3_aboutNow 59 = .ok (.aload_n 0, 1) := by decide +kernel
theorem dX3_aboutNow_60 : decode cX3_aboutNow 60 = .ok (.iload_n 1, 1) := by decide +kernel
theorem dX3_aboutNow_61 : decode cX3_aboutNow 61 = .ok (.invokevirtual 249, 3) := by decide +kernel
theorem dX3_aboutNow_64 : decode cX3_aboutNow 64 = .ok (.ireturn, 1) := by decide +kernel
theorem dX3_about_0 : decode cX3_about 0 = .ok (.aload_n 0, 1) := by decide +kernel
theorem dX3_about_1 : decode cX3_about 1 = .ok (.iload_n 1, 1) := by decide +kernel
theorem dX3_about_2 : decode cX3_about 2 = .ok (.invokevirtual 160, 3) := by decide +kernel
theorem dX3_about_5 : decode cX3_about 5 = .ok (.ifCond .ne 8, 3) := by decide +kernel
theorem dX3_about_8 : decode cX3_about 8 = .ok (.bipush (-101), 2) := by decide +kernel
theorem dX3_about_10 : decode cX3_about 10 = .ok (.goto 23, 3) := by decide +kernel
theorem dX3_about_13 : decode cX3_about 13 = .ok (.iload_n 2, 1) := by decide +kernel
theorem dX3_about_14 : decode cX3_about 14 = .ok (.iconst 0, 1) := by decide +kernel
theorem dX3_about_15 : decode cX3_about 15 = .ok (.iconst 5, 1) := by decide +kernel
theorem dX3_about_16 : decode cX3_about 16 = .ok (.invokestatic 81, 3) := by decide +kernel
theorem dX3_about_19 : decode cX3_about 19 = .ok (.ifCond .eq 12, 3) := by decide +kernel
theorem dX3_about_22 : decode cX3_about 22 = .ok (.aload_n 0, 1) := by decide +kernel
theorem dX3_about_23 : decode cX3_about 23 = .ok (.iload_n 1, 1) := by decide +kernel
theorem dX3_about_24 : decode cX3_about 24 = .ok (.iload_n 2, 1) := by decide +kernel
theorem dX3_about_25 : decode cX3_about 25 = .ok (.invokevirtual 252, 3) := by decide +kernel
theorem dX3_about_28 : decode cX3_about 28 = .ok (.goto 5, 3) := by decide +kernel
theorem dX3_about_31 : decode cX3_about 31 = .ok (.bipush (-102), 2) := by decide +kernel
theorem dX3_about_33 : decode cX3_about 33 = .ok (.ireturn, 1) := by decide +kernel
theorem dX3_partsBelow_0 : decode cX3_partsBelow 0 = .ok (.iconst 0, 1) := by decide +kernel
theorem dX3_partsBelow_1 : decode cX3_partsBelow 1 = .ok (.istore_n 3, 1) := by decide +kernel
theorem dX3_partsBelow_2 : decode cX3_partsBelow 2 = .ok (.iconst 0, 1) := by decide +kernel
theorem dX3_partsBelow_3 : decode cX3_partsBelow 3 = .ok (.istore 4, 2) := by decide +kernel
theorem dX3_partsBelow_5 : decode cX3_partsBelow 5 = .ok (.iload 4, 2) := by decide +kernel
theorem dX3_partsBelow_7 : decode cX3_partsBelow 7 = .ok (.aload_n 0, 1) := by decide +kernel
theorem dX3_partsBelow_8 : decode cX3_partsBelow 8 = .ok (.getfield 44, 3) := by decide +kernel
theorem dX3_partsBelow_11 : decode cX3_partsBelow 11 = .ok (.iload_n 2, 1) := by decide +kernel
theorem dX3_partsBelow_12 : decode cX3_partsBelow 12 = .ok (.iaload, 1) := by decide +kernel
theorem dX3_partsBelow_13 : decode cX3_partsBelow 13 = .ok (.if_icmp .ge 34, 3) := by decide +kernel
theorem dX3_partsBelow_16 : decode cX3_partsBelow 16 = .ok (.iload_n 3, 1) := by decide +kernel
theorem dX3_partsBelow_17 : decode cX3_partsBelow 17 = .ok (.iconst 1, 1) := by decide +kernel
theorem dX3_partsBelow_18 : decode cX3_partsBelow 18 = .ok (.aload_n 0, 1) := by decide +kernel
theorem dX3_partsBelow_19 : decode cX3_partsBelow 19 = .ok (.iload_n 1, 1) := by decide +kernel
theorem dX3_partsBelow_20 : decode cX3_partsBelow 20 = .ok (.aload_n 0, 1) := by decide +kernel
theorem dX3_partsBelow_21 : decode cX3_partsBelow 21 = .ok (.getfield 41, 3) := by decide +kernel
theorem dX3_partsBelow_24 : decode cX3_partsBelow 24 = .ok (.iload_n 2, 1) := by decide +kernel
theorem dX3_partsBelow_25 : decode cX3_partsBelow 25 = .ok (.iaload, 1) := by decide +kernel
theorem dX3_partsBelow_26 : decode cX3_partsBelow 26 = .ok (.iload 4, 2) := by decide +kernel
theorem dX3_partsBelow_28 : decode cX3_partsBelow 28 = .ok (.iadd, 1) := by decide +kernel
theorem dX3_partsBelow_29 : decode cX3_partsBelow 29 = .ok (.aload_n 0, 1) := by decide +kernel
theorem dX3_partsBelow_30 : decode cX3_partsBelow 30 = .ok (.getfield 38, 3) := by decide +kernel
theorem dX3_partsBelow_33 : decode cX3_partsBelow 33 = .ok (.iload_n 2, 1) := by decide +kernel
theorem dX3_partsBelow_34 : decode cX3_partsBelow 34 = .ok (.iaload, 1) := by decide +kernel
theorem dX3_partsBelow_35 : decode cX3_partsBelow 35 = .ok (.invokevirtual 125, 3) := by decide +kernel
theorem dX3_partsBelow_38 : decode cX3_partsBelow 38 = .ok (.ishl, 1) := by decide +kernel
theorem dX3_partsBelow_39 : decode cX3_partsBelow 39 = .ok (.ior, 1) := by decide +kernel
theorem dX3_partsBelow_40 : decode cX3_partsBelow 40 = .ok (.istore_n 3, 1) := by decide +kernel
theorem dX3_partsBelow_41 : decode cX3_partsBelow 41 = .ok (.iinc 4 1, 3) := by decide +kernel
theorem dX3_partsBelow_44 : decode cX3_partsBelow 44 = .ok (.goto (-39), 3) := by decide +kernel
theorem dX3_partsBelow_47 : decode cX3_partsBelow 47 = .ok (.iload_n 3, 1) := by decide +kernel
theorem dX3_partsBelow_48 : decode cX3_partsBelow 48 = .ok (.ireturn, 1) := by decide +kernel
theorem dX3_nodeNow_0 : decode cX3_nodeNow 0 = .ok (.bipush 96, 2) := by decide +kernel
theorem dX3_nodeNow_2 : decode cX3_nodeNow 2 = .ok (.iload_n 1, 1) := by decide +kernel
theorem dX3_nodeNow_3 : decode cX3_nodeNow 3 = .ok (.imul, 1) := by decide +kernel
theorem dX3_nodeNow_4 : decode cX3_nodeNow 4 = .ok (.iload_n 2, 1) := by decide +kernel
theorem dX3_nodeNow_5 : decode cX3_nodeNow 5 = .ok (.iadd, 1) := by decide +kernel
theorem dX3_nodeNow_6 : decode cX3_nodeNow 6 = .ok (.istore 4, 2) := by decide +kernel
theorem dX3_nodeNow_8 : decode cX3_nodeNow 8 = .ok (.iload_n 3, 1) := by decide +kernel
theorem dX3_nodeNow_9 : decode cX3_nodeNow 9 = .ok (.tableswitch 68 0 3 #[31, 39, 47, 55], 31) := by decide +kernel
theorem dX3_nodeNow_40 : decode cX3_nodeNow 40 = .ok (.aload_n 0, 1) := by decide +kernel
theorem dX3_nodeNow_41 : decode cX3_nodeNow 41 = .ok (.getfield 35, 3) := by decide +kernel
theorem dX3_nodeNow_44 : decode cX3_nodeNow 44 = .ok (.iload 4, 2) := by decide +kernel
theorem dX3_nodeNow_46 : decode cX3_nodeNow 46 = .ok (.iaload, 1) := by decide +kernel
theorem dX3_nodeNow_47 : decode cX3_nodeNow 47 = .ok (.ireturn, 1) := by decide +kernel
theorem dX3_nodeNow_48 : decode cX3_nodeNow 48 = .ok (.aload_n 0, 1) := by decide +kernel
theorem dX3_nodeNow_49 : decode cX3_nodeNow 49 = .ok (.getfield 38, 3) := by decide +kernel
theorem dX3_nodeNow_52 : decode cX3_nodeNow 52 = .ok (.iload 4, 2) := by decide +kernel
theorem dX3_nodeNow_54 : decode cX3_nodeNow 54 = .ok (.iaload, 1) := by decide +kernel
theorem dX3_nodeNow_55 : decode cX3_nodeNow 55 = .ok (.ireturn, 1) := by decide +kernel
theorem dX3_nodeNow_56 : decode cX3_nodeNow 56 = .ok (.aload_n 0, 1) := by decide +kernel
theorem dX3_nodeNow_57 : decode cX3_nodeNow 57 = .ok (.getfield 44, 3) := by decide +kernel
theorem dX3_nodeNow_60 : decode cX3_nodeNow 60 = .ok (.iload 4, 2) := by decide +kernel
theorem dX3_nodeNow_62 : decode cX3_nodeNow 62 = .ok (.iaload, 1) := by decide +kernel
theorem dX3_nodeNow_63 : decode cX3_nodeNow 63 = .ok (.ireturn, 1) := by decide +kernel
theorem dX3_nodeNow_64 : decode cX3_nodeNow 64 = .ok (.aload_n 0, 1) := by decide +kernel
theorem dX3_nodeNow_65 : decode cX3_nodeNow 65 = .ok (.iload_n 1, 1) := by decide +kernel
theorem dX3_nodeNow_66 : decode cX3_nodeNow 66 = .ok (.aload_n 0, 1) := by decide +kernel
theorem dX3_nodeNow_67 : decode cX3_nodeNow 67 = .ok (.getfield 41, 3) := by decide +kernel
theorem dX3_nodeNow_70 : decode cX3_nodeNow 70 = .ok (.iload 4, 2) := by decide +kernel
theorem dX3_nodeNow_72 : decode cX3_nodeNow 72 = .ok (.iaload, 1) := by decide +kernel
theorem dX3_nodeNow_73 : decode cX3_nodeNow 73 = .ok (.invokevirtual 98, 3) := by decide +kernel
theorem dX3_nodeNow_76 : decode cX3_nodeNow 76 = .ok (.ireturn, 1) := by decide +kernel
theorem dX3_nodeNow_77 : decode cX3_nodeNow 77 = .ok (.aload_n 0, 1) := by decide +kernel
theorem dX3_nodeNow_78 : decode cX3_nodeNow 78 = .ok (.getfield 35, 3) := by decide +kernel
theorem dX3_nodeNow_81 : decode cX3_nodeNow 81 = .ok (.iload 4, 2) := by decide +kernel
theorem dX3_nodeNow_83 : decode cX3_nodeNow 83 = .ok (.iaload, 1) := by decide +kernel
theorem dX3_nodeNow_84 : decode cX3_nodeNow 84 = .ok (.iconst 2, 1) := by decide +kernel
theorem dX3_nodeNow_85 : decode cX3_nodeNow 85 = .ok (.if_icmp .ne 13, 3) := by decide +kernel
theorem dX3_nodeNow_88 : decode cX3_nodeNow 88 = .ok (.aload_n 0, 1) := by decide +kernel
theorem dX3_nodeNow_89 : decode cX3_nodeNow 89 = .ok (.iload_n 1, 1) := by decide +kernel
theorem dX3_nodeNow_90 : decode cX3_nodeNow 90 = .ok (.iload 4, 2) := by decide +kernel
theorem dX3_nodeNow_92 : decode cX3_nodeNow 92 = .ok (.invokevirtual 255, 3) := by decide +kernel
theorem dX3_nodeNow_95 : decode cX3_nodeNow 95 = .ok (.goto 4, 3) := by decide +kernel
theorem dX3_nodeNow_98 : decode cX3_nodeNow 98 = .ok (.iconst (-1), 1) := by decide +kernel
theorem dX3_nodeNow_99 : decode cX3_nodeNow 99 = .ok (.ireturn, 1) := by decide +kernel
theorem dX3_node_0 : decode cX3_node 0 = .ok (.aload_n 0, 1) := by decide +kernel
theorem dX3_node_1 : decode cX3_node 1 = .ok (.iload_n 1, 1) := by decide +kernel
theorem dX3_node_2 : decode cX3_node 2 = .ok (.invokevirtual 160, 3) := by decide +kernel
theorem dX3_node_5 : decode cX3_node 5 = .ok (.ifCond .eq 19, 3) := by decide +kernel
theorem dX3_node_8 : decode cX3_node 8 = .ok (.iload_n 2, 1) := by decide +kernel
theorem dX3_node_9 : decode cX3_node 9 = .ok (.iconst 0, 1) := by decide +kernel
theorem dX3_node_10 : decode cX3_node 10 = .ok (.aload_n 0, 1) := by decide +kernel
theorem dX3_node_11 : decode cX3_node 11 = .ok (.getfield 32, 3) := by decide +kernel
theorem dX3_node_14 : decode cX3_node 14 = .ok (.iload_n 1, 1) := by decide +kernel
theorem dX3_node_15 : decode cX3_node 15 = .ok (.iaload, 1) := by decide +kernel
theorem dX3_node_16 : decode cX3_node 16 = .ok (.iconst 1, 1) := by decide +kernel
theorem dX3_node_17 : decode cX3_node 17 = .ok (.isub, 1) := by decide +kernel
theorem dX3_node_18 : decode cX3_node 18 = .ok (.invokestatic 81, 3) := by decide +kernel
theorem dX3_node_21 : decode cX3_node 21 = .ok (.ifCond .ne 6, 3) := by decide +kernel
theorem dX3_node_24 : decode cX3_node 24 = .ok (.bipush (-101), 2) := by decide +kernel
theorem dX3_node_26 : decode cX3_node 26 = .ok (.ireturn, 1) := by decide +kernel
theorem dX3_node_27 : decode cX3_node 27 = .ok (.iload_n 3, 1) := by decide +kernel
theorem dX3_node_28 : decode cX3_node 28 = .ok (.iconst 0, 1) := by decide +kernel
theorem dX3_node_29 : decode cX3_node 29 = .ok (.iconst 4, 1) := by decide +kernel
theorem dX3_node_30 : decode cX3_node 30 = .ok (.invokestatic 81, 3) := by decide +kernel
theorem dX3_node_33 : decode cX3_node 33 = .ok (.ifCond .eq 13, 3) := by decide +kernel
theorem dX3_node_36 : decode cX3_node 36 = .ok (.aload_n 0, 1) := by decide +kernel
theorem dX3_node_37 : decode cX3_node 37 = .ok (.iload_n 1, 1) := by decide +kernel
theorem dX3_node_38 : decode cX3_node 38 = .ok (.iload_n 2, 1) := by decide +kernel
theorem dX3_node_39 : decode cX3_node 39 = .ok (.iload_n 3, 1) := by decide +kernel
theorem dX3_node_40 : decode cX3_node 40 = .ok (.invokevirtual 258, 3) := by decide +kernel
theorem dX3_node_43 : decode cX3_node 43 = .ok (.goto 5, 3) := by decide +kernel
theorem dX3_node_46 : decode cX3_node 46 = .ok (.bipush (-102), 2) := by decide +kernel
theorem dX3_node_48 : decode cX3_node 48 = .ok (.ireturn, 1) := by decide +kernel
theorem dX3_levelAt_0 : decode cX3_levelAt 0 = .ok (.iconst (-1), 1) := by decide +kernel
theorem dX3_levelAt_1 : decode cX3_levelAt 1 = .ok (.istore_n 3, 1) := by decide +kernel
theorem dX3_levelAt_2 : decode cX3_levelAt 2 = .ok (.iconst 0, 1) := by decide +kernel
theorem dX3_levelAt_3 : decode cX3_levelAt 3 = .ok (.istore 4, 2) := by decide +kernel
theorem dX3_levelAt_5 : decode cX3_levelAt 5 = .ok (.iload 4, 2) := by decide +kernel
theorem dX3_levelAt_7 : decode cX3_levelAt 7 = .ok (.aload_n 0, 1) := by decide +kernel
theorem dX3_levelAt_8 : decode cX3_levelAt 8 = .ok (.getfield 32, 3) := by decide +kernel
theorem dX3_levelAt_11 : decode cX3_levelAt 11 = .ok (.iload_n 1, 1) := by decide +kernel
theorem dX3_levelAt_12 : decode cX3_levelAt 12 = .ok (.iaload, 1) := by decide +kernel
theorem dX3_levelAt_13 : decode cX3_levelAt 13 = .ok (.if_icmp .ge 84, 3) := by decide +kernel
theorem dX3_levelAt_16 : decode cX3_levelAt 16 = .ok (.bipush 96, 2) := by decide +kernel
theorem dX3_levelAt_18 : decode cX3_levelAt 18 = .ok (.iload_n 1, 1) := by decide +kernel
theorem dX3_levelAt_19 : decode cX3_levelAt 19 = .ok (.imul, 1) := by decide +kernel
theorem dX3_levelAt_20 : decode cX3_levelAt 20 = .ok (.iload 4, 2) := by decide +kernel
theorem dX3_levelAt_22 : decode cX3_levelAt 22 = .ok (.iadd, 1) := by decide +kernel
theorem dX3_levelAt_23 : decode cX3_levelAt 23 = .ok (.istore 5, 2) := by decide +kernel
theorem dX3_levelAt_25 : decode cX3_levelAt 25 = .ok (.aload_n 0, 1) := by decide +kernel
theorem dX3_levelAt_26 : decode cX3_levelAt 26 = .ok (.getfield 35, 3) := by decide +kernel
theorem dX3_levelAt_29 : decode cX3_levelAt 29 = .ok (.iload 5, 2) := by decide +kernel
theorem dX3_levelAt_31 : decode cX3_levelAt 31 = .ok (.iaload, 1) := by decide +kernel
theorem dX3_levelAt_32 : decode cX3_levelAt 32 = .ok (.iconst 2, 1) := by decide +kernel
theorem dX3_levelAt_33 : decode cX3_levelAt 33 = .ok (.if_icmp .eq 38, 3) := by decide +kernel
theorem dX3_levelAt_36 : decode cX3_levelAt 36 = .ok (.iload_n 2, 1) := by decide +kernel
theorem dX3_levelAt_37 : decode cX3_levelAt 37 = .ok (.aload_n 0, 1) := by decide +kernel
theorem dX3_levelAt_38 : decode cX3_levelAt 38 = .ok (.getfield 41, 3) := by decide +kernel
theorem dX3_levelAt_41 : decode cX3_levelAt 41 = .ok (.iload 5, 2) := by decide +kernel
theorem dX3_levelAt_43 : decode cX3_levelAt 43 = .ok (.iaload, 1) := by decide +kernel
theorem dX3_levelAt_44 : decode cX3_levelAt 44 = .ok (.aload_n 0, 1) := by decide +kernel
theorem dX3_levelAt_45 : decode cX3_levelAt 45 = .ok (.getfield 41, 3) := by decide +kernel
theorem dX3_levelAt_48 : decode cX3_levelAt 48 = .ok (.iload 5, 2) := by decide +kernel
theorem dX3_levelAt_50 : decode cX3_levelAt 50 = .ok (.iaload, 1) := by decide +kernel
theorem dX3_levelAt_51 : decode cX3_levelAt 51 = .ok (.aload_n 0, 1) := by decide +kernel
theorem dX3_levelAt_52 : decode cX3_levelAt 52 = .ok (.getfield 44, 3) := by decide +kernel
theorem dX3_levelAt_55 : decode cX3_levelAt 55 = .ok (.iload 5, 2) := by decide +kernel
theorem dX3_levelAt_57 : decode cX3_levelAt 57 = .ok (.iaload, 1) := by decide +kernel
theorem dX3_levelAt_58 : decode cX3_levelAt 58 = .ok (.iadd, 1) := by decide +kernel
theorem dX3_levelAt_59 : decode cX3_levelAt 59 = .ok (.iconst 1, 1) := by decide +kernel
theorem dX3_levelAt_60 : decode cX3_levelAt 60 = .ok (.isub, 1) := by decide +kernel
theorem dX3_levelAt_61 : decode cX3_levelAt 61 = .ok (.invokestatic 81, 3) := by decide +kernel
theorem dX3_levelAt_64 : decode cX3_levelAt 64 = .ok (.ifCond .eq 7, 3) := by decide +kernel
theorem dX3_levelAt_67 : decode cX3_levelAt 67 = .ok (.iconst 1, 1) := by decide +kernel
theorem dX3_levelAt_68 : decode cX3_levelAt 68 = .ok (.goto 4, 3) := by decide +kernel
theorem dX3_levelAt_71 : decode cX3_levelAt 71 = .ok (.iconst 0, 1) := by decide +kernel
theorem dX3_levelAt_72 : decode cX3_levelAt 72 = .ok (.istore 6, 2) := by decide +kernel
theorem dX3_levelAt_74 : decode cX3_levelAt 74 = .ok (.iload 6, 2) := by decide +kernel
theorem dX3_levelAt_76 : decode cX3_levelAt 76 = .ok (.ifCond .eq 13, 3) := by decide +kernel
theorem dX3_levelAt_79 : decode cX3_levelAt 79 = .ok (.aload_n 0, 1) := by decide +kernel
theorem dX3_levelAt_80 : decode cX3_levelAt 80 = .ok (.getfield 38, 3) := by decide +kernel
theorem dX3_levelAt_83 : decode cX3_levelAt 83 = .ok (.iload 5, 2) := by decide +kernel
theorem dX3_levelAt_85 : decode cX3_levelAt 85 = .ok (.iaload, 1) := by decide +kernel
theorem dX3_levelAt_86 : decode cX3_levelAt 86 = .ok (.goto 4, 3) := by decide +kernel
theorem dX3_levelAt_89 : decode cX3_levelAt 89 = .ok (.iload_n 3, 1) := by decide +kernel
theorem dX3_levelAt_90 : decode cX3_levelAt 90 = .ok (.istore_n 3, 1) := by decide +kernel
theorem dX3_levelAt_91 : decode cX3_levelAt 91 = .ok (.iinc 4 1, 3) := by decide +kernel
theorem dX3_levelAt_94 : decode cX3_levelAt 94 = .ok (.goto (-89), 3) := by decide +kernel
theorem dX3_levelAt_97 : decode cX3_levelAt 97 = .ok (.iload_n 3, 1) := by decide +kernel
theorem dX3_levelAt_98 : decode cX3_levelAt 98 = .ok (.ireturn, 1) := by decide +kernel
theorem dX3_entryNow_0 : decode cX3_entryNow 0 = .ok (.iload_n 3, 1) := by decide +kernel
theorem dX3_entryNow_1 : decode cX3_entryNow 1 = .ok (.ifCond .ne 12, 3) := by decide +kernel
theorem dX3_entryNow_4 : decode cX3_entryNow 4 = .ok (.aload_n 0, 1) := by decide +kernel
theorem dX3_entryNow_5 : decode cX3_entryNow 5 = .ok (.iload_n 1, 1) := by decide +kernel
theorem dX3_entryNow_6 : decode cX3_entryNow 6 = .ok (.iload_n 2, 1) := by decide +kernel
theorem dX3_entryNow_7 : decode cX3_entryNow 7 = .ok (.invokevirtual 98, 3) := by decide +kernel
theorem dX3_entryNow_10 : decode cX3_entryNow 10 = .ok (.goto 23, 3) := by decide +kernel
theorem dX3_entryNow_13 : decode cX3_entryNow 13 = .ok (.iload_n 3, 1) := by decide +kernel
theorem dX3_entryNow_14 : decode cX3_entryNow 14 = .ok (.iconst 1, 1) := by decide +kernel
theorem dX3_entryNow_15 : decode cX3_entryNow 15 = .ok (.if_icmp .ne 12, 3) := by decide +kernel
theorem dX3_entryNow_18 : decode cX3_entryNow 18 = .ok (.aload_n 0, 1) := by decide +kernel
theorem dX3_entryNow_19 : decode cX3_entryNow 19 = .ok (.iload_n 1, 1) := by decide +kernel
theorem dX3_entryNow_20 : decode cX3_entryNow 20 = .ok (.iload_n 2, 1) := by decide +kernel
theorem dX3_entryNow_21 : decode cX3_entryNow 21 = .ok (.invokevirtual 101, 3) := by decide +kernel
theorem dX3_entryNow_24 : decode cX3_entryNow 24 = .ok (.goto 9, 3) := by decide +kernel
theorem dX3_entryNow_27 : decode cX3_entryNow 27 = .ok (.aload_n 0, 1) := by decide +kernel
theorem dX3_entryNow_28 : decode cX3_entryNow 28 = .ok (.iload_n 1, 1) := by decide +kernel
theorem dX3_entryNow_29 : decode cX3_entryNow 29 = .ok (.iload_n 2, 1) := by decide +kernel
theorem dX3_entryNow_30 : decode cX3_entryNow 30 = .ok (.invokevirtual 261, 3) := by decide +kernel
theorem dX3_entryNow_33 : decode cX3_entryNow 33 = .ok (.ireturn, 1) := by decide +kernel
theorem dX3_entry_0 : decode cX3_entry 0 = .ok (.aload_n 0, 1) := by decide +kernel
theorem dX3_entry_1 : decode cX3_entry 1 = .ok (.iload_n 1, 1) := by decide +kernel
theorem dX3_entry_2 : decode cX3_entry 2 = .ok (.invokevirtual 160, 3) := by decide +kernel
theorem dX3_entry_5 : decode cX3_entry 5 = .ok (.ifCond .eq 19, 3) := by decide +kernel
theorem dX3_entry_8 : decode cX3_entry 8 = .ok (.iload_n 2, 1) := by decide +kernel
theorem dX3_entry_9 : decode cX3_entry 9 = .ok (.iconst 0, 1) := by decide +kernel
theorem dX3_entry_10 : decode cX3_entry 10 = .ok (.aload_n 0, 1) := by decide +kernel
theorem dX3_entry_11 : decode cX3_entry 11 = .ok (.getfield 23, 3) := by decide +kernel
theorem dX3_entry_14 : decode cX3_entry 14 = .ok (.iload_n 1, 1) := by decide +kernel
theorem dX3_entry_15 : decode cX3_entry 15 = .ok (.iaload, 1) := by decide +kernel
theorem dX3_entry_16 : decode cX3_entry 16 = .ok (.iconst 1, 1) := by decide +kernel
theorem dX3_entry_17 : decode cX3_entry 17 = .ok (.isub, 1) := by decide +kernel
theorem dX3_entry_18 : decode cX3_entry 18 = .ok (.invokestatic 81, 3) := by decide +kernel
theorem dX3_entry_21 : decode cX3_entry 21 = .ok (.ifCond .ne 6, 3) := by decide +kernel
theorem dX3_entry_24 : decode cX3_entry 24 = .ok (.bipush (-101), 2) := by decide +kernel
theorem dX3_entry_26 : decode cX3_entry 26 = .ok (.ireturn, 1) := by decide +kernel
theorem dX3_entry_27 : decode cX3_entry 27 = .ok (.iload_n 3, 1) := by decide +kernel
theorem dX3_entry_28 : decode cX3_entry 28 = .ok (.iconst 0, 1) := by decide +kernel
theorem dX3_entry_29 : decode cX3_entry 29 = .ok (.iconst 2, 1) := by decide +kernel
theorem dX3_entry_30 : decode cX3_entry 30 = .ok (.invokestatic 81, 3) := by decide +kernel
theorem dX3_entry_33 : decode cX3_entry 33 = .ok (.ifCond .eq 13, 3) := by decide +kernel
theorem dX3_entry_36 : decode cX3_entry 36 = .ok (.aload_n 0, 1) := by decide +kernel
theorem dX3_entry_37 : decode cX3_entry 37 = .ok (.iload_n 1, 1) := by decide +kernel
theorem dX3_entry_38 : decode cX3_entry 38 = .ok (.iload_n 2, 1) := by decide +kernel
theorem dX3_entry_39 : decode cX3_entry 39 = .ok (.iload_n 3, 1) := by decide +kernel
theorem dX3_entry_40 : decode cX3_entry 40 = .ok (.invokevirtual 264, 3) := by decide +kernel
theorem dX3_entry_43 : decode cX3_entry 43 = .ok (.goto 5, 3) := by decide +kernel
theorem dX3_entry_46 : decode cX3_entry 46 = .ok (.bipush (-102), 2) := by decide +kernel
theorem dX3_entry_48 : decode cX3_entry 48 = .ok (.ireturn, 1) := by decide +kernel
theorem dX3_hasNode_0 : decode cX3_hasNode 0 = .ok (.iconst 0, 1) := by decide +kernel
theorem dX3_hasNode_1 : decode cX3_hasNode 1 = .ok (.istore_n 3, 1) := by decide +kernel
theorem dX3_hasNode_2 : decode cX3_hasNode 2 = .ok (.iconst 0, 1) := by decide +kernel
theorem dX3_hasNode_3 : decode cX3_hasNode 3 = .ok (.istore 4, 2) := by decide +kernel
theorem dX3_hasNode_5 : decode cX3_hasNode 5 = .ok (.iload 4, 2) := by decide +kernel
theorem dX3_hasNode_7 : decode cX3_hasNode 7 = .ok (.aload_n 0, 1) := by decide +kernel
theorem dX3_hasNode_8 : decode cX3_hasNode 8 = .ok (.getfield 32, 3) := by decide +kernel
theorem dX3_hasNode_11 : decode cX3_hasNode 11 = .ok (.iload_n 1, 1) := by decide +kernel
theorem dX3_hasNode_12 : decode cX3_hasNode 12 = .ok (.iaload, 1) := by decide +kernel
theorem dX3_hasNode_13 : decode cX3_hasNode 13 = .ok (.if_icmp .ge 35, 3) := by decide +kernel
theorem dX3_hasNode_16 : decode cX3_hasNode 16 = .ok (.iload_n 3, 1) := by decide +kernel
theorem dX3_hasNode_17 : decode cX3_hasNode 17 = .ok (.ifCond .ne 19, 3) := by decide +kernel
theorem dX3_hasNode_20 : decode cX3_hasNode 20 = .ok (.aload_n 0, 1) := by decide +kernel
theorem dX3_hasNode_21 : decode cX3_hasNode 21 = .ok (.getfield 47, 3) := by decide +kernel
theorem dX3_hasNode_24 : decode cX3_hasNode 24 = .ok (.bipush 96, 2) := by decide +kernel
theorem dX3_hasNode_26 : decode cX3_hasNode 26 = .ok (.iload_n 1, 1) := by decide +kernel
theorem dX3_hasNode_27 : decode cX3_hasNode 27 = .ok (.imul, 1) := by decide +kernel
theorem dX3_hasNode_28 : decode cX3_hasNode 28 = .ok (.iload 4, 2) := by decide +kernel
theorem dX3_hasNode_30 : decode cX3_hasNode 30 = .ok (.iadd, 1) := by decide +kernel
theorem dX3_hasNode_31 : decode cX3_hasNode 31 = .ok (.iaload, 1) := by decide +kernel
theorem dX3_hasNode_32 : decode cX3_hasNode 32 = .ok (.iload_n 2, 1) := by decide +kernel
theorem dX3_hasNode_33 : decode cX3_hasNode 33 = .ok (.if_icmp .ne 7, 3) := by decide +kernel
theorem dX3_hasNode_36 : decode cX3_hasNode 36 = .ok (.iconst 1, 1) := by decide +kernel
theorem dX3_hasNode_37 : decode cX3_hasNode 37 = .ok (.goto 4, 3) := by decide +kernel
theorem dX3_hasNode_40 : decode cX3_hasNode 40 = .ok (.iconst 0, 1) := by decide +kernel
theorem dX3_hasNode_41 : decode cX3_hasNode 41 = .ok (.istore_n 3, 1) := by decide +kernel
theorem dX3_hasNode_42 : decode cX3_hasNode 42 = .ok (.iinc 4 1, 3) := by decide +kernel
theorem dX3_hasNode_45 : decode cX3_hasNode 45 = .ok (.goto (-40), 3) := by decide +kernel
theorem dX3_hasNode_48 : decode cX3_hasNode 48 = .ok (.iload_n 3, 1) := by decide +kernel
theorem dX3_hasNode_49 : decode cX3_hasNode 49 = .ok (.ireturn, 1) := by decide +kernel
theorem dX3_sharedNow_0 : decode cX3_sharedNow 0 = .ok (.iconst 0, 1) := by decide +kernel
theorem dX3_sharedNow_1 : decode cX3_sharedNow 1 = .ok (.istore_n 3, 1) := by decide +kernel
theorem dX3_sharedNow_2 : decode cX3_sharedNow 2 = .ok (.iconst 0, 1) := by decide +kernel
theorem dX3_sharedNow_3 : decode cX3_sharedNow 3 = .ok (.istore 4, 2) := by decide +kernel
theorem dX3_sharedNow_5 : decode cX3_sharedNow 5 = .ok (.iload 4, 2) := by decide +kernel
theorem dX3_sharedNow_7 : decode cX3_sharedNow 7 = .ok (.aload_n 0, 1) := by decide +kernel
theorem dX3_sharedNow_8 : decode cX3_sharedNow 8 = .ok (.getfield 32, 3) := by decide +kernel
theorem dX3_sharedNow_11 : decode cX3_sharedNow 11 = .ok (.iload_n 1, 1) := by decide +kernel
theorem dX3_sharedNow_12 : decode cX3_sharedNow 12 = .ok (.iaload, 1) := by decide +kernel
theorem dX3_sharedNow_13 : decode cX3_sharedNow 13 = .ok (.if_icmp .ge 37, 3) := by decide +kernel
theorem dX3_sharedNow_16 : decode cX3_sharedNow 16 = .ok (.iload_n 3, 1) := by decide +kernel
theorem dX3_sharedNow_17 : decode cX3_sharedNow 17 = .ok (.aload_n 0, 1) := by decide +kernel
theorem dX3_sharedNow_18 : decode cX3_sharedNow 18 = .ok (.iload_n 2, 1) := by decide +kernel
theorem dX3_sharedNow_19 : decode cX3_sharedNow 19 = .ok (.aload_n 0, 1) := by decide +kernel
theorem dX3_sharedNow_20 : decode cX3_sharedNow 20 = .ok (.getfield 47, 3) := by decide +kernel
theorem dX3_sharedNow_23 : decode cX3_sharedNow 23 = .ok (.bipush 96, 2) := by decide +kernel
theorem dX3_sharedNow_25 : decode cX3_sharedNow 25 = .ok (.iload_n 1, 1) := by decide +kernel
theorem dX3_sharedNow_26 : decode cX3_sharedNow 26 = .ok (.imul, 1) := by decide +kernel
theorem dX3_sharedNow_27 : decode cX3_sharedNow 27 = .ok (.iload 4, 2) := by decide +kernel
theorem dX3_sharedNow_29 : decode cX3_sharedNow 29 = .ok (.iadd, 1) := by decide +kernel
theorem dX3_sharedNow_30 : decode cX3_sharedNow 30 = .ok (.iaload, 1) := by decide +kernel
theorem dX3_sharedNow_31 : decode cX3_sharedNow 31 = .ok (.invokevirtual 267, 3) := by decide +kernel
theorem dX3_sharedNow_34 : decode cX3_sharedNow 34 = .ok (.ifCond .eq 7, 3) := by decide +kernel
theorem dX3_sharedNow_37 : decode cX3_sharedNow 37 = .ok (.iconst 1, 1) := by decide +kernel
theorem dX3_sharedNow_38 : decode cX3_sharedNow 38 = .ok (.goto 4, 3) := by decide +kernel
theorem dX3_sharedNow_41 : decode cX3_sharedNow 41 = .ok (.iconst 0, 1) := by decide +kernel
theorem dX3_sharedNow_42 : decode cX3_sharedNow 42 = .ok (.iadd, 1) := by decide +kernel
theorem dX3_sharedNow_43 : decode cX3_sharedNow 43 = .ok (.istore_n 3, 1) := by decide +kernel
theorem dX3_sharedNow_44 : decode cX3_sharedNow 44 = .ok (.iinc 4 1, 3) := by decide +kernel
theorem dX3_sharedNow_47 : decode cX3_sharedNow 47 = .ok (.goto (-42), 3) := by decide +kernel
theorem dX3_sharedNow_50 : decode cX3_sharedNow 50 = .ok (.iload_n 3, 1) := by decide +kernel
theorem dX3_sharedNow_51 : decode cX3_sharedNow 51 = .ok (.ireturn, 1) := by decide +kernel
theorem dX3_shared_0 : decode cX3_shared 0 = .ok (.aload_n 0, 1) := by decide +kernel
theorem dX3_shared_1 : decode cX3_shared 1 = .ok (.iload_n 1, 1) := by decide +kernel
theorem dX3_shared_2 : decode cX3_shared 2 = .ok (.invokevirtual 160, 3) := by decide +kernel
theorem dX3_shared_5 : decode cX3_shared 5 = .ok (.ifCond .eq 20, 3) := by decide +kernel
theorem dX3_shared_8 : decode cX3_shared 8 = .ok (.aload_n 0, 1) := by decide +kernel
theorem dX3_shared_9 : decode cX3_shared 9 = .ok (.iload_n 2, 1) := by decide +kernel
theorem dX3_shared_10 : decode cX3_shared 10 = .ok (.invokevirtual 160, 3) := by decide +kernel
theorem dX3_shared_13 : decode cX3_shared 13 = .ok (.ifCond .eq 12, 3) := by decide +kernel
theorem dX3_shared_16 : decode cX3_shared 16 = .ok (.aload_n 0, 1) := by decide +kernel
theorem dX3_shared_17 : decode cX3_shared 17 = .ok (.iload_n 1, 1) := by decide +kernel
theorem dX3_shared_18 : decode cX3_shared 18 = .ok (.iload_n 2, 1) := by decide +kernel
theorem dX3_shared_19 : decode cX3_shared 19 = .ok (.invokevirtual 270, 3) := by decide +kernel
theorem dX3_shared_22 : decode cX3_shared 22 = .ok (.goto 5, 3) := by decide +kernel
theorem dX3_shared_25 : decode cX3_shared 25 = .ok (.bipush (-101), 2) := by decide +kernel
theorem dX3_shared_27 : decode cX3_shared 27 = .ok (.ireturn, 1) := by decide +kernel
theorem dX3_alike_0 : decode cX3_alike 0 = .ok (.iconst 0, 1) := by decide +kernel
theorem dX3_alike_1 : decode cX3_alike 1 = .ok (.istore_n 3, 1) := by decide +kernel
theorem dX3_alike_2 : decode cX3_alike 2 = .ok (.iconst 0, 1) := by decide +kernel
theorem dX3_alike_3 : decode cX3_alike 3 = .ok (.istore 4, 2) := by decide +kernel
theorem dX3_alike_5 : decode cX3_alike 5 = .ok (.iload 4, 2) := by decide +kernel
theorem dX3_alike_7 : decode cX3_alike 7 = .ok (.aload_n 0, 1) := by decide +kernel
theorem dX3_alike_8 : decode cX3_alike 8 = .ok (.getfield 23, 3) := by decide +kernel
theorem dX3_alike_11 : decode cX3_alike 11 = .ok (.iload_n 1, 1) := by decide +kernel
theorem dX3_alike_12 : decode cX3_alike 12 = .ok (.iaload, 1) := by decide +kernel
theorem dX3_alike_13 : decode cX3_alike 13 = .ok (.if_icmp .ge 39, 3) := by decide +kernel
theorem dX3_alike_16 : decode cX3_alike 16 = .ok (.iload_n 3, 1) := by decide +kernel
theorem dX3_alike_17 : decode cX3_alike 17 = .ok (.aload_n 0, 1) := by decide +kernel
theorem dX3_alike_18 : decode cX3_alike 18 = .ok (.iload_n 2, 1) := by decide +kernel
theorem dX3_alike_19 : decode cX3_alike 19 = .ok (.aload_n 0, 1) := by decide +kernel
theorem dX3_alike_20 : decode cX3_alike 20 = .ok (.iload_n 1, 1) := by decide +kernel
theorem dX3_alike_21 : decode cX3_alike 21 = .ok (.iload 4, 2) := by decide +kernel
theorem dX3_alike_23 : decode cX3_alike 23 = .ok (.invokevirtual 98, 3) := by decide +kernel
theorem dX3_alike_26 : decode cX3_alike 26 = .ok (.invokevirtual 243, 3) := by decide +kernel
theorem dX3_alike_29 : decode cX3_alike 29 = .ok (.aload_n 0, 1) := by decide +kernel
theorem dX3_alike_30 : decode cX3_alike 30 = .ok (.iload_n 1, 1) := by decide +kernel
theorem dX3_alike_31 : decode cX3_alike 31 = .ok (.iload 4, 2) := by decide +kernel
theorem dX3_alike_33 : decode cX3_alike 33 = .ok (.invokevirtual 101, 3) := by decide +kernel
theorem dX3_alike_36 : decode cX3_alike 36 = .ok (.if_icmp .ne 7, 3) := by decide +kernel
theorem dX3_alike_39 : decode cX3_alike 39 = .ok (.iconst 1, 1) := by decide +kernel
theorem dX3_alike_40 : decode cX3_alike 40 = .ok (.goto 4, 3) := by decide +kernel
theorem dX3_alike_43 : decode cX3_alike 43 = .ok (.iconst 0, 1) := by decide +kernel
theorem dX3_alike_44 : decode cX3_alike 44 = .ok (.iadd, 1) := by decide +kernel
theorem dX3_alike_45 : decode cX3_alike 45 = .ok (.istore_n 3, 1) := by decide +kernel
theorem dX3_alike_46 : decode cX3_alike 46 = .ok (.iinc 4 1, 3) := by decide +kernel
theorem dX3_alike_49 : decode cX3_alike 49 = .ok (.goto (-44), 3) := by decide +kernel
theorem dX3_alike_52 : decode cX3_alike 52 = .ok (.iload_n 3, 1) := by decide +kernel
theorem dX3_alike_53 : decode cX3_alike 53 = .ok (.ireturn, 1) := by decide +kernel
theorem dX3_twoNow_0 : decode cX3_twoNow 0 = .ok (.aload_n 0, 1) := by decide +kernel
theorem dX3_twoNow_1 : decode cX3_twoNow 1 = .ok (.iload_n 1, 1) := by decide +kernel
theorem dX3_twoNow_2 : decode cX3_twoNow 2 = .ok (.iload_n 2, 1) := by decide +kernel
theorem dX3_twoNow_3 : decode cX3_twoNow 3 = .ok (.invokevirtual 176, 3) := by decide +kernel
theorem dX3_twoNow_6 : decode cX3_twoNow 6 = .ok (.istore 4, 2) := by decide +kernel
theorem dX3_twoNow_8 : decode cX3_twoNow 8 = .ok (.aload_n 0, 1) := by decide +kernel
theorem dX3_twoNow_9 : decode cX3_twoNow 9 = .ok (.iload_n 1, 1) := by decide +kernel
theorem dX3_twoNow_10 : decode cX3_twoNow 10 = .ok (.iload_n 2, 1) := by decide +kernel
theorem dX3_twoNow_11 : decode cX3_twoNow 11 = .ok (.invokevirtual 273, 3) := by decide +kernel
theorem dX3_twoNow_14 : decode cX3_twoNow 14 = .ok (.istore 5, 2) := by decide +kernel
theorem dX3_twoNow_16 : decode cX3_twoNow 16 = .ok (.iload_n 3, 1) := by decide +kernel
theorem dX3_twoNow_17 : decode cX3_twoNow 17 = .ok (.tableswitch 78 0 3 #[31, 59, 62, 68], 31) := by decide +kernel
theorem dX3_twoNow_48 : decode cX3_twoNow 48 = .ok (.iload 5, 2) := by decide +kernel
theorem dX3_twoNow_50 : decode cX3_twoNow 50 = .ok (.aload_n 0, 1) := by decide +kernel
theorem dX3_twoNow_51 : decode cX3_twoNow 51 = .ok (.getfield 23, 3) := by decide +kernel
theorem dX3_twoNow_54 : decode cX3_twoNow 54 = .ok (.iload_n 1, 1) := by decide +kernel
theorem dX3_twoNow_55 : decode cX3_twoNow 55 = .ok (.iaload, 1) := by decide +kernel
theorem dX3_twoNow_56 : decode cX3_twoNow 56 = .ok (.if_icmp .ne 18, 3) := by decide +kernel
theorem dX3_twoNow_59 : decode cX3_twoNow 59 = .ok (.iload 5, 2) := by decide +kernel
theorem dX3_twoNow_61 : decode cX3_twoNow 61 = .ok (.aload_n 0, 1) := by decide +kernel
theorem dX3_twoNow_62 : decode cX3_twoNow 62 = .ok (.getfield 23, 3) := by decide +kernel
theorem dX3_twoNow_65 : decode cX3_twoNow 65 = .ok (.iload_n 2, 1) := by decide +kernel
theorem dX3_twoNow_66 : decode cX3_twoNow 66 = .ok (.iaload, 1) := by decide +kernel
theorem dX3_twoNow_67 : decode cX3_twoNow 67 = .ok (.if_icmp .ne 7, 3) := by decide +kernel
theorem dX3_twoNow_70 : decode cX3_twoNow 70 = .ok (.iconst 1, 1) := by decide +kernel
theorem dX3_twoNow_71 : decode cX3_twoNow 71 = .ok (.goto 4, 3) := by decide +kernel
theorem dX3_twoNow_74 : decode cX3_twoNow 74 = .ok (.iconst 0, 1) := by decide +kernel
theorem dX3_twoNow_75 : decode cX3_twoNow 75 = .ok (.ireturn, 1) := by decide +kernel
theorem dX3_twoNow_76 : decode cX3_twoNow 76 = .ok (.iload 5, 2) := by decide +kernel
theorem dX3_twoNow_78 : decode cX3_twoNow 78 = .ok (.ireturn, 1) := by decide +kernel
theorem dX3_twoNow_79 : decode cX3_twoNow 79 = .ok (.iload 4, 2) := by decide +kernel
theorem dX3_twoNow_81 : decode cX3_twoNow 81 = .ok (.iload 5, 2) := by decide +kernel
theorem dX3_twoNow_83 : decode cX3_twoNow 83 = .ok (.isub, 1) := by decide +kernel
theorem dX3_twoNow_84 : decode cX3_twoNow 84 = .ok (.ireturn, 1) := by decide +kernel
theorem dX3_twoNow_85 : decode cX3_twoNow 85 = .ok (.aload_n 0, 1) := by decide +kernel
theorem dX3_twoNow_86 : decode cX3_twoNow 86 = .ok (.getfield 23, 3) := by decide +kernel
theorem dX3_twoNow_89 : decode cX3_twoNow 89 = .ok (.iload_n 1, 1) := by decide +kernel
theorem dX3_twoNow_90 : decode cX3_twoNow 90 = .ok (.iaload, 1) := by decide +kernel
theorem dX3_twoNow_91 : decode cX3_twoNow 91 = .ok (.iload 4, 2) := by decide +kernel
theorem dX3_twoNow_93 : decode cX3_twoNow 93 = .ok (.isub, 1) := by decide +kernel
theorem dX3_twoNow_94 : decode cX3_twoNow 94 = .ok (.ireturn, 1) := by decide +kernel
theorem dX3_twoNow_95 : decode cX3_twoNow 95 = .ok (.aload_n 0, 1) := by decide +kernel
theorem dX3_twoNow_96 : decode cX3_twoNow 96 = .ok (.getfield 23, 3) := by decide +kernel
theorem dX3_twoNow_99 : decode cX3_twoNow 99 = .ok (.iload_n 2, 1) := by decide +kernel
theorem dX3_twoNow_100 : decode cX3_twoNow 100 = .ok (.iaload, 1) := by decide +kernel
theorem dX3_twoNow_101 : decode cX3_twoNow 101 = .ok (.iload 4, 2) := by decide +kernel
theorem dX3_twoNow_103 : decode cX3_twoNow 103 = .ok (.isub, 1) := by decide +kernel
theorem dX3_twoNow_104 : decode cX3_twoNow 104 = .ok (.ireturn, 1) := by decide +kernel
theorem dX3_two_0 : decode cX3_two 0 = .ok (.aload_n 0, 1) := by decide +kernel
theorem dX3_two_1 : decode cX3_two 1 = .ok (.iload_n 1, 1) := by decide +kernel
theorem dX3_two_2 : decode cX3_two 2 = .ok (.invokevirtual 160, 3) := by decide +kernel
theorem dX3_two_5 : decode cX3_two 5 = .ok (.ifCond .eq 11, 3) := by decide +kernel
theorem dX3_two_8 : decode cX3_two 8 = .ok (.aload_n 0, 1) := by decide +kernel
theorem dX3_two_9 : decode cX3_two 9 = .ok (.iload_n 2, 1) := by decide +kernel
theorem dX3_two_10 : decode cX3_two 10 = .ok (.invokevirtual 160, 3) := by decide +kernel
theorem dX3_two_13 : decode cX3_two 13 = .ok (.ifCond .ne 6, 3) := by decide +kernel
theorem dX3_two_16 : decode cX3_two 16 = .ok (.bipush (-101), 2) := by decide +kernel
theorem dX3_two_18 : decode cX3_two 18 = .ok (.ireturn, 1) := by decide +kernel
theorem dX3_two_19 : decode cX3_two 19 = .ok (.iload_n 3, 1) := by decide +kernel
theorem dX3_two_20 : decode cX3_two 20 = .ok (.iconst 0, 1) := by decide +kernel
theorem dX3_two_21 : decode cX3_two 21 = .ok (.iconst 4, 1) := by decide +kernel
theorem dX3_two_22 : decode cX3_two 22 = .ok (.invokestatic 81, 3) := by decide +kernel
theorem dX3_two_25 : decode cX3_two 25 = .ok (.ifCond .eq 13, 3) := by decide +kernel
theorem dX3_two_28 : decode cX3_two 28 = .ok (.aload_n 0, 1) := by decide +kernel
theorem dX3_two_29 : decode cX3_two 29 = .ok (.iload_n 1, 1) := by decide +kernel
theorem dX3_two_30 : decode cX3_two 30 = .ok (.iload_n 2, 1) := by decide +kernel
theorem dX3_two_31 : decode cX3_two 31 = .ok (.iload_n 3, 1) := by decide +kernel
theorem dX3_two_32 : decode cX3_two 32 = .ok (.invokevirtual 276, 3) := by decide +kernel
theorem dX3_two_35 : decode cX3_two 35 = .ok (.goto 5, 3) := by decide +kernel
theorem dX3_two_38 : decode cX3_two 38 = .ok (.bipush (-102), 2) := by decide +kernel
theorem dX3_two_40 : decode cX3_two 40 = .ok (.ireturn, 1) := by decide +kernel
theorem dX3_allNodes_0 : decode cX3_allNodes 0 = .ok (.iconst 0, 1) := by decide +kernel
theorem dX3_allNodes_1 : decode cX3_allNodes 1 = .ok (.istore_n 1, 1) := by decide +kernel
theorem dX3_allNodes_2 : decode cX3_allNodes 2 = .ok (.iconst 0, 1) := by decide +kernel
theorem dX3_allNodes_3 : decode cX3_allNodes 3 = .ok (.istore_n 2, 1) := by decide +kernel
theorem dX3_allNodes_4 : decode cX3_allNodes 4 = .ok (.iload_n 2, 1) := by decide +kernel
theorem dX3_allNodes_5 : decode cX3_allNodes 5 = .ok (.aload_n 0, 1) := by decide +kernel
theorem dX3_allNodes_6 : decode cX3_allNodes 6 = .ok (.getfield 20, 3) := by decide +kernel
theorem dX3_allNodes_9 : decode cX3_allNodes 9 = .ok (.if_icmp .ge 90, 3) := by decide +kernel
theorem dX3_allNodes_12 : decode cX3_allNodes 12 = .ok (.iconst 0, 1) := by decide +kernel
theorem dX3_allNodes_13 : decode cX3_allNodes 13 = .ok (.istore_n 3, 1) := by decide +kernel
theorem dX3_allNodes_14 : decode cX3_allNodes 14 = .ok (.iload_n 3, 1) := by decide +kernel
theorem dX3_allNodes_15 : decode cX3_allNodes 15 = .ok (.aload_n 0, 1) := by decide +kernel
theorem dX3_allNodes_16 : decode cX3_allNodes 16 = .ok (.getfield 32, 3) := by decide +kernel
theorem dX3_allNodes_19 : decode cX3_allNodes 19 = .ok (.iload_n 2, 1) := by decide +kernel
theorem dX3_allNodes_20 : decode cX3_allNodes 20 = .ok (.iaload, 1) := by decide +kernel
theorem dX3_allNodes_21 : decode cX3_allNodes 21 = .ok (.if_icmp .ge 72, 3) := by decide +kernel
theorem dX3_allNodes_24 : decode cX3_allNodes 24 = .ok (.iconst 1, 1) := by decide +kernel
theorem dX3_allNodes_25 : decode cX3_allNodes 25 = .ok (.istore 4, 2) := by decide +kernel
theorem dX3_allNodes_27 : decode cX3_allNodes 27 = .ok (.iconst 0, 1) := by decide +kernel
theorem dX3_allNodes_28 : decode cX3_allNodes 28 = .ok (.istore 5, 2) := by decide +kernel
theorem dX3_allNodes_30 : decode cX3_allNodes 30 = .ok (.iload 5, 2) := by decide +kernel
theorem dX3_allNodes_32 : decode cX3_allNodes 32 = .ok (.iload_n 2, 1) := by decide +kernel
theorem dX3_allNodes_33 : decode cX3_allNodes 33 = .ok (.if_icmp .ge 41, 3) := by decide +kernel
theorem dX3_allNodes_36 : decode cX3_allNodes 36 = .ok (.iload 4, 2) := by decide +kernel
theorem dX3_allNodes_38 : decode cX3_allNodes 38 = .ok (.ifCond .eq 36, 3) := by decide +kernel
theorem dX3_allNodes_41 : decode cX3_allNodes 41 = .ok (.aload_n 0, 1) := by decide +kernel
theorem dX3_allNodes_42 : decode cX3_allNodes 42 = .ok (.iload 5, 2) := by decide +kernel
theorem dX3_allNodes_44 : decode cX3_allNodes 44 = .ok (.aload_n 0, 1) := by decide +kernel
theorem dX3_allNodes_45 : decode cX3_allNodes 45 = .ok (.getfield 47, 3) := by decide +kernel
theorem dX3_allNodes_48 : decode cX3_allNodes 48 = .ok (.bipush 96, 2) := by decide +kernel
theorem dX3_allNodes_50 : decode cX3_allNodes 50 = .ok (.iload_n 2, 1) := by decide +kernel
theorem dX3_allNodes_51 : decode cX3_allNodes 51 = .ok (.imul, 1) := by decide +kernel
theorem dX3_allNodes_52 : decode cX3_allNodes 52 = .ok (.iload_n 3, 1) := by decide +kernel
theorem dX3_allNodes_53 : decode cX3_allNodes 53 = .ok (.iadd, 1) := by decide +kernel
theorem dX3_allNodes_54 : decode cX3_allNodes 54 = .ok (.iaload, 1) := by decide +kernel
theorem dX3_allNodes_55 : decode cX3_allNodes 55 = .ok (.invokevirtual 267, 3) := by decide +kernel
theorem dX3_allNodes_58 : decode cX3_allNodes 58 = .ok (.ifCond .ne 7, 3) := by decide +kernel
theorem dX3_allNodes_61 : decode cX3_allNodes 61 = .ok (.iconst 1, 1) := by decide +kernel
theorem dX3_allNodes_62 : decode cX3_allNodes 62 = .ok (.goto 4, 3) := by decide +kernel
theorem dX3_allNodes_65 : decode cX3_allNodes 65 = .ok (.iconst 0, 1) := by decide +kernel
theorem dX3_allNodes_66 : decode cX3_allNodes 66 = .ok (.istore 4, 2) := by decide +kernel
theorem dX3_allNodes_68 : decode cX3_allNodes 68 = .ok (.iinc 5 1, 3) := by decide +kernel
theorem dX3_allNodes_71 : decode cX3_allNodes 71 = .ok (.goto (-41), 3) := by decide +kernel
theorem dX3_allNodes_74 : decode cX3_allNodes 74 = .ok (.iload_n 1, 1) := by decide +kernel
theorem dX3_allNodes_75 : decode cX3_allNodes 75 = .ok (.iload 4, 2) := by decide +kernel
theorem dX3_allNodes_77 : decode cX3_allNodes 77 = .ok (.ifCond .eq 7, 3) := by decide +kernel
theorem dX3_allNodes_80 : decode cX3_allNodes 80 = .ok (.iconst 1, 1) := by decide +kernel
theorem dX3_allNodes_81 : decode cX3_allNodes 81 = .ok (.goto 4, 3) := by decide +kernel
theorem dX3_allNodes_84 : decode cX3_allNodes 84 = .ok (.iconst 0, 1) := by decide +kernel
theorem dX3_allNodes_85 : decode cX3_allNodes 85 = .ok (.iadd, 1) := by decide +kernel
theorem dX3_allNodes_86 : decode cX3_allNodes 86 = .ok (.istore_n 1, 1) := by decide +kernel
theorem dX3_allNodes_87 : decode cX3_allNodes 87 = .ok (.iinc 3 1, 3) := by decide +kernel
theorem dX3_allNodes_90 : decode cX3_allNodes 90 = .ok (.goto (-76), 3) := by decide +kernel
theorem dX3_allNodes_93 : decode cX3_allNodes 93 = .ok (.iinc 2 1, 3) := by decide +kernel
theorem dX3_allNodes_96 : decode cX3_allNodes 96 = .ok (.goto (-92), 3) := by decide +kernel
theorem dX3_allNodes_99 : decode cX3_allNodes 99 = .ok (.iload_n 1, 1) := by decide +kernel
theorem dX3_allNodes_100 : decode cX3_allNodes 100 = .ok (.ireturn, 1) := by decide +kernel
theorem dX3_howMany_0 : decode cX3_howMany 0 = .ok (.iload_n 1, 1) := by decide +kernel
theorem dX3_howMany_1 : decode cX3_howMany 1 = .ok (.tableswitch 104 0 8 #[51, 56, 61, 66, 71, 76, 81, 94, 99], 51) := by decide +kernel
theorem dX3_howMany_52 : decode cX3_howMany 52 = .ok (.aload_n 0, 1) := by decide +kernel
theorem dX3_howMany_53 : decode cX3_howMany 53 = .ok (.getfield 20, 3) := by decide +kernel
theorem dX3_howMany_56 : decode cX3_howMany 56 = .ok (.ireturn, 1) := by decide +kernel
theorem dX3_howMany_57 : decode cX3_howMany 57 = .ok (.aload_n 0, 1) := by decide +kernel
theorem dX3_howMany_58 : decode cX3_howMany 58 = .ok (.getfield 136, 3) := by decide +kernel
theorem dX3_howMany_61 : decode cX3_howMany 61 = .ok (.ireturn, 1) := by decide +kernel
theorem dX3_howMany_62 : decode cX3_howMany 62 = .ok (.aload_n 0, 1) := by decide +kernel
theorem dX3_howMany_63 : decode cX3_howMany 63 = .ok (.invokevirtual 279, 3) := by decide +kernel
theorem dX3_howMany_66 : decode cX3_howMany 66 = .ok (.ireturn, 1) := by decide +kernel
theorem dX3_howMany_67 : decode cX3_howMany 67 = .ok (.aload_n 0, 1) := by decide +kernel
theorem dX3_howMany_68 : decode cX3_howMany 68 = .ok (.getfield 213, 3) := by decide +kernel
theorem dX3_howMany_71 : decode cX3_howMany 71 = .ok (.ireturn, 1) := by decide +kernel
theorem dX3_howMany_72 : decode cX3_howMany 72 = .ok (.aload_n 0, 1) := by decide +kernel
theorem dX3_howMany_73 : decode cX3_howMany 73 = .ok (.getfield 237, 3) := by decide +kernel
theorem dX3_howMany_76 : decode cX3_howMany 76 = .ok (.ireturn, 1) := by decide +kernel
theorem dX3_howMany_77 : decode cX3_howMany 77 = .ok (.aload_n 0, 1) := by decide +kernel
theorem dX3_howMany_78 : decode cX3_howMany 78 = .ok (.getfield 203, 3) := by decide +kernel
theorem dX3_howMany_81 : decode cX3_howMany 81 = .ok (.ireturn, 1) := by decide +kernel
theorem dX3_howMany_82 : decode cX3_howMany 82 = .ok (.aload_n 0, 1) := by decide +kernel
theorem dX3_howMany_83 : decode cX3_howMany 83 = .ok (.getfield 90, 3) := by decide +kernel
theorem dX3_howMany_86 : decode cX3_howMany 86 = .ok (.ifCond .eq 7, 3) := by decide +kernel
theorem dX3_howMany_89 : decode cX3_howMany 89 = .ok (.iconst 1, 1) := by decide +kernel
theorem dX3_howMany_90 : decode cX3_howMany 90 = .ok (.goto 4, 3) := by decide +kernel
theorem dX3_howMany_93 : decode cX3_howMany 93 = .ok (.iconst 0, 1) := by decide +kernel
theorem dX3_howMany_94 : decode cX3_howMany 94 = .ok (.ireturn, 1) := by decide +kernel
theorem dX3_howMany_95 : decode cX3_howMany 95 = .ok (.aload_n 0, 1) := by decide +kernel
theorem dX3_howMany_96 : decode cX3_howMany 96 = .ok (.getfield 13, 3) := by decide +kernel
theorem dX3_howMany_99 : decode cX3_howMany 99 = .ok (.ireturn, 1) := by decide +kernel
theorem dX3_howMany_100 : decode cX3_howMany 100 = .ok (.aload_n 0, 1) := by decide +kernel
theorem dX3_howMany_101 : decode cX3_howMany 101 = .ok (.getfield 17, 3) := by decide +kernel
theorem dX3_howMany_104 : decode cX3_howMany 104 = .ok (.ireturn, 1) := by decide +kernel
theorem dX3_howMany_105 : decode cX3_howMany 105 = .ok (.bipush (-102), 2) := by decide +kernel
theorem dX3_howMany_107 : decode cX3_howMany 107 = .ok (.ireturn, 1) := by decide +kernel
theorem dX3_count_0 : decode cX3_count 0 = .ok (.aload_n 0, 1) := by decide +kernel
theorem dX3_count_1 : decode cX3_count 1 = .ok (.iload_n 1, 1) := by decide +kernel
theorem dX3_count_2 : decode cX3_count 2 = .ok (.invokevirtual 282, 3) := by decide +kernel
theorem dX3_count_5 : decode cX3_count 5 = .ok (.ireturn, 1) := by decide +kernel
theorem dX3_mix_0 : decode cX3_mix 0 = .ok (.aload_n 0, 1) := by decide +kernel
theorem dX3_mix_1 : decode cX3_mix 1 = .ok (.ldc2_w 285, 3) := by decide +kernel
theorem dX3_mix_4 : decode cX3_mix 4 = .ok (.aload_n 0, 1) := by decide +kernel
theorem dX3_mix_5 : decode cX3_mix 5 = .ok (.getfield 287, 3) := by decide +kernel
theorem dX3_mix_8 : decode cX3_mix 8 = .ok (.lmul, 1) := by decide +kernel
theorem dX3_mix_9 : decode cX3_mix 9 = .ok (.lload_n 1, 1) := by decide +kernel
theorem dX3_mix_10 : decode cX3_mix 10 = .ok (.ladd, 1) := by decide +kernel
theorem dX3_mix_11 : decode cX3_mix 11 = .ok (.putfield 287, 3) := by decide +kernel
theorem dX3_mix_14 : decode cX3_mix 14 = .ok (.return_, 1) := by decide +kernel
theorem dX3_mixVersion_0 : decode cX3_mixVersion 0 = .ok (.iconst 0, 1) := by decide +kernel
theorem dX3_mixVersion_1 : decode cX3_mixVersion 1 = .ok (.istore_n 2, 1) := by decide +kernel
theorem dX3_mixVersion_2 : decode cX3_mixVersion 2 = .ok (.iload_n 2, 1) := by decide +kernel
theorem dX3_mixVersion_3 : decode cX3_mixVersion 3 = .ok (.bipush 6, 2) := by decide +kernel
theorem dX3_mixVersion_5 : decode cX3_mixVersion 5 = .ok (.if_icmp .ge 20, 3) := by decide +kernel
theorem dX3_mixVersion_8 : decode cX3_mixVersion 8 = .ok (.aload_n 0, 1) := by decide +kernel
theorem dX3_mixVersion_9 : decode cX3_mixVersion 9 = .ok (.aload_n 0, 1) := by decide +kernel
theorem dX3_mixVersion_10 : decode cX3_mixVersion 10 = .ok (.iload_n 1, 1) := by decide +kernel
theorem dX3_mixVersion_11 : decode cX3_mixVersion 11 = .ok (.iload_n 2, 1) := by decide +kernel
theorem dX3_mixVersion_12 : decode cX3_mixVersion 12 = .ok (.invokevirtual 252, 3) := by decide +kernel
theorem dX3_mixVersion_15 : decode cX3_mixVersion 15 = .ok (.i2l, 1) := by decide +kernel
theorem dX3_mixVersion_16 : decode cX3_mixVersion 16 = .ok (.invokevirtual 291, 3) := by decide +kernel
theorem dX3_mixVersion_19 : decode cX3_mixVersion 19 = .ok (.iinc 2 1, 3) := by decide +kernel
theorem dX3_mixVersion_22 : decode cX3_mixVersion 22 = .ok (.goto (-20), 3) := by decide +kernel
theorem dX3_mixVersion_25 : decode cX3_mixVersion 25 = .ok (.iconst 0, 1) := by decide +kernel
theorem dX3_mixVersion_26 : decode cX3_mixVersion 26 = .ok (.istore_n 2, 1) := by decide +kernel
theorem dX3_mixVersion_27 : decode cX3_mixVersion 27 = .ok (.iload_n 2, 1) := by decide +kernel
theorem dX3_mixVersion_28 : decode cX3_mixVersion 28 = .ok (.iconst 5, 1) := by decide +kernel
theorem dX3_mixVersion_29 : decode cX3_mixVersion 29 = .ok (.aload_n 0, 1) := by decide +kernel
theorem dX3_mixVersion_30 : decode cX3_mixVersion 30 = .ok (.getfield 32, 3) := by decide +kernel
theorem dX3_mixVersion_33 : decode cX3_mixVersion 33 = .ok (.iload_n 1, 1) := by decide +kernel
theorem dX3_mixVersion_34 : decode cX3_mixVersion 34 = .ok (.iaload, 1) := by decide +kernel
theorem dX3_mixVersion_35 : decode cX3_mixVersion 35 = .ok (.imul, 1) := by decide +kernel
theorem dX3_mixVersion_36 : decode cX3_mixVersion 36 = .ok (.if_icmp .ge 25, 3) := by decide +kernel
theorem dX3_mixVersion_39 : decode cX3_mixVersion 39 = .ok (.aload_n 0, 1) := by decide +kernel
theorem dX3_mixVersion_40 : decode cX3_mixVersion 40 = .ok (.aload_n 0, 1) := by decide +kernel
theorem dX3_mixVersion_41 : decode cX3_mixVersion 41 = .ok (.iload_n 1, 1) := by decide +kernel
theorem dX3_mixVersion_42 : decode cX3_mixVersion 42 = .ok (.iload_n 2, 1) := by decide +kernel
theorem dX3_mixVersion_43 : decode cX3_mixVersion 43 = .ok (.iconst 5, 1) := by decide +kernel
theorem dX3_mixVersion_44 : decode cX3_mixVersion 44 = .ok (.idiv, 1) := by decide +kernel
theorem dX3_mixVersion_45 : decode cX3_mixVersion 45 = .ok (.iload_n 2, 1) := by decide +kernel
theorem dX3_mixVersion_46 : decode cX3_mixVersion 46 = .ok (.iconst 5, 1) := by decide +kernel
theorem dX3_mixVersion_47 : decode cX3_mixVersion 47 = .ok (.irem, 1) := by decide +kernel
theorem dX3_mixVersion_48 : decode cX3_mixVersion 48 = .ok (.invokevirtual 258, 3) := by decide +kernel
theorem dX3_mixVersion_51 : decode cX3_mixVersion 51 = .ok (.i2l, 1) := by decide +kernel
theorem dX3_mixVersion_52 : decode cX3_mixVersion 52 = .ok (.invokevirtual 291, 3) := by decide +kernel
theorem dX3_mixVersion_55 : decode cX3_mixVersion 55 = .ok (.iinc 2 1, 3) := by decide +kernel
theorem dX3_mixVersion_58 : decode cX3_mixVersion 58 = .ok (.goto (-31), 3) := by decide +kernel
theorem dX3_mixVersion_61 : decode cX3_mixVersion 61 = .ok (.iconst 0, 1) := by decide +kernel
theorem dX3_mixVersion_62 : decode cX3_mixVersion 62 = .ok (.istore_n 2, 1) := by decide +kernel
theorem dX3_mixVersion_63 : decode cX3_mixVersion 63 = .ok (.iload_n 2, 1) := by decide +kernel
theorem dX3_mixVersion_64 : decode cX3_mixVersion 64 = .ok (.iconst 3, 1) := by decide +kernel
theorem dX3_mixVersion_65 : decode cX3_mixVersion 65 = .ok (.aload_n 0, 1) := by decide +kernel
theorem dX3_mixVersion_66 : decode cX3_mixVersion 66 = .ok (.getfield 23, 3) := by decide +kernel
theorem dX3_mixVersion_69 : decode cX3_mixVersion 69 = .ok (.iload_n 1, 1) := by decide +kernel
theorem dX3_mixVersion_70 : decode cX3_mixVersion 70 = .ok (.iaload, 1) := by decide +kernel
theorem dX3_mixVersion_71 : decode cX3_mixVersion 71 = .ok (.imul, 1) := by decide +kernel
theorem dX3_mixVersion_72 : decode cX3_mixVersion 72 = .ok (.if_icmp .ge 25, 3) := by decide +kernel
theorem dX3_mixVersion_75 : decode cX3_mixVersion 75 = .ok (.aload_n 0, 1) := by decide +kernel
theorem dX3_mixVersion_76 : decode cX3_mixVersion 76 = .ok (.aload_n 0, 1) := by decide +kernel
theorem dX3_mixVersion_77 : decode cX3_mixVersion 77 = .ok (.iload_n 1, 1) := by decide +kernel
theorem dX3_mixVersion_78 : decode cX3_mixVersion 78 = .ok (.iload_n 2, 1) := by decide +kernel
theorem dX3_mixVersion_79 : decode cX3_mixVersion 79 = .ok (.iconst 3, 1) := by decide +kernel
theorem dX3_mixVersion_80 : decode cX3_mixVersion 80 = .ok (.idiv, 1) := by decide +kernel
theorem dX3_mixVersion_81 : decode cX3_mixVersion 81 = .ok (.iload_n 2, 1) := by decide +kernel
theorem dX3_mixVersion_82 : decode cX3_mixVersion 82 = .ok (.iconst 3, 1) := by decide +kernel
theorem dX3_mixVersion_83 : decode cX3_mixVersion 83 = .ok (.irem, 1) := by decide +kernel
theorem dX3_mixVersion_84 : decode cX3_mixVersion 84 = .ok (.invokevirtual 264, 3) := by decide +kernel
theorem dX3_mixVersion_87 : decode cX3_mixVersion 87 = .ok (.i2l, 1) := by decide +kernel
theorem dX3_mixVersion_88 : decode cX3_mixVersion 88 = .ok (.invokevirtual 291, 3) := by decide +kernel
theorem dX3_mixVersion_91 : decode cX3_mixVersion 91 = .ok (.iinc 2 1, 3) := by decide +kernel
theorem dX3_mixVersion_94 : decode cX3_mixVersion 94 = .ok (.goto (-31), 3) := by decide +kernel
theorem dX3_mixVersion_97 : decode cX3_mixVersion 97 = .ok (.iload_n 1, 1) := by decide +kernel
theorem dX3_mixVersion_98 : decode cX3_mixVersion 98 = .ok (.ifCond .le 16, 3) := by decide +kernel
theorem dX3_mixVersion_101 : decode cX3_mixVersion 101 = .ok (.aload_n 0, 1) := by decide +kernel
theorem dX3_mixVersion_102 : decode cX3_mixVersion 102 = .ok (.aload_n 0, 1) := by decide +kernel
theorem dX3_mixVersion_103 : decode cX3_mixVersion 103 = .ok (.iload_n 1, 1) := by decide +kernel
theorem dX3_mixVersion_104 : decode cX3_mixVersion 104 = .ok (.iload_n 1, 1) := by decide +kernel
theorem dX3_mixVersion_105 : decode cX3_mixVersion 105 = .ok (.iconst 1, 1) := by decide +kernel
theorem dX3_mixVersion_106 : decode cX3_mixVersion 106 = .ok (.isub, 1) := by decide +kernel
theorem dX3_mixVersion_107 : decode cX3_mixVersion 107 = .ok (.invokevirtual 270, 3) := by decide +kernel
theorem dX3_mixVersion_110 : decode cX3_mixVersion 110 = .ok (.i2l, 1) := by decide +kernel
theorem dX3_mixVersion_111 : decode cX3_mixVersion 111 = .ok (.invokevirtual 291, 3) := by decide +kernel
theorem dX3_mixVersion_114 : decode cX3_mixVersion 114 = .ok (.return_, 1) := by decide +kernel
theorem dX3_digest_0 : decode cX3_digest 0 = .ok (.aload_n 0, 1) := by decide +kernel
theorem dX3_digest_1 : decode cX3_digest 1 = .ok (.ldc2_w 295, 3) := by decide +kernel
theorem dX3_digest_4 : decode cX3_digest 4 = .ok (.putfield 287, 3) := by decide +kernel
theorem dX3_digest_7 : decode cX3_digest 7 = .ok (.iconst 0, 1) := by decide +kernel
theorem dX3_digest_8 : decode cX3_digest 8 = .ok (.istore_n 1, 1) := by decide +kernel
theorem dX3_digest_9 : decode cX3_digest 9 = .ok (.iload_n 1, 1) := by decide +kernel
theorem dX3_digest_10 : decode cX3_digest 10 = .ok (.aload_n 0, 1) := by decide +kernel
theorem dX3_digest_11 : decode cX3_digest 11 = .ok (.getfield 20, 3) := by decide +kernel
theorem dX3_digest_14 : decode cX3_digest 14 = .ok (.if_icmp .ge 14, 3) := by decide +kernel
theorem dX3_digest_17 : decode cX3_digest 17 = .ok (.aload_n 0, 1) := by decide +kernel
theorem dX3_digest_18 : decode cX3_digest 18 = .ok (.iload_n 1, 1) := by decide +kernel
theorem dX3_digest_19 : decode cX3_digest 19 = .ok (.invokevirtual 297, 3) := by decide +kernel
theorem dX3_digest_22 : decode cX3_digest 22 = .ok (.iinc 1 1, 3) := by decide +kernel
theorem dX3_digest_25 : decode cX3_digest 25 = .ok (.goto (-16), 3) := by decide +kernel
theorem dX3_digest_28 : decode cX3_digest 28 = .ok (.iconst 0, 1) := by decide +kernel
theorem dX3_digest_29 : decode cX3_digest 29 = .ok (.istore_n 1, 1) := by decide +kernel
theorem dX3_digest_30 : decode cX3_digest 30 = .ok (.iload_n 1, 1) := by decide +kernel
theorem dX3_digest_31 : decode cX3_digest 31 = .ok (.iconst 4, 1) := by decide +kernel
theorem dX3_digest_32 : decode cX3_digest 32 = .ok (.if_icmp .ge 26, 3) := by decide +kernel
theorem dX3_digest_35 : decode cX3_digest 35 = .ok (.aload_n 0, 1) := by decide +kernel
theorem dX3_digest_36 : decode cX3_digest 36 = .ok (.getfield 90, 3) := by decide +kernel
theorem dX3_digest_39 : decode cX3_digest 39 = .ok (.ifCond .eq 19, 3) := by decide +kernel
theorem dX3_digest_42 : decode cX3_digest 42 = .ok (.aload_n 0, 1) := by decide +kernel
theorem dX3_digest_43 : decode cX3_digest 43 = .ok (.aload_n 0, 1) := by decide +kernel
theorem dX3_digest_44 : decode cX3_digest 44 = .ok (.iload_n 1, 1) := by decide +kernel
theorem dX3_digest_45 : decode cX3_digest 45 = .ok (.invokevirtual 210, 3) := by decide +kernel
theorem dX3_digest_48 : decode cX3_digest 48 = .ok (.i2l, 1) := by decide +kernel
theorem dX3_digest_49 : decode cX3_digest 49 = .ok (.invokevirtual 291, 3) := by decide +kernel
theorem dX3_digest_52 : decode cX3_digest 52 = .ok (.iinc 1 1, 3) := by decide +kernel
theorem dX3_digest_55 : decode cX3_digest 55 = .ok (.goto (-25), 3) := by decide +kernel
theorem dX3_digest_58 : decode cX3_digest 58 = .ok (.iconst 0, 1) := by decide +kernel
theorem dX3_digest_59 : decode cX3_digest 59 = .ok (.istore_n 1, 1) := by decide +kernel
theorem dX3_digest_60 : decode cX3_digest 60 = .ok (.iload_n 1, 1) := by decide +kernel
theorem dX3_digest_61 : decode cX3_digest 61 = .ok (.aload_n 0, 1) := by decide +kernel
theorem dX3_digest_62 : decode cX3_digest 62 = .ok (.getfield 213, 3) := by decide +kernel
theorem dX3_digest_65 : decode cX3_digest 65 = .ok (.if_icmp .ge 20, 3) := by decide +kernel
theorem dX3_digest_68 : decode cX3_digest 68 = .ok (.aload_n 0, 1) := by decide +kernel
theorem dX3_digest_69 : decode cX3_digest 69 = .ok (.aload_n 0, 1) := by decide +kernel
theorem dX3_digest_70 : decode cX3_digest 70 = .ok (.getfield 7, 3) := by decide +kernel
theorem dX3_digest_73 : decode cX3_digest 73 = .ok (.iload_n 1, 1) := by decide +kernel
theorem dX3_digest_74 : decode cX3_digest 74 = .ok (.iaload, 1) := by decide +kernel
theorem dX3_digest_75 : decode cX3_digest 75 = .ok (.i2l, 1) := by decide +kernel
theorem dX3_digest_76 : decode cX3_digest 76 = .ok (.invokevirtual 291, 3) := by decide +kernel
theorem dX3_digest_79 : decode cX3_digest 79 = .ok (.iinc 1 1, 3) := by decide +kernel
theorem dX3_digest_82 : decode cX3_digest 82 = .ok (.goto (-22), 3) := by decide +kernel
theorem dX3_digest_85 : decode cX3_digest 85 = .ok (.iconst 0, 1) := by decide +kernel
theorem dX3_digest_86 : decode cX3_digest 86 = .ok (.istore_n 1, 1) := by decide +kernel
theorem dX3_digest_87 : decode cX3_digest 87 = .ok (.iload_n 1, 1) := by decide +kernel
theorem dX3_digest_88 : decode cX3_digest 88 = .ok (.bipush 9, 2) := by decide +kernel
theorem dX3_digest_90 : decode cX3_digest 90 = .ok (.if_icmp .ge 19, 3) := by decide +kernel
theorem dX3_digest_93 : decode cX3_digest 93 = .ok (.aload_n 0, 1) := by decide +kernel
theorem dX3_digest_94 : decode cX3_digest 94 = .ok (.aload_n 0, 1) := by decide +kernel
theorem dX3_digest_95 : decode cX3_digest 95 = .ok (.iload_n 1, 1) := by decide +kernel
theorem dX3_digest_96 : decode cX3_digest 96 = .ok (.invokevirtual 282, 3) := by decide +kernel
theorem dX3_digest_99 : decode cX3_digest 99 = .ok (.i2l, 1) := by decide +kernel
theorem dX3_digest_100 : decode cX3_digest 100 = .ok (.invokevirtual 291, 3) := by decide +kernel
theorem dX3_digest_103 : decode cX3_digest 103 = .ok (.iinc 1 1, 3) := by decide +kernel
theorem dX3_digest_106 : decode cX3_digest 106 = .ok (.goto (-19), 3) := by decide +kernel
theorem dX3_digest_109 : decode cX3_digest 109 = .ok (.aload_n 0, 1) := by decide +kernel
theorem dX3_digest_110 : decode cX3_digest 110 = .ok (.getfield 287, 3) := by decide +kernel
theorem dX3_digest_113 : decode cX3_digest 113 = .ok (.lreturn, 1) := by decide +kernel
end
section
theorem dL_law_0 : decode cL_law 0 = .ok (.new 7, 3) := by decide +kernel
theorem dL_law_3 : decode cL_law 3 = .ok (.dup, 1) := by decide +kernel
theorem dL_law_4 : decode cL_law 4 = .ok (.invokespecial 9, 3) := by decide +kernel
theorem dL_law_7 : decode cL_law 7 = .ok (.astore_n 1, 1) := by decide +kernel
theorem dL_law_8 : decode cL_law 8 = .ok (.new 10, 3) := by decide +kernel
theorem dL_law_11 : decode cL_law 11 = .ok (.dup, 1) := by decide +kernel
theorem dL_law_12 : decode cL_law 12 = .ok (.invokespecial 12, 3) := by decide +kernel
theorem dL_law_15 : decode cL_law 15 = .ok (.astore_n 2, 1) := by decide +kernel
theorem dL_law_16 : decode cL_law 16 = .ok (.iconst 0, 1) := by decide +kernel
theorem dL_law_17 : decode cL_law 17 = .ok (.istore_n 3, 1) := by decide +kernel
theorem dL_law_18 : decode cL_law 18 = .ok (.iload_n 3, 1) := by decide +kernel
theorem dL_law_19 : decode cL_law 19 = .ok (.aload_n 0, 1) := by decide +kernel
theorem dL_law_20 : decode cL_law 20 = .ok (.arraylength, 1) := by decide +kernel
theorem dL_law_21 : decode cL_law 21 = .ok (.iconst 4, 1) := by decide +kernel
theorem dL_law_22 : decode cL_law 22 = .ok (.isub, 1) := by decide +kernel
theorem dL_law_23 : decode cL_law 23 = .ok (.if_icmp .gt 817, 3) := by decide +kernel
theorem dL_law_26 : decode cL_law 26 = .ok (.aload_n 0, 1) := by decide +kernel
theorem dL_law_27 : decode cL_law 27 = .ok (.iload_n 3, 1) := by decide +kernel
theorem dL_law_28 : decode cL_law 28 = .ok (.iaload, 1) := by decide +kernel
theorem dL_law_29 : decode cL_law 29 = .ok (.bipush 31, 2) := by decide +kernel
theorem dL_law_31 : decode cL_law 31 = .ok (.iand, 1) := by decide +kernel
theorem dL_law_32 : decode cL_law 32 = .ok (.tableswitch 802 0 24 #[116, 139, 152, 165, 178, 211, 234, 277, 310, 353, 396, 409, 432, 465, 488, 501, 514, 537, 570, 603, 646, 689, 722, 765, 788], 116) := by decide +kernel
theorem dL_law_148 : decode cL_law 148 = .ok (.aload_n 1, 1) := by decide +kernel
theorem dL_law_149 : decode cL_law 149 = .ok (.aload_n 0, 1) := by decide +kernel
theorem dL_law_150 : decode cL_law 150 = .ok (.iload_n 3, 1) := by decide +kernel
theorem dL_law_151 : decode cL_law 151 = .ok (.iconst 1, 1) := by decide +kernel
theorem dL_law_152 : decode cL_law 152 = .ok (.iadd, 1) := by decide +kernel
theorem dL_law_153 : decode cL_law 153 = .ok (.iaload, 1) := by decide +kernel
theorem dL_law_154 : decode cL_law 154 = .ok (.invokevirtual 13, 3) := by decide +kernel
theorem dL_law_157 : decode cL_law 157 = .ok (.aload_n 2, 1) := by decide +kernel
theorem dL_law_158 : decode cL_law 158 = .ok (.aload_n 0, 1) := by decide +kernel
theorem dL_law_159 : decode cL_law 159 = .ok (.iload_n 3, 1) := by decide +kernel
theorem dL_law_160 : decode cL_law 160 = .ok (.iconst 1, 1) := by decide +kernel
theorem dL_law_161 : decode cL_law 161 = .ok (.iadd, 1) := by decide +kernel
theorem dL_law_162 : decode cL_law 162 = .ok (.iaload, 1) := by decide +kernel
theorem dL_law_163 : decode cL_law 163 = .ok (.invokevirtual 17, 3) := by decide +kernel
theorem dL_law_166 : decode cL_law 166 = .ok (.if_icmp .eq 668, 3) := by decide +kernel
theorem dL_law_169 : decode cL_law 169 = .ok (.iconst 0, 1) := by decide +kernel
theorem dL_law_170 : decode cL_law 170 = .ok (.ireturn, 1) := by decide +kernel
theorem dL_law_171 : decode cL_law 171 = .ok (.aload_n 1, 1) := by decide +kernel
theorem dL_law_172 : decode cL_law 172 = .ok (.invokevirtual 18, 3) := by decide +kernel
theorem dL_law_175 : decode cL_law 175 = .ok (.aload_n 2, 1) := by decide +kernel
theorem dL_law_176 : decode cL_law 176 = .ok (.invokevirtual 22, 3) := by decide +kernel
theorem dL_law_179 : decode cL_law 179 = .ok (.if_icmp .eq 655, 3) := by decide +kernel
theorem dL_law_182 : decode cL_law 182 = .ok (.iconst 0, 1) := by decide +kernel
theorem dL_law_183 : decode cL_law 183 = .ok (.ireturn, 1) := by decide +kernel
theorem dL_law_184 : decode cL_law 184 = .ok (.aload_n 1, 1) := by decide +kernel
theorem dL_law_185 : decode cL_law 185 = .ok (.invokevirtual 23, 3) := by decide +kernel
theorem dL_law_188 : decode cL_law 188 = .ok (.aload_n 2, 1) := by decide +kernel
theorem dL_law_189 : decode cL_law 189 = .ok (.invokevirtual 26, 3) := by decide +kernel
theorem dL_law_192 : decode cL_law 192 = .ok (.if_icmp .eq 642, 3) := by decide +kernel
theorem dL_law_195 : decode cL_law 195 = .ok (.iconst 0, 1) := by decide +kernel
theorem dL_law_196 : decode cL_law 196 = .ok (.ireturn, 1) := by decide +kernel
theorem dL_law_197 : decode cL_law 197 = .ok (.aload_n 1, 1) := by decide +kernel
theorem dL_law_198 : decode cL_law 198 = .ok (.invokevirtual 27, 3) := by decide +kernel
theorem dL_law_201 : decode cL_law 201 = .ok (.aload_n 2, 1) := by decide +kernel
theorem dL_law_202 : decode cL_law 202 = .ok (.invokevirtual 30, 3) := by decide +kernel
theorem dL_law_205 : decode cL_law 205 = .ok (.if_icmp .eq 629, 3) := by decide +kernel
theorem dL_law_208 : decode cL_law 208 = .ok (.iconst 0, 1) := by decide +kernel
theorem dL_law_209 : decode cL_law 209 = .ok (.ireturn, 1) := by decide +kernel
theorem dL_law_210 : decode cL_law 210 = .ok (.aload_n 1, 1) := by decide +kernel
theorem dL_law_211 : decode cL_law 211 = .ok (.aload_n 0, 1) := by decide +kernel
theorem dL_law_212 : decode cL_law 212 = .ok (.iload_n 3, 1) := by decide +kernel
theorem dL_law_213 : decode cL_law 213 = .ok (.iconst 1, 1) := by decide +kernel
theorem dL_law_214 : decode cL_law 214 = .ok (.iadd, 1) := by decide +kernel
theorem dL_law_215 : decode cL_law 215 = .ok (.iaload, 1) := by decide +kernel
theorem dL_law_216 : decode cL_law 216 = .ok (.aload_n 0, 1) := by decide +kernel
theorem dL_law_217 : decode cL_law 217 = .ok (.iload_n 3, 1) := by decide +kernel
theorem dL_law_218 : decode cL_law 218 = .ok (.iconst 2, 1) := by decide +kernel
theorem dL_law_219 : decode cL_law 219 = .ok (.iadd, 1) := by decide +kernel
theorem dL_law_220 : decode cL_law 220 = .ok (.iaload, 1) := by decide +kernel
theorem dL_law_221 : decode cL_law 221 = .ok (.invokevirtual 31, 3) := by decide +kernel
theorem dL_law_224 : decode cL_law 224 = .ok (.aload_n 2, 1) := by decide +kernel
theorem dL_law_225 : decode cL_law 225 = .ok (.aload_n 0, 1) := by decide +kernel
theorem dL_law_226 : decode cL_law 226 = .ok (.iload_n 3, 1) := by decide +kernel
theorem dL_law_227 : decode cL_law 227 = .ok (.iconst 1, 1) := by decide +kernel
theorem dL_law_228 : decode cL_law 228 = .ok (.iadd, 1) := by decide +kernel
theorem dL_law_229 : decode cL_law 229 = .ok (.iaload, 1) := by decide +kernel
theorem dL_law_230 : decode cL_law 230 = .ok (.aload_n 0, 1) := by decide +kernel
theorem dL_law_231 : decode cL_law 231 = .ok (.iload_n 3, 1) := by decide +kernel
theorem dL_law_232 : decode cL_law 232 = .ok (.iconst 2, 1) := by decide +kernel
theorem dL_law_233 : decode cL_law 233 = .ok (.iadd, 1) := by decide +kernel
theorem dL_law_234 : decode cL_law 234 = .ok (.iaload, 1) := by decide +kernel
theorem dL_law_235 : decode cL_law 235 = .ok (.invokevirtual 35, 3) := by decide +kernel
theorem dL_law_238 : decode cL_law 238 = .ok (.if_icmp .eq 596, 3) := by decide +kernel
theorem dL_law_241 : decode cL_law 241 = .ok (.iconst 0, 1) := by decide +kernel
theorem dL_law_242 : decode cL_law 242 = .ok (.ireturn, 1) := by decide +kernel
theorem dL_law_243 : decode cL_law 243 = .ok (.aload_n 1, 1) := by decide +kernel
theorem dL_law_244 : decode cL_law 244 = .ok (.aload_n 0, 1) := by decide +kernel
theorem dL_law_245 : decode cL_law 245 = .ok (.iload_n 3, 1) := by decide +kernel
theorem dL_law_246 : decode cL_law 246 = .ok (.iconst 1, 1) := by decide +kernel
theorem dL_law_247 : decode cL_law 247 = .ok (.iadd, 1) := by decide +kernel
theorem dL_law_248 : decode cL_law 248 = .ok (.iaload, 1) := by decide +kernel
theorem dL_law_249 : decode cL_law 249 = .ok (.invokevirtual 36, 3) := by decide +kernel
theorem dL_law_252 : decode cL_law 252 = .ok (.aload_n 2, 1) := by decide +kernel
theorem dL_law_253 : decode cL_law 253 = .ok (.aload_n 0, 1) := by decide +kernel
theorem dL_law_254 : decode cL_law 254 = .ok (.iload_n 3, 1) := by decide +kernel
theorem dL_law_255 : decode cL_law 255 = .ok (.iconst 1, 1) := by decide +kernel
theorem dL_law_256 : decode cL_law 256 = .ok (.iadd, 1) := by decide +kernel
theorem dL_law_257 : decode cL_law 257 = .ok (.iaload, 1) := by decide +kernel
theorem dL_law_258 : decode cL_law 258 = .ok (.invokevirtual 39, 3) := by decide +kernel
theorem dL_law_261 : decode cL_law 261 = .ok (.if_icmp .eq 573, 3) := by decide +kernel
theorem dL_law_264 : decode cL_law 264 = .ok (.iconst 0, 1) := by decide +kernel
theorem dL_law_265 : decode cL_law 265 = .ok (.ireturn, 1) := by decide +kernel
theorem dL_law_266 : decode cL_law 266 = .ok (.aload_n 1, 1) := by decide +kernel
theorem dL_law_267 : decode cL_law 267 = .ok (.aload_n 0, 1) := by decide +kernel
theorem dL_law_268 : decode cL_law 268 = .ok (.iload_n 3, 1) := by decide +kernel
theorem dL_law_269 : decode cL_law 269 = .ok (.iconst 1, 1) := by decide +kernel
theorem dL_law_270 : decode cL_law 270 = .ok (.iadd, 1) := by decide +kernel
theorem dL_law_271 : decode cL_law 271 = .ok (.iaload, 1) := by decide +kernel
theorem dL_law_272 : decode cL_law 272 = .ok (.aload_n 0, 1) := by decide +kernel
theorem dL_law_273 : decode cL_law 273 = .ok (.iload_n 3, 1) := by decide +kernel
theorem dL_law_274 : decode cL_law 274 = .ok (.iconst 2, 1) := by decide +kernel
theorem dL_law_275 : decode cL_law 275 = .ok (.iadd, 1) := by decide +kernel
theorem dL_law_276 : decode cL_law 276 = .ok (.iaload, 1) := by decide +kernel
theorem dL_law_277 : decode cL_law 277 = .ok (.aload_n 0, 1) := by decide +kernel
theorem dL_law_278 : decode cL_law 278 = .ok (.iload_n 3, 1) := by decide +kernel
theorem dL_law_279 : decode cL_law 279 = .ok (.iconst 3, 1) := by decide +kernel
theorem dL_law_280 : decode cL_law 280 = .ok (.iadd, 1) := by decide +kernel
theorem dL_law_281 : decode cL_law 281 = .ok (.iaload, 1) := by decide +kernel
theorem dL_law_282 : decode cL_law 282 = .ok (.invokevirtual 40, 3) := by decide +kernel
theorem dL_law_285 : decode cL_law 285 = .ok (.aload_n 2, 1) := by decide +kernel
theorem dL_law_286 : decode cL_law 286 = .ok (.aload_n 0, 1) := by decide +kernel
theorem dL_law_287 : decode cL_law 287 = .ok (.iload_n 3, 1) := by decide +kernel
theorem dL_law_288 : decode cL_law 288 = .ok (.iconst 1, 1) := by decide +kernel
theorem dL_law_289 : decode cL_law 289 = .ok (.iadd, 1) := by decide +kernel
theorem dL_law_290 : decode cL_law 290 = .ok (.iaload, 1) := by decide +kernel
theorem dL_law_291 : decode cL_law 291 = .ok (.aload_n 0, 1) := by decide +kernel
theorem dL_law_292 : decode cL_law 292 = .ok (.iload_n 3, 1) := by decide +kernel
theorem dL_law_293 : decode cL_law 293 = .ok (.iconst 2, 1) := by decide +kernel
theorem dL_law_294 : decode cL_law 294 = .ok (.iadd, 1) := by decide +kernel
theorem dL_law_295 : decode cL_law 295 = .ok (.iaload, 1) := by decide +kernel
theorem dL_law_296 : decode cL_law 296 = .ok (.aload_n 0, 1) := by decide +kernel
theorem dL_law_297 : decode cL_law 297 = .ok (.iload_n 3, 1) := by decide +kernel
theorem dL_law_298 : decode cL_law 298 = .ok (.iconst 3, 1) := by decide +kernel
theorem dL_law_299 : decode cL_law 299 = .ok (.iadd, 1) := by decide +kernel
theorem dL_law_300 : decode cL_law 300 = .ok (.iaload, 1) := by decide +kernel
theorem dL_law_301 : decode cL_law 301 = .ok (.invokevirtual 44, 3) := by decide +kernel
theorem dL_law_304 : decode cL_law 304 = .ok (.if_icmp .eq 530, 3) := by decide +kernel
theorem dL_law_307 : decode cL_law 307 = .ok (.iconst 0, 1) := by decide +kernel
theorem dL_law_308 : decode cL_law 308 = .ok (.ireturn, 1) := by decide +kernel
theorem dL_law_309 : decode cL_law 309 = .ok (.aload_n 1, 1) := by decide +kernel
theorem dL_law_310 : decode cL_law 310 = .ok (.aload_n 0, 1) := by decide +kernel
theorem dL_law_311 : decode cL_law 311 = .ok (.iload_n 3, 1) := by decide +kernel
theorem dL_law_312 : decode cL_law 312 = .ok (.iconst 1, 1) := by decide +kernel
theorem dL_law_313 : decode cL_law 313 = .ok (.iadd, 1) := by decide +kernel
theorem dL_law_314 : decode cL_law 314 = .ok (.iaload, 1) := by decide +kernel
theorem dL_law_315 : decode cL_law 315 = .ok (.aload_n 0, 1) := by decide +kernel
theorem dL_law_316 : decode cL_law 316 = .ok (.iload_n 3, 1) := by decide +kernel
theorem dL_law_317 : decode cL_law 317 = .ok (.iconst 2, 1) := by decide +kernel
theorem dL_law_318 : decode cL_law 318 = .ok (.iadd, 1) := by decide +kernel
theorem dL_law_319 : decode cL_law 319 = .ok (.iaload, 1) := by decide +kernel
theorem dL_law_320 : decode cL_law 320 = .ok (.invokevirtual 45, 3) := by decide +kernel
theorem dL_law_323 : decode cL_law 323 = .ok (.aload_n 2, 1) := by decide +kernel
theorem dL_law_324 : decode cL_law 324 = .ok (.aload_n 0, 1) := by decide +kernel
theorem dL_law_325 : decode cL_law 325 = .ok (.iload_n 3, 1) := by decide +kernel
theorem dL_law_326 : decode cL_law 326 = .ok (.iconst 1, 1) := by decide +kernel
theorem dL_law_327 : decode cL_law 327 = .ok (.iadd, 1) := by decide +kernel
theorem dL_law_328 : decode cL_law 328 = .ok (.iaload, 1) := by decide +kernel
theorem dL_law_329 : decode cL_law 329 = .ok (.aload_n 0, 1) := by decide +kernel
theorem dL_law_330 : decode cL_law 330 = .ok (.iload_n 3, 1) := by decide +kernel
theorem dL_law_331 : decode cL_law 331 = .ok (.iconst 2, 1) := by decide +kernel
theorem dL_law_332 : decode cL_law 332 = .ok (.iadd, 1) := by decide +kernel
theorem dL_law_333 : decode cL_law 333 = .ok (.iaload, 1) := by decide +kernel
theorem dL_law_334 : decode cL_law 334 = .ok (.invokevirtual 48, 3) := by decide +kernel
theorem dL_law_337 : decode cL_law 337 = .ok (.if_icmp .eq 497, 3) := by decide +kernel
theorem dL_law_340 : decode cL_law 340 = .ok (.iconst 0, 1) := by decide +kernel
theorem dL_law_341 : decode cL_law 341 = .ok (.ireturn, 1) := by decide +kernel
theorem dL_law_342 : decode cL_law 342 = .ok (.aload_n 1, 1) := by decide +kernel
theorem dL_law_343 : decode cL_law 343 = .ok (.aload_n 0, 1) := by decide +kernel
theorem dL_law_344 : decode cL_law 344 = .ok (.iload_n 3, 1) := by decide +kernel
theorem dL_law_345 : decode cL_law 345 = .ok (.iconst 1, 1) := by decide +kernel
theorem dL_law_346 : decode cL_law 346 = .ok (.iadd, 1) := by decide +kernel
theorem dL_law_347 : decode cL_law 347 = .ok (.iaload, 1) := by decide +kernel
theorem dL_law_348 : decode cL_law 348 = .ok (.aload_n 0, 1) := by decide +kernel
theorem dL_law_349 : decode cL_law 349 = .ok (.iload_n 3, 1) := by decide +kernel
theorem dL_law_350 : decode cL_law 350 = .ok (.iconst 2, 1) := by decide +kernel
theorem dL_law_351 : decode cL_law 351 = .ok (.iadd, 1) := by decide +kernel
theorem dL_law_352 : decode cL_law 352 = .ok (.iaload, 1) := by decide +kernel
theorem dL_law_353 : decode cL_law 353 = .ok (.aload_n 0, 1) := by decide +kernel
theorem dL_law_354 : decode cL_law 354 = .ok (.iload_n 3, 1) := by decide +kernel
theorem dL_law_355 : decode cL_law 355 = .ok (.iconst 3, 1) := by decide +kernel
theorem dL_law_356 : decode cL_law 356 = .ok (.iadd, 1) := by decide +kernel
theorem dL_law_357 : decode cL_law 357 = .ok (.iaload, 1) := by decide +kernel
theorem dL_law_358 : decode cL_law 358 = .ok (.invokevirtual 49, 3) := by decide +kernel
theorem dL_law_361 : decode cL_law 361 = .ok (.aload_n 2, 1) := by decide +kernel
theorem dL_law_362 : decode cL_law 362 = .ok (.aload_n 0, 1) := by decide +kernel
theorem dL_law_363 : decode cL_law 363 = .ok (.iload_n 3, 1) := by decide +kernel
theorem dL_law_364 : decode cL_law 364 = .ok (.iconst 1, 1) := by decide +kernel
theorem dL_law_365 : decode cL_law 365 = .ok (.iadd, 1) := by decide +kernel
theorem dL_law_366 : decode cL_law 366 = .ok (.iaload, 1) := by decide +kernel
theorem dL_law_367 : decode cL_law 367 = .ok (.aload_n 0, 1) := by decide +kernel
theorem dL_law_368 : decode cL_law 368 = .ok (.iload_n 3, 1) := by decide +kernel
theorem dL_law_369 : decode cL_law 369 = .ok (.iconst 2, 1) := by decide +kernel
theorem dL_law_370 : decode cL_law 370 = .ok (.iadd, 1) := by decide +kernel
theorem dL_law_371 : decode cL_law 371 = .ok (.iaload, 1) := by decide +kernel
theorem dL_law_372 : decode cL_law 372 = .ok (.aload_n 0, 1) := by decide +kernel
theorem dL_law_373 : decode cL_law 373 = .ok (.iload_n 3, 1) := by decide +kernel
theorem dL_law_374 : decode cL_law 374 = .ok (.iconst 3, 1) := by decide +kernel
theorem dL_law_375 : decode cL_law 375 = .ok (.iadd, 1) := by decide +kernel
theorem dL_law_376 : decode cL_law 376 = .ok (.iaload, 1) := by decide +kernel
theorem dL_law_377 : decode cL_law 377 = .ok (.invokevirtual 52, 3) := by decide +kernel
theorem dL_law_380 : decode cL_law 380 = .ok (.if_icmp .eq 454, 3) := by decide +kernel
theorem dL_law_383 : decode cL_law 383 = .ok (.iconst 0, 1) := by decide +kernel
theorem dL_law_384 : decode cL_law 384 = .ok (.ireturn, 1) := by decide +kernel
theorem dL_law_385 : decode cL_law 385 = .ok (.aload_n 1, 1) := by decide +kernel
theorem dL_law_386 : decode cL_law 386 = .ok (.aload_n 0, 1) := by decide +kernel
theorem dL_law_387 : decode cL_law 387 = .ok (.iload_n 3, 1) := by decide +kernel
theorem dL_law_388 : decode cL_law 388 = .ok (.iconst 1, 1) := by decide +kernel
theorem dL_law_389 : decode cL_law 389 = .ok (.iadd, 1) := by decide +kernel
theorem dL_law_390 : decode cL_law 390 = .ok (.iaload, 1) := by decide +kernel
theorem dL_law_391 : decode cL_law 391 = .ok (.aload_n 0, 1) := by decide +kernel
theorem dL_law_392 : decode cL_law 392 = .ok (.iload_n 3, 1) := by decide +kernel
theorem dL_law_393 : decode cL_law 393 = .ok (.iconst 2, 1) := by decide +kernel
theorem dL_law_394 : decode cL_law 394 = .ok (.iadd, 1) := by decide +kernel
theorem dL_law_395 : decode cL_law 395 = .ok (.iaload, 1) := by decide +kernel
theorem dL_law_396 : decode cL_law 396 = .ok (.aload_n 0, 1) := by decide +kernel
theorem dL_law_397 : decode cL_law 397 = .ok (.iload_n 3, 1) := by decide +kernel
theorem dL_law_398 : decode cL_law 398 = .ok (.iconst 3, 1) := by decide +kernel
theorem dL_law_399 : decode cL_law 399 = .ok (.iadd, 1) := by decide +kernel
theorem dL_law_400 : decode cL_law 400 = .ok (.iaload, 1) := by decide +kernel
theorem dL_law_401 : decode cL_law 401 = .ok (.invokevirtual 53, 3) := by decide +kernel
theorem dL_law_404 : decode cL_law 404 = .ok (.aload_n 2, 1) := by decide +kernel
theorem dL_law_405 : decode cL_law 405 = .ok (.aload_n 0, 1) := by decide +kernel
theorem dL_law_406 : decode cL_law 406 = .ok (.iload_n 3, 1) := by decide +kernel
theorem dL_law_407 : decode cL_law 407 = .ok (.iconst 1, 1) := by decide +kernel
theorem dL_law_408 : decode cL_law 408 = .ok (.iadd, 1) := by decide +kernel
theorem dL_law_409 : decode cL_law 409 = .ok (.iaload, 1) := by decide +kernel
theorem dL_law_410 : decode cL_law 410 = .ok (.aload_n 0, 1) := by decide +kernel
theorem dL_law_411 : decode cL_law 411 = .ok (.iload_n 3, 1) := by decide +kernel
theorem dL_law_412 : decode cL_law 412 = .ok (.iconst 2, 1) := by decide +kernel
theorem dL_law_413 : decode cL_law 413 = .ok (.iadd, 1) := by decide +kernel
theorem dL_law_414 : decode cL_law 414 = .ok (.iaload, 1) := by decide +kernel
theorem dL_law_415 : decode cL_law 415 = .ok (.aload_n 0, 1) := by decide +kernel
theorem dL_law_416 : decode cL_law 416 = .ok (.iload_n 3, 1) := by decide +kernel
theorem dL_law_417 : decode cL_law 417 = .ok (.iconst 3, 1) := by decide +kernel
theorem dL_law_418 : decode cL_law 418 = .ok (.iadd, 1) := by decide +kernel
theorem dL_law_419 : decode cL_law 419 = .ok (.iaload, 1) := by decide +kernel
theorem dL_law_420 : decode cL_law 420 = .ok (.invokevirtual 56, 3) := by decide +kernel
theorem dL_law_423 : decode cL_law 423 = .ok (.if_icmp .eq 411, 3) := by decide +kernel
theorem dL_law_426 : decode cL_law 426 = .ok (.iconst 0, 1) := by decide +kernel
theorem dL_law_427 : decode cL_law 427 = .ok (.ireturn, 1) := by decide +kernel
theorem dL_law_428 : decode cL_law 428 = .ok (.aload_n 1, 1) := by decide +kernel
theorem dL_law_429 : decode cL_law 429 = .ok (.invokevirtual 57, 3) := by decide +kernel
theorem dL_law_432 : decode cL_law 432 = .ok (.aload_n 2, 1) := by decide +kernel
theorem dL_law_433 : decode cL_law 433 = .ok (.invokevirtual 60, 3) := by decide +kernel
theorem dL_law_436 : decode cL_law 436 = .ok (.if_icmp .eq 398, 3) := by decide +kernel
theorem dL_law_439 : decode cL_law 439 = .ok (.iconst 0, 1) := by decide +kernel
theorem dL_law_440 : decode cL_law 440 = .ok (.ireturn, 1) := by decide +kernel
theorem dL_law_441 : decode cL_law 441 = .ok (.aload_n 1, 1) := by decide +kernel
theorem dL_law_442 : decode cL_law 442 = .ok (.aload_n 0, 1) := by decide +kernel
theorem dL_law_443 : decode cL_law 443 = .ok (.iload_n 3, 1) := by decide +kernel
theorem dL_law_444 : decode cL_law 444 = .ok (.iconst 1, 1) := by decide +kernel
theorem dL_law_445 : decode cL_law 445 = .ok (.iadd, 1) := by decide +kernel
theorem dL_law_446 : decode cL_law 446 = .ok (.iaload, 1) := by decide +kernel
theorem dL_law_447 : decode cL_law 447 = .ok (.invokevirtual 61, 3) := by decide +kernel
theorem dL_law_450 : decode cL_law 450 = .ok (.aload_n 2, 1) := by decide +kernel
theorem dL_law_451 : decode cL_law 451 = .ok (.aload_n 0, 1) := by decide +kernel
theorem dL_law_452 : decode cL_law 452 = .ok (.iload_n 3, 1) := by decide +kernel
theorem dL_law_453 : decode cL_law 453 = .ok (.iconst 1, 1) := by decide +kernel
theorem dL_law_454 : decode cL_law 454 = .ok (.iadd, 1) := by decide +kernel
theorem dL_law_455 : decode cL_law 455 = .ok (.iaload, 1) := by decide +kernel
theorem dL_law_456 : decode cL_law 456 = .ok (.invokevirtual 64, 3) := by decide +kernel
theorem dL_law_459 : decode cL_law 459 = .ok (.if_icmp .eq 375, 3) := by decide +kernel
theorem dL_law_462 : decode cL_law 462 = .ok (.iconst 0, 1) := by decide +kernel
theorem dL_law_463 : decode cL_law 463 = .ok (.ireturn, 1) := by decide +kernel
theorem dL_law_464 : decode cL_law 464 = .ok (.aload_n 1, 1) := by decide +kernel
theorem dL_law_465 : decode cL_law 465 = .ok (.aload_n 0, 1) := by decide +kernel
theorem dL_law_466 : decode cL_law 466 = .ok (.iload_n 3, 1) := by decide +kernel
theorem dL_law_467 : decode cL_law 467 = .ok (.iconst 1, 1) := by decide +kernel
theorem dL_law_468 : decode cL_law 468 = .ok (.iadd, 1) := by decide +kernel
theorem dL_law_469 : decode cL_law 469 = .ok (.iaload, 1) := by decide +kernel
theorem dL_law_470 : decode cL_law 470 = .ok (.aload_n 0, 1) := by decide +kernel
theorem dL_law_471 : decode cL_law 471 = .ok (.iload_n 3, 1) := by decide +kernel
theorem dL_law_472 : decode cL_law 472 = .ok (.iconst 2, 1) := by decide +kernel
theorem dL_law_473 : decode cL_law 473 = .ok (.iadd, 1) := by decide +kernel
theorem dL_law_474 : decode cL_law 474 = .ok (.iaload, 1) := by decide +kernel
theorem dL_law_475 : decode cL_law 475 = .ok (.invokevirtual 65, 3) := by decide +kernel
theorem dL_law_478 : decode cL_law 478 = .ok (.aload_n 2, 1) := by decide +kernel
theorem dL_law_479 : decode cL_law 479 = .ok (.aload_n 0, 1) := by decide +kernel
theorem dL_law_480 : decode cL_law 480 = .ok (.iload_n 3, 1) := by decide +kernel
theorem dL_law_481 : decode cL_law 481 = .ok (.iconst 1, 1) := by decide +kernel
theorem dL_law_482 : decode cL_law 482 = .ok (.iadd, 1) := by decide +kernel
theorem dL_law_483 : decode cL_law 483 = .ok (.iaload, 1) := by decide +kernel
theorem dL_law_484 : decode cL_law 484 = .ok (.aload_n 0, 1) := by decide +kernel
theorem dL_law_485 : decode cL_law 485 = .ok (.iload_n 3, 1) := by decide +kernel
theorem dL_law_486 : decode cL_law 486 = .ok (.iconst 2, 1) := by decide +kernel
theorem dL_law_487 : decode cL_law 487 = .ok (.iadd, 1) := by decide +kernel
theorem dL_law_488 : decode cL_law 488 = .ok (.iaload, 1) := by decide +kernel
theorem dL_law_489 : decode cL_law 489 = .ok (.invokevirtual 68, 3) := by decide +kernel
theorem dL_law_492 : decode cL_law 492 = .ok (.if_icmp .eq 342, 3) := by decide +kernel
theorem dL_law_495 : decode cL_law 495 = .ok (.iconst 0, 1) := by decide +kernel
theorem dL_law_496 : decode cL_law 496 = .ok (.ireturn, 1) := by decide +kernel
theorem dL_law_497 : decode cL_law 497 = .ok (.aload_n 1, 1) := by decide +kernel
theorem dL_law_498 : decode cL_law 498 = .ok (.aload_n 0, 1) := by decide +kernel
theorem dL_law_499 : decode cL_law 499 = .ok (.iload_n 3, 1) := by decide +kernel
theorem dL_law_500 : decode cL_law 500 = .ok (.iconst 1, 1) := by decide +kernel
theorem dL_law_501 : decode cL_law 501 = .ok (.iadd, 1) := by decide +kernel
theorem dL_law_502 : decode cL_law 502 = .ok (.iaload, 1) := by decide +kernel
theorem dL_law_503 : decode cL_law 503 = .ok (.invokevirtual 69, 3) := by decide +kernel
theorem dL_law_506 : decode cL_law 506 = .ok (.aload_n 2, 1) := by decide +kernel
theorem dL_law_507 : decode cL_law 507 = .ok (.aload_n 0, 1) := by decide +kernel
theorem dL_law_508 : decode cL_law 508 = .ok (.iload_n 3, 1) := by decide +kernel
theorem dL_law_509 : decode cL_law 509 = .ok (.iconst 1, 1) := by decide +kernel
theorem dL_law_510 : decode cL_law 510 = .ok (.iadd, 1) := by decide +kernel
theorem dL_law_511 : decode cL_law 511 = .ok (.iaload, 1) := by decide +kernel
theorem dL_law_512 : decode cL_law 512 = .ok (.invokevirtual 72, 3) := by decide +kernel
theorem dL_law_515 : decode cL_law 515 = .ok (.if_icmp .eq 319, 3) := by decide +kernel
theorem dL_law_518 : decode cL_law 518 = .ok (.iconst 0, 1) := by decide +kernel
theorem dL_law_519 : decode cL_law 519 = .ok (.ireturn, 1) := by decide +kernel
theorem dL_law_520 : decode cL_law 520 = .ok (.aload_n 1, 1) := by decide +kernel
theorem dL_law_521 : decode cL_law 521 = .ok (.invokevirtual 73, 3) := by decide +kernel
theorem dL_law_524 : decode cL_law 524 = .ok (.aload_n 2, 1) := by decide +kernel
theorem dL_law_525 : decode cL_law 525 = .ok (.invokevirtual 76, 3) := by decide +kernel
theorem dL_law_528 : decode cL_law 528 = .ok (.if_icmp .eq 306, 3) := by decide +kernel
theorem dL_law_531 : decode cL_law 531 = .ok (.iconst 0, 1) := by decide +kernel
theorem dL_law_532 : decode cL_law 532 = .ok (.ireturn, 1) := by decide +kernel
theorem dL_law_533 : decode cL_law 533 = .ok (.aload_n 1, 1) := by decide +kernel
theorem dL_law_534 : decode cL_law 534 = .ok (.invokevirtual 77, 3) := by decide +kernel
theorem dL_law_537 : decode cL_law 537 = .ok (.aload_n 2, 1) := by decide +kernel
theorem dL_law_538 : decode cL_law 538 = .ok (.invokevirtual 80, 3) := by decide +kernel
theorem dL_law_541 : decode cL_law 541 = .ok (.if_icmp .eq 293, 3) := by decide +kernel
theorem dL_law_544 : decode cL_law 544 = .ok (.iconst 0, 1) := by decide +kernel
theorem dL_law_545 : decode cL_law 545 = .ok (.ireturn, 1) := by decide +kernel
theorem dL_law_546 : decode cL_law 546 = .ok (.aload_n 1, 1) := by decide +kernel
theorem dL_law_547 : decode cL_law 547 = .ok (.aload_n 0, 1) := by decide +kernel
theorem dL_law_548 : decode cL_law 548 = .ok (.iload_n 3, 1) := by decide +kernel
theorem dL_law_549 : decode cL_law 549 = .ok (.iconst 1, 1) := by decide +kernel
theorem dL_law_550 : decode cL_law 550 = .ok (.iadd, 1) := by decide +kernel
theorem dL_law_551 : decode cL_law 551 = .ok (.iaload, 1) := by decide +kernel
theorem dL_law_552 : decode cL_law 552 = .ok (.invokevirtual 81, 3) := by decide +kernel
theorem dL_law_555 : decode cL_law 555 = .ok (.aload_n 2, 1) := by decide +kernel
theorem dL_law_556 : decode cL_law 556 = .ok (.aload_n 0, 1) := by decide +kernel
theorem dL_law_557 : decode cL_law 557 = .ok (.iload_n 3, 1) := by decide +kernel
theorem dL_law_558 : decode cL_law 558 = .ok (.iconst 1, 1) := by decide +kernel
theorem dL_law_559 : decode cL_law 559 = .ok (.iadd, 1) := by decide +kernel
theorem dL_law_560 : decode cL_law 560 = .ok (.iaload, 1) := by decide +kernel
theorem dL_law_561 : decode cL_law 561 = .ok (.invokevirtual 84, 3) := by decide +kernel
theorem dL_law_564 : decode cL_law 564 = .ok (.if_icmp .eq 270, 3) := by decide +kernel
theorem dL_law_567 : decode cL_law 567 = .ok (.iconst 0, 1) := by decide +kernel
theorem dL_law_568 : decode cL_law 568 = .ok (.ireturn, 1) := by decide +kernel
theorem dL_law_569 : decode cL_law 569 = .ok (.aload_n 1, 1) := by decide +kernel
theorem dL_law_570 : decode cL_law 570 = .ok (.aload_n 0, 1) := by decide +kernel
theorem dL_law_571 : decode cL_law 571 = .ok (.iload_n 3, 1) := by decide +kernel
theorem dL_law_572 : decode cL_law 572 = .ok (.iconst 1, 1) := by decide +kernel
theorem dL_law_573 : decode cL_law 573 = .ok (.iadd, 1) := by decide +kernel
theorem dL_law_574 : decode cL_law 574 = .ok (.iaload, 1) := by decide +kernel
theorem dL_law_575 : decode cL_law 575 = .ok (.aload_n 0, 1) := by decide +kernel
theorem dL_law_576 : decode cL_law 576 = .ok (.iload_n 3, 1) := by decide +kernel
theorem dL_law_577 : decode cL_law 577 = .ok (.iconst 2, 1) := by decide +kernel
theorem dL_law_578 : decode cL_law 578 = .ok (.iadd, 1) := by decide +kernel
theorem dL_law_579 : decode cL_law 579 = .ok (.iaload, 1) := by decide +kernel
theorem dL_law_580 : decode cL_law 580 = .ok (.invokevirtual 85, 3) := by decide +kernel
theorem dL_law_583 : decode cL_law 583 = .ok (.aload_n 2, 1) := by decide +kernel
theorem dL_law_584 : decode cL_law 584 = .ok (.aload_n 0, 1) := by decide +kernel
theorem dL_law_585 : decode cL_law 585 = .ok (.iload_n 3, 1) := by decide +kernel
theorem dL_law_586 : decode cL_law 586 = .ok (.iconst 1, 1) := by decide +kernel
theorem dL_law_587 : decode cL_law 587 = .ok (.iadd, 1) := by decide +kernel
theorem dL_law_588 : decode cL_law 588 = .ok (.iaload, 1) := by decide +kernel
theorem dL_law_589 : decode cL_law 589 = .ok (.aload_n 0, 1) := by decide +kernel
theorem dL_law_590 : decode cL_law 590 = .ok (.iload_n 3, 1) := by decide +kernel
theorem dL_law_591 : decode cL_law 591 = .ok (.iconst 2, 1) := by decide +kernel
theorem dL_law_592 : decode cL_law 592 = .ok (.iadd, 1) := by decide +kernel
theorem dL_law_593 : decode cL_law 593 = .ok (.iaload, 1) := by decide +kernel
theorem dL_law_594 : decode cL_law 594 = .ok (.invokevirtual 88, 3) := by decide +kernel
theorem dL_law_597 : decode cL_law 597 = .ok (.if_icmp .eq 237, 3) := by decide +kernel
theorem dL_law_600 : decode cL_law 600 = .ok (.iconst 0, 1) := by decide +kernel
theorem dL_law_601 : decode cL_law 601 = .ok (.ireturn, 1) := by decide +kernel
theorem dL_law_602 : decode cL_law 602 = .ok (.aload_n 1, 1) := by decide +kernel
theorem dL_law_603 : decode cL_law 603 = .ok (.aload_n 0, 1) := by decide +kernel
theorem dL_law_604 : decode cL_law 604 = .ok (.iload_n 3, 1) := by decide +kernel
theorem dL_law_605 : decode cL_law 605 = .ok (.iconst 1, 1) := by decide +kernel
theorem dL_law_606 : decode cL_law 606 = .ok (.iadd, 1) := by decide +kernel
theorem dL_law_607 : decode cL_law 607 = .ok (.iaload, 1) := by decide +kernel
theorem dL_law_608 : decode cL_law 608 = .ok (.aload_n 0, 1) := by decide +kernel
theorem dL_law_609 : decode cL_law 609 = .ok (.iload_n 3, 1) := by decide +kernel
theorem dL_law_610 : decode cL_law 610 = .ok (.iconst 2, 1) := by decide +kernel
theorem dL_law_611 : decode cL_law 611 = .ok (.iadd, 1) := by decide +kernel
theorem dL_law_612 : decode cL_law 612 = .ok (.iaload, 1) := by decide +kernel
theorem dL_law_613 : decode cL_law 613 = .ok (.invokevirtual 89, 3) := by decide +kernel
theorem dL_law_616 : decode cL_law 616 = .ok (.aload_n 2, 1) := by decide +kernel
theorem dL_law_617 : decode cL_law 617 = .ok (.aload_n 0, 1) := by decide +kernel
theorem dL_law_618 : decode cL_law 618 = .ok (.iload_n 3, 1) := by decide +kernel
theorem dL_law_619 : decode cL_law 619 = .ok (.iconst 1, 1) := by decide +kernel
theorem dL_law_620 : decode cL_law 620 = .ok (.iadd, 1) := by decide +kernel
theorem dL_law_621 : decode cL_law 621 = .ok (.iaload, 1) := by decide +kernel
theorem dL_law_622 : decode cL_law 622 = .ok (.aload_n 0, 1) := by decide +kernel
theorem dL_law_623 : decode cL_law 623 = .ok (.iload_n 3, 1) := by decide +kernel
theorem dL_law_624 : decode cL_law 624 = .ok (.iconst 2, 1) := by decide +kernel
theorem dL_law_625 : decode cL_law 625 = .ok (.iadd, 1) := by decide +kernel
theorem dL_law_626 : decode cL_law 626 = .ok (.iaload, 1) := by decide +kernel
theorem dL_law_627 : decode cL_law 627 = .ok (.invokevirtual 92, 3) := by decide +kernel
theorem dL_law_630 : decode cL_law 630 = .ok (.if_icmp .eq 204, 3) := by decide +kernel
theorem dL_law_633 : decode cL_law 633 = .ok (.iconst 0, 1) := by decide +kernel
theorem dL_law_634 : decode cL_law 634 = .ok (.ireturn, 1) := by decide +kernel
theorem dL_law_635 : decode cL_law 635 = .ok (.aload_n 1, 1) := by decide +kernel
theorem dL_law_636 : decode cL_law 636 = .ok (.aload_n 0, 1) := by decide +kernel
theorem dL_law_637 : decode cL_law 637 = .ok (.iload_n 3, 1) := by decide +kernel
theorem dL_law_638 : decode cL_law 638 = .ok (.iconst 1, 1) := by decide +kernel
theorem dL_law_639 : decode cL_law 639 = .ok (.iadd, 1) := by decide +kernel
theorem dL_law_640 : decode cL_law 640 = .ok (.iaload, 1) := by decide +kernel
theorem dL_law_641 : decode cL_law 641 = .ok (.aload_n 0, 1) := by decide +kernel
theorem dL_law_642 : decode cL_law 642 = .ok (.iload_n 3, 1) := by decide +kernel
theorem dL_law_643 : decode cL_law 643 = .ok (.iconst 2, 1) := by decide +kernel
theorem dL_law_644 : decode cL_law 644 = .ok (.iadd, 1) := by decide +kernel
theorem dL_law_645 : decode cL_law 645 = .ok (.iaload, 1) := by decide +kernel
theorem dL_law_646 : decode cL_law 646 = .ok (.aload_n 0, 1) := by decide +kernel
theorem dL_law_647 : decode cL_law 647 = .ok (.iload_n 3, 1) := by decide +kernel
theorem dL_law_648 : decode cL_law 648 = .ok (.iconst 3, 1) := by decide +kernel
theorem dL_law_649 : decode cL_law 649 = .ok (.iadd, 1) := by decide +kernel
theorem dL_law_650 : decode cL_law 650 = .ok (.iaload, 1) := by decide +kernel
theorem dL_law_651 : decode cL_law 651 = .ok (.invokevirtual 93, 3) := by decide +kernel
theorem dL_law_654 : decode cL_law 654 = .ok (.aload_n 2, 1) := by decide +kernel
theorem dL_law_655 : decode cL_law 655 = .ok (.aload_n 0, 1) := by decide +kernel
theorem dL_law_656 : decode cL_law 656 = .ok (.iload_n 3, 1) := by decide +kernel
theorem dL_law_657 : decode cL_law 657 = .ok (.iconst 1, 1) := by decide +kernel
theorem dL_law_658 : decode cL_law 658 = .ok (.iadd, 1) := by decide +kernel
theorem dL_law_659 : decode cL_law 659 = .ok (.iaload, 1) := by decide +kernel
theorem dL_law_660 : decode cL_law 660 = .ok (.aload_n 0, 1) := by decide +kernel
theorem dL_law_661 : decode cL_law 661 = .ok (.iload_n 3, 1) := by decide +kernel
theorem dL_law_662 : decode cL_law 662 = .ok (.iconst 2, 1) := by decide +kernel
theorem dL_law_663 : decode cL_law 663 = .ok (.iadd, 1) := by decide +kernel
theorem dL_law_664 : decode cL_law 664 = .ok (.iaload, 1) := by decide +kernel
theorem dL_law_665 : decode cL_law 665 = .ok (.aload_n 0, 1) := by decide +kernel
theorem dL_law_666 : decode cL_law 666 = .ok (.iload_n 3, 1) := by decide +kernel
theorem dL_law_667 : decode cL_law 667 = .ok (.iconst 3, 1) := by decide +kernel
theorem dL_law_668 : decode cL_law 668 = .ok (.iadd, 1) := by decide +kernel
theorem dL_law_669 : decode cL_law 669 = .ok (.iaload, 1) := by decide +kernel
theorem dL_law_670 : decode cL_law 670 = .ok (.invokevirtual 96, 3) := by decide +kernel
theorem dL_law_673 : decode cL_law 673 = .ok (.if_icmp .eq 161, 3) := by decide +kernel
theorem dL_law_676 : decode cL_law 676 = .ok (.iconst 0, 1) := by decide +kernel
theorem dL_law_677 : decode cL_law 677 = .ok (.ireturn, 1) := by decide +kernel
theorem dL_law_678 : decode cL_law 678 = .ok (.aload_n 1, 1) := by decide +kernel
theorem dL_law_679 : decode cL_law 679 = .ok (.aload_n 0, 1) := by decide +kernel
theorem dL_law_680 : decode cL_law 680 = .ok (.iload_n 3, 1) := by decide +kernel
theorem dL_law_681 : decode cL_law 681 = .ok (.iconst 1, 1) := by decide +kernel
theorem dL_law_682 : decode cL_law 682 = .ok (.iadd, 1) := by decide +kernel
theorem dL_law_683 : decode cL_law 683 = .ok (.iaload, 1) := by decide +kernel
theorem dL_law_684 : decode cL_law 684 = .ok (.aload_n 0, 1) := by decide +kernel
theorem dL_law_685 : decode cL_law 685 = .ok (.iload_n 3, 1) := by decide +kernel
theorem dL_law_686 : decode cL_law 686 = .ok (.iconst 2, 1) := by decide +kernel
theorem dL_law_687 : decode cL_law 687 = .ok (.iadd, 1) := by decide +kernel
theorem dL_law_688 : decode cL_law 688 = .ok (.iaload, 1) := by decide +kernel
theorem dL_law_689 : decode cL_law 689 = .ok (.aload_n 0, 1) := by decide +kernel
theorem dL_law_690 : decode cL_law 690 = .ok (.iload_n 3, 1) := by decide +kernel
theorem dL_law_691 : decode cL_law 691 = .ok (.iconst 3, 1) := by decide +kernel
theorem dL_law_692 : decode cL_law 692 = .ok (.iadd, 1) := by decide +kernel
theorem dL_law_693 : decode cL_law 693 = .ok (.iaload, 1) := by decide +kernel
theorem dL_law_694 : decode cL_law 694 = .ok (.invokevirtual 97, 3) := by decide +kernel
theorem dL_law_697 : decode cL_law 697 = .ok (.aload_n 2, 1) := by decide +kernel
theorem dL_law_698 : decode cL_law 698 = .ok (.aload_n 0, 1) := by decide +kernel
theorem dL_law_699 : decode cL_law 699 = .ok (.iload_n 3, 1) := by decide +kernel
theorem dL_law_700 : decode cL_law 700 = .ok (.iconst 1, 1) := by decide +kernel
theorem dL_law_701 : decode cL_law 701 = .ok (.iadd, 1) := by decide +kernel
theorem dL_law_702 : decode cL_law 702 = .ok (.iaload, 1) := by decide +kernel
theorem dL_law_703 : decode cL_law 703 = .ok (.aload_n 0, 1) := by decide +kernel
theorem dL_law_704 : decode cL_law 704 = .ok (.iload_n 3, 1) := by decide +kernel
theorem dL_law_705 : decode cL_law 705 = .ok (.iconst 2, 1) := by decide +kernel
theorem dL_law_706 : decode cL_law 706 = .ok (.iadd, 1) := by decide +kernel
theorem dL_law_707 : decode cL_law 707 = .ok (.iaload, 1) := by decide +kernel
theorem dL_law_708 : decode cL_law 708 = .ok (.aload_n 0, 1) := by decide +kernel
theorem dL_law_709 : decode cL_law 709 = .ok (.iload_n 3, 1) := by decide +kernel
theorem dL_law_710 : decode cL_law 710 = .ok (.iconst 3, 1) := by decide +kernel
theorem dL_law_711 : decode cL_law 711 = .ok (.iadd, 1) := by decide +kernel
theorem dL_law_712 : decode cL_law 712 = .ok (.iaload, 1) := by decide +kernel
theorem dL_law_713 : decode cL_law 713 = .ok (.invokevirtual 100, 3) := by decide +kernel
theorem dL_law_716 : decode cL_law 716 = .ok (.if_icmp .eq 118, 3) := by decide +kernel
theorem dL_law_719 : decode cL_law 719 = .ok (.iconst 0, 1) := by decide +kernel
theorem dL_law_720 : decode cL_law 720 = .ok (.ireturn, 1) := by decide +kernel
theorem dL_law_721 : decode cL_law 721 = .ok (.aload_n 1, 1) := by decide +kernel
theorem dL_law_722 : decode cL_law 722 = .ok (.aload_n 0, 1) := by decide +kernel
theorem dL_law_723 : decode cL_law 723 = .ok (.iload_n 3, 1) := by decide +kernel
theorem dL_law_724 : decode cL_law 724 = .ok (.iconst 1, 1) := by decide +kernel
theorem dL_law_725 : decode cL_law 725 = .ok (.iadd, 1) := by decide +kernel
theorem dL_law_726 : decode cL_law 726 = .ok (.iaload, 1) := by decide +kernel
theorem dL_law_727 : decode cL_law 727 = .ok (.aload_n 0, 1) := by decide +kernel
theorem dL_law_728 : decode cL_law 728 = .ok (.iload_n 3, 1) := by decide +kernel
theorem dL_law_729 : decode cL_law 729 = .ok (.iconst 2, 1) := by decide +kernel
theorem dL_law_730 : decode cL_law 730 = .ok (.iadd, 1) := by decide +kernel
theorem dL_law_731 : decode cL_law 731 = .ok (.iaload, 1) := by decide +kernel
theorem dL_law_732 : decode cL_law 732 = .ok (.invokevirtual 101, 3) := by decide +kernel
theorem dL_law_735 : decode cL_law 735 = .ok (.aload_n 2, 1) := by decide +kernel
theorem dL_law_736 : decode cL_law 736 = .ok (.aload_n 0, 1) := by decide +kernel
theorem dL_law_737 : decode cL_law 737 = .ok (.iload_n 3, 1) := by decide +kernel
theorem dL_law_738 : decode cL_law 738 = .ok (.iconst 1, 1) := by decide +kernel
theorem dL_law_739 : decode cL_law 739 = .ok (.iadd, 1) := by decide +kernel
theorem dL_law_740 : decode cL_law 740 = .ok (.iaload, 1) := by decide +kernel
theorem dL_law_741 : decode cL_law 741 = .ok (.aload_n 0, 1) := by decide +kernel
theorem dL_law_742 : decode cL_law 742 = .ok (.iload_n 3, 1) := by decide +kernel
theorem dL_law_743 : decode cL_law 743 = .ok (.iconst 2, 1) := by decide +kernel
theorem dL_law_744 : decode cL_law 744 = .ok (.iadd, 1) := by decide +kernel
theorem dL_law_745 : decode cL_law 745 = .ok (.iaload, 1) := by decide +kernel
theorem dL_law_746 : decode cL_law 746 = .ok (.invokevirtual 104, 3) := by decide +kernel
theorem dL_law_749 : decode cL_law 749 = .ok (.if_icmp .eq 85, 3) := by decide +kernel
theorem dL_law_752 : decode cL_law 752 = .ok (.iconst 0, 1) := by decide +kernel
theorem dL_law_753 : decode cL_law 753 = .ok (.ireturn, 1) := by decide +kernel
theorem dL_law_754 : decode cL_law 754 = .ok (.aload_n 1, 1) := by decide +kernel
theorem dL_law_755 : decode cL_law 755 = .ok (.aload_n 0, 1) := by decide +kernel
theorem dL_law_756 : decode cL_law 756 = .ok (.iload_n 3, 1) := by decide +kernel
theorem dL_law_757 : decode cL_law 757 = .ok (.iconst 1, 1) := by decide +kernel
theorem dL_law_758 : decode cL_law 758 = .ok (.iadd, 1) := by decide +kernel
theorem dL_law_759 : decode cL_law 759 = .ok (.iaload, 1) := by decide +kernel
theorem dL_law_760 : decode cL_law 760 = .ok (.aload_n 0, 1) := by decide +kernel
theorem dL_law_761 : decode cL_law 761 = .ok (.iload_n 3, 1) := by decide +kernel
theorem dL_law_762 : decode cL_law 762 = .ok (.iconst 2, 1) := by decide +kernel
theorem dL_law_763 : decode cL_law 763 = .ok (.iadd, 1) := by decide +kernel
theorem dL_law_764 : decode cL_law 764 = .ok (.iaload, 1) := by decide +kernel
theorem dL_law_765 : decode cL_law 765 = .ok (.aload_n 0, 1) := by decide +kernel
theorem dL_law_766 : decode cL_law 766 = .ok (.iload_n 3, 1) := by decide +kernel
theorem dL_law_767 : decode cL_law 767 = .ok (.iconst 3, 1) := by decide +kernel
theorem dL_law_768 : decode cL_law 768 = .ok (.iadd, 1) := by decide +kernel
theorem dL_law_769 : decode cL_law 769 = .ok (.iaload, 1) := by decide +kernel
theorem dL_law_770 : decode cL_law 770 = .ok (.invokevirtual 105, 3) := by decide +kernel
theorem dL_law_773 : decode cL_law 773 = .ok (.aload_n 2, 1) := by decide +kernel
theorem dL_law_774 : decode cL_law 774 = .ok (.aload_n 0, 1) := by decide +kernel
theorem dL_law_775 : decode cL_law 775 = .ok (.iload_n 3, 1) := by decide +kernel
theorem dL_law_776 : decode cL_law 776 = .ok (.iconst 1, 1) := by decide +kernel
theorem dL_law_777 : decode cL_law 777 = .ok (.iadd, 1) := by decide +kernel
theorem dL_law_778 : decode cL_law 778 = .ok (.iaload, 1) := by decide +kernel
theorem dL_law_779 : decode cL_law 779 = .ok (.aload_n 0, 1) := by decide +kernel
theorem dL_law_780 : decode cL_law 780 = .ok (.iload_n 3, 1) := by decide +kernel
theorem dL_law_781 : decode cL_law 781 = .ok (.iconst 2, 1) := by decide +kernel
theorem dL_law_782 : decode cL_law 782 = .ok (.iadd, 1) := by decide +kernel
theorem dL_law_783 : decode cL_law 783 = .ok (.iaload, 1) := by decide +kernel
theorem dL_law_784 : decode cL_law 784 = .ok (.aload_n 0, 1) := by decide +kernel
theorem dL_law_785 : decode cL_law 785 = .ok (.iload_n 3, 1) := by decide +kernel
theorem dL_law_786 : decode cL_law 786 = .ok (.iconst 3, 1) := by decide +kernel
theorem dL_law_787 : decode cL_law 787 = .ok (.iadd, 1) := by decide +kernel
theorem dL_law_788 : decode cL_law 788 = .ok (.iaload, 1) := by decide +kernel
theorem dL_law_789 : decode cL_law 789 = .ok (.invokevirtual 108, 3) := by decide +kernel
theorem dL_law_792 : decode cL_law 792 = .ok (.if_icmp .eq 42, 3) := by decide +kernel
theorem dL_law_795 : decode cL_law 795 = .ok (.iconst 0, 1) := by decide +kernel
theorem dL_law_796 : decode cL_law 796 = .ok (.ireturn, 1) := by decide +kernel
theorem dL_law_797 : decode cL_law 797 = .ok (.aload_n 1, 1) := by decide +kernel
theorem dL_law_798 : decode cL_law 798 = .ok (.aload_n 0, 1) := by decide +kernel
theorem dL_law_799 : decode cL_law 799 = .ok (.iload_n 3, 1) := by decide +kernel
theorem dL_law_800 : decode cL_law 800 = .ok (.iconst 1, 1) := by decide +kernel
theorem dL_law_801 : decode cL_law 801 = .ok (.iadd, 1) := by decide +kernel
theorem dL_law_802 : decode cL_law 802 = .ok (.iaload, 1) := by decide +kernel
theorem dL_law_803 : decode cL_law 803 = .ok (.invokevirtual 109, 3) := by decide +kernel
theorem dL_law_806 : decode cL_law 806 = .ok (.aload_n 2, 1) := by decide +kernel
theorem dL_law_807 : decode cL_law 807 = .ok (.aload_n 0, 1) := by decide +kernel
theorem dL_law_808 : decode cL_law 808 = .ok (.iload_n 3, 1) := by decide +kernel
theorem dL_law_809 : decode cL_law 809 = .ok (.iconst 1, 1) := by decide +kernel
theorem dL_law_810 : decode cL_law 810 = .ok (.iadd, 1) := by decide +kernel
theorem dL_law_811 : decode cL_law 811 = .ok (.iaload, 1) := by decide +kernel
theorem dL_law_812 : decode cL_law 812 = .ok (.invokevirtual 112, 3) := by decide +kernel
theorem dL_law_815 : decode cL_law 815 = .ok (.if_icmp .eq 19, 3) := by decide +kernel
theorem dL_law_818 : decode cL_law 818 = .ok (.iconst 0, 1) := by decide +kernel
theorem dL_law_819 : decode cL_law 819 = .ok (.ireturn, 1) := by decide +kernel
theorem dL_law_820 : decode cL_law 820 = .ok (.aload_n 1, 1) := by decide +kernel
theorem dL_law_821 : decode cL_law 821 = .ok (.invokevirtual 113, 3) := by decide +kernel
theorem dL_law_824 : decode cL_law 824 = .ok (.aload_n 2, 1) := by decide +kernel
theorem dL_law_825 : decode cL_law 825 = .ok (.invokevirtual 117, 3) := by decide +kernel
theorem dL_law_828 : decode cL_law 828 = .ok (.lcmp, 1) := by decide +kernel
theorem dL_law_829 : decode cL_law 829 = .ok (.ifCond .eq 5, 3) := by decide +kernel
theorem dL_law_832 : decode cL_law 832 = .ok (.iconst 0, 1) := by decide +kernel
theorem dL_law_833 : decode cL_law 833 = .ok (.ireturn, 1) := by decide +kernel
theorem dL_law_834 : decode cL_law 834 = .ok (.iinc 3 4, 3) := by decide +kernel
theorem dL_law_837 : decode cL_law 837 = .ok (.goto (-819), 3) := by decide +kernel
theorem dL_law_840 : decode cL_law 840 = .ok (.iconst 1, 1) := by decide +kernel
theorem dL_law_841 : decode cL_law 841 = .ok (.ireturn, 1) := by decide +kernel
end
section
/-! THE PURE HEAP: ints (position, index), longs (position, index), references to trees (position, index: the versions 1 i, the draft 0 8, the spare tree 0 12); the layout of positions is static -/
abbrev tv_AH : Type := (Nat → Nat → Int32) × (Nat → Nat → Int64) × (Nat → Nat → Fin 22)
def tv_tp (j : Fin 22) : Nat := 16 * (j.val + 1)
def tv_wI (h : tv_AH) (q i : Nat) (v : Int32) : tv_AH := (fun a b => if a = q ∧ b = i then v else h.1 a b, h.2)
def tv_wJ (h : tv_AH) (q i : Nat) (v : Int64) : tv_AH := (h.1, fun a b => if a = q ∧ b = i then v else h.2.1 a b, h.2.2)
def tv_wR (h : tv_AH) (q i : Nat) (j : Fin 22) : tv_AH := (h.1, h.2.1, fun a b => if a = q ∧ b = i then j else h.2.2 a b)
def tv_cp (h : tv_AH) (q0 sp q1 dp n : Nat) : tv_AH := (fun a => if a = q1 then va_cpy (h.1 q0) (h.1 q1) sp dp n else h.1 a, h.2)
/-- the class of the object at a position -/
def tv_ko (q : Nat) : Option Nat := if q = 0 then some 2 else if q = 2 then some 0 else if q = 400 then some 3 else if q % 16 = 0 ∧ 16 ≤ q ∧ q < 368 then some 1 else none
def tv_kt (k : Nat) : Option (Nat × Nat) := if 1 ≤ k ∧ k ≤ 4 then some (0, 24) else if 6 ≤ k ∧ k ≤ 12 then some (0, 96) else if k = 13 then some (1, 96) else none
def tv_km (k : Nat) : Option (Nat × Nat) := match k with
  | 1 => some (0, 60)
  | 10 => some (0, 22)
  | 11 => some (0, 528)
  | 12 => some (0, 528)
  | 13 => some (0, 22)
  | 14 => some (0, 2112)
  | 15 => some (0, 2112)
  | 16 => some (0, 2112)
  | 17 => some (0, 2112)
  | 18 => some (0, 2112)
  | 19 => some (2, 2112)
  | 20 => some (0, 96)
  | 21 => some (0, 96)
  | 22 => some (0, 96)
  | 25 => some (0, 24)
  | 26 => some (0, 24)
  | 29 => some (0, 24)
  | 30 => some (0, 24)
  | 31 => some (0, 96)
  | 32 => some (2, 96)
  | _ => none
/-- an array of numbers at a position: its type (0 int, 1 long, 2 boolean) and length -/
def tv_ka (q : Nat) : Option (Nat × Nat) := if q = 3 ∨ q = 4 ∨ q = 5 then some (0, 60) else if 16 ≤ q ∧ q < 368 then tv_kt (q % 16) else if 400 < q then tv_km (q - 400) else none
def tv_nf (ci : Nat) : Nat := match ci with
  | 0 => 6
  | 1 => 15
  | 2 => 13
  | _ => 34
/-- a field's kind: 0 int, 1 boolean, 2 long, 3 a reference that never changes, 4 a reference to a tree -/
def tv_fts (ci : Nat) : List Nat := match ci with
  | 0 => [3, 0, 1, 0, 3, 3]
  | 1 => [0, 3, 3, 3, 3, 0, 3, 3, 3, 3, 3, 3, 3, 3, 0]
  | 2 => [3, 0, 3, 0, 0, 0, 0, 0, 4, 1, 0, 0, 4]
  | _ => [0, 3, 0, 0, 0, 1, 0, 0, 0, 0, 3, 3, 3, 3, 3, 3, 3, 3, 3, 3, 3, 3, 3, 0, 0, 3, 3, 1, 0, 3, 3, 3, 3, 2]
def tv_ft (ci k : Nat) : Nat := (tv_fts ci).getD k 9
def tv_sr (ci q k : Nat) : Nat := if ci = 0 then (if k = 0 then 3 else k) else if ci = 2 then (if k = 0 then 1 else 2) else q + k
def tv_fv (ad : Nat → Nat) (h : tv_AH) (ci q k : Nat) : Value := if tv_ft ci k = 2 then .long (h.2.1 q k) else if tv_ft ci k = 3 then .ref (ad (tv_sr ci q k)) else if tv_ft ci k = 4 then .ref (ad (tv_tp (h.2.2 q k))) else .int (h.1 q k)
def tv_ar (cs : Nat → ClassId) (h : tv_AH) (q : Nat) (z : Nat × Nat) : va_E := if z.1 = 1 then .inl (cs 1, z.2, .inr (.inl (h.2.1 q))) else if z.1 = 2 then .inl (cs 2, z.2, .inl (h.1 q)) else .inl (cs 0, z.2, .inl (h.1 q))
def tv_vs (ad : Nat → Nat) (cs : Nat → ClassId) (h : tv_AH) : va_E := .inl (cs 3, 20, .inr (.inr (.inr (.inr (fun i => some (ad (tv_tp (h.2.2 1 i))))))))
def tv_ce (ad : Nat → Nat) (cs : Nat → ClassId) (h : tv_AH) (q : Nat) : va_E := match tv_ko q with
  | some ci => .inr (ci, (List.range (tv_nf ci)).map (tv_fv ad h ci q))
  | none => match tv_ka q with
    | some z => tv_ar cs h q z
    | none => if q = 1 then tv_vs ad cs h else .inr (9, [])
def tv_lv (q : Nat) : Bool := (tv_ko q).isSome || (tv_ka q).isSome || q == 1
def tv_live : List Nat := (List.range 434).filter tv_lv
def tv_enc (ad : Nat → Nat) (cs : Nat → ClassId) (h : tv_AH) : va_W := tv_live.map (fun q => (ad q, tv_ce ad cs h q))
def tv_T (ci : Nat) : u_T := match ci with
  | 0 => TX0
  | 1 => TX1
  | 2 => TX2
  | _ => TX3
def tv_R (ci : Nat) : String := match ci with
  | 0 => RX0
  | 1 => RX1
  | 2 => RX2
  | _ => RX3
def tv_ty (ci : Nat) : Nat → FieldType := match ci with
  | 0 => tyX0
  | 1 => tyX1
  | 2 => tyX2
  | _ => tyX3
def tv_cl : List vw_C := [(RX0, TX0, 6), (RX1, TX1, 15), (RX2, TX2, 13), (RX3, TX3, 34)]
def tv_tys (cs : Nat → ClassId) : List (ClassId × FieldType) := [(cs 0, .int), (cs 1, .long), (cs 2, .boolean), (cs 3, .object RX1)]
def tv_ws : List Cond := lw_tbl.filter goodWord
theorem tv_ws_in {w : Cond} (h : w ∈ lw_tbl) (g : goodWord w = true) : w ∈ tv_ws := List.mem_filter.mpr ⟨h, g⟩
theorem tv_ws_good {w : Cond} (h : w ∈ tv_ws) : (w.onTables && w.keeps) = true ∨ ∃ ty, w = .arrayClass ty := good_of_word (List.mem_filter.mp h).2
theorem tv_in0 : ∀ w ∈ u_ws RX0 TX0 6, w ∈ tv_ws := by decide +kernel
theorem tv_in1 : ∀ w ∈ u_ws RX1 TX1 15, w ∈ tv_ws := by decide +kernel
theorem tv_in2 : ∀ w ∈ u_ws RX2 TX2 13, w ∈ tv_ws := by decide +kernel
theorem tv_in3 : ∀ w ∈ u_ws RX3 TX3 34, w ∈ tv_ws := by decide +kernel
theorem tv_inN (ci : Nat) (h : ci < 4) : (∀ w ∈ u_ws (tv_R ci) (tv_T ci) (tv_nf ci), w ∈ tv_ws) ∧ tv_cl[ci]? = some (tv_R ci, tv_T ci, tv_nf ci) ∧ (∀ k, k < tv_nf ci → parseFieldDescriptor (tv_T ci k).2.2.1 = some (tv_ty ci k)) ∧ (∀ a, a < tv_nf ci → ∀ b, b < tv_nf ci → a ≠ b → (tv_T ci a).2.1 ≠ (tv_T ci b).2.1) := by
  match ci, h with
  | 0, _ => exact ⟨tv_in0, rfl, tyX0_ok, nmX0⟩
  | 1, _ => exact ⟨tv_in1, rfl, tyX1_ok, nmX1⟩
  | 2, _ => exact ⟨tv_in2, rfl, tyX2_ok, nmX2⟩
  | 3, _ => exact ⟨tv_in3, rfl, tyX3_ok, nmX3⟩
theorem tv_ko4 {q ci : Nat} (h : tv_ko q = some ci) : ci < 4 ∧ q ≤ 400 := by
  unfold tv_ko at h
  split at h
  · cases h; omega
  · split at h
    · cases h; omega
    · split at h
      · cases h; omega
      · split at h
        · cases h; omega
        · cases h
theorem tv_koL {q ci : Nat} (h : tv_ko q = some ci) : q ∈ tv_live := by
  refine List.mem_filter.mpr ⟨List.mem_range.mpr ?_, ?_⟩
  · have := (tv_ko4 h).2; omega
  · unfold tv_lv; rw [h]; rfl
theorem tv_km_lt {k : Nat} {z : Nat × Nat} (h : tv_km k = some z) : k < 34 := by
  rcases Nat.lt_or_ge k 34 with q | q
  · exact q
  · exfalso
    unfold tv_km at h
    split at h <;> first | omega | cases h
theorem tv_kaL {q : Nat} {z : Nat × Nat} (h : tv_ka q = some z) : q ∈ tv_live := by
  refine List.mem_filter.mpr ⟨List.mem_range.mpr ?_, ?_⟩
  · unfold tv_ka at h
    split at h
    · omega
    · split at h
      · omega
      · split at h
        · have := tv_km_lt h; omega
        · cases h
  · unfold tv_lv; rw [h]; simp
theorem tv_ka_ko {q : Nat} {z : Nat × Nat} (h : tv_ka q = some z) : tv_ko q = none := by
  cases hk : tv_ko q with
  | none => rfl
  | some ci =>
    exfalso
    unfold tv_ko at hk
    unfold tv_ka at h
    split at hk
    · subst_vars; simp at h
    · split at hk
      · subst_vars; simp at h
      · split at hk
        · subst_vars; simp at h
        · split at hk
          · rename_i h1
            rw [if_neg (by omega), if_pos (by omega), h1.1] at h
            simp [tv_kt] at h
          · cases hk
theorem tv_nodup : tv_live.Nodup := List.Nodup.sublist List.filter_sublist List.nodup_range
theorem tv_at {ad : Nat → Nat} {cs : Nat → ClassId} {h : tv_AH} {q : Nat} (hq : q ∈ tv_live) : ∃ n : Nat, tv_live[n]? = some q ∧ (tv_enc ad cs h)[n]? = some (ad q, tv_ce ad cs h q) := by
  obtain ⟨n, hn⟩ := List.getElem?_of_mem hq
  exact ⟨n, hn, by simp [tv_enc, hn]⟩
theorem tv_set {ad : Nat → Nat} {cs : Nat → ClassId} {h h' : tv_AH} {q n : Nat} (hn : tv_live[n]? = some q) (hne : ∀ q' ∈ tv_live, q' ≠ q → tv_ce ad cs h' q' = tv_ce ad cs h q') : (tv_enc ad cs h).set n (ad q, tv_ce ad cs h' q) = tv_enc ad cs h' := by
  apply List.ext_getElem?
  intro i
  rw [List.getElem?_set]
  have hlt : n < tv_live.length := (List.getElem?_eq_some_iff.mp hn).1
  split
  · rename_i e
    subst e
    simp only [tv_enc, List.length_map, hlt, if_true, List.getElem?_map, hn, Option.map_some]
  · rename_i e
    simp only [tv_enc, List.getElem?_map]
    cases hi : tv_live[i]? with
    | none => rfl
    | some q' =>
      have hq' : q' ≠ q := by
        intro e2
        subst e2
        exact e ((List.getElem?_inj hlt tv_nodup).mp (hn.trans hi.symm))
      simp only [Option.map_some]
      rw [hne q' (List.mem_of_getElem? hi) hq']
/-- the addresses of the live positions differ, and lie in A -/
def tv_ok (ad : Nat → Nat) (A : Nat → Prop) : Prop := (∀ q ∈ tv_live, ∀ q' ∈ tv_live, ad q = ad q' → q = q') ∧ ∀ q ∈ tv_live, A (ad q)
theorem tv_D {ad : Nat → Nat} {cs : Nat → ClassId} {h : tv_AH} {A : Nat → Prop} (k : tv_ok ad A) : va_D A (tv_enc ad cs h) := by
  refine ⟨fun i j p q hi hj e => ?_, fun i q hi => ?_⟩
  · simp only [tv_enc, List.getElem?_map] at hi hj
    cases h1 : tv_live[i]? with
    | none => rw [h1] at hi; cases hi
    | some a =>
      cases h2 : tv_live[j]? with
      | none => rw [h2] at hj; cases hj
      | some b =>
        rw [h1] at hi
        rw [h2] at hj
        simp only [Option.map_some, Option.some.injEq] at hi hj
        subst hi
        subst hj
        have e2 := k.1 a (List.mem_of_getElem? h1) b (List.mem_of_getElem? h2) e
        subst e2
        exact (List.getElem?_inj (List.getElem?_eq_some_iff.mp h1).1 tv_nodup).mp (h1.trans h2.symm)
  · simp only [tv_enc, List.getElem?_map] at hi
    cases h1 : tv_live[i]? with
    | none => rw [h1] at hi; cases hi
    | some a =>
      rw [h1] at hi
      simp only [Option.map_some, Option.some.injEq] at hi
      subst hi
      exact k.2 a (List.mem_of_getElem? h1)
theorem tv_ko_tp (j : Fin 22) : tv_ko (tv_tp j) = some 1 := by
  have := j.isLt
  unfold tv_ko tv_tp
  rw [if_neg (by omega), if_neg (by omega), if_neg (by omega), if_pos (by omega)]
theorem tv_ka_tp (j : Fin 22) (k : Nat) (hk : k < 16) : tv_ka (tv_tp j + k) = tv_kt k := by
  have := j.isLt
  unfold tv_ka tv_tp
  rw [if_neg (by omega), if_pos (by omega)]
  congr 1
  omega
theorem tv_tp_inj {i j : Fin 22} (h : tv_tp i = tv_tp j) : i = j := by
  unfold tv_tp at h
  exact Fin.ext (by omega)
theorem tv_ce_o {ad : Nat → Nat} {cs : Nat → ClassId} {h : tv_AH} {q ci : Nat} (k : tv_ko q = some ci) : tv_ce ad cs h q = .inr (ci, (List.range (tv_nf ci)).map (tv_fv ad h ci q)) := by
  unfold tv_ce; rw [k]
theorem tv_ce_a {ad : Nat → Nat} {cs : Nat → ClassId} {h : tv_AH} {q : Nat} {z : Nat × Nat} (k : tv_ka q = some z) : tv_ce ad cs h q = tv_ar cs h q z := by
  unfold tv_ce; rw [tv_ka_ko k, k]
theorem tv_ce_v {ad : Nat → Nat} {cs : Nat → ClassId} {h : tv_AH} : tv_ce ad cs h 1 = tv_vs ad cs h := rfl
theorem tv_ce_neR {ad : Nat → Nat} {cs : Nat → ClassId} {h : tv_AH} {q q' i : Nat} {v : Fin 22} (hne : q' ≠ q) (hh : ∀ {h h' : tv_AH} {q : Nat}, h'.1 q = h.1 q → h'.2.1 q = h.2.1 q → h'.2.2 q = h.2.2 q → tv_ce ad cs h' q = tv_ce ad cs h q) : tv_ce ad cs (tv_wR h q i v) q' = tv_ce ad cs h q' := by
  refine hh rfl rfl ?_
  funext b
  simp [tv_wR, hne]
theorem tv_1L : 1 ∈ tv_live := List.mem_filter.mpr ⟨List.mem_range.mpr (by omega), rfl⟩
/-- a cell is what its own numbers are -/
theorem tv_ce_eq {ad : Nat → Nat} {cs : Nat → ClassId} {h h' : tv_AH} {q : Nat} (h1 : h'.1 q = h.1 q) (h2 : h'.2.1 q = h.2.1 q) (h3 : h'.2.2 q = h.2.2 q) : tv_ce ad cs h' q = tv_ce ad cs h q := by
  have e : ∀ ci, tv_fv ad h' ci q = tv_fv ad h ci q := by
    intro ci
    funext k
    unfold tv_fv
    rw [h1, h2, h3]
  by_cases hq : q = 1
  · subst hq
    rw [tv_ce_v, tv_ce_v]
    unfold tv_vs
    rw [h3]
  · cases hk : tv_ko q with
    | some ci => rw [tv_ce_o hk, tv_ce_o hk, e]
    | none =>
      cases ha : tv_ka q with
      | some z => rw [tv_ce_a ha, tv_ce_a ha]; unfold tv_ar; rw [h1, h2]
      | none =>
        unfold tv_ce
        rw [hk, ha]
        simp only [hq, if_false]
theorem tv_ce_ne {ad : Nat → Nat} {cs : Nat → ClassId} {h : tv_AH} {q q' i : Nat} {v : Int32} (hne : q' ≠ q) : tv_ce ad cs (tv_wI h q i v) q' = tv_ce ad cs h q' := by
  refine tv_ce_eq ?_ rfl rfl
  funext b
  simp [tv_wI, hne]
theorem tv_ce_neJ {ad : Nat → Nat} {cs : Nat → ClassId} {h : tv_AH} {q q' i : Nat} {v : Int64} (hne : q' ≠ q) : tv_ce ad cs (tv_wJ h q i v) q' = tv_ce ad cs h q' := by
  refine tv_ce_eq rfl ?_ rfl
  funext b
  simp [tv_wJ, hne]
theorem tv_ce_neC {ad : Nat → Nat} {cs : Nat → ClassId} {h : tv_AH} {q0 q1 q' sp dp n : Nat} (hne : q' ≠ q1) : tv_ce ad cs (tv_cp h q0 sp q1 dp n) q' = tv_ce ad cs h q' := by
  refine tv_ce_eq ?_ rfl rfl
  simp [tv_cp, hne]
end
section
/-! THE RULES OF THE PURE MACHINE: what holds of the machine at a pc, from what holds at the next -/
def tv_nr (rt : Option FieldType) (v : Int32) : Prop := ∃ ty, rt = some ty ∧ narrow ty (.int v) = .int v
def tv_rm (d : Nat) : Room := { frames := d, cells := 0, slots := 0, locals := 64 * d }
def tv_Cx (ad : Nat → Nat) (own : String) (cc : ByteArray) (nL : Nat) (rt : Option FieldType) (d : Nat) (post : Option Value → tv_AH → Prop) (p : Program) (l : Launch) (e : Env) (R : Room) (s : State) (m : MethodId) (args : Array Value) (below : List Frame) (meth : Method) (c : Code) (cells slots : Nat) (Q : State → Prop) (D : va_G) (cs : Nat → ClassId) (A : Nat → Prop) : Prop :=
  p.tables.exec = Jvm.exec ∧ c.code = cc ∧ c.maxLocals = nL ∧ s.vm.findClass own = some m.cls ∧ (∀ w ∈ tv_ws, w.before args s = true) ∧ va_K D tv_cl (tv_tys cs) s ∧ tv_ok ad A ∧ (d + 1 ≤ R.frames ∧ 64 * (d + 1) ≤ R.locals ∧ cells ≤ R.cells ∧ slots ≤ R.slots) ∧
  ∀ (h : tv_AH) (H : Heap) (locs : List Loc) (pc : Nat) (ls : Array Slot), va_P D tv_cl (tv_enc ad cs h) H → va_S A s.heap H locs →
    (∀ v : Int32, decode cc pc = .ok (.ireturn, 1) → tv_nr rt v → post (some (.int v)) h → W p l e R s m args below meth c H locs cells slots Q (F0 m pc ls [.int v])) ∧
    (∀ v : Int64, decode cc pc = .ok (.lreturn, 1) → rt = some .long → post (some (.long v)) h → W p l e R s m args below meth c H locs cells slots Q (F0 m pc ls [.long v])) ∧
    (decode cc pc = .ok (.return_, 1) → rt = none → post none h → W p l e R s m args below meth c H locs cells slots Q (F0 m pc ls []))
/-- at this pc, with these locals, this stack and this pure heap, the machine comes to an end that 'post' speaks of -/
def tv_Wp (ad : Nat → Nat) (own : String) (cc : ByteArray) (nL : Nat) (rt : Option FieldType) (d : Nat) (post : Option Value → tv_AH → Prop) (pc : Nat) (lv : List (Nat × Value)) (st : List Value) (h : tv_AH) : Prop :=
  ∀ (p : Program) (l : Launch) (e : Env) (R : Room) (s : State) (m : MethodId) (args : Array Value) (below : List Frame) (meth : Method) (c : Code) (cells slots : Nat) (Q : State → Prop) (D : va_G) (cs : Nat → ClassId) (A : Nat → Prop), tv_Cx ad own cc nL rt d post p l e R s m args below meth c cells slots Q D cs A →
  ∀ (H : Heap) (locs : List Loc) (ls : Array Slot), va_P D tv_cl (tv_enc ad cs h) H → va_S A s.heap H locs → lv_has ls nL lv → W p l e R s m args below meth c H locs cells slots Q (F0 m pc ls st)
/-- a field's link: own class, place in its pool, class, slot, kind -/
def tv_F (own : String) (idx ci k t : Nat) : Prop := Cond.fieldLink own idx (tv_T ci k).1 (tv_T ci k).2.1 (tv_T ci k).2.2.1 ∈ tv_ws ∧ k < tv_nf ci ∧ tv_ft ci k = t
def tv_nm (y : MethodName) (n : Nat) : Prop := y.cls ≠ "java/lang/invoke/MethodHandle" ∧ y.cls ≠ "java/lang/invoke/VarHandle" ∧ (parseMethodDescriptor y.desc).map (fun d => d.parameters.length) = some n
def tv_V (own : String) (idx : Nat) (y : MethodName) (ci n : Nat) : Prop := (Cond.methodLink own idx y ∈ tv_ws ∧ Cond.instanceMethod y ∈ tv_ws ∧ Cond.selects (tv_R ci) y y ∈ tv_ws ∧ Cond.initialized (tv_R ci) ∈ tv_ws) ∧ y.cls = tv_R ci ∧ tv_nm y n
def tv_S (own : String) (idx : Nat) (y : MethodName) (n : Nat) : Prop := (Cond.methodLink own idx y ∈ tv_ws ∧ Cond.static y ∈ tv_ws ∧ Cond.initialized own ∈ tv_ws) ∧ y.cls = own ∧ tv_nm y n
def tv_Q (ad : Nat → Nat) (D : va_G) (cs : Nat → ClassId) (A : Nat → Prop) (post : Option Value → tv_AH → Prop) : Array Value → State → Outcome → State → Prop := fun _ st oc t => (∃ (r : Option Value) (h : tv_AH), oc = .returned r ∧ post r h ∧ va_P D tv_cl (tv_enc ad cs h) t.heap) ∧ va_F A st t
/-- a call of y with these arguments at this pure heap comes back, with 'post' -/
def tv_Call (ad : Nat → Nat) (d : Nat) (y : MethodName) (a : List Value) (h : tv_AH) (post : Option Value → tv_AH → Prop) : Prop :=
  ∃ (cc : ByteArray) (nL : Nat) (rt : Option FieldType), Cond.code y cc nL rt ∈ tv_ws ∧ nL ≤ 30 ∧ ∀ (post' : Option Value → tv_AH → Prop), (∀ r h', post r h' → post' r h') → ∀ (l : Launch) (D : va_G) (cs : Nat → ClassId) (A : Nat → Prop), tv_ok ad A → 
    Met l y (.code y cc nL rt :: tv_ws) (tv_rm d) (va_Pc a (fun U => va_P D tv_cl (tv_enc ad cs h) U.heap ∧ va_K D tv_cl (tv_tys cs) U)) (tv_Q ad D cs A post') 0 0 A
theorem tv_Call.mono {ad : Nat → Nat} {d : Nat} {y : MethodName} {a : List Value} {h : tv_AH} {P P' : Option Value → tv_AH → Prop} (k : tv_Call ad d y a h P) (i : ∀ r h', P r h' → P' r h') : tv_Call ad d y a h P' := by
  obtain ⟨cc, nL, rt, h1, h2, h3⟩ := k
  exact ⟨cc, nL, rt, h1, h2, fun post' hp => h3 post' (fun r h' q => hp r h' (i r h' q))⟩
def tv_CI (ad : Nat → Nat) (d : Nat) (y : MethodName) (a : List Value) (h : tv_AH) (K : Int32 → tv_AH → Prop) : Prop := tv_Call ad d y a h (fun r h' => ∃ x : Int32, r = some (.int x) ∧ K x h')
def tv_CJ (ad : Nat → Nat) (d : Nat) (y : MethodName) (a : List Value) (h : tv_AH) (K : Int64 → tv_AH → Prop) : Prop := tv_Call ad d y a h (fun r h' => ∃ x : Int64, r = some (.long x) ∧ K x h')
def tv_CV (ad : Nat → Nat) (d : Nat) (y : MethodName) (a : List Value) (h : tv_AH) (K : tv_AH → Prop) : Prop := tv_Call ad d y a h (fun r h' => r = none ∧ K h')
theorem tv_CI.mono {ad : Nat → Nat} {d : Nat} {y : MethodName} {a : List Value} {h : tv_AH} {P P' : Int32 → tv_AH → Prop} (k : tv_CI ad d y a h P) (i : ∀ r h', P r h' → P' r h') : tv_CI ad d y a h P' := tv_Call.mono k (fun _ h' ⟨x, e, q⟩ => ⟨x, e, i x h' q⟩)
theorem tv_CJ.mono {ad : Nat → Nat} {d : Nat} {y : MethodName} {a : List Value} {h : tv_AH} {P P' : Int64 → tv_AH → Prop} (k : tv_CJ ad d y a h P) (i : ∀ r h', P r h' → P' r h') : tv_CJ ad d y a h P' := tv_Call.mono k (fun _ h' ⟨x, e, q⟩ => ⟨x, e, i x h' q⟩)
theorem tv_CV.mono {ad : Nat → Nat} {d : Nat} {y : MethodName} {a : List Value} {h : tv_AH} {P P' : tv_AH → Prop} (k : tv_CV ad d y a h P) (i : ∀ h', P h' → P' h') : tv_CV ad d y a h P' := tv_Call.mono k (fun _ h' ⟨e, q⟩ => ⟨e, i h' q⟩)
section TVR
variable {ad : Nat → Nat} {own : String} {cc : ByteArray} {nL : Nat} {rt : Option FieldType} {d : Nat} {post : Option Value → tv_AH → Prop} {pc : Nat} {lv lv' : List (Nat × Value)} {st : List Value} {h : tv_AH} {x y : Int32} {a b : Int64} {i t : Nat} {k : Fin 4} {n : Int} {v : Int32} {off : Int} {tgt : Nat}
theorem tvr_iconst (hd : decode cc pc = .ok (.iconst n, 1)) (hv : Int32.ofInt n = v) (kk : tv_Wp ad own cc nL rt d post (pc + 1) lv (.int v :: st) h) : tv_Wp ad own cc nL rt d post pc lv st h := fun p l e R s m args below meth c cells slots Q D cs A X H locs ls hP hS hl => lv_iconst X.1 X.2.1 hd hv (kk p l e R s m args below meth c cells slots Q D cs A X H locs ls hP hS hl)
theorem tvr_bipush (hd : decode cc pc = .ok (.bipush n, 2)) (hv : (Int8.ofInt n).toInt32 = v) (kk : tv_Wp ad own cc nL rt d post (pc + 2) lv (.int v :: st) h) : tv_Wp ad own cc nL rt d post pc lv st h := fun p l e R s m args below meth c cells slots Q D cs A X H locs ls hP hS hl => lv_bipush X.1 X.2.1 hd hv (kk p l e R s m args below meth c cells slots Q D cs A X H locs ls hP hS hl)
theorem tvr_sipush (hd : decode cc pc = .ok (.sipush n, 3)) (hv : (Int16.ofInt n).toInt32 = v) (kk : tv_Wp ad own cc nL rt d post (pc + 3) lv (.int v :: st) h) : tv_Wp ad own cc nL rt d post pc lv st h := fun p l e R s m args below meth c cells slots Q D cs A X H locs ls hP hS hl => lv_sipush X.1 X.2.1 hd hv (kk p l e R s m args below meth c cells slots Q D cs A X H locs ls hP hS hl)
theorem tvr_ldc (hw : Cond.constant own i v ∈ tv_ws) (hd : decode cc pc = .ok (.ldc i, 2)) (kk : tv_Wp ad own cc nL rt d post (pc + 2) lv (.int v :: st) h) : tv_Wp ad own cc nL rt d post pc lv st h := fun p l e R s m args below meth c cells slots Q D cs A X H locs ls hP hS hl => lv_ldc X.1 X.2.1 X.2.2.2.1 (X.2.2.2.2.1 _ hw) hd (kk p l e R s m args below meth c cells slots Q D cs A X H locs ls hP hS hl)
theorem tvr_ldc2 (hw : Cond.constantLong own i a ∈ tv_ws) (hd : decode cc pc = .ok (.ldc2_w i, 3)) (kk : tv_Wp ad own cc nL rt d post (pc + 3) lv (.long a :: st) h) : tv_Wp ad own cc nL rt d post pc lv st h := fun p l e R s m args below meth c cells slots Q D cs A X H locs ls hP hS hl => lv_ldc2 X.1 X.2.1 X.2.2.2.1 (X.2.2.2.2.1 _ hw) hd (kk p l e R s m args below meth c cells slots Q D cs A X H locs ls hP hS hl)
theorem tvr_iload_n (hd : decode cc pc = .ok (.iload_n k, 1)) (hi : (k : Nat) = i) (hx : lv[t]? = some (i, .int x)) (kk : tv_Wp ad own cc nL rt d post (pc + 1) lv (.int x :: st) h) : tv_Wp ad own cc nL rt d post pc lv st h := fun p l e R s m args below meth c cells slots Q D cs A X H locs ls hP hS hl => lv_iload_n X.1 X.2.1 hd hi (lv_at hl t hx) (kk p l e R s m args below meth c cells slots Q D cs A X H locs ls hP hS hl)
theorem tvr_iload (hd : decode cc pc = .ok (.iload i, 2)) (hx : lv[t]? = some (i, .int x)) (kk : tv_Wp ad own cc nL rt d post (pc + 2) lv (.int x :: st) h) : tv_Wp ad own cc nL rt d post pc lv st h := fun p l e R s m args below meth c cells slots Q D cs A X H locs ls hP hS hl => lv_iload X.1 X.2.1 hd (lv_at hl t hx) (kk p l e R s m args below meth c cells slots Q D cs A X H locs ls hP hS hl)
theorem tvr_istore_n (hd : decode cc pc = .ok (.istore_n k, 1)) (hi : (k : Nat) = i) (hn : i < nL) (hv : (i, Value.int x) :: lv.filter (fun q => !(q.1 == i) && !(q.1 + 1 == i && q.2.category == 2)) = lv') (kk : tv_Wp ad own cc nL rt d post (pc + 1) lv' st h) : tv_Wp ad own cc nL rt d post pc lv (.int x :: st) h := fun p l e R s m args below meth c cells slots Q D cs A X H locs ls hP hS hl => lv_istore_n X.1 X.2.1 hd hi hl hn hv (fun ls hl => kk p l e R s m args below meth c cells slots Q D cs A X H locs ls hP hS hl)
theorem tvr_istore (hd : decode cc pc = .ok (.istore i, 2)) (hn : i < nL) (hv : (i, Value.int x) :: lv.filter (fun q => !(q.1 == i) && !(q.1 + 1 == i && q.2.category == 2)) = lv') (kk : tv_Wp ad own cc nL rt d post (pc + 2) lv' st h) : tv_Wp ad own cc nL rt d post pc lv (.int x :: st) h := fun p l e R s m args below meth c cells slots Q D cs A X H locs ls hP hS hl => lv_istore X.1 X.2.1 hd hl hn hv (fun ls hl => kk p l e R s m args below meth c cells slots Q D cs A X H locs ls hP hS hl)
theorem tvr_lload_n (hd : decode cc pc = .ok (.lload_n k, 1)) (hi : (k : Nat) = i) (hx : lv[t]? = some (i, .long a)) (kk : tv_Wp ad own cc nL rt d post (pc + 1) lv (.long a :: st) h) : tv_Wp ad own cc nL rt d post pc lv st h := fun p l e R s m args below meth c cells slots Q D cs A X H locs ls hP hS hl => lv_lload_n X.1 X.2.1 hd hi (lv_at hl t hx) (kk p l e R s m args below meth c cells slots Q D cs A X H locs ls hP hS hl)
theorem tvr_lload (hd : decode cc pc = .ok (.lload i, 2)) (hx : lv[t]? = some (i, .long a)) (kk : tv_Wp ad own cc nL rt d post (pc + 2) lv (.long a :: st) h) : tv_Wp ad own cc nL rt d post pc lv st h := fun p l e R s m args below meth c cells slots Q D cs A X H locs ls hP hS hl => lv_lload X.1 X.2.1 hd (lv_at hl t hx) (kk p l e R s m args below meth c cells slots Q D cs A X H locs ls hP hS hl)
theorem tvr_lstore_n (hd : decode cc pc = .ok (.lstore_n k, 1)) (hi : (k : Nat) = i) (hn : i + 1 < nL) (hv : (i, Value.long a) :: lv.filter (fun q => !(q.1 == i) && (!(q.1 == i + 1) && !(q.1 + 1 == i && q.2.category == 2))) = lv') (kk : tv_Wp ad own cc nL rt d post (pc + 1) lv' st h) : tv_Wp ad own cc nL rt d post pc lv (.long a :: st) h := fun p l e R s m args below meth c cells slots Q D cs A X H locs ls hP hS hl => lv_lstore_n X.1 X.2.1 hd hi hl hn hv (fun ls hl => kk p l e R s m args below meth c cells slots Q D cs A X H locs ls hP hS hl)
theorem tvr_lstore (hd : decode cc pc = .ok (.lstore i, 2)) (hn : i + 1 < nL) (hv : (i, Value.long a) :: lv.filter (fun q => !(q.1 == i) && (!(q.1 == i + 1) && !(q.1 + 1 == i && q.2.category == 2))) = lv') (kk : tv_Wp ad own cc nL rt d post (pc + 2) lv' st h) : tv_Wp ad own cc nL rt d post pc lv (.long a :: st) h := fun p l e R s m args below meth c cells slots Q D cs A X H locs ls hP hS hl => lv_lstore X.1 X.2.1 hd hl hn hv (fun ls hl => kk p l e R s m args below meth c cells slots Q D cs A X H locs ls hP hS hl)
theorem tvr_aload_n {j : Nat} (hd : decode cc pc = .ok (.aload_n k, 1)) (hi : (k : Nat) = i) (hx : lv[t]? = some (i, .ref j)) (kk : tv_Wp ad own cc nL rt d post (pc + 1) lv (.ref j :: st) h) : tv_Wp ad own cc nL rt d post pc lv st h := fun p l e R s m args below meth c cells slots Q D cs A X H locs ls hP hS hl => lv_aload_n X.1 X.2.1 hd hi (lv_at hl t hx) (kk p l e R s m args below meth c cells slots Q D cs A X H locs ls hP hS hl)
theorem tvr_aload {j : Nat} (hd : decode cc pc = .ok (.aload i, 2)) (hx : lv[t]? = some (i, .ref j)) (kk : tv_Wp ad own cc nL rt d post (pc + 2) lv (.ref j :: st) h) : tv_Wp ad own cc nL rt d post pc lv st h := fun p l e R s m args below meth c cells slots Q D cs A X H locs ls hP hS hl => lv_aload X.1 X.2.1 hd (lv_at hl t hx) (kk p l e R s m args below meth c cells slots Q D cs A X H locs ls hP hS hl)
theorem tvr_astore_n {j : Nat} (hd : decode cc pc = .ok (.astore_n k, 1)) (hi : (k : Nat) = i) (hn : i < nL) (hv : (i, Value.ref j) :: lv.filter (fun q => !(q.1 == i) && !(q.1 + 1 == i && q.2.category == 2)) = lv') (kk : tv_Wp ad own cc nL rt d post (pc + 1) lv' st h) : tv_Wp ad own cc nL rt d post pc lv (.ref j :: st) h := fun p l e R s m args below meth c cells slots Q D cs A X H locs ls hP hS hl => lv_astore_n X.1 X.2.1 hd hi hl hn hv (fun ls hl => kk p l e R s m args below meth c cells slots Q D cs A X H locs ls hP hS hl)
theorem tvr_astore {j : Nat} (hd : decode cc pc = .ok (.astore i, 2)) (hn : i < nL) (hv : (i, Value.ref j) :: lv.filter (fun q => !(q.1 == i) && !(q.1 + 1 == i && q.2.category == 2)) = lv') (kk : tv_Wp ad own cc nL rt d post (pc + 2) lv' st h) : tv_Wp ad own cc nL rt d post pc lv (.ref j :: st) h := fun p l e R s m args below meth c cells slots Q D cs A X H locs ls hP hS hl => lv_astore X.1 X.2.1 hd hl hn hv (fun ls hl => kk p l e R s m args below meth c cells slots Q D cs A X H locs ls hP hS hl)
theorem tvr_iinc (hd : decode cc pc = .ok (.iinc i n, 3)) (hx : lv[t]? = some (i, .int x)) (hv : x + Int32.ofInt n = v) (hn : i < nL) (hf : (i, Value.int v) :: lv.filter (fun q => !(q.1 == i) && !(q.1 + 1 == i && q.2.category == 2)) = lv') (kk : tv_Wp ad own cc nL rt d post (pc + 3) lv' st h) : tv_Wp ad own cc nL rt d post pc lv st h := fun p l e R s m args below meth c cells slots Q D cs A X H locs ls hP hS hl => lv_iinc X.1 X.2.1 hd hl hx hv hn hf (fun ls hl => kk p l e R s m args below meth c cells slots Q D cs A X H locs ls hP hS hl)
theorem tvr_sub (ks : List Nat) (hs : lv_pick lv ks = lv') (kk : tv_Wp ad own cc nL rt d post pc lv' st h) : tv_Wp ad own cc nL rt d post pc lv st h := fun p l e R s m args below meth c cells slots Q D cs A X H locs ls hP hS hl => kk p l e R s m args below meth c cells slots Q D cs A X H locs ls hP hS (lv_sub hl ks hs)
theorem tvr_iadd (hd : decode cc pc = .ok (.iadd, 1)) (kk : tv_Wp ad own cc nL rt d post (pc + 1) lv (.int (x + y) :: st) h) : tv_Wp ad own cc nL rt d post pc lv (.int y :: .int x :: st) h := fun p l e R s m args below meth c cells slots Q D cs A X H locs ls hP hS hl => lv_iadd X.1 X.2.1 hd (kk p l e R s m args below meth c cells slots Q D cs A X H locs ls hP hS hl)
theorem tvr_isub (hd : decode cc pc = .ok (.isub, 1)) (kk : tv_Wp ad own cc nL rt d post (pc + 1) lv (.int (x - y) :: st) h) : tv_Wp ad own cc nL rt d post pc lv (.int y :: .int x :: st) h := fun p l e R s m args below meth c cells slots Q D cs A X H locs ls hP hS hl => lv_isub X.1 X.2.1 hd (kk p l e R s m args below meth c cells slots Q D cs A X H locs ls hP hS hl)
theorem tvr_imul (hd : decode cc pc = .ok (.imul, 1)) (kk : tv_Wp ad own cc nL rt d post (pc + 1) lv (.int (x * y) :: st) h) : tv_Wp ad own cc nL rt d post pc lv (.int y :: .int x :: st) h := fun p l e R s m args below meth c cells slots Q D cs A X H locs ls hP hS hl => lv_imul X.1 X.2.1 hd (kk p l e R s m args below meth c cells slots Q D cs A X H locs ls hP hS hl)
theorem tvr_iand (hd : decode cc pc = .ok (.iand, 1)) (kk : tv_Wp ad own cc nL rt d post (pc + 1) lv (.int (x &&& y) :: st) h) : tv_Wp ad own cc nL rt d post pc lv (.int y :: .int x :: st) h := fun p l e R s m args below meth c cells slots Q D cs A X H locs ls hP hS hl => lv_iand X.1 X.2.1 hd (kk p l e R s m args below meth c cells slots Q D cs A X H locs ls hP hS hl)
theorem tvr_ior (hd : decode cc pc = .ok (.ior, 1)) (kk : tv_Wp ad own cc nL rt d post (pc + 1) lv (.int (x ||| y) :: st) h) : tv_Wp ad own cc nL rt d post pc lv (.int y :: .int x :: st) h := fun p l e R s m args below meth c cells slots Q D cs A X H locs ls hP hS hl => lv_ior X.1 X.2.1 hd (kk p l e R s m args below meth c cells slots Q D cs A X H locs ls hP hS hl)
theorem tvr_ishl (hd : decode cc pc = .ok (.ishl, 1)) (kk : tv_Wp ad own cc nL rt d post (pc + 1) lv (.int (x <<< (y &&& 31)) :: st) h) : tv_Wp ad own cc nL rt d post pc lv (.int y :: .int x :: st) h := fun p l e R s m args below meth c cells slots Q D cs A X H locs ls hP hS hl => lv_ishl X.1 X.2.1 hd (kk p l e R s m args below meth c cells slots Q D cs A X H locs ls hP hS hl)
theorem tvr_ishr (hd : decode cc pc = .ok (.ishr, 1)) (kk : tv_Wp ad own cc nL rt d post (pc + 1) lv (.int (x >>> (y &&& 31)) :: st) h) : tv_Wp ad own cc nL rt d post pc lv (.int y :: .int x :: st) h := fun p l e R s m args below meth c cells slots Q D cs A X H locs ls hP hS hl => lv_ishr X.1 X.2.1 hd (kk p l e R s m args below meth c cells slots Q D cs A X H locs ls hP hS hl)
theorem tvr_idiv (hd : decode cc pc = .ok (.idiv, 1)) (hne : ¬ y = 0) (kk : tv_Wp ad own cc nL rt d post (pc + 1) lv (.int (x / y) :: st) h) : tv_Wp ad own cc nL rt d post pc lv (.int y :: .int x :: st) h := fun p l e R s m args below meth c cells slots Q D cs A X H locs ls hP hS hl => lv_idiv X.1 X.2.1 hd hne (kk p l e R s m args below meth c cells slots Q D cs A X H locs ls hP hS hl)
theorem tvr_irem (hd : decode cc pc = .ok (.irem, 1)) (hne : ¬ y = 0) (kk : tv_Wp ad own cc nL rt d post (pc + 1) lv (.int (x - x / y * y) :: st) h) : tv_Wp ad own cc nL rt d post pc lv (.int y :: .int x :: st) h := fun p l e R s m args below meth c cells slots Q D cs A X H locs ls hP hS hl => lv_irem X.1 X.2.1 hd hne (kk p l e R s m args below meth c cells slots Q D cs A X H locs ls hP hS hl)
theorem tvr_ladd (hd : decode cc pc = .ok (.ladd, 1)) (kk : tv_Wp ad own cc nL rt d post (pc + 1) lv (.long (a + b) :: st) h) : tv_Wp ad own cc nL rt d post pc lv (.long b :: .long a :: st) h := fun p l e R s m args below meth c cells slots Q D cs A X H locs ls hP hS hl => lv_ladd X.1 X.2.1 hd (kk p l e R s m args below meth c cells slots Q D cs A X H locs ls hP hS hl)
theorem tvr_lmul (hd : decode cc pc = .ok (.lmul, 1)) (kk : tv_Wp ad own cc nL rt d post (pc + 1) lv (.long (a * b) :: st) h) : tv_Wp ad own cc nL rt d post pc lv (.long b :: .long a :: st) h := fun p l e R s m args below meth c cells slots Q D cs A X H locs ls hP hS hl => lv_lmul X.1 X.2.1 hd (kk p l e R s m args below meth c cells slots Q D cs A X H locs ls hP hS hl)
theorem tvr_lor (hd : decode cc pc = .ok (.lor, 1)) (kk : tv_Wp ad own cc nL rt d post (pc + 1) lv (.long (a ||| b) :: st) h) : tv_Wp ad own cc nL rt d post pc lv (.long b :: .long a :: st) h := fun p l e R s m args below meth c cells slots Q D cs A X H locs ls hP hS hl => lv_lor X.1 X.2.1 hd (kk p l e R s m args below meth c cells slots Q D cs A X H locs ls hP hS hl)
theorem tvr_lshl (hd : decode cc pc = .ok (.lshl, 1)) (kk : tv_Wp ad own cc nL rt d post (pc + 1) lv (.long (a <<< (y.toInt64 &&& 63)) :: st) h) : tv_Wp ad own cc nL rt d post pc lv (.int y :: .long a :: st) h := fun p l e R s m args below meth c cells slots Q D cs A X H locs ls hP hS hl => lv_lshl X.1 X.2.1 hd rfl (kk p l e R s m args below meth c cells slots Q D cs A X H locs ls hP hS hl)
theorem tvr_i2l (hd : decode cc pc = .ok (.i2l, 1)) (kk : tv_Wp ad own cc nL rt d post (pc + 1) lv (.long x.toInt64 :: st) h) : tv_Wp ad own cc nL rt d post pc lv (.int x :: st) h := fun p l e R s m args below meth c cells slots Q D cs A X H locs ls hP hS hl => lv_i2l X.1 X.2.1 hd rfl (kk p l e R s m args below meth c cells slots Q D cs A X H locs ls hP hS hl)
theorem tvr_lcmp (hd : decode cc pc = .ok (.lcmp, 1)) (kk : tv_Wp ad own cc nL rt d post (pc + 1) lv (.int (lg_cmp a b) :: st) h) : tv_Wp ad own cc nL rt d post pc lv (.long b :: .long a :: st) h := fun p l e R s m args below meth c cells slots Q D cs A X H locs ls hP hS hl => W.lcmp X.1 X.2.1 hd (kk p l e R s m args below meth c cells slots Q D cs A X H locs ls hP hS hl)
theorem tvr_dup {va : Value} (hd : decode cc pc = .ok (.dup, 1)) (hc : va.category = 1) (kk : tv_Wp ad own cc nL rt d post (pc + 1) lv (va :: va :: st) h) : tv_Wp ad own cc nL rt d post pc lv (va :: st) h := fun p l e R s m args below meth c cells slots Q D cs A X H locs ls hP hS hl => lv_dup X.1 X.2.1 hd hc (kk p l e R s m args below meth c cells slots Q D cs A X H locs ls hP hS hl)
theorem tvr_dup2 {va vb : Value} (hd : decode cc pc = .ok (.dup2, 1)) (hc : va.category = 1) (hc2 : vb.category = 1) (kk : tv_Wp ad own cc nL rt d post (pc + 1) lv (va :: vb :: va :: vb :: st) h) : tv_Wp ad own cc nL rt d post pc lv (va :: vb :: st) h := fun p l e R s m args below meth c cells slots Q D cs A X H locs ls hP hS hl => lv_dup2_11 X.1 X.2.1 hd hc hc2 (kk p l e R s m args below meth c cells slots Q D cs A X H locs ls hP hS hl)
theorem tvr_pop {va : Value} (hd : decode cc pc = .ok (.pop, 1)) (hc : va.category = 1) (kk : tv_Wp ad own cc nL rt d post (pc + 1) lv st h) : tv_Wp ad own cc nL rt d post pc lv (va :: st) h := fun p l e R s m args below meth c cells slots Q D cs A X H locs ls hP hS hl => lv_pop X.1 X.2.1 hd hc (kk p l e R s m args below meth c cells slots Q D cs A X H locs ls hP hS hl)
theorem tvr_ifeq (hd : decode cc pc = .ok (.ifCond .eq off, 3)) (ht : (pc : Int) + off = (tgt : Int)) (kt : x = 0 → tv_Wp ad own cc nL rt d post tgt lv st h) (kf : ¬ x = 0 → tv_Wp ad own cc nL rt d post (pc + 3) lv st h) : tv_Wp ad own cc nL rt d post pc lv (.int x :: st) h := fun p l e R s m args below meth c cells slots Q D cs A X H locs ls hP hS hl => lv_if_eq X.1 X.2.1 hd ht (fun z => kt z p l e R s m args below meth c cells slots Q D cs A X H locs ls hP hS hl) (fun z => kf z p l e R s m args below meth c cells slots Q D cs A X H locs ls hP hS hl)
theorem tvr_ifne (hd : decode cc pc = .ok (.ifCond .ne off, 3)) (ht : (pc : Int) + off = (tgt : Int)) (kt : ¬ x = 0 → tv_Wp ad own cc nL rt d post tgt lv st h) (kf : x = 0 → tv_Wp ad own cc nL rt d post (pc + 3) lv st h) : tv_Wp ad own cc nL rt d post pc lv (.int x :: st) h := fun p l e R s m args below meth c cells slots Q D cs A X H locs ls hP hS hl => lv_if_ne X.1 X.2.1 hd ht (fun z => kt z p l e R s m args below meth c cells slots Q D cs A X H locs ls hP hS hl) (fun z => kf z p l e R s m args below meth c cells slots Q D cs A X H locs ls hP hS hl)
theorem tvr_iflt (hd : decode cc pc = .ok (.ifCond .lt off, 3)) (ht : (pc : Int) + off = (tgt : Int)) (kt : x < 0 → tv_Wp ad own cc nL rt d post tgt lv st h) (kf : ¬ x < 0 → tv_Wp ad own cc nL rt d post (pc + 3) lv st h) : tv_Wp ad own cc nL rt d post pc lv (.int x :: st) h := fun p l e R s m args below meth c cells slots Q D cs A X H locs ls hP hS hl => lv_if_lt X.1 X.2.1 hd ht (fun z => kt z p l e R s m args below meth c cells slots Q D cs A X H locs ls hP hS hl) (fun z => kf z p l e R s m args below meth c cells slots Q D cs A X H locs ls hP hS hl)
theorem tvr_ifge (hd : decode cc pc = .ok (.ifCond .ge off, 3)) (ht : (pc : Int) + off = (tgt : Int)) (kt : 0 ≤ x → tv_Wp ad own cc nL rt d post tgt lv st h) (kf : ¬ 0 ≤ x → tv_Wp ad own cc nL rt d post (pc + 3) lv st h) : tv_Wp ad own cc nL rt d post pc lv (.int x :: st) h := fun p l e R s m args below meth c cells slots Q D cs A X H locs ls hP hS hl => lv_if_ge X.1 X.2.1 hd ht (fun z => kt z p l e R s m args below meth c cells slots Q D cs A X H locs ls hP hS hl) (fun z => kf z p l e R s m args below meth c cells slots Q D cs A X H locs ls hP hS hl)
theorem tvr_ifgt (hd : decode cc pc = .ok (.ifCond .gt off, 3)) (ht : (pc : Int) + off = (tgt : Int)) (kt : 0 < x → tv_Wp ad own cc nL rt d post tgt lv st h) (kf : ¬ 0 < x → tv_Wp ad own cc nL rt d post (pc + 3) lv st h) : tv_Wp ad own cc nL rt d post pc lv (.int x :: st) h := fun p l e R s m args below meth c cells slots Q D cs A X H locs ls hP hS hl => lv_if_gt X.1 X.2.1 hd ht (fun z => kt z p l e R s m args below meth c cells slots Q D cs A X H locs ls hP hS hl) (fun z => kf z p l e R s m args below meth c cells slots Q D cs A X H locs ls hP hS hl)
theorem tvr_ifle (hd : decode cc pc = .ok (.ifCond .le off, 3)) (ht : (pc : Int) + off = (tgt : Int)) (kt : x ≤ 0 → tv_Wp ad own cc nL rt d post tgt lv st h) (kf : ¬ x ≤ 0 → tv_Wp ad own cc nL rt d post (pc + 3) lv st h) : tv_Wp ad own cc nL rt d post pc lv (.int x :: st) h := fun p l e R s m args below meth c cells slots Q D cs A X H locs ls hP hS hl => lv_if_le X.1 X.2.1 hd ht (fun z => kt z p l e R s m args below meth c cells slots Q D cs A X H locs ls hP hS hl) (fun z => kf z p l e R s m args below meth c cells slots Q D cs A X H locs ls hP hS hl)
theorem tvr_iceq (hd : decode cc pc = .ok (.if_icmp .eq off, 3)) (ht : (pc : Int) + off = (tgt : Int)) (kt : x = y → tv_Wp ad own cc nL rt d post tgt lv st h) (kf : ¬ x = y → tv_Wp ad own cc nL rt d post (pc + 3) lv st h) : tv_Wp ad own cc nL rt d post pc lv (.int y :: .int x :: st) h := fun p l e R s m args below meth c cells slots Q D cs A X H locs ls hP hS hl => lv_icmp_eq X.1 X.2.1 hd ht (fun z => kt z p l e R s m args below meth c cells slots Q D cs A X H locs ls hP hS hl) (fun z => kf z p l e R s m args below meth c cells slots Q D cs A X H locs ls hP hS hl)
theorem tvr_icne (hd : decode cc pc = .ok (.if_icmp .ne off, 3)) (ht : (pc : Int) + off = (tgt : Int)) (kt : ¬ x = y → tv_Wp ad own cc nL rt d post tgt lv st h) (kf : x = y → tv_Wp ad own cc nL rt d post (pc + 3) lv st h) : tv_Wp ad own cc nL rt d post pc lv (.int y :: .int x :: st) h := fun p l e R s m args below meth c cells slots Q D cs A X H locs ls hP hS hl => lv_icmp_ne X.1 X.2.1 hd ht (fun z => kt z p l e R s m args below meth c cells slots Q D cs A X H locs ls hP hS hl) (fun z => kf z p l e R s m args below meth c cells slots Q D cs A X H locs ls hP hS hl)
theorem tvr_iclt (hd : decode cc pc = .ok (.if_icmp .lt off, 3)) (ht : (pc : Int) + off = (tgt : Int)) (kt : x < y → tv_Wp ad own cc nL rt d post tgt lv st h) (kf : ¬ x < y → tv_Wp ad own cc nL rt d post (pc + 3) lv st h) : tv_Wp ad own cc nL rt d post pc lv (.int y :: .int x :: st) h := fun p l e R s m args below meth c cells slots Q D cs A X H locs ls hP hS hl => lv_icmp_lt X.1 X.2.1 hd ht (fun z => kt z p l e R s m args below meth c cells slots Q D cs A X H locs ls hP hS hl) (fun z => kf z p l e R s m args below meth c cells slots Q D cs A X H locs ls hP hS hl)
theorem tvr_icge (hd : decode cc pc = .ok (.if_icmp .ge off, 3)) (ht : (pc : Int) + off = (tgt : Int)) (kt : y ≤ x → tv_Wp ad own cc nL rt d post tgt lv st h) (kf : ¬ y ≤ x → tv_Wp ad own cc nL rt d post (pc + 3) lv st h) : tv_Wp ad own cc nL rt d post pc lv (.int y :: .int x :: st) h := fun p l e R s m args below meth c cells slots Q D cs A X H locs ls hP hS hl => lv_icmp_ge X.1 X.2.1 hd ht (fun z => kt z p l e R s m args below meth c cells slots Q D cs A X H locs ls hP hS hl) (fun z => kf z p l e R s m args below meth c cells slots Q D cs A X H locs ls hP hS hl)
theorem tvr_icgt (hd : decode cc pc = .ok (.if_icmp .gt off, 3)) (ht : (pc : Int) + off = (tgt : Int)) (kt : y < x → tv_Wp ad own cc nL rt d post tgt lv st h) (kf : ¬ y < x → tv_Wp ad own cc nL rt d post (pc + 3) lv st h) : tv_Wp ad own cc nL rt d post pc lv (.int y :: .int x :: st) h := fun p l e R s m args below meth c cells slots Q D cs A X H locs ls hP hS hl => lv_icmp_gt X.1 X.2.1 hd ht (fun z => kt z p l e R s m args below meth c cells slots Q D cs A X H locs ls hP hS hl) (fun z => kf z p l e R s m args below meth c cells slots Q D cs A X H locs ls hP hS hl)
theorem tvr_icle (hd : decode cc pc = .ok (.if_icmp .le off, 3)) (ht : (pc : Int) + off = (tgt : Int)) (kt : x ≤ y → tv_Wp ad own cc nL rt d post tgt lv st h) (kf : ¬ x ≤ y → tv_Wp ad own cc nL rt d post (pc + 3) lv st h) : tv_Wp ad own cc nL rt d post pc lv (.int y :: .int x :: st) h := fun p l e R s m args below meth c cells slots Q D cs A X H locs ls hP hS hl => lv_icmp_le X.1 X.2.1 hd ht (fun z => kt z p l e R s m args below meth c cells slots Q D cs A X H locs ls hP hS hl) (fun z => kf z p l e R s m args below meth c cells slots Q D cs A X H locs ls hP hS hl)
theorem tvr_goto (hd : decode cc pc = .ok (.goto off, 3)) (ht : (pc : Int) + off = (tgt : Int)) (kk : tv_Wp ad own cc nL rt d post tgt lv st h) : tv_Wp ad own cc nL rt d post pc lv st h := fun p l e R s m args below meth c cells slots Q D cs A X H locs ls hP hS hl => lv_goto X.1 X.2.1 hd ht (kk p l e R s m args below meth c cells slots Q D cs A X H locs ls hP hS hl)
/-- what a switch asks, a place behind another -/
def tv_sw (x : Int32) (lo : Int) (K : Nat → Prop) : List Nat → Nat → Prop
  | [], dflt => (x.toInt < lo → K dflt) ∧ (lo ≤ x.toInt → K dflt)
  | tg :: r, dflt => (x.toInt = lo → K tg) ∧ tv_sw x (lo + 1) K r dflt
theorem tv_sw_in {x : Int32} {K : Nat → Prop} : ∀ (ts : List Nat) (lo : Int) {dflt : Nat}, tv_sw x lo K ts dflt → ∀ (j tg : Nat), ts[j]? = some tg → x.toInt = lo + j → K tg
  | [], lo, _, _, j, tg, hj, _ => by simp at hj
  | t0 :: r, lo, _, hk, 0, tg, hj, he => by
    simp only [List.getElem?_cons_zero, Option.some.injEq] at hj
    subst hj
    exact hk.1 (by simpa using he)
  | t0 :: r, lo, _, hk, j + 1, tg, hj, he => tv_sw_in r (lo + 1) hk.2 j tg (by simpa using hj) (by rw [he]; omega)
theorem tv_sw_out {x : Int32} {K : Nat → Prop} : ∀ (ts : List Nat) (lo : Int) {dflt : Nat}, tv_sw x lo K ts dflt → K dflt ∨ ∃ j tg : Nat, ts[j]? = some tg ∧ x.toInt = lo + j
  | [], lo, _, hk => by
    rcases Int.lt_or_le x.toInt lo with q | q
    · exact Or.inl (hk.1 q)
    · exact Or.inl (hk.2 q)
  | t0 :: r, lo, _, hk => by
    rcases tv_sw_out r (lo + 1) hk.2 with q | ⟨j, tg, h1, h2⟩
    · exact Or.inl q
    · exact Or.inr ⟨j + 1, tg, by simpa using h1, by rw [h2]; omega⟩
theorem tvr_tsw {dflt lo hi : Int} {offs : Array Int} {len : Nat} {ts : List Nat} {td : Nat} (hd : decode cc pc = .ok (.tableswitch dflt lo hi offs, len)) (h1 : offs.toList.map (fun o => (pc : Int) + o) = ts.map (fun t : Nat => (t : Int))) (h2 : hi = lo + (ts.length : Int) - 1) (h3 : (pc : Int) + dflt = (td : Int)) (kk : tv_sw x lo (fun tg => tv_Wp ad own cc nL rt d post tg lv st h) ts td) : tv_Wp ad own cc nL rt d post pc lv (.int x :: st) h := fun p l e R s m args below meth c cells slots Q D cs A X H locs ls hP hS hl => by
  by_cases hr : x.toInt < lo ∨ hi < x.toInt
  · rcases tv_sw_out ts lo kk with q | ⟨j, tg, q1, q2⟩
    · exact lv_tableOut X.1 X.2.1 hd hr h3 (q p l e R s m args below meth c cells slots Q D cs A X H locs ls hP hS hl)
    · exfalso
      have := (List.getElem?_eq_some_iff.mp q1).1
      omega
  · obtain ⟨j, hj⟩ : ∃ j : Nat, x.toInt = lo + j := ⟨(x.toInt - lo).toNat, by omega⟩
    have hlt : j < ts.length := by omega
    have hts : ts[j]? = some ts[j] := List.getElem?_eq_getElem hlt
    have ho : (offs.toList.map (fun o => (pc : Int) + o))[j]? = some ((ts[j] : Nat) : Int) := by rw [h1]; simp [hts]
    rw [List.getElem?_map] at ho
    cases hoj : offs.toList[j]? with
    | none => rw [hoj] at ho; cases ho
    | some o =>
      rw [hoj] at ho
      simp only [Option.map_some, Option.some.injEq] at ho
      refine lv_tableIn (off := o) X.1 X.2.1 hd (by omega) (by omega) ?_ ho (tv_sw_in ts lo kk j _ hts hj p l e R s m args below meth c cells slots Q D cs A X H locs ls hP hS hl)
      rw [show (x.toInt - lo).toNat = j by omega, ← Array.getElem?_toList]
      exact hoj
end TVR
end
section
/-! THE RULES THAT TOUCH THE HEAP, CALLS AND RETURNS -/
def tv_ftyP (ci k : Nat) : Prop := (tv_ft ci k = 0 → tv_ty ci k = .int ∧ (tv_T ci k).2.2.2 = false) ∧ (tv_ft ci k = 1 → tv_ty ci k = .boolean ∧ (tv_T ci k).2.2.2 = false) ∧ (tv_ft ci k = 2 → tv_ty ci k = .long ∧ (tv_T ci k).2.2.2 = false) ∧ (tv_ft ci k = 4 → tv_ty ci k = .object RX1 ∧ (tv_T ci k).2.2.2 = false)
theorem tv_fty0 : ∀ k, k < 6 → tv_ftyP 0 k
  | 0, _ => ⟨fun z => absurd z (by decide), fun z => absurd z (by decide), fun z => absurd z (by decide), fun z => absurd z (by decide)⟩
  | 1, _ => ⟨fun _ => ⟨rfl, rfl⟩, fun z => absurd z (by decide), fun z => absurd z (by decide), fun z => absurd z (by decide)⟩
  | 2, _ => ⟨fun z => absurd z (by decide), fun _ => ⟨rfl, rfl⟩, fun z => absurd z (by decide), fun z => absurd z (by decide)⟩
  | 3, _ => ⟨fun _ => ⟨rfl, rfl⟩, fun z => absurd z (by decide), fun z => absurd z (by decide), fun z => absurd z (by decide)⟩
  | 4, _ => ⟨fun z => absurd z (by decide), fun z => absurd z (by decide), fun z => absurd z (by decide), fun z => absurd z (by decide)⟩
  | 5, _ => ⟨fun z => absurd z (by decide), fun z => absurd z (by decide), fun z => absurd z (by decide), fun z => absurd z (by decide)⟩
  | k + 6, h => absurd h (by omega)
theorem tv_fty1 : ∀ k, k < 15 → tv_ftyP 1 k
  | 0, _ => ⟨fun _ => ⟨rfl, rfl⟩, fun z => absurd z (by decide), fun z => absurd z (by decide), fun z => absurd z (by decide)⟩
  | 1, _ => ⟨fun z => absurd z (by decide), fun z => absurd z (by decide), fun z => absurd z (by decide), fun z => absurd z (by decide)⟩
  | 2, _ => ⟨fun z => absurd z (by decide), fun z => absurd z (by decide), fun z => absurd z (by decide), fun z => absurd z (by decide)⟩
  | 3, _ => ⟨fun z => absurd z (by decide), fun z => absurd z (by decide), fun z => absurd z (by decide), fun z => absurd z (by decide)⟩
  | 4, _ => ⟨fun z => absurd z (by decide), fun z => absurd z (by decide), fun z => absurd z (by decide), fun z => absurd z (by decide)⟩
  | 5, _ => ⟨fun _ => ⟨rfl, rfl⟩, fun z => absurd z (by decide), fun z => absurd z (by decide), fun z => absurd z (by decide)⟩
  | 6, _ => ⟨fun z => absurd z (by decide), fun z => absurd z (by decide), fun z => absurd z (by decide), fun z => absurd z (by decide)⟩
  | 7, _ => ⟨fun z => absurd z (by decide), fun z => absurd z (by decide), fun z => absurd z (by decide), fun z => absurd z (by decide)⟩
  | 8, _ => ⟨fun z => absurd z (by decide), fun z => absurd z (by decide), fun z => absurd z (by decide), fun z => absurd z (by decide)⟩
  | 9, _ => ⟨fun z => absurd z (by decide), fun z => absurd z (by decide), fun z => absurd z (by decide), fun z => absurd z (by decide)⟩
  | 10, _ => ⟨fun z => absurd z (by decide), fun z => absurd z (by decide), fun z => absurd z (by decide), fun z => absurd z (by decide)⟩
  | 11, _ => ⟨fun z => absurd z (by decide), fun z => absurd z (by decide), fun z => absurd z (by decide), fun z => absurd z (by decide)⟩
  | 12, _ => ⟨fun z => absurd z (by decide), fun z => absurd z (by decide), fun z => absurd z (by decide), fun z => absurd z (by decide)⟩
  | 13, _ => ⟨fun z => absurd z (by decide), fun z => absurd z (by decide), fun z => absurd z (by decide), fun z => absurd z (by decide)⟩
  | 14, _ => ⟨fun _ => ⟨rfl, rfl⟩, fun z => absurd z (by decide), fun z => absurd z (by decide), fun z => absurd z (by decide)⟩
  | k + 15, h => absurd h (by omega)
theorem tv_fty2 : ∀ k, k < 13 → tv_ftyP 2 k
  | 0, _ => ⟨fun z => absurd z (by decide), fun z => absurd z (by decide), fun z => absurd z (by decide), fun z => absurd z (by decide)⟩
  | 1, _ => ⟨fun _ => ⟨rfl, rfl⟩, fun z => absurd z (by decide), fun z => absurd z (by decide), fun z => absurd z (by decide)⟩
  | 2, _ => ⟨fun z => absurd z (by decide), fun z => absurd z (by decide), fun z => absurd z (by decide), fun z => absurd z (by decide)⟩
  | 3, _ => ⟨fun _ => ⟨rfl, rfl⟩, fun z => absurd z (by decide), fun z => absurd z (by decide), fun z => absurd z (by decide)⟩
  | 4, _ => ⟨fun _ => ⟨rfl, rfl⟩, fun z => absurd z (by decide), fun z => absurd z (by decide), fun z => absurd z (by decide)⟩
  | 5, _ => ⟨fun _ => ⟨rfl, rfl⟩, fun z => absurd z (by decide), fun z => absurd z (by decide), fun z => absurd z (by decide)⟩
  | 6, _ => ⟨fun _ => ⟨rfl, rfl⟩, fun z => absurd z (by decide), fun z => absurd z (by decide), fun z => absurd z (by decide)⟩
  | 7, _ => ⟨fun _ => ⟨rfl, rfl⟩, fun z => absurd z (by decide), fun z => absurd z (by decide), fun z => absurd z (by decide)⟩
  | 8, _ => ⟨fun z => absurd z (by decide), fun z => absurd z (by decide), fun z => absurd z (by decide), fun _ => ⟨rfl, rfl⟩⟩
  | 9, _ => ⟨fun z => absurd z (by decide), fun _ => ⟨rfl, rfl⟩, fun z => absurd z (by decide), fun z => absurd z (by decide)⟩
  | 10, _ => ⟨fun _ => ⟨rfl, rfl⟩, fun z => absurd z (by decide), fun z => absurd z (by decide), fun z => absurd z (by decide)⟩
  | 11, _ => ⟨fun _ => ⟨rfl, rfl⟩, fun z => absurd z (by decide), fun z => absurd z (by decide), fun z => absurd z (by decide)⟩
  | 12, _ => ⟨fun z => absurd z (by decide), fun z => absurd z (by decide), fun z => absurd z (by decide), fun _ => ⟨rfl, rfl⟩⟩
  | k + 13, h => absurd h (by omega)
theorem tv_fty3 : ∀ k, k < 34 → tv_ftyP 3 k
  | 0, _ => ⟨fun _ => ⟨rfl, rfl⟩, fun z => absurd z (by decide), fun z => absurd z (by decide), fun z => absurd z (by decide)⟩
  | 1, _ => ⟨fun z => absurd z (by decide), fun z => absurd z (by decide), fun z => absurd z (by decide), fun z => absurd z (by decide)⟩
  | 2, _ => ⟨fun _ => ⟨rfl, rfl⟩, fun z => absurd z (by decide), fun z => absurd z (by decide), fun z => absurd z (by decide)⟩
  | 3, _ => ⟨fun _ => ⟨rfl, rfl⟩, fun z => absurd z (by decide), fun z => absurd z (by decide), fun z => absurd z (by decide)⟩
  | 4, _ => ⟨fun _ => ⟨rfl, rfl⟩, fun z => absurd z (by decide), fun z => absurd z (by decide), fun z => absurd z (by decide)⟩
  | 5, _ => ⟨fun z => absurd z (by decide), fun _ => ⟨rfl, rfl⟩, fun z => absurd z (by decide), fun z => absurd z (by decide)⟩
  | 6, _ => ⟨fun _ => ⟨rfl, rfl⟩, fun z => absurd z (by decide), fun z => absurd z (by decide), fun z => absurd z (by decide)⟩
  | 7, _ => ⟨fun _ => ⟨rfl, rfl⟩, fun z => absurd z (by decide), fun z => absurd z (by decide), fun z => absurd z (by decide)⟩
  | 8, _ => ⟨fun _ => ⟨rfl, rfl⟩, fun z => absurd z (by decide), fun z => absurd z (by decide), fun z => absurd z (by decide)⟩
  | 9, _ => ⟨fun _ => ⟨rfl, rfl⟩, fun z => absurd z (by decide), fun z => absurd z (by decide), fun z => absurd z (by decide)⟩
  | 10, _ => ⟨fun z => absurd z (by decide), fun z => absurd z (by decide), fun z => absurd z (by decide), fun z => absurd z (by decide)⟩
  | 11, _ => ⟨fun z => absurd z (by decide), fun z => absurd z (by decide), fun z => absurd z (by decide), fun z => absurd z (by decide)⟩
  | 12, _ => ⟨fun z => absurd z (by decide), fun z => absurd z (by decide), fun z => absurd z (by decide), fun z => absurd z (by decide)⟩
  | 13, _ => ⟨fun z => absurd z (by decide), fun z => absurd z (by decide), fun z => absurd z (by decide), fun z => absurd z (by decide)⟩
  | 14, _ => ⟨fun z => absurd z (by decide), fun z => absurd z (by decide), fun z => absurd z (by decide), fun z => absurd z (by decide)⟩
  | 15, _ => ⟨fun z => absurd z (by decide), fun z => absurd z (by decide), fun z => absurd z (by decide), fun z => absurd z (by decide)⟩
  | 16, _ => ⟨fun z => absurd z (by decide), fun z => absurd z (by decide), fun z => absurd z (by decide), fun z => absurd z (by decide)⟩
  | 17, _ => ⟨fun z => absurd z (by decide), fun z => absurd z (by decide), fun z => absurd z (by decide), fun z => absurd z (by decide)⟩
  | 18, _ => ⟨fun z => absurd z (by decide), fun z => absurd z (by decide), fun z => absurd z (by decide), fun z => absurd z (by decide)⟩
  | 19, _ => ⟨fun z => absurd z (by decide), fun z => absurd z (by decide), fun z => absurd z (by decide), fun z => absurd z (by decide)⟩
  | 20, _ => ⟨fun z => absurd z (by decide), fun z => absurd z (by decide), fun z => absurd z (by decide), fun z => absurd z (by decide)⟩
  | 21, _ => ⟨fun z => absurd z (by decide), fun z => absurd z (by decide), fun z => absurd z (by decide), fun z => absurd z (by decide)⟩
  | 22, _ => ⟨fun z => absurd z (by decide), fun z => absurd z (by decide), fun z => absurd z (by decide), fun z => absurd z (by decide)⟩
  | 23, _ => ⟨fun _ => ⟨rfl, rfl⟩, fun z => absurd z (by decide), fun z => absurd z (by decide), fun z => absurd z (by decide)⟩
  | 24, _ => ⟨fun _ => ⟨rfl, rfl⟩, fun z => absurd z (by decide), fun z => absurd z (by decide), fun z => absurd z (by decide)⟩
  | 25, _ => ⟨fun z => absurd z (by decide), fun z => absurd z (by decide), fun z => absurd z (by decide), fun z => absurd z (by decide)⟩
  | 26, _ => ⟨fun z => absurd z (by decide), fun z => absurd z (by decide), fun z => absurd z (by decide), fun z => absurd z (by decide)⟩
  | 27, _ => ⟨fun z => absurd z (by decide), fun _ => ⟨rfl, rfl⟩, fun z => absurd z (by decide), fun z => absurd z (by decide)⟩
  | 28, _ => ⟨fun _ => ⟨rfl, rfl⟩, fun z => absurd z (by decide), fun z => absurd z (by decide), fun z => absurd z (by decide)⟩
  | 29, _ => ⟨fun z => absurd z (by decide), fun z => absurd z (by decide), fun z => absurd z (by decide), fun z => absurd z (by decide)⟩
  | 30, _ => ⟨fun z => absurd z (by decide), fun z => absurd z (by decide), fun z => absurd z (by decide), fun z => absurd z (by decide)⟩
  | 31, _ => ⟨fun z => absurd z (by decide), fun z => absurd z (by decide), fun z => absurd z (by decide), fun z => absurd z (by decide)⟩
  | 32, _ => ⟨fun z => absurd z (by decide), fun z => absurd z (by decide), fun z => absurd z (by decide), fun z => absurd z (by decide)⟩
  | 33, _ => ⟨fun z => absurd z (by decide), fun z => absurd z (by decide), fun _ => ⟨rfl, rfl⟩, fun z => absurd z (by decide)⟩
  | k + 34, h => absurd h (by omega)
theorem tv_fty (ci : Nat) (hc : ci < 4) (k : Nat) (hk : k < tv_nf ci) : tv_ftyP ci k := by
  match ci, hc with
  | 0, _ => exact tv_fty0 k hk
  | 1, _ => exact tv_fty1 k hk
  | 2, _ => exact tv_fty2 k hk
  | 3, _ => exact tv_fty3 k hk
theorem tv_fsk {ad : Nat → Nat} {h : tv_AH} {ci q k : Nat} (hk : k < tv_nf ci) : ((List.range (tv_nf ci)).map (tv_fv ad h ci q))[k]? = some (tv_fv ad h ci q k) := by
  simp [hk]
theorem tv_fset {ad : Nat → Nat} {h h' : tv_AH} {ci q k : Nat} {v : Value} (hk : k < tv_nf ci) (h1 : tv_fv ad h' ci q k = v) (h2 : ∀ j, j ≠ k → tv_fv ad h' ci q j = tv_fv ad h ci q j) : ((List.range (tv_nf ci)).map (tv_fv ad h ci q)).set k v = (List.range (tv_nf ci)).map (tv_fv ad h' ci q) := by
  apply List.ext_getElem?
  intro i
  rw [List.getElem?_set]
  split
  · rename_i e
    subst e
    simp [hk, h1]
  · rename_i e
    simp only [List.getElem?_map]
    cases hi : (List.range (tv_nf ci))[i]? with
    | none => rfl
    | some j =>
      have e2 := List.getElem?_eq_some_iff.mp hi
      obtain ⟨l1, e1⟩ := e2
      simp only [List.getElem_range] at e1
      subst e1
      simp only [Option.map_some]
      rw [h2 i (fun z => e z.symm)]
section TVH
variable {ad : Nat → Nat} {own : String} {cc : ByteArray} {nL : Nat} {rt : Option FieldType} {d : Nat} {post : Option Value → tv_AH → Prop} {pc : Nat} {lv : List (Nat × Value)} {st : List Value} {h : tv_AH} {idx ci k q n : Nat} {i x : Int32}
theorem tvr_getv {t : Nat} {v : Value} (hd : decode cc pc = .ok (.getfield idx, 3)) (hf : tv_F own idx ci k t) (hq : tv_ko q = some ci) (hv : tv_fv ad h ci q k = v) (kk : tv_Wp ad own cc nL rt d post (pc + 3) lv (v :: st) h) : tv_Wp ad own cc nL rt d post pc lv (.ref (ad q) :: st) h := fun p l e R s m args below meth c cells slots Q D cs A X H locs ls hP hS hl => by
  obtain ⟨hx, hb, hml, hown, hts, hK, hok, hR, hret⟩ := id X
  obtain ⟨nn, hn, he⟩ := tv_at (ad := ad) (cs := cs) (h := h) (tv_koL hq)
  rw [tv_ce_o hq] at he
  obtain ⟨i1, i2, i3, i4⟩ := tv_inN ci (tv_ko4 hq).1
  exact va_get (D := D) (ci := ci) (v := v) (C := tv_R ci) (T := tv_T ci) (N := tv_nf ci) hx hb hts i1 hown hK hP nn he i2 k hf.2.1 (hts _ hf.1) (fun _ h9 => h9) (by rw [tv_fsk hf.2.1, hv]) hd (kk p l e R s m args below meth c cells slots Q D cs A X H locs ls hP hS hl)
theorem tvr_getI (hd : decode cc pc = .ok (.getfield idx, 3)) (hf : tv_F own idx ci k 0) (hq : tv_ko q = some ci) (kk : tv_Wp ad own cc nL rt d post (pc + 3) lv (.int (h.1 q k) :: st) h) : tv_Wp ad own cc nL rt d post pc lv (.ref (ad q) :: st) h := tvr_getv hd hf hq (by simp [tv_fv, hf.2.2]) kk
theorem tvr_getZ (hd : decode cc pc = .ok (.getfield idx, 3)) (hf : tv_F own idx ci k 1) (hq : tv_ko q = some ci) (kk : tv_Wp ad own cc nL rt d post (pc + 3) lv (.int (h.1 q k) :: st) h) : tv_Wp ad own cc nL rt d post pc lv (.ref (ad q) :: st) h := tvr_getv hd hf hq (by simp [tv_fv, hf.2.2]) kk
theorem tvr_getJ (hd : decode cc pc = .ok (.getfield idx, 3)) (hf : tv_F own idx ci k 2) (hq : tv_ko q = some ci) (kk : tv_Wp ad own cc nL rt d post (pc + 3) lv (.long (h.2.1 q k) :: st) h) : tv_Wp ad own cc nL rt d post pc lv (.ref (ad q) :: st) h := tvr_getv hd hf hq (by simp [tv_fv, hf.2.2]) kk
theorem tvr_getA {q2 : Nat} (hd : decode cc pc = .ok (.getfield idx, 3)) (hf : tv_F own idx ci k 3) (hq : tv_ko q = some ci) (hq2 : tv_sr ci q k = q2) (kk : tv_Wp ad own cc nL rt d post (pc + 3) lv (.ref (ad q2) :: st) h) : tv_Wp ad own cc nL rt d post pc lv (.ref (ad q) :: st) h := tvr_getv hd hf hq (by simp [tv_fv, hf.2.2, hq2]) kk
theorem tvr_getT (hd : decode cc pc = .ok (.getfield idx, 3)) (hf : tv_F own idx ci k 4) (hq : tv_ko q = some ci) (kk : tv_Wp ad own cc nL rt d post (pc + 3) lv (.ref (ad (tv_tp (h.2.2 q k))) :: st) h) : tv_Wp ad own cc nL rt d post pc lv (.ref (ad q) :: st) h := tvr_getv hd hf hq (by simp [tv_fv, hf.2.2]) kk
theorem tvr_putv {t : Nat} {v : Value} {ty : FieldType} {h' : tv_AH} (hd : decode cc pc = .ok (.putfield idx, 3)) (hf : tv_F own idx ci k t) (hq : tv_ko q = some ci) (hty : tv_ty ci k = ty ∧ (tv_T ci k).2.2.2 = false) (hn : narrow ty v = v) (hfit : fits ty v = true) (h1 : tv_fv ad h' ci q k = v) (h2 : ∀ j, j ≠ k → tv_fv ad h' ci q j = tv_fv ad h ci q j) (h3 : ∀ (cs : Nat → ClassId), ∀ q' ∈ tv_live, q' ≠ q → tv_ce ad cs h' q' = tv_ce ad cs h q') (kk : tv_Wp ad own cc nL rt d post (pc + 3) lv st h') : tv_Wp ad own cc nL rt d post pc lv (v :: .ref (ad q) :: st) h := fun p l e R s m args below meth c cells slots Q D cs A X H locs ls hP hS hl => by
  obtain ⟨hx, hb, hml, hown, hts, hK, hok, hR, hret⟩ := id X
  obtain ⟨nn, hnn, he⟩ := tv_at (ad := ad) (cs := cs) (h := h) (tv_koL hq)
  rw [tv_ce_o hq] at he
  obtain ⟨i1, i2, i3, i4⟩ := tv_inN ci (tv_ko4 hq).1
  refine va_put (D := D) (ci := ci) (v := v) (ty := ty) (C := tv_R ci) (T := tv_T ci) (N := tv_nf ci) hx hb hts i1 (tv_ty ci) i3 i4 hown hK hP (tv_D hok) hS nn he i2 k hf.2.1 (hts _ hf.1) (fun _ h9 => h9) hty.2 (by rw [i3 k hf.2.1, hty.1]) hn hfit (by simpa using hf.2.1) hd (fun H1 locs1 hP1 _ hS1 => ?_)
  rw [tv_fset hf.2.1 h1 h2, ← tv_ce_o (cs := cs) hq, tv_set hnn (h3 cs)] at hP1
  exact kk p l e R s m args below meth c cells slots Q D cs A X H1 locs1 ls hP1 hS1 hl
theorem tvr_putI (hd : decode cc pc = .ok (.putfield idx, 3)) (hf : tv_F own idx ci k 0) (hq : tv_ko q = some ci) (kk : tv_Wp ad own cc nL rt d post (pc + 3) lv st (tv_wI h q k x)) : tv_Wp ad own cc nL rt d post pc lv (.int x :: .ref (ad q) :: st) h :=
  tvr_putv hd hf hq ((tv_fty ci (tv_ko4 hq).1 k hf.2.1).1 hf.2.2) rfl rfl (by simp [tv_fv, hf.2.2, tv_wI]) (fun j hj => by simp [tv_fv, tv_wI, hj]) (fun cs q' _ hne => tv_ce_ne hne) kk
theorem tvr_putZ (hd : decode cc pc = .ok (.putfield idx, 3)) (hf : tv_F own idx ci k 1) (hq : tv_ko q = some ci) (hz : x = 0 ∨ x = 1) (kk : tv_Wp ad own cc nL rt d post (pc + 3) lv st (tv_wI h q k x)) : tv_Wp ad own cc nL rt d post pc lv (.int x :: .ref (ad q) :: st) h :=
  tvr_putv hd hf hq ((tv_fty ci (tv_ko4 hq).1 k hf.2.1).2.1 hf.2.2) (by rcases hz with rfl | rfl <;> rfl) (by rcases hz with rfl | rfl <;> rfl) (by simp [tv_fv, hf.2.2, tv_wI]) (fun j hj => by simp [tv_fv, tv_wI, hj]) (fun cs q' _ hne => tv_ce_ne hne) kk
theorem tvr_putJ {a : Int64} (hd : decode cc pc = .ok (.putfield idx, 3)) (hf : tv_F own idx ci k 2) (hq : tv_ko q = some ci) (kk : tv_Wp ad own cc nL rt d post (pc + 3) lv st (tv_wJ h q k a)) : tv_Wp ad own cc nL rt d post pc lv (.long a :: .ref (ad q) :: st) h :=
  tvr_putv hd hf hq ((tv_fty ci (tv_ko4 hq).1 k hf.2.1).2.2.1 hf.2.2) rfl rfl (by simp [tv_fv, hf.2.2, tv_wJ]) (fun j hj => by simp [tv_fv, tv_wJ, hj]) (fun cs q' _ hne => tv_ce_neJ hne) kk
theorem tvr_putT {j : Fin 22} (hd : decode cc pc = .ok (.putfield idx, 3)) (hf : tv_F own idx ci k 4) (hq : tv_ko q = some ci) (kk : tv_Wp ad own cc nL rt d post (pc + 3) lv st (tv_wR h q k j)) : tv_Wp ad own cc nL rt d post pc lv (.ref (ad (tv_tp j)) :: .ref (ad q) :: st) h :=
  tvr_putv hd hf hq ((tv_fty ci (tv_ko4 hq).1 k hf.2.1).2.2.2 hf.2.2) rfl rfl (by simp [tv_fv, hf.2.2, tv_wR]) (fun j hj => by simp [tv_fv, tv_wR, hj]) (fun cs q' _ hne => tv_ce_neR hne tv_ce_eq) kk
theorem tvr_iald (hd : decode cc pc = .ok (.iaload, 1)) (hq : tv_ka q = some (0, n)) (hi : vp_in i n) (kk : tv_Wp ad own cc nL rt d post (pc + 1) lv (.int (h.1 q i.toNatClampNeg) :: st) h) : tv_Wp ad own cc nL rt d post pc lv (.int i :: .ref (ad q) :: st) h := fun p l e R s m args below meth c cells slots Q D cs A X H locs ls hP hS hl => by
  obtain ⟨nn, hnn, he⟩ := tv_at (ad := ad) (cs := cs) (h := h) (tv_kaL hq)
  rw [tv_ce_a hq] at he
  exact va_iald X.1 X.2.1 X.2.2.2.2.2.1 hP nn 0 he rfl hi hd (kk p l e R s m args below meth c cells slots Q D cs A X H locs ls hP hS hl)
theorem tvr_lald (hd : decode cc pc = .ok (.laload, 1)) (hq : tv_ka q = some (1, n)) (hi : vp_in i n) (kk : tv_Wp ad own cc nL rt d post (pc + 1) lv (.long (h.2.1 q i.toNatClampNeg) :: st) h) : tv_Wp ad own cc nL rt d post pc lv (.int i :: .ref (ad q) :: st) h := fun p l e R s m args below meth c cells slots Q D cs A X H locs ls hP hS hl => by
  obtain ⟨nn, hnn, he⟩ := tv_at (ad := ad) (cs := cs) (h := h) (tv_kaL hq)
  rw [tv_ce_a hq] at he
  exact va_lald X.1 X.2.1 X.2.2.2.2.2.1 hP nn 1 he rfl hi hd (kk p l e R s m args below meth c cells slots Q D cs A X H locs ls hP hS hl)
theorem tvr_zald (hd : decode cc pc = .ok (.baload, 1)) (hq : tv_ka q = some (2, n)) (hi : vp_in i n) (kk : tv_Wp ad own cc nL rt d post (pc + 1) lv (.int (h.1 q i.toNatClampNeg) :: st) h) : tv_Wp ad own cc nL rt d post pc lv (.int i :: .ref (ad q) :: st) h := fun p l e R s m args below meth c cells slots Q D cs A X H locs ls hP hS hl => by
  obtain ⟨nn, hnn, he⟩ := tv_at (ad := ad) (cs := cs) (h := h) (tv_kaL hq)
  rw [tv_ce_a hq] at he
  exact va_zald X.1 X.2.1 X.2.2.2.2.2.1 hP nn 2 he rfl hi hd (kk p l e R s m args below meth c cells slots Q D cs A X H locs ls hP hS hl)
theorem tvr_aald (hd : decode cc pc = .ok (.aaload, 1)) (hi : vp_in i 20) (kk : tv_Wp ad own cc nL rt d post (pc + 1) lv (.ref (ad (tv_tp (h.2.2 1 i.toNatClampNeg))) :: st) h) : tv_Wp ad own cc nL rt d post pc lv (.int i :: .ref (ad 1) :: st) h := fun p l e R s m args below meth c cells slots Q D cs A X H locs ls hP hS hl => by
  obtain ⟨nn, hnn, he⟩ := tv_at (ad := ad) (cs := cs) (h := h) tv_1L
  rw [tv_ce_v] at he
  exact va_aldq X.1 X.2.1 X.2.2.2.2.2.1 hP nn 3 he rfl hi hd (kk p l e R s m args below meth c cells slots Q D cs A X H locs ls hP hS hl)
theorem tvr_iast (hd : decode cc pc = .ok (.iastore, 1)) (hq : tv_ka q = some (0, n)) (hi : vp_in i n) (kk : tv_Wp ad own cc nL rt d post (pc + 1) lv st (tv_wI h q i.toNatClampNeg x)) : tv_Wp ad own cc nL rt d post pc lv (.int x :: .int i :: .ref (ad q) :: st) h := fun p l e R s m args below meth c cells slots Q D cs A X H locs ls hP hS hl => by
  obtain ⟨nn, hnn, he⟩ := tv_at (ad := ad) (cs := cs) (h := h) (tv_kaL hq)
  rw [tv_ce_a hq] at he
  refine va_iast X.1 X.2.1 X.2.2.2.2.2.1 hP (tv_D X.2.2.2.2.2.2.1) hS nn 0 he rfl hi hd (fun H1 locs1 hP1 _ hS1 => ?_)
  have e1 : (Sum.inl (cs 0, n, Sum.inl (upd (h.1 q) i.toNatClampNeg x)) : va_E) = tv_ce ad cs (tv_wI h q i.toNatClampNeg x) q := by
    rw [tv_ce_a hq]
    have : upd (h.1 q) i.toNatClampNeg x = (tv_wI h q i.toNatClampNeg x).1 q := by funext j; simp [upd, tv_wI]
    rw [this]; rfl
  rw [e1, tv_set hnn (fun q' _ hne => tv_ce_ne hne)] at hP1
  exact kk p l e R s m args below meth c cells slots Q D cs A X H1 locs1 ls hP1 hS1 hl
theorem tvr_zast (hd : decode cc pc = .ok (.bastore, 1)) (hq : tv_ka q = some (2, n)) (hi : vp_in i n) (hz : x = 0 ∨ x = 1) (kk : tv_Wp ad own cc nL rt d post (pc + 1) lv st (tv_wI h q i.toNatClampNeg x)) : tv_Wp ad own cc nL rt d post pc lv (.int x :: .int i :: .ref (ad q) :: st) h := fun p l e R s m args below meth c cells slots Q D cs A X H locs ls hP hS hl => by
  obtain ⟨nn, hnn, he⟩ := tv_at (ad := ad) (cs := cs) (h := h) (tv_kaL hq)
  rw [tv_ce_a hq] at he
  refine va_zast X.1 X.2.1 X.2.2.2.2.2.1 hP (tv_D X.2.2.2.2.2.2.1) hS nn 2 he rfl hi hd (fun H1 locs1 hP1 _ hS1 => ?_)
  have e0 : vp_nar .boolean x = x := by rcases hz with rfl | rfl <;> rfl
  rw [e0] at hP1
  have e1 : (Sum.inl (cs 2, n, Sum.inl (upd (h.1 q) i.toNatClampNeg x)) : va_E) = tv_ce ad cs (tv_wI h q i.toNatClampNeg x) q := by
    rw [tv_ce_a hq]
    have : upd (h.1 q) i.toNatClampNeg x = (tv_wI h q i.toNatClampNeg x).1 q := by funext j; simp [upd, tv_wI]
    rw [this]; rfl
  rw [e1, tv_set hnn (fun q' _ hne => tv_ce_ne hne)] at hP1
  exact kk p l e R s m args below meth c cells slots Q D cs A X H1 locs1 ls hP1 hS1 hl
theorem tvr_last {a : Int64} (hd : decode cc pc = .ok (.lastore, 1)) (hq : tv_ka q = some (1, n)) (hi : vp_in i n) (kk : tv_Wp ad own cc nL rt d post (pc + 1) lv st (tv_wJ h q i.toNatClampNeg a)) : tv_Wp ad own cc nL rt d post pc lv (.long a :: .int i :: .ref (ad q) :: st) h := fun p l e R s m args below meth c cells slots Q D cs A X H locs ls hP hS hl => by
  obtain ⟨nn, hnn, he⟩ := tv_at (ad := ad) (cs := cs) (h := h) (tv_kaL hq)
  rw [tv_ce_a hq] at he
  refine va_last X.1 X.2.1 X.2.2.2.2.2.1 hP (tv_D X.2.2.2.2.2.2.1) hS nn 1 he rfl hi hd (fun H1 locs1 hP1 _ hS1 => ?_)
  have e1 : (Sum.inl (cs 1, n, Sum.inr (Sum.inl (vp_updL (h.2.1 q) i.toNatClampNeg a))) : va_E) = tv_ce ad cs (tv_wJ h q i.toNatClampNeg a) q := by
    rw [tv_ce_a hq]
    have : vp_updL (h.2.1 q) i.toNatClampNeg a = (tv_wJ h q i.toNatClampNeg a).2.1 q := by funext j; simp [vp_updL, tv_wJ]
    rw [this]; rfl
  rw [e1, tv_set hnn (fun q' _ hne => tv_ce_neJ hne)] at hP1
  exact kk p l e R s m args below meth c cells slots Q D cs A X H1 locs1 ls hP1 hS1 hl
theorem tvr_aast {j : Fin 22} (hd : decode cc pc = .ok (.aastore, 1)) (hi : vp_in i 20) (kk : tv_Wp ad own cc nL rt d post (pc + 1) lv st (tv_wR h 1 i.toNatClampNeg j)) : tv_Wp ad own cc nL rt d post pc lv (.ref (ad (tv_tp j)) :: .int i :: .ref (ad 1) :: st) h := fun p l e R s m args below meth c cells slots Q D cs A X H locs ls hP hS hl => by
  obtain ⟨nn, hnn, he⟩ := tv_at (ad := ad) (cs := cs) (h := h) tv_1L
  obtain ⟨n2, hn2, he2⟩ := tv_at (ad := ad) (cs := cs) (h := h) (tv_koL (tv_ko_tp j))
  rw [tv_ce_v] at he
  rw [tv_ce_o (tv_ko_tp j)] at he2
  refine va_astq (r := (RX1, TX1, 15)) X.1 X.2.1 X.2.2.2.2.2.1 hP (tv_D X.2.2.2.2.2.2.1) hS nn 3 n2 1 he rfl he2 rfl hi hd (fun H1 locs1 hP1 _ hS1 => ?_)
  have e1 : (Sum.inl (cs 3, 20, Sum.inr (Sum.inr (Sum.inr (Sum.inr (va_up (fun i => some (ad (tv_tp (h.2.2 1 i)))) i.toNatClampNeg (some (ad (tv_tp j)))))))) : va_E) = tv_ce ad cs (tv_wR h 1 i.toNatClampNeg j) 1 := by
    rw [tv_ce_v]
    have : va_up (fun i => some (ad (tv_tp (h.2.2 1 i)))) i.toNatClampNeg (some (ad (tv_tp j))) = fun b => some (ad (tv_tp ((tv_wR h 1 i.toNatClampNeg j).2.2 1 b))) := by
      funext b
      simp only [va_up, tv_wR, true_and]
      split <;> rfl
    rw [this]; rfl
  rw [e1, tv_set hnn (fun q' _ hne => tv_ce_neR hne tv_ce_eq)] at hP1
  exact kk p l e R s m args below meth c cells slots Q D cs A X H1 locs1 ls hP1 hS1 hl
theorem tvr_copy {q0 q1 n0 n1 : Nat} {sp dp z : Int32} (hw : (Cond.methodLink own idx arraycopyName ∈ tv_ws ∧ Cond.native arraycopyName ∈ tv_ws ∧ Cond.static arraycopyName ∈ tv_ws ∧ Cond.initialized "java/lang/System" ∈ tv_ws)) (hd : decode cc pc = .ok (.invokestatic idx, 3)) (hq0 : tv_ka q0 = some (0, n0)) (hq1 : tv_ka q1 = some (0, n1)) (h1 : ¬ sp < 0) (h2 : ¬ dp < 0) (h3 : ¬ z < 0) (h4 : sp.toNatClampNeg + z.toNatClampNeg ≤ n0) (h5 : dp.toNatClampNeg + z.toNatClampNeg ≤ n1) (hst : (st.map fun v => v.category).sum ≤ 8) (kk : tv_Wp ad own cc nL rt d post (pc + 3) lv st (tv_cp h q0 sp.toNatClampNeg q1 dp.toNatClampNeg z.toNatClampNeg)) : tv_Wp ad own cc nL rt d post pc lv (.int z :: .int dp :: .ref (ad q1) :: .int sp :: .ref (ad q0) :: st) h := fun p l e R s m args below meth c cells slots Q D cs A X H locs ls hP hS hl => by
  obtain ⟨hx, hb, hml, hown, hts, hK, hok, hR, hret⟩ := id X
  obtain ⟨nn, hnn, he⟩ := tv_at (ad := ad) (cs := cs) (h := h) (tv_kaL hq0)
  obtain ⟨n2, hn2, he2⟩ := tv_at (ad := ad) (cs := cs) (h := h) (tv_kaL hq1)
  rw [tv_ce_a hq0] at he
  rw [tv_ce_a hq1] at he2
  refine va_copyi (ty := .int) hx hb (hml.trans hl.1.symm) hown (hts _ hw.1) (hts _ hw.2.1) (hts _ hw.2.2.1) (hts _ hw.2.2.2) hK hP (tv_D hok) hS nn n2 0 0 he he2 rfl rfl rfl h1 h2 h3 h4 h5 (fun _ _ => rfl) (Nat.le_trans (by omega) hR.1) (Nat.le_trans (Nat.add_le_add_right hst _) (Nat.le_trans ?_ hR.2.1)) hd (fun H1 locs1 hP1 _ hS1 => ?_)
  · have e : nativeFrameWords "java/lang/System" "arraycopy" 5 = 7 := by decide +kernel
    rw [e]
    omega
  have e1 : (Sum.inl (cs 0, n1, Sum.inl (va_cpy (h.1 q0) (h.1 q1) sp.toNatClampNeg dp.toNatClampNeg z.toNatClampNeg)) : va_E) = tv_ce ad cs (tv_cp h q0 sp.toNatClampNeg q1 dp.toNatClampNeg z.toNatClampNeg) q1 := by
    rw [tv_ce_a hq1]
    have : va_cpy (h.1 q0) (h.1 q1) sp.toNatClampNeg dp.toNatClampNeg z.toNatClampNeg = (tv_cp h q0 sp.toNatClampNeg q1 dp.toNatClampNeg z.toNatClampNeg).1 q1 := by simp [tv_cp]
    rw [this]; rfl
  rw [e1, tv_set hn2 (fun q' _ hne => tv_ce_neC hne)] at hP1
  exact kk p l e R s m args below meth c cells slots Q D cs A X H1 locs1 ls hP1 hS1 hl
theorem tvr_max {y : Int32} (hw : (Cond.methodLink own idx Lib.Math.max.name ∈ tv_ws ∧ Cond.static Lib.Math.max.name ∈ tv_ws ∧ Cond.initialized "java/lang/Math" ∈ tv_ws ∧ Cond.code Lib.Math.max.name Lib.Math.max.code 2 (some .int) ∈ tv_ws)) (hd : decode cc pc = .ok (.invokestatic idx, 3)) (hst : (st.map fun v => v.category).sum ≤ 8) (kk : tv_Wp ad own cc nL rt d post (pc + 3) lv (.int (if x < y then y else x) :: st) h) : tv_Wp ad own cc nL rt d post pc lv (.int y :: .int x :: st) h := fun p l e R s m args below meth c cells slots Q D cs A X H locs ls hP hS hl => by
  obtain ⟨hx, hb, hml, hown, hts, hK, hok, hR, hret⟩ := id X
  exact va_mmax hx hb (hml.trans hl.1.symm) hown (hts _ hw.1) (hts _ hw.2.1) (hts _ hw.2.2.1) (hts _ hw.2.2.2) (Nat.le_trans (by omega) hR.1) (Nat.le_trans (Nat.add_le_add_right hst _) (Nat.le_trans (by omega) hR.2.1)) hR.2.2.1 hR.2.2.2 hd (kk p l e R s m args below meth c cells slots Q D cs A X H locs ls hP hS hl)
theorem tvr_iret (hd : decode cc pc = .ok (.ireturn, 1)) (hn : tv_nr rt x) (hp : post (some (.int x)) h) : tv_Wp ad own cc nL rt d post pc lv [.int x] h := fun p l e R s m args below meth c cells slots Q D cs A X H locs ls hP hS hl => ((X.2.2.2.2.2.2.2.2 h H locs pc ls hP hS).1) x hd hn hp
theorem tvr_lret {a : Int64} (hd : decode cc pc = .ok (.lreturn, 1)) (hn : rt = some .long) (hp : post (some (.long a)) h) : tv_Wp ad own cc nL rt d post pc lv [.long a] h := fun p l e R s m args below meth c cells slots Q D cs A X H locs ls hP hS hl => ((X.2.2.2.2.2.2.2.2 h H locs pc ls hP hS).2.1) a hd hn hp
theorem tvr_vret (hd : decode cc pc = .ok (.return_, 1)) (hn : rt = none) (hp : post none h) : tv_Wp ad own cc nL rt d post pc lv [] h := fun p l e R s m args below meth c cells slots Q D cs A X H locs ls hP hS hl => ((X.2.2.2.2.2.2.2.2 h H locs pc ls hP hS).2.2) hd hn hp
theorem tvr_lsw {dflt : Int} {ps : Array (Int × Int)} {len : Nat} (hd : decode cc pc = .ok (.lookupswitch dflt ps, len)) (hp : (ps.toList.zip (ps.toList.drop 1)).all (fun (a, next) => a.1 < next.1) = true) {off : Int} {tgt : Nat} (ho : Op.lookupswitch.offset ps.toList dflt x.toInt = off) (ht : (pc : Int) + off = (tgt : Int)) (kk : tv_Wp ad own cc nL rt d post tgt lv st h) : tv_Wp ad own cc nL rt d post pc lv (.int x :: st) h := fun p l e R s m args below meth c cells slots Q D cs A X H locs ls hP hS hl => lv_lookup X.1 X.2.1 hd hp ho ht (kk p l e R s m args below meth c cells slots Q D cs A X H locs ls hP hS hl)
end TVH
/-- behind a call -/
theorem tv_back {p : Program} {l : Launch} {e : Env} {R : Room} {s : State} {m : MethodId} {args : Array Value} {below : List Frame} {meth : Method} {c : Code} {H : Heap} {locs : List Loc} {cells slots : Nat} {Q : State → Prop} {pc : Nat} {ls : Array Slot} {rest st0 : List Value} {a : Array Value} {ad : Nat → Nat} {D : va_G} {cs : Nat → ClassId} {A : Nat → Prop} {post : Option Value → tv_AH → Prop} (hr : va_Run p l e R s m args below meth c H locs cells slots 0 0 (F0 m pc ls st0) rest (tv_Q ad D cs A post a) A) (hS : va_S A s.heap H locs)
    (kk : ∀ (r : Option Value) (h : tv_AH) (H1 : Heap) (locs1 : List Loc), post r h → va_P D tv_cl (tv_enc ad cs h) H1 → va_S A s.heap H1 locs1 → W p l e R s m args below meth c H1 locs1 cells slots Q (F0 m (pc + 3) ls (r.toList ++ rest))) : W p l e R s m args below meth c H locs cells slots Q (F0 m pc ls st0) := by
  intro T hT X
  obtain ⟨v, st₀, t, T', L, h0, X', hL, e1, e2, ⟨⟨r, u, hv, hp, hb⟩, hz, hk⟩, st⟩ := hr T hT X
  cases hv
  rw [h0] at hz hk
  obtain ⟨t2, a1, b1⟩ := kk v u T'.heap (locs ++ L) hp (by rw [e1]; exact hb)
    ⟨Nat.le_trans hS.1 (by rw [e1]; exact hz), fun q h1 h2 => by rw [e1, hk q (Nat.lt_of_lt_of_le h1 hS.1) h2]; exact hS.2.1 q h1 h2, fun q hq => by
      rcases List.mem_append.mp hq with h | h
      · exact hS.2.2 q h
      · exact hL q h⟩ T' rfl X'
  exact ⟨t2, st t2 a1, b1⟩
section TVC
variable {ad : Nat → Nat} {own : String} {cc : ByteArray} {nL : Nat} {rt : Option FieldType} {d : Nat} {post : Option Value → tv_AH → Prop} {pc : Nat} {lv : List (Nat × Value)} {st stk : List Value} {h : tv_AH} {idx ci q n : Nat} {y : MethodName} {As : List Value}
theorem tvr_callV (hd : decode cc pc = .ok (.invokevirtual idx, 3)) (hv : tv_V own idx y ci n) (hq : tv_ko q = some ci) (hstk : stk = As.reverse ++ .ref (ad q) :: st) (hn : As.length = n) (hst : (st.map fun v => v.category).sum ≤ 8) (kk : tv_Call ad d y (.ref (ad q) :: As) h (fun r h' => tv_Wp ad own cc nL rt d post (pc + 3) lv (r.toList ++ st) h')) : tv_Wp ad own cc nL rt d post pc lv stk h := fun p l e R s m args below meth c cells slots Q D cs A X H locs ls hP hS hl => by
  obtain ⟨hx, hb, hml, hown, hts, hK, hok, hR, hret⟩ := id X
  obtain ⟨cc', nL', rt', hcode, hnl, hM⟩ := kk
  have hM := hM _ (fun _ _ z => z) l D cs A hok
  obtain ⟨⟨w1, w2, w3, w4⟩, hyc, hy1, hy2, hyn⟩ := hv
  obtain ⟨nn, hnn, he⟩ := tv_at (ad := ad) (cs := cs) (h := h) (tv_koL hq)
  rw [tv_ce_o hq] at he
  obtain ⟨i1, i2, i3, i4⟩ := tv_inN ci (tv_ko4 hq).1
  have hG : GoodIn tv_ws (wsV own idx (tv_R ci) y (.code y cc' nL' rt' :: tv_ws)) := by
    intro w hw
    have hin : w ∈ tv_ws := by
      unfold wsV at hw
      rcases List.mem_append.mp hw with z | z
      · simp only [List.mem_cons, List.not_mem_nil, or_false] at z
        rcases z with rfl | rfl | rfl | rfl <;> assumption
      · rcases List.mem_cons.mp z with rfl | z
        · exact hcode
        · exact z
    exact ⟨hin, tv_ws_good hin⟩
  refine tv_back (va_runV (As := As) (rest := st) (C := tv_R ci) (Ts := tv_ws) ⟨hx, hb, hml, hown, hts⟩ hM (cwV n hts hG rfl rfl rfl ⟨hyc, hy1, hy2, hyn⟩ ⟨hR.1, ?_⟩) ⟨fun a U g mk z => ?_, va_recv hK hP i2 he, fun U hU hW => ?_⟩ rfl hn hl.1 hstk (lv_room hst) hd ⟨hR.2.2.1, hR.2.2.2⟩) hS (fun r h' H1 locs1 hp hP1 hS1 => hp p l e R s m args below meth c cells slots Q D cs A X H1 locs1 ls hP1 hS1 hl)
  · exact Nat.le_trans (show 8 + (nL' + 11) + 64 * d ≤ 64 * (d + 1) by omega) hR.2.1
  · obtain ⟨q0, qP, qK⟩ := z
    exact ⟨q0, qP, va_K.moved (u := U) (U := U.calling g mk a) (Vm.Alike.refl U.vm) qK⟩
  · exact ⟨rfl, by rw [hU]; exact hP, va_K.moved hW.alike hK⟩
theorem tvr_callS (hd : decode cc pc = .ok (.invokestatic idx, 3)) (hv : tv_S own idx y n) (hstk : stk = As.reverse ++ st) (hn : As.length = n) (hst : (st.map fun v => v.category).sum ≤ 8) (kk : tv_Call ad d y As h (fun r h' => tv_Wp ad own cc nL rt d post (pc + 3) lv (r.toList ++ st) h')) : tv_Wp ad own cc nL rt d post pc lv stk h := fun p l e R s m args below meth c cells slots Q D cs A X H locs ls hP hS hl => by
  obtain ⟨hx, hb, hml, hown, hts, hK, hok, hR, hret⟩ := id X
  obtain ⟨cc', nL', rt', hcode, hnl, hM⟩ := kk
  have hM := hM _ (fun _ _ z => z) l D cs A hok
  obtain ⟨⟨w1, w2, w3⟩, hyc, hy1, hy2, hyn⟩ := hv
  have hG : GoodIn tv_ws (wsS own idx y (.code y cc' nL' rt' :: tv_ws)) := by
    intro w hw
    have hin : w ∈ tv_ws := by
      unfold wsS at hw
      rcases List.mem_append.mp hw with z | z
      · simp only [List.mem_cons, List.not_mem_nil, or_false] at z
        rcases z with rfl | rfl | rfl <;> assumption
      · rcases List.mem_cons.mp z with rfl | z
        · exact hcode
        · exact z
    exact ⟨hin, tv_ws_good hin⟩
  refine tv_back (va_runS (As := As) (rest := st) (Ts := tv_ws) ⟨hx, hb, hml, hown, hts⟩ hM (cwS n hts hG rfl rfl rfl ⟨hyc, hy1, hy2, hyn⟩ ⟨hR.1, ?_⟩) ⟨fun a U g mk z => ?_, fun U hU hW => ?_⟩ rfl hn hl.1 hstk (lv_room hst) hd ⟨hR.2.2.1, hR.2.2.2⟩) hS (fun r h' H1 locs1 hp hP1 hS1 => hp p l e R s m args below meth c cells slots Q D cs A X H1 locs1 ls hP1 hS1 hl)
  · exact Nat.le_trans (show 8 + (nL' + 11) + 64 * d ≤ 64 * (d + 1) by omega) hR.2.1
  · obtain ⟨q0, qP, qK⟩ := z
    exact ⟨q0, qP, va_K.moved (u := U) (U := U.calling g mk a) (Vm.Alike.refl U.vm) qK⟩
  · exact ⟨rfl, by rw [hU]; exact hP, va_K.moved hW.alike hK⟩
theorem tvr_VI (hd : decode cc pc = .ok (.invokevirtual idx, 3)) (hv : tv_V own idx y ci n) (hq : tv_ko q = some ci) (hstk : stk = As.reverse ++ .ref (ad q) :: st) (hn : As.length = n) (hst : (st.map fun v => v.category).sum ≤ 8) (kk : tv_CI ad d y (.ref (ad q) :: As) h (fun x h' => tv_Wp ad own cc nL rt d post (pc + 3) lv (.int x :: st) h')) : tv_Wp ad own cc nL rt d post pc lv stk h := tvr_callV hd hv hq hstk hn hst (tv_Call.mono kk (fun _ _ ⟨_, e, z⟩ => by subst e; exact z))
theorem tvr_VJ (hd : decode cc pc = .ok (.invokevirtual idx, 3)) (hv : tv_V own idx y ci n) (hq : tv_ko q = some ci) (hstk : stk = As.reverse ++ .ref (ad q) :: st) (hn : As.length = n) (hst : (st.map fun v => v.category).sum ≤ 8) (kk : tv_CJ ad d y (.ref (ad q) :: As) h (fun x h' => tv_Wp ad own cc nL rt d post (pc + 3) lv (.long x :: st) h')) : tv_Wp ad own cc nL rt d post pc lv stk h := tvr_callV hd hv hq hstk hn hst (tv_Call.mono kk (fun _ _ ⟨_, e, z⟩ => by subst e; exact z))
theorem tvr_VV (hd : decode cc pc = .ok (.invokevirtual idx, 3)) (hv : tv_V own idx y ci n) (hq : tv_ko q = some ci) (hstk : stk = As.reverse ++ .ref (ad q) :: st) (hn : As.length = n) (hst : (st.map fun v => v.category).sum ≤ 8) (kk : tv_CV ad d y (.ref (ad q) :: As) h (fun h' => tv_Wp ad own cc nL rt d post (pc + 3) lv st h')) : tv_Wp ad own cc nL rt d post pc lv stk h := tvr_callV hd hv hq hstk hn hst (tv_Call.mono kk (fun _ _ ⟨e, z⟩ => by subst e; exact z))
theorem tvr_SI (hd : decode cc pc = .ok (.invokestatic idx, 3)) (hv : tv_S own idx y n) (hstk : stk = As.reverse ++ st) (hn : As.length = n) (hst : (st.map fun v => v.category).sum ≤ 8) (kk : tv_CI ad d y As h (fun x h' => tv_Wp ad own cc nL rt d post (pc + 3) lv (.int x :: st) h')) : tv_Wp ad own cc nL rt d post pc lv stk h := tvr_callS hd hv hstk hn hst (tv_Call.mono kk (fun _ _ ⟨_, e, z⟩ => by subst e; exact z))
theorem tvr_SJ (hd : decode cc pc = .ok (.invokestatic idx, 3)) (hv : tv_S own idx y n) (hstk : stk = As.reverse ++ st) (hn : As.length = n) (hst : (st.map fun v => v.category).sum ≤ 8) (kk : tv_CJ ad d y As h (fun x h' => tv_Wp ad own cc nL rt d post (pc + 3) lv (.long x :: st) h')) : tv_Wp ad own cc nL rt d post pc lv stk h := tvr_callS hd hv hstk hn hst (tv_Call.mono kk (fun _ _ ⟨_, e, z⟩ => by subst e; exact z))
theorem tvr_SV (hd : decode cc pc = .ok (.invokestatic idx, 3)) (hv : tv_S own idx y n) (hstk : stk = As.reverse ++ st) (hn : As.length = n) (hst : (st.map fun v => v.category).sum ≤ 8) (kk : tv_CV ad d y As h (fun h' => tv_Wp ad own cc nL rt d post (pc + 3) lv st h')) : tv_Wp ad own cc nL rt d post pc lv stk h := tvr_callS hd hv hstk hn hst (tv_Call.mono kk (fun _ _ ⟨e, z⟩ => by subst e; exact z))
end TVC
/-- A METHOD out of the walk of its body -/
theorem tv_enter {ad : Nat → Nat} {d : Nat} {y : MethodName} {a : List Value} {h : tv_AH} {post : Option Value → tv_AH → Prop} {cc : ByteArray} {nL : Nat} {rt : Option FieldType} (hc : Cond.code y cc nL rt ∈ tv_ws) (hnl : nL ≤ 30) (hy : plainName y.cls = true) (hsl : (lg_sl a).length ≤ nL) (k : ∀ post' : Option Value → tv_AH → Prop, (∀ r h', post r h' → post' r h') → tv_Wp ad y.cls cc nL rt d post' 0 (lv_args 0 a) [] h) : tv_Call ad (d + 1) y a h post := by
  refine ⟨cc, nL, rt, hc, hnl, fun post' hp l D cs A hok => ?_⟩
  refine Met.ofW (cc := cc) (maxL := nL) (ret := rt) hy rfl ?_
  intro p e s m args below meth c s₁ B hml hv
  obtain ⟨rfl, hP, hK⟩ := hv
  have hts := atoms_spec (ws := Cond.code y cc nL rt :: tv_ws) B.pre
  have hown : s.vm.findClass y.cls = some m.cls := findClass_of_methodNamed B.named
  have hr := B.returns
  have hlocks := B.notSynchronized
  have hS : va_S A s.heap s.heap [] := va_S.rf
  have hl := lv_entry a (n := nL) hsl
  rw [lg_entry_eq]
  generalize (lg_sl a ++ List.replicate (nL - (lg_sl a).length) Slot.unset).toArray = ls at hl ⊢
  refine k post' hp p l e _ s m _ below meth c 0 0 _ D cs A ⟨B.exec, B.bytes, hml, hown, fun w hw => hts w (List.mem_cons_of_mem _ hw), hK, hok, ⟨Nat.le_refl _, Nat.le_refl _, Nat.le_refl _, Nat.le_refl _⟩, ?_⟩ s.heap [] ls hP hS hl
  intro h' H locs pc ls' hP' hS'
  refine ⟨fun v hd hn hq => ?_, fun v hd hn hq => ?_, fun hd hn hq => ?_⟩
  · obtain ⟨ty, e1, e2⟩ := hn
    exact W.zret B.exec B.bytes (hr.trans e1) e2 (fun t ht hW => ⟨⟨_, h', rfl, hq, by rw [ht]; exact hP'⟩, hS'.F ht⟩) hS'.2.2 hd
  · exact W.lret B.exec B.bytes (hr.trans hn) (fun t ht hW => ⟨⟨_, h', rfl, hq, by rw [ht]; exact hP'⟩, hS'.F ht⟩) hS'.2.2 hd
  · exact W.vret B.exec B.bytes (hr.trans hn) (fun t ht hW => ⟨⟨_, h', rfl, hq, by rw [ht]; exact hP'⟩, hS'.F ht⟩) hS'.2.2 hd
end
