section
-- ===== PART A: goes FIRST, ahead of the names: the tables' words, and 'selects' of the private methods out of them =====
/-- a private method of a class that the tables say can be made, by its rows of tables_1 -/
def lw_okq (q : MethodName × Nat) : Prop := (q.1.cls ≠ "java/lang/invoke/MethodHandle" ∧ q.1.cls ≠ "java/lang/invoke/VarHandle") ∧ Cond.instantiable q.1.cls q.2 ∈ tables_1 ∧ Cond.privateMethod q.1 ∈ tables_1 ∧ Cond.instanceMethod q.1 ∈ tables_1
theorem lw_p0 : lw_okq (⟨"TreeBecomes$Text", "readWord", "()V"⟩, 6) := ⟨⟨by decide +kernel, by decide +kernel⟩, List.mem_of_getElem? (i := 22) (by decide +kernel), List.mem_of_getElem? (i := 343) (by decide +kernel), List.mem_of_getElem? (i := 344) (by decide +kernel)⟩
theorem lw_p1 : lw_okq (⟨"TreeBecomes$Text", "isGoodWord", "()Z"⟩, 6) := ⟨⟨by decide +kernel, by decide +kernel⟩, List.mem_of_getElem? (i := 22) (by decide +kernel), List.mem_of_getElem? (i := 347) (by decide +kernel), List.mem_of_getElem? (i := 348) (by decide +kernel)⟩
theorem lw_p2 : lw_okq (⟨"TreeBecomes$Text", "readNumber", "()V"⟩, 6) := ⟨⟨by decide +kernel, by decide +kernel⟩, List.mem_of_getElem? (i := 22) (by decide +kernel), List.mem_of_getElem? (i := 354) (by decide +kernel), List.mem_of_getElem? (i := 355) (by decide +kernel)⟩
theorem lw_p3 : lw_okq (⟨"TreeBecomes$Law", "readItem", "(LTreeBecomes$Text;)Z"⟩, 6) := ⟨⟨by decide +kernel, by decide +kernel⟩, List.mem_of_getElem? (i := 118) (by decide +kernel), List.mem_of_getElem? (i := 358) (by decide +kernel), List.mem_of_getElem? (i := 359) (by decide +kernel)⟩
theorem lw_p4 : lw_okq (⟨"TreeBecomes$Law", "readRule", "(LTreeBecomes$Text;)Z"⟩, 6) := ⟨⟨by decide +kernel, by decide +kernel⟩, List.mem_of_getElem? (i := 118) (by decide +kernel), List.mem_of_getElem? (i := 362) (by decide +kernel), List.mem_of_getElem? (i := 363) (by decide +kernel)⟩
theorem lw_p5 : lw_okq (⟨"TreeBecomes$Law", "readGood", "(LTreeBecomes$Text;)Z"⟩, 6) := ⟨⟨by decide +kernel, by decide +kernel⟩, List.mem_of_getElem? (i := 118) (by decide +kernel), List.mem_of_getElem? (i := 377) (by decide +kernel), List.mem_of_getElem? (i := 378) (by decide +kernel)⟩
theorem lw_p6 : lw_okq (⟨"TreeBecomes$Tree", "settle", "()V"⟩, 5) := ⟨⟨by decide +kernel, by decide +kernel⟩, List.mem_of_getElem? (i := 225) (by decide +kernel), List.mem_of_getElem? (i := 399) (by decide +kernel), List.mem_of_getElem? (i := 400) (by decide +kernel)⟩
theorem lw_p7 : lw_okq (⟨"TreeBecomes", "comesTo", "(I)I"⟩, 11) := ⟨⟨by decide +kernel, by decide +kernel⟩, List.mem_of_getElem? (i := 14) (by decide +kernel), List.mem_of_getElem? (i := 438) (by decide +kernel), List.mem_of_getElem? (i := 439) (by decide +kernel)⟩
theorem lw_p8 : lw_okq (⟨"TreeBecomes$Climb", "comesOf", "(LTreeBecomes$Tree;I)I"⟩, 4) := ⟨⟨by decide +kernel, by decide +kernel⟩, List.mem_of_getElem? (i := 55) (by decide +kernel), List.mem_of_getElem? (i := 446) (by decide +kernel), List.mem_of_getElem? (i := 447) (by decide +kernel)⟩
theorem lw_p9 : lw_okq (⟨"TreeBecomes$Climb", "waysBy", "(LTreeBecomes$Tree;LTreeBecomes$Law;II)J"⟩, 4) := ⟨⟨by decide +kernel, by decide +kernel⟩, List.mem_of_getElem? (i := 55) (by decide +kernel), List.mem_of_getElem? (i := 491) (by decide +kernel), List.mem_of_getElem? (i := 492) (by decide +kernel)⟩
theorem lw_p10 : lw_okq (⟨"TreeBecomes$Climb", "weighRule", "(LTreeBecomes$Tree;LTreeBecomes$Law;II)V"⟩, 4) := ⟨⟨by decide +kernel, by decide +kernel⟩, List.mem_of_getElem? (i := 55) (by decide +kernel), List.mem_of_getElem? (i := 517) (by decide +kernel), List.mem_of_getElem? (i := 518) (by decide +kernel)⟩
theorem lw_p11 : lw_okq (⟨"TreeBecomes$Climb", "isBetter", "(II)Z"⟩, 4) := ⟨⟨by decide +kernel, by decide +kernel⟩, List.mem_of_getElem? (i := 55) (by decide +kernel), List.mem_of_getElem? (i := 531) (by decide +kernel), List.mem_of_getElem? (i := 532) (by decide +kernel)⟩
theorem lw_p12 : lw_okq (⟨"TreeBecomes", "pairsWith", "(I)LTreeBecomes$Pairs;"⟩, 11) := ⟨⟨by decide +kernel, by decide +kernel⟩, List.mem_of_getElem? (i := 14) (by decide +kernel), List.mem_of_getElem? (i := 543) (by decide +kernel), List.mem_of_getElem? (i := 544) (by decide +kernel)⟩
theorem lw_p13 : lw_okq (⟨"TreeBecomes$Pairs", "begin", "()V"⟩, 19) := ⟨⟨by decide +kernel, by decide +kernel⟩, List.mem_of_getElem? (i := 78) (by decide +kernel), List.mem_of_getElem? (i := 556) (by decide +kernel), List.mem_of_getElem? (i := 557) (by decide +kernel)⟩
theorem lw_p14 : lw_okq (⟨"TreeBecomes$Pairs", "offer", "(IIII)I"⟩, 19) := ⟨⟨by decide +kernel, by decide +kernel⟩, List.mem_of_getElem? (i := 78) (by decide +kernel), List.mem_of_getElem? (i := 565) (by decide +kernel), List.mem_of_getElem? (i := 566) (by decide +kernel)⟩
theorem lw_p15 : lw_okq (⟨"TreeBecomes$Pairs", "resultsOf", "(I)I"⟩, 19) := ⟨⟨by decide +kernel, by decide +kernel⟩, List.mem_of_getElem? (i := 78) (by decide +kernel), List.mem_of_getElem? (i := 569) (by decide +kernel), List.mem_of_getElem? (i := 570) (by decide +kernel)⟩
def lw_privs_1 : List (MethodName × Nat) := [(⟨"TreeBecomes$Text", "readWord", "()V"⟩, 6), (⟨"TreeBecomes$Text", "isGoodWord", "()Z"⟩, 6), (⟨"TreeBecomes$Text", "readNumber", "()V"⟩, 6), (⟨"TreeBecomes$Law", "readItem", "(LTreeBecomes$Text;)Z"⟩, 6), (⟨"TreeBecomes$Law", "readRule", "(LTreeBecomes$Text;)Z"⟩, 6), (⟨"TreeBecomes$Law", "readGood", "(LTreeBecomes$Text;)Z"⟩, 6), (⟨"TreeBecomes$Tree", "settle", "()V"⟩, 5), (⟨"TreeBecomes", "comesTo", "(I)I"⟩, 11), (⟨"TreeBecomes$Climb", "comesOf", "(LTreeBecomes$Tree;I)I"⟩, 4), (⟨"TreeBecomes$Climb", "waysBy", "(LTreeBecomes$Tree;LTreeBecomes$Law;II)J"⟩, 4), (⟨"TreeBecomes$Climb", "weighRule", "(LTreeBecomes$Tree;LTreeBecomes$Law;II)V"⟩, 4), (⟨"TreeBecomes$Climb", "isBetter", "(II)Z"⟩, 4), (⟨"TreeBecomes", "pairsWith", "(I)LTreeBecomes$Pairs;"⟩, 11), (⟨"TreeBecomes$Pairs", "begin", "()V"⟩, 19), (⟨"TreeBecomes$Pairs", "offer", "(IIII)I"⟩, 19), (⟨"TreeBecomes$Pairs", "resultsOf", "(I)I"⟩, 19)]
theorem lw_r1 : ∀ q ∈ lw_privs_1, lw_okq q := List.forall_mem_cons.mpr ⟨lw_p0, List.forall_mem_cons.mpr ⟨lw_p1, List.forall_mem_cons.mpr ⟨lw_p2, List.forall_mem_cons.mpr ⟨lw_p3, List.forall_mem_cons.mpr ⟨lw_p4, List.forall_mem_cons.mpr ⟨lw_p5, List.forall_mem_cons.mpr ⟨lw_p6, List.forall_mem_cons.mpr ⟨lw_p7, List.forall_mem_cons.mpr ⟨lw_p8, List.forall_mem_cons.mpr ⟨lw_p9, List.forall_mem_cons.mpr ⟨lw_p10, List.forall_mem_cons.mpr ⟨lw_p11, List.forall_mem_cons.mpr ⟨lw_p12, List.forall_mem_cons.mpr ⟨lw_p13, List.forall_mem_cons.mpr ⟨lw_p14, List.forall_mem_cons.mpr ⟨lw_p15, fun _ h => absurd h List.not_mem_nil⟩⟩⟩⟩⟩⟩⟩⟩⟩⟩⟩⟩⟩⟩⟩⟩
theorem lw_p16 : lw_okq (⟨"TreeBecomes$Pairs", "sizeOver", "(II)I"⟩, 19) := ⟨⟨by decide +kernel, by decide +kernel⟩, List.mem_of_getElem? (i := 78) (by decide +kernel), List.mem_of_getElem? (i := 573) (by decide +kernel), List.mem_of_getElem? (i := 574) (by decide +kernel)⟩
theorem lw_p17 : lw_okq (⟨"TreeBecomes$Pairs", "add", "(I)V"⟩, 19) := ⟨⟨by decide +kernel, by decide +kernel⟩, List.mem_of_getElem? (i := 78) (by decide +kernel), List.mem_of_getElem? (i := 580) (by decide +kernel), List.mem_of_getElem? (i := 581) (by decide +kernel)⟩
theorem lw_p18 : lw_okq (⟨"TreeBecomes$Pairs", "isLess", "(IIIII)Z"⟩, 19) := ⟨⟨by decide +kernel, by decide +kernel⟩, List.mem_of_getElem? (i := 78) (by decide +kernel), List.mem_of_getElem? (i := 588) (by decide +kernel), List.mem_of_getElem? (i := 589) (by decide +kernel)⟩
theorem lw_p19 : lw_okq (⟨"TreeBecomes$Pairs", "comesBefore", "(II)Z"⟩, 19) := ⟨⟨by decide +kernel, by decide +kernel⟩, List.mem_of_getElem? (i := 78) (by decide +kernel), List.mem_of_getElem? (i := 592) (by decide +kernel), List.mem_of_getElem? (i := 593) (by decide +kernel)⟩
theorem lw_p20 : lw_okq (⟨"TreeBecomes$Pairs", "nearest", "()I"⟩, 19) := ⟨⟨by decide +kernel, by decide +kernel⟩, List.mem_of_getElem? (i := 78) (by decide +kernel), List.mem_of_getElem? (i := 600) (by decide +kernel), List.mem_of_getElem? (i := 601) (by decide +kernel)⟩
theorem lw_p21 : lw_okq (⟨"TreeBecomes$Pairs", "join", "(II)V"⟩, 19) := ⟨⟨by decide +kernel, by decide +kernel⟩, List.mem_of_getElem? (i := 78) (by decide +kernel), List.mem_of_getElem? (i := 604) (by decide +kernel), List.mem_of_getElem? (i := 605) (by decide +kernel)⟩
theorem lw_p22 : lw_okq (⟨"TreeBecomes$Kin", "splitByMoves", "(LTreeBecomes$Pairs;)I"⟩, 3) := ⟨⟨by decide +kernel, by decide +kernel⟩, List.mem_of_getElem? (i := 102) (by decide +kernel), List.mem_of_getElem? (i := 620) (by decide +kernel), List.mem_of_getElem? (i := 621) (by decide +kernel)⟩
theorem lw_p23 : lw_okq (⟨"TreeBecomes$Kin", "isLike", "(LTreeBecomes$Pairs;II)Z"⟩, 3) := ⟨⟨by decide +kernel, by decide +kernel⟩, List.mem_of_getElem? (i := 102) (by decide +kernel), List.mem_of_getElem? (i := 624) (by decide +kernel), List.mem_of_getElem? (i := 625) (by decide +kernel)⟩
theorem lw_p24 : lw_okq (⟨"TreeBecomes$Kin", "areKinds", "(II)Z"⟩, 3) := ⟨⟨by decide +kernel, by decide +kernel⟩, List.mem_of_getElem? (i := 102) (by decide +kernel), List.mem_of_getElem? (i := 632) (by decide +kernel), List.mem_of_getElem? (i := 633) (by decide +kernel)⟩
theorem lw_p25 : lw_okq (⟨"TreeBecomes$Law", "reachedStates", "(I)I"⟩, 6) := ⟨⟨by decide +kernel, by decide +kernel⟩, List.mem_of_getElem? (i := 118) (by decide +kernel), List.mem_of_getElem? (i := 654) (by decide +kernel), List.mem_of_getElem? (i := 655) (by decide +kernel)⟩
theorem lw_p26 : lw_okq (⟨"TreeBecomes$Law", "armStates", "(I)I"⟩, 6) := ⟨⟨by decide +kernel, by decide +kernel⟩, List.mem_of_getElem? (i := 118) (by decide +kernel), List.mem_of_getElem? (i := 658) (by decide +kernel), List.mem_of_getElem? (i := 659) (by decide +kernel)⟩
theorem lw_p27 : lw_okq (⟨"TreeBecomes$Pairs", "signAt", "(II)I"⟩, 19) := ⟨⟨by decide +kernel, by decide +kernel⟩, List.mem_of_getElem? (i := 78) (by decide +kernel), List.mem_of_getElem? (i := 683) (by decide +kernel), List.mem_of_getElem? (i := 684) (by decide +kernel)⟩
theorem lw_p28 : lw_okq (⟨"TreeBecomes$Tally", "addLeaves", "()V"⟩, 3) := ⟨⟨by decide +kernel, by decide +kernel⟩, List.mem_of_getElem? (i := 84) (by decide +kernel), List.mem_of_getElem? (i := 700) (by decide +kernel), List.mem_of_getElem? (i := 701) (by decide +kernel)⟩
theorem lw_p29 : lw_okq (⟨"TreeBecomes$Tally", "addOneArmed", "(LTreeBecomes$Pairs;I)V"⟩, 3) := ⟨⟨by decide +kernel, by decide +kernel⟩, List.mem_of_getElem? (i := 84) (by decide +kernel), List.mem_of_getElem? (i := 704) (by decide +kernel), List.mem_of_getElem? (i := 705) (by decide +kernel)⟩
theorem lw_p30 : lw_okq (⟨"TreeBecomes$Tally", "addBoth", "(IIJ)V"⟩, 3) := ⟨⟨by decide +kernel, by decide +kernel⟩, List.mem_of_getElem? (i := 84) (by decide +kernel), List.mem_of_getElem? (i := 709) (by decide +kernel), List.mem_of_getElem? (i := 710) (by decide +kernel)⟩
theorem lw_p31 : lw_okq (⟨"TreeBecomes$Tally", "addTwoArmed", "(LTreeBecomes$Pairs;I)V"⟩, 3) := ⟨⟨by decide +kernel, by decide +kernel⟩, List.mem_of_getElem? (i := 84) (by decide +kernel), List.mem_of_getElem? (i := 715) (by decide +kernel), List.mem_of_getElem? (i := 716) (by decide +kernel)⟩
def lw_privs_2 : List (MethodName × Nat) := [(⟨"TreeBecomes$Pairs", "sizeOver", "(II)I"⟩, 19), (⟨"TreeBecomes$Pairs", "add", "(I)V"⟩, 19), (⟨"TreeBecomes$Pairs", "isLess", "(IIIII)Z"⟩, 19), (⟨"TreeBecomes$Pairs", "comesBefore", "(II)Z"⟩, 19), (⟨"TreeBecomes$Pairs", "nearest", "()I"⟩, 19), (⟨"TreeBecomes$Pairs", "join", "(II)V"⟩, 19), (⟨"TreeBecomes$Kin", "splitByMoves", "(LTreeBecomes$Pairs;)I"⟩, 3), (⟨"TreeBecomes$Kin", "isLike", "(LTreeBecomes$Pairs;II)Z"⟩, 3), (⟨"TreeBecomes$Kin", "areKinds", "(II)Z"⟩, 3), (⟨"TreeBecomes$Law", "reachedStates", "(I)I"⟩, 6), (⟨"TreeBecomes$Law", "armStates", "(I)I"⟩, 6), (⟨"TreeBecomes$Pairs", "signAt", "(II)I"⟩, 19), (⟨"TreeBecomes$Tally", "addLeaves", "()V"⟩, 3), (⟨"TreeBecomes$Tally", "addOneArmed", "(LTreeBecomes$Pairs;I)V"⟩, 3), (⟨"TreeBecomes$Tally", "addBoth", "(IIJ)V"⟩, 3), (⟨"TreeBecomes$Tally", "addTwoArmed", "(LTreeBecomes$Pairs;I)V"⟩, 3)]
theorem lw_r2 : ∀ q ∈ lw_privs_2, lw_okq q := List.forall_mem_cons.mpr ⟨lw_p16, List.forall_mem_cons.mpr ⟨lw_p17, List.forall_mem_cons.mpr ⟨lw_p18, List.forall_mem_cons.mpr ⟨lw_p19, List.forall_mem_cons.mpr ⟨lw_p20, List.forall_mem_cons.mpr ⟨lw_p21, List.forall_mem_cons.mpr ⟨lw_p22, List.forall_mem_cons.mpr ⟨lw_p23, List.forall_mem_cons.mpr ⟨lw_p24, List.forall_mem_cons.mpr ⟨lw_p25, List.forall_mem_cons.mpr ⟨lw_p26, List.forall_mem_cons.mpr ⟨lw_p27, List.forall_mem_cons.mpr ⟨lw_p28, List.forall_mem_cons.mpr ⟨lw_p29, List.forall_mem_cons.mpr ⟨lw_p30, List.forall_mem_cons.mpr ⟨lw_p31, fun _ h => absurd h List.not_mem_nil⟩⟩⟩⟩⟩⟩⟩⟩⟩⟩⟩⟩⟩⟩⟩⟩
theorem lw_p32 : lw_okq (⟨"TreeBecomes", "refusalOf", "(I)I"⟩, 11) := ⟨⟨by decide +kernel, by decide +kernel⟩, List.mem_of_getElem? (i := 14) (by decide +kernel), List.mem_of_getElem? (i := 728) (by decide +kernel), List.mem_of_getElem? (i := 729) (by decide +kernel)⟩
theorem lw_p33 : lw_okq (⟨"TreeBecomes", "worthAs", "(II)I"⟩, 11) := ⟨⟨by decide +kernel, by decide +kernel⟩, List.mem_of_getElem? (i := 14) (by decide +kernel), List.mem_of_getElem? (i := 751) (by decide +kernel), List.mem_of_getElem? (i := 752) (by decide +kernel)⟩
theorem lw_p34 : lw_okq (⟨"TreeBecomesModel", "next", "()V"⟩, 37) := ⟨⟨by decide +kernel, by decide +kernel⟩, List.mem_of_getElem? (i := 786) (by decide +kernel), List.mem_of_getElem? (i := 921) (by decide +kernel), List.mem_of_getElem? (i := 922) (by decide +kernel)⟩
theorem lw_p35 : lw_okq (⟨"TreeBecomesModel", "here", "()I"⟩, 37) := ⟨⟨by decide +kernel, by decide +kernel⟩, List.mem_of_getElem? (i := 786) (by decide +kernel), List.mem_of_getElem? (i := 925) (by decide +kernel), List.mem_of_getElem? (i := 926) (by decide +kernel)⟩
theorem lw_p36 : lw_okq (⟨"TreeBecomesModel", "readItem", "()V"⟩, 37) := ⟨⟨by decide +kernel, by decide +kernel⟩, List.mem_of_getElem? (i := 786) (by decide +kernel), List.mem_of_getElem? (i := 930) (by decide +kernel), List.mem_of_getElem? (i := 931) (by decide +kernel)⟩
theorem lw_p37 : lw_okq (⟨"TreeBecomesModel", "due", "(Z)I"⟩, 37) := ⟨⟨by decide +kernel, by decide +kernel⟩, List.mem_of_getElem? (i := 786) (by decide +kernel), List.mem_of_getElem? (i := 934) (by decide +kernel), List.mem_of_getElem? (i := 935) (by decide +kernel)⟩
theorem lw_p38 : lw_okq (⟨"TreeBecomesModel", "state", "()I"⟩, 37) := ⟨⟨by decide +kernel, by decide +kernel⟩, List.mem_of_getElem? (i := 786) (by decide +kernel), List.mem_of_getElem? (i := 941) (by decide +kernel), List.mem_of_getElem? (i := 942) (by decide +kernel)⟩
theorem lw_p39 : lw_okq (⟨"TreeBecomesModel", "isRule", "(I)Z"⟩, 37) := ⟨⟨by decide +kernel, by decide +kernel⟩, List.mem_of_getElem? (i := 786) (by decide +kernel), List.mem_of_getElem? (i := 953) (by decide +kernel), List.mem_of_getElem? (i := 954) (by decide +kernel)⟩
theorem lw_p40 : lw_okq (⟨"TreeBecomesModel", "isNode", "(I)Z"⟩, 37) := ⟨⟨by decide +kernel, by decide +kernel⟩, List.mem_of_getElem? (i := 786) (by decide +kernel), List.mem_of_getElem? (i := 969) (by decide +kernel), List.mem_of_getElem? (i := 970) (by decide +kernel)⟩
theorem lw_p41 : lw_okq (⟨"TreeBecomesModel", "findComes", "()V"⟩, 37) := ⟨⟨by decide +kernel, by decide +kernel⟩, List.mem_of_getElem? (i := 786) (by decide +kernel), List.mem_of_getElem? (i := 973) (by decide +kernel), List.mem_of_getElem? (i := 974) (by decide +kernel)⟩
theorem lw_p42 : lw_okq (⟨"TreeBecomesModel", "findParts", "()V"⟩, 37) := ⟨⟨by decide +kernel, by decide +kernel⟩, List.mem_of_getElem? (i := 786) (by decide +kernel), List.mem_of_getElem? (i := 977) (by decide +kernel), List.mem_of_getElem? (i := 978) (by decide +kernel)⟩
theorem lw_p43 : lw_okq (⟨"TreeBecomesModel", "second", "(I)I"⟩, 37) := ⟨⟨by decide +kernel, by decide +kernel⟩, List.mem_of_getElem? (i := 786) (by decide +kernel), List.mem_of_getElem? (i := 981) (by decide +kernel), List.mem_of_getElem? (i := 982) (by decide +kernel)⟩
theorem lw_p44 : lw_okq (⟨"TreeBecomesModel", "makesOf", "(IIII)I"⟩, 37) := ⟨⟨by decide +kernel, by decide +kernel⟩, List.mem_of_getElem? (i := 786) (by decide +kernel), List.mem_of_getElem? (i := 985) (by decide +kernel), List.mem_of_getElem? (i := 986) (by decide +kernel)⟩
theorem lw_p45 : lw_okq (⟨"TreeBecomesModel", "over", "(I)I"⟩, 37) := ⟨⟨by decide +kernel, by decide +kernel⟩, List.mem_of_getElem? (i := 786) (by decide +kernel), List.mem_of_getElem? (i := 992) (by decide +kernel), List.mem_of_getElem? (i := 993) (by decide +kernel)⟩
theorem lw_p46 : lw_okq (⟨"TreeBecomesModel", "costAll", "()I"⟩, 37) := ⟨⟨by decide +kernel, by decide +kernel⟩, List.mem_of_getElem? (i := 786) (by decide +kernel), List.mem_of_getElem? (i := 1021) (by decide +kernel), List.mem_of_getElem? (i := 1022) (by decide +kernel)⟩
theorem lw_p47 : lw_okq (⟨"TreeBecomesModel", "findOwn", "()V"⟩, 37) := ⟨⟨by decide +kernel, by decide +kernel⟩, List.mem_of_getElem? (i := 786) (by decide +kernel), List.mem_of_getElem? (i := 1029) (by decide +kernel), List.mem_of_getElem? (i := 1030) (by decide +kernel)⟩
def lw_privs_3 : List (MethodName × Nat) := [(⟨"TreeBecomes", "refusalOf", "(I)I"⟩, 11), (⟨"TreeBecomes", "worthAs", "(II)I"⟩, 11), (⟨"TreeBecomesModel", "next", "()V"⟩, 37), (⟨"TreeBecomesModel", "here", "()I"⟩, 37), (⟨"TreeBecomesModel", "readItem", "()V"⟩, 37), (⟨"TreeBecomesModel", "due", "(Z)I"⟩, 37), (⟨"TreeBecomesModel", "state", "()I"⟩, 37), (⟨"TreeBecomesModel", "isRule", "(I)Z"⟩, 37), (⟨"TreeBecomesModel", "isNode", "(I)Z"⟩, 37), (⟨"TreeBecomesModel", "findComes", "()V"⟩, 37), (⟨"TreeBecomesModel", "findParts", "()V"⟩, 37), (⟨"TreeBecomesModel", "second", "(I)I"⟩, 37), (⟨"TreeBecomesModel", "makesOf", "(IIII)I"⟩, 37), (⟨"TreeBecomesModel", "over", "(I)I"⟩, 37), (⟨"TreeBecomesModel", "costAll", "()I"⟩, 37), (⟨"TreeBecomesModel", "findOwn", "()V"⟩, 37)]
theorem lw_r3 : ∀ q ∈ lw_privs_3, lw_okq q := List.forall_mem_cons.mpr ⟨lw_p32, List.forall_mem_cons.mpr ⟨lw_p33, List.forall_mem_cons.mpr ⟨lw_p34, List.forall_mem_cons.mpr ⟨lw_p35, List.forall_mem_cons.mpr ⟨lw_p36, List.forall_mem_cons.mpr ⟨lw_p37, List.forall_mem_cons.mpr ⟨lw_p38, List.forall_mem_cons.mpr ⟨lw_p39, List.forall_mem_cons.mpr ⟨lw_p40, List.forall_mem_cons.mpr ⟨lw_p41, List.forall_mem_cons.mpr ⟨lw_p42, List.forall_mem_cons.mpr ⟨lw_p43, List.forall_mem_cons.mpr ⟨lw_p44, List.forall_mem_cons.mpr ⟨lw_p45, List.forall_mem_cons.mpr ⟨lw_p46, List.forall_mem_cons.mpr ⟨lw_p47, fun _ h => absurd h List.not_mem_nil⟩⟩⟩⟩⟩⟩⟩⟩⟩⟩⟩⟩⟩⟩⟩⟩
theorem lw_p48 : lw_okq (⟨"TreeBecomesModel", "findPairs", "(II)V"⟩, 37) := ⟨⟨by decide +kernel, by decide +kernel⟩, List.mem_of_getElem? (i := 786) (by decide +kernel), List.mem_of_getElem? (i := 1033) (by decide +kernel), List.mem_of_getElem? (i := 1034) (by decide +kernel)⟩
theorem lw_p49 : lw_okq (⟨"TreeBecomesModel", "pairOf", "(III)I"⟩, 37) := ⟨⟨by decide +kernel, by decide +kernel⟩, List.mem_of_getElem? (i := 786) (by decide +kernel), List.mem_of_getElem? (i := 1037) (by decide +kernel), List.mem_of_getElem? (i := 1038) (by decide +kernel)⟩
theorem lw_p50 : lw_okq (⟨"TreeBecomesModel", "isGoodA", "(I)Z"⟩, 37) := ⟨⟨by decide +kernel, by decide +kernel⟩, List.mem_of_getElem? (i := 786) (by decide +kernel), List.mem_of_getElem? (i := 1045) (by decide +kernel), List.mem_of_getElem? (i := 1046) (by decide +kernel)⟩
theorem lw_p51 : lw_okq (⟨"TreeBecomesModel", "isSame", "(II)Z"⟩, 37) := ⟨⟨by decide +kernel, by decide +kernel⟩, List.mem_of_getElem? (i := 786) (by decide +kernel), List.mem_of_getElem? (i := 1049) (by decide +kernel), List.mem_of_getElem? (i := 1050) (by decide +kernel)⟩
theorem lw_p52 : lw_okq (⟨"TreeBecomesModel", "leastOf", "(Z)I"⟩, 37) := ⟨⟨by decide +kernel, by decide +kernel⟩, List.mem_of_getElem? (i := 786) (by decide +kernel), List.mem_of_getElem? (i := 1061) (by decide +kernel), List.mem_of_getElem? (i := 1062) (by decide +kernel)⟩
theorem lw_p53 : lw_okq (⟨"TreeBecomesModel", "findWords", "()V"⟩, 37) := ⟨⟨by decide +kernel, by decide +kernel⟩, List.mem_of_getElem? (i := 786) (by decide +kernel), List.mem_of_getElem? (i := 1065) (by decide +kernel), List.mem_of_getElem? (i := 1066) (by decide +kernel)⟩
theorem lw_p54 : lw_okq (⟨"TreeBecomesModel", "offer", "(II)V"⟩, 37) := ⟨⟨by decide +kernel, by decide +kernel⟩, List.mem_of_getElem? (i := 786) (by decide +kernel), List.mem_of_getElem? (i := 1069) (by decide +kernel), List.mem_of_getElem? (i := 1070) (by decide +kernel)⟩
theorem lw_p55 : lw_okq (⟨"TreeBecomesModel", "put", "(II)V"⟩, 37) := ⟨⟨by decide +kernel, by decide +kernel⟩, List.mem_of_getElem? (i := 786) (by decide +kernel), List.mem_of_getElem? (i := 1073) (by decide +kernel), List.mem_of_getElem? (i := 1074) (by decide +kernel)⟩
theorem lw_p56 : lw_okq (⟨"TreeBecomesModel", "offerTwo", "(II)V"⟩, 37) := ⟨⟨by decide +kernel, by decide +kernel⟩, List.mem_of_getElem? (i := 786) (by decide +kernel), List.mem_of_getElem? (i := 1077) (by decide +kernel), List.mem_of_getElem? (i := 1078) (by decide +kernel)⟩
theorem lw_p57 : lw_okq (⟨"TreeBecomesModel", "isWanted", "(IZ)Z"⟩, 37) := ⟨⟨by decide +kernel, by decide +kernel⟩, List.mem_of_getElem? (i := 786) (by decide +kernel), List.mem_of_getElem? (i := 1081) (by decide +kernel), List.mem_of_getElem? (i := 1082) (by decide +kernel)⟩
theorem lw_p58 : lw_okq (⟨"TreeBecomesModel", "isGoodB", "(I)Z"⟩, 37) := ⟨⟨by decide +kernel, by decide +kernel⟩, List.mem_of_getElem? (i := 786) (by decide +kernel), List.mem_of_getElem? (i := 1085) (by decide +kernel), List.mem_of_getElem? (i := 1086) (by decide +kernel)⟩
theorem lw_p59 : lw_okq (⟨"TreeBecomesModel", "isLess", "(II)Z"⟩, 37) := ⟨⟨by decide +kernel, by decide +kernel⟩, List.mem_of_getElem? (i := 786) (by decide +kernel), List.mem_of_getElem? (i := 1089) (by decide +kernel), List.mem_of_getElem? (i := 1090) (by decide +kernel)⟩
theorem lw_p60 : lw_okq (⟨"TreeBecomesModel", "toldOf", "(II)I"⟩, 37) := ⟨⟨by decide +kernel, by decide +kernel⟩, List.mem_of_getElem? (i := 786) (by decide +kernel), List.mem_of_getElem? (i := 1093) (by decide +kernel), List.mem_of_getElem? (i := 1094) (by decide +kernel)⟩
theorem lw_p61 : lw_okq (⟨"TreeBecomesModel", "manyOf", "(IZ)J"⟩, 37) := ⟨⟨by decide +kernel, by decide +kernel⟩, List.mem_of_getElem? (i := 786) (by decide +kernel), List.mem_of_getElem? (i := 1102) (by decide +kernel), List.mem_of_getElem? (i := 1103) (by decide +kernel)⟩
theorem lw_p62 : lw_okq (⟨"TreeBecomesModel", "findTrees", "(I)V"⟩, 37) := ⟨⟨by decide +kernel, by decide +kernel⟩, List.mem_of_getElem? (i := 786) (by decide +kernel), List.mem_of_getElem? (i := 1106) (by decide +kernel), List.mem_of_getElem? (i := 1107) (by decide +kernel)⟩
theorem lw_p63 : lw_okq (⟨"TreeBecomesModel", "addTwo", "(IIII)V"⟩, 37) := ⟨⟨by decide +kernel, by decide +kernel⟩, List.mem_of_getElem? (i := 786) (by decide +kernel), List.mem_of_getElem? (i := 1110) (by decide +kernel), List.mem_of_getElem? (i := 1111) (by decide +kernel)⟩
def lw_privs_4 : List (MethodName × Nat) := [(⟨"TreeBecomesModel", "findPairs", "(II)V"⟩, 37), (⟨"TreeBecomesModel", "pairOf", "(III)I"⟩, 37), (⟨"TreeBecomesModel", "isGoodA", "(I)Z"⟩, 37), (⟨"TreeBecomesModel", "isSame", "(II)Z"⟩, 37), (⟨"TreeBecomesModel", "leastOf", "(Z)I"⟩, 37), (⟨"TreeBecomesModel", "findWords", "()V"⟩, 37), (⟨"TreeBecomesModel", "offer", "(II)V"⟩, 37), (⟨"TreeBecomesModel", "put", "(II)V"⟩, 37), (⟨"TreeBecomesModel", "offerTwo", "(II)V"⟩, 37), (⟨"TreeBecomesModel", "isWanted", "(IZ)Z"⟩, 37), (⟨"TreeBecomesModel", "isGoodB", "(I)Z"⟩, 37), (⟨"TreeBecomesModel", "isLess", "(II)Z"⟩, 37), (⟨"TreeBecomesModel", "toldOf", "(II)I"⟩, 37), (⟨"TreeBecomesModel", "manyOf", "(IZ)J"⟩, 37), (⟨"TreeBecomesModel", "findTrees", "(I)V"⟩, 37), (⟨"TreeBecomesModel", "addTwo", "(IIII)V"⟩, 37)]
theorem lw_r4 : ∀ q ∈ lw_privs_4, lw_okq q := List.forall_mem_cons.mpr ⟨lw_p48, List.forall_mem_cons.mpr ⟨lw_p49, List.forall_mem_cons.mpr ⟨lw_p50, List.forall_mem_cons.mpr ⟨lw_p51, List.forall_mem_cons.mpr ⟨lw_p52, List.forall_mem_cons.mpr ⟨lw_p53, List.forall_mem_cons.mpr ⟨lw_p54, List.forall_mem_cons.mpr ⟨lw_p55, List.forall_mem_cons.mpr ⟨lw_p56, List.forall_mem_cons.mpr ⟨lw_p57, List.forall_mem_cons.mpr ⟨lw_p58, List.forall_mem_cons.mpr ⟨lw_p59, List.forall_mem_cons.mpr ⟨lw_p60, List.forall_mem_cons.mpr ⟨lw_p61, List.forall_mem_cons.mpr ⟨lw_p62, List.forall_mem_cons.mpr ⟨lw_p63, fun _ h => absurd h List.not_mem_nil⟩⟩⟩⟩⟩⟩⟩⟩⟩⟩⟩⟩⟩⟩⟩⟩
theorem lw_p64 : lw_okq (⟨"TreeBecomesModel", "refuses", "(IZ)I"⟩, 37) := ⟨⟨by decide +kernel, by decide +kernel⟩, List.mem_of_getElem? (i := 786) (by decide +kernel), List.mem_of_getElem? (i := 1118) (by decide +kernel), List.mem_of_getElem? (i := 1119) (by decide +kernel)⟩
theorem lw_p65 : lw_okq (⟨"TreeBecomesModel", "copy", "(II)V"⟩, 37) := ⟨⟨by decide +kernel, by decide +kernel⟩, List.mem_of_getElem? (i := 786) (by decide +kernel), List.mem_of_getElem? (i := 1147) (by decide +kernel), List.mem_of_getElem? (i := 1148) (by decide +kernel)⟩
def lw_privs_5 : List (MethodName × Nat) := [(⟨"TreeBecomesModel", "refuses", "(IZ)I"⟩, 37), (⟨"TreeBecomesModel", "copy", "(II)V"⟩, 37)]
theorem lw_r5 : ∀ q ∈ lw_privs_5, lw_okq q := List.forall_mem_cons.mpr ⟨lw_p64, List.forall_mem_cons.mpr ⟨lw_p65, fun _ h => absurd h List.not_mem_nil⟩⟩
def lw_privs : List (MethodName × Nat) := lw_privs_1 ++ (lw_privs_2 ++ (lw_privs_3 ++ (lw_privs_4 ++ (lw_privs_5))))
def lw_tbl : List Cond := k2_sels lw_privs ++ tables_1
theorem lw_privs_ok : ∀ q ∈ lw_privs, lw_okq q := by
  show ∀ q ∈ lw_privs_1 ++ (lw_privs_2 ++ (lw_privs_3 ++ (lw_privs_4 ++ (lw_privs_5)))), lw_okq q
  exact List.forall_mem_append.mpr ⟨lw_r1, List.forall_mem_append.mpr ⟨lw_r2, List.forall_mem_append.mpr ⟨lw_r3, List.forall_mem_append.mpr ⟨lw_r4, lw_r5⟩⟩⟩⟩
end
section
/-! ===== BEGIN words of one list among another's, by their places ===== -/
theorem goodIn_r {big : List Cond} (ws : List Cond) (ps : List Nat) (hp : ws = ps.filterMap (fun i => big[i]?)) (h : ws.all goodWord = true) : GoodIn big ws := by
  intro w hw
  have h1 := List.all_eq_true.mp h w hw
  rw [hp] at hw
  obtain ⟨i, -, hi⟩ := List.mem_filterMap.mp hw
  have hm : w ∈ big := by first | exact List.mem_of_getElem? hi | exact List.getElem?_mem hi
  exact ⟨hm, good_of_word h1⟩
theorem goodIn_app {big a b : List Cond} (ha : GoodIn big a) (hb : GoodIn big b) : GoodIn big (a ++ b) := fun w h => (List.mem_append.mp h).elim (ha w) (hb w)
theorem goodIn_ca {big a b : List Cond} {c : Cond} (ha : GoodIn big (c :: a)) (hb : GoodIn big b) : GoodIn big (c :: (a ++ b)) := fun w h => (List.mem_cons.mp h).elim (fun e => ha w (List.mem_cons.mpr (Or.inl e))) (fun h => (List.mem_append.mp h).elim (fun h => ha w (List.mem_cons.mpr (Or.inr h))) (hb w))
theorem goodIn_sub {big ws : List Cond} (hm : ∀ w ∈ ws, w ∈ big) (h : ws.all goodWord = true) : GoodIn big ws := fun w hw => ⟨hm w hw, good_of_word (List.all_eq_true.mp h w hw)⟩
/-! ===== END ===== -/

/-! ===== BEGIN printed: names, fields, word lists, decode rows ===== -/
def RX0 : String := "TreeBecomes$Climb"
def TX0 : u_T := fun k => match k with
  | 0 => ("TreeBecomes$Climb", "comes", "[I", true)
  | 1 => ("TreeBecomes$Climb", "ways", "[J", true)
  | 2 => ("TreeBecomes$Climb", "cost", "[I", true)
  | _ => ("TreeBecomes$Climb", "code", "[J", true)
def tyX0 : Nat → FieldType := fun k => match k with
  | 0 => .array .int
  | 1 => .array .long
  | 2 => .array .int
  | _ => .array .long
abbrev wsX00 : List Cond := u_ws RX0 TX0 4
theorem nmX0 : ∀ a, a < 4 → ∀ b, b < 4 → a ≠ b → (TX0 a).2.1 ≠ (TX0 b).2.1 := by decide +kernel
theorem tyX0_ok : ∀ k, k < 4 → parseFieldDescriptor (TX0 k).2.2.1 = some (tyX0 k) := by decide +kernel
abbrev cX0_init : ByteArray := prog_2_method_1_code
def yX0_init : MethodName := ⟨RX0, "<init>", "()V"⟩
abbrev cX0_come : ByteArray := prog_2_method_2_code
def yX0_come : MethodName := ⟨RX0, "come", "(LTreeBecomes$Tree;LTreeBecomes$Law;I)V"⟩
abbrev cX0_comesOf : ByteArray := prog_2_method_3_code
def yX0_comesOf : MethodName := ⟨RX0, "comesOf", "(LTreeBecomes$Tree;I)I"⟩
abbrev cX0_placeOf : ByteArray := prog_2_method_4_code
def yX0_placeOf : MethodName := ⟨RX0, "placeOf", "(LTreeBecomes$Tree;II)I"⟩
abbrev cX0_countWays : ByteArray := prog_2_method_5_code
def yX0_countWays : MethodName := ⟨RX0, "countWays", "(LTreeBecomes$Tree;LTreeBecomes$Law;I)V"⟩
abbrev cX0_waysBy : ByteArray := prog_2_method_6_code
def yX0_waysBy : MethodName := ⟨RX0, "waysBy", "(LTreeBecomes$Tree;LTreeBecomes$Law;II)J"⟩
abbrev cX0_goodWays : ByteArray := prog_2_method_7_code
def yX0_goodWays : MethodName := ⟨RX0, "goodWays", "(I)I"⟩
abbrev cX0_weighChanges : ByteArray := prog_2_method_8_code
def yX0_weighChanges : MethodName := ⟨RX0, "weighChanges", "(LTreeBecomes$Tree;LTreeBecomes$Law;I)V"⟩
abbrev cX0_weighRule : ByteArray := prog_2_method_9_code
def yX0_weighRule : MethodName := ⟨RX0, "weighRule", "(LTreeBecomes$Tree;LTreeBecomes$Law;II)V"⟩
abbrev cX0_cheapestOf : ByteArray := prog_2_method_10_code
def yX0_cheapestOf : MethodName := ⟨RX0, "cheapestOf", "(I)I"⟩
abbrev cX0_isBetter : ByteArray := prog_2_method_11_code
def yX0_isBetter : MethodName := ⟨RX0, "isBetter", "(II)Z"⟩
abbrev cX0_codeOfStep : ByteArray := prog_2_method_12_code
def yX0_codeOfStep : MethodName := ⟨RX0, "codeOfStep", "(II)J"⟩
abbrev cX0_stepInCode : ByteArray := prog_2_method_13_code
def yX0_stepInCode : MethodName := ⟨RX0, "stepInCode", "(JI)I"⟩
def RX1 : String := "TreeBecomes$Image"
def TX1 : u_T := fun k => match k with
  | 0 => ("TreeBecomes$Image", "kept", "Z", false)
  | 1 => ("TreeBecomes$Image", "on", "I", false)
  | 2 => ("TreeBecomes$Image", "goods", "I", false)
  | _ => ("TreeBecomes$Image", "nodes", "LTreeBecomes$Tree;", true)
def tyX1 : Nat → FieldType := fun k => match k with
  | 0 => .boolean
  | 1 => .int
  | 2 => .int
  | _ => .object "TreeBecomes$Tree"
abbrev wsX10 : List Cond := u_ws RX1 TX1 4
theorem nmX1 : ∀ a, a < 4 → ∀ b, b < 4 → a ≠ b → (TX1 a).2.1 ≠ (TX1 b).2.1 := by decide +kernel
theorem tyX1_ok : ∀ k, k < 4 → parseFieldDescriptor (TX1 k).2.2.1 = some (tyX1 k) := by decide +kernel
abbrev cX1_init : ByteArray := prog_3_method_1_code
def yX1_init : MethodName := ⟨RX1, "<init>", "()V"⟩
def RX2 : String := "TreeBecomes$Kin"
def TX2 : u_T := fun k => match k with
  | 0 => ("TreeBecomes$Kin", "kind", "[I", true)
  | 1 => ("TreeBecomes$Kin", "next", "[I", true)
  | _ => ("TreeBecomes$Kin", "one", "[I", true)
def tyX2 : Nat → FieldType := fun k => match k with
  | 0 => .array .int
  | 1 => .array .int
  | _ => .array .int
abbrev wsX20 : List Cond := u_ws RX2 TX2 3
theorem nmX2 : ∀ a, a < 3 → ∀ b, b < 3 → a ≠ b → (TX2 a).2.1 ≠ (TX2 b).2.1 := by decide +kernel
theorem tyX2_ok : ∀ k, k < 3 → parseFieldDescriptor (TX2 k).2.2.1 = some (tyX2 k) := by decide +kernel
abbrev cX2_init : ByteArray := prog_4_method_1_code
def yX2_init : MethodName := ⟨RX2, "<init>", "()V"⟩
abbrev cX2_countKinds : ByteArray := prog_4_method_2_code
def yX2_countKinds : MethodName := ⟨RX2, "countKinds", "(LTreeBecomes$Pairs;I)I"⟩
abbrev cX2_splitByMoves : ByteArray := prog_4_method_3_code
def yX2_splitByMoves : MethodName := ⟨RX2, "splitByMoves", "(LTreeBecomes$Pairs;)I"⟩
abbrev cX2_isLike : ByteArray := prog_4_method_4_code
def yX2_isLike : MethodName := ⟨RX2, "isLike", "(LTreeBecomes$Pairs;II)Z"⟩
abbrev cX2_areKinds : ByteArray := prog_4_method_5_code
def yX2_areKinds : MethodName := ⟨RX2, "areKinds", "(II)Z"⟩
def RX3 : String := "TreeBecomes$Law"
def TX3 : u_T := fun k => match k with
  | 0 => ("TreeBecomes$Law", "sign", "[I", true)
  | 1 => ("TreeBecomes$Law", "first", "[I", true)
  | 2 => ("TreeBecomes$Law", "second", "[I", true)
  | 3 => ("TreeBecomes$Law", "result", "[I", true)
  | 4 => ("TreeBecomes$Law", "many", "I", false)
  | _ => ("TreeBecomes$Law", "toldGood", "I", false)
def tyX3 : Nat → FieldType := fun k => match k with
  | 0 => .array .int
  | 1 => .array .int
  | 2 => .array .int
  | 3 => .array .int
  | 4 => .int
  | _ => .int
abbrev wsX30 : List Cond := u_ws RX3 TX3 6
theorem nmX3 : ∀ a, a < 6 → ∀ b, b < 6 → a ≠ b → (TX3 a).2.1 ≠ (TX3 b).2.1 := by decide +kernel
theorem tyX3_ok : ∀ k, k < 6 → parseFieldDescriptor (TX3 k).2.2.1 = some (tyX3 k) := by decide +kernel
abbrev cX3_init : ByteArray := prog_5_method_1_code
def yX3_init : MethodName := ⟨RX3, "<init>", "()V"⟩
abbrev cX3_has : ByteArray := prog_5_method_2_code
def yX3_has : MethodName := ⟨RX3, "has", "(I)Z"⟩
abbrev cX3_allOn : ByteArray := prog_5_method_3_code
def yX3_allOn : MethodName := ⟨RX3, "allOn", "()I"⟩
abbrev cX3_read : ByteArray := prog_5_method_4_code
def yX3_read : MethodName := ⟨RX3, "read", "(LTreeBecomes$Text;)I"⟩
abbrev cX3_readItem : ByteArray := prog_5_method_5_code
def yX3_readItem : MethodName := ⟨RX3, "readItem", "(LTreeBecomes$Text;)Z"⟩
abbrev cX3_readRule : ByteArray := prog_5_method_6_code
def yX3_readRule : MethodName := ⟨RX3, "readRule", "(LTreeBecomes$Text;)Z"⟩
abbrev cX3_readGood : ByteArray := prog_5_method_7_code
def yX3_readGood : MethodName := ⟨RX3, "readGood", "(LTreeBecomes$Text;)Z"⟩
abbrev cX3_copyFrom : ByteArray := prog_5_method_8_code
def yX3_copyFrom : MethodName := ⟨RX3, "copyFrom", "(LTreeBecomes$Law;)V"⟩
abbrev cX3_fits : ByteArray := prog_5_method_9_code
def yX3_fits : MethodName := ⟨RX3, "fits", "(III)Z"⟩
abbrev cX3_outcomes : ByteArray := prog_5_method_10_code
def yX3_outcomes : MethodName := ⟨RX3, "outcomes", "(IIII)I"⟩
abbrev cX3_reachedStates : ByteArray := prog_5_method_11_code
def yX3_reachedStates : MethodName := ⟨RX3, "reachedStates", "(I)I"⟩
abbrev cX3_usefulStates : ByteArray := prog_5_method_12_code
def yX3_usefulStates : MethodName := ⟨RX3, "usefulStates", "(II)I"⟩
abbrev cX3_armStates : ByteArray := prog_5_method_13_code
def yX3_armStates : MethodName := ⟨RX3, "armStates", "(I)I"⟩
def RX4 : String := "TreeBecomes$Pairs"
def TX4 : u_T := fun k => match k with
  | 0 => ("TreeBecomes$Pairs", "states", "[I", true)
  | 1 => ("TreeBecomes$Pairs", "asFirst", "[I", true)
  | 2 => ("TreeBecomes$Pairs", "asSecond", "[I", true)
  | 3 => ("TreeBecomes$Pairs", "size", "[I", true)
  | 4 => ("TreeBecomes$Pairs", "sign", "[I", true)
  | 5 => ("TreeBecomes$Pairs", "first", "[I", true)
  | 6 => ("TreeBecomes$Pairs", "second", "[I", true)
  | 7 => ("TreeBecomes$Pairs", "isFinal", "[Z", true)
  | 8 => ("TreeBecomes$Pairs", "numbers", "[S", true)
  | 9 => ("TreeBecomes$Pairs", "rulesOf", "[I", true)
  | 10 => ("TreeBecomes$Pairs", "under", "[S", true)
  | 11 => ("TreeBecomes$Pairs", "joined", "[S", true)
  | 12 => ("TreeBecomes$Pairs", "tally", "LTreeBecomes$Tally;", true)
  | 13 => ("TreeBecomes$Pairs", "kin", "LTreeBecomes$Kin;", true)
  | 14 => ("TreeBecomes$Pairs", "law", "LTreeBecomes$Law;", true)
  | 15 => ("TreeBecomes$Pairs", "onHere", "I", false)
  | 16 => ("TreeBecomes$Pairs", "onThere", "I", false)
  | 17 => ("TreeBecomes$Pairs", "many", "I", false)
  | _ => ("TreeBecomes$Pairs", "full", "Z", false)
def tyX4 : Nat → FieldType := fun k => match k with
  | 0 => .array .int
  | 1 => .array .int
  | 2 => .array .int
  | 3 => .array .int
  | 4 => .array .int
  | 5 => .array .int
  | 6 => .array .int
  | 7 => .array .boolean
  | 8 => .array .short
  | 9 => .array .int
  | 10 => .array .short
  | 11 => .array .short
  | 12 => .object "TreeBecomes$Tally"
  | 13 => .object "TreeBecomes$Kin"
  | 14 => .object "TreeBecomes$Law"
  | 15 => .int
  | 16 => .int
  | 17 => .int
  | _ => .boolean
abbrev wsX40 : List Cond := u_ws RX4 TX4 19
theorem nmX4 : ∀ a, a < 19 → ∀ b, b < 19 → a ≠ b → (TX4 a).2.1 ≠ (TX4 b).2.1 := by decide +kernel
theorem tyX4_ok : ∀ k, k < 19 → parseFieldDescriptor (TX4 k).2.2.1 = some (tyX4 k) := by decide +kernel
abbrev cX4_init : ByteArray := prog_6_method_1_code
def yX4_init : MethodName := ⟨RX4, "<init>", "()V"⟩
abbrev cX4_forget : ByteArray := prog_6_method_2_code
def yX4_forget : MethodName := ⟨RX4, "forget", "()V"⟩
abbrev cX4_learn : ByteArray := prog_6_method_3_code
def yX4_learn : MethodName := ⟨RX4, "learn", "(LTreeBecomes$Law;II)V"⟩
abbrev cX4_begin : ByteArray := prog_6_method_4_code
def yX4_begin : MethodName := ⟨RX4, "begin", "()V"⟩
abbrev cX4_nearest : ByteArray := prog_6_method_5_code
def yX4_nearest : MethodName := ⟨RX4, "nearest", "()I"⟩
abbrev cX4_join : ByteArray := prog_6_method_6_code
def yX4_join : MethodName := ⟨RX4, "join", "(II)V"⟩
abbrev cX4_offer : ByteArray := prog_6_method_7_code
def yX4_offer : MethodName := ⟨RX4, "offer", "(IIII)I"⟩
abbrev cX4_resultsOf : ByteArray := prog_6_method_8_code
def yX4_resultsOf : MethodName := ⟨RX4, "resultsOf", "(I)I"⟩
abbrev cX4_sizeOver : ByteArray := prog_6_method_9_code
def yX4_sizeOver : MethodName := ⟨RX4, "sizeOver", "(II)I"⟩
abbrev cX4_add : ByteArray := prog_6_method_10_code
def yX4_add : MethodName := ⟨RX4, "add", "(I)V"⟩
abbrev cX4_ruleBits : ByteArray := prog_6_method_11_code
def yX4_ruleBits : MethodName := ⟨RX4, "ruleBits", "(III)I"⟩
abbrev cX4_isLess : ByteArray := prog_6_method_12_code
def yX4_isLess : MethodName := ⟨RX4, "isLess", "(IIIII)Z"⟩
abbrev cX4_comesBefore : ByteArray := prog_6_method_13_code
def yX4_comesBefore : MethodName := ⟨RX4, "comesBefore", "(II)Z"⟩
abbrev cX4_sizeOf : ByteArray := prog_6_method_14_code
def yX4_sizeOf : MethodName := ⟨RX4, "sizeOf", "(I)I"⟩
abbrev cX4_overOne : ByteArray := prog_6_method_15_code
def yX4_overOne : MethodName := ⟨RX4, "overOne", "(I)I"⟩
abbrev cX4_overTwo : ByteArray := prog_6_method_16_code
def yX4_overTwo : MethodName := ⟨RX4, "overTwo", "(II)I"⟩
abbrev cX4_lowOf : ByteArray := prog_6_method_17_code
def yX4_lowOf : MethodName := ⟨RX4, "lowOf", "(I)I"⟩
abbrev cX4_highOf : ByteArray := prog_6_method_18_code
def yX4_highOf : MethodName := ⟨RX4, "highOf", "(I)I"⟩
abbrev cX4_isGoodHere : ByteArray := prog_6_method_19_code
def yX4_isGoodHere : MethodName := ⟨RX4, "isGoodHere", "(II)Z"⟩
abbrev cX4_isGoodThere : ByteArray := prog_6_method_20_code
def yX4_isGoodThere : MethodName := ⟨RX4, "isGoodThere", "(II)Z"⟩
abbrev cX4_isApart : ByteArray := prog_6_method_21_code
def yX4_isApart : MethodName := ⟨RX4, "isApart", "(III)Z"⟩
abbrev cX4_leastApart : ByteArray := prog_6_method_22_code
def yX4_leastApart : MethodName := ⟨RX4, "leastApart", "(II)I"⟩
abbrev cX4_tellTree : ByteArray := prog_6_method_23_code
def yX4_tellTree : MethodName := ⟨RX4, "tellTree", "(II)I"⟩
abbrev cX4_signAt : ByteArray := prog_6_method_24_code
def yX4_signAt : MethodName := ⟨RX4, "signAt", "(II)I"⟩
def RX5 : String := "TreeBecomes$Tally"
def TX5 : u_T := fun k => match k with
  | 0 => ("TreeBecomes$Tally", "trees", "[J", true)
  | 1 => ("TreeBecomes$Tally", "leaf", "[I", true)
  | _ => ("TreeBecomes$Tally", "isDone", "Z", false)
def tyX5 : Nat → FieldType := fun k => match k with
  | 0 => .array .long
  | 1 => .array .int
  | _ => .boolean
abbrev wsX50 : List Cond := u_ws RX5 TX5 3
theorem nmX5 : ∀ a, a < 3 → ∀ b, b < 3 → a ≠ b → (TX5 a).2.1 ≠ (TX5 b).2.1 := by decide +kernel
theorem tyX5_ok : ∀ k, k < 3 → parseFieldDescriptor (TX5 k).2.2.1 = some (tyX5 k) := by decide +kernel
abbrev cX5_init : ByteArray := prog_7_method_1_code
def yX5_init : MethodName := ⟨RX5, "<init>", "()V"⟩
abbrev cX5_begin : ByteArray := prog_7_method_2_code
def yX5_begin : MethodName := ⟨RX5, "begin", "()V"⟩
abbrev cX5_putLeaf : ByteArray := prog_7_method_3_code
def yX5_putLeaf : MethodName := ⟨RX5, "putLeaf", "(II)V"⟩
abbrev cX5_treesOf : ByteArray := prog_7_method_4_code
def yX5_treesOf : MethodName := ⟨RX5, "treesOf", "(LTreeBecomes$Pairs;II)J"⟩
abbrev cX5_addLeaves : ByteArray := prog_7_method_5_code
def yX5_addLeaves : MethodName := ⟨RX5, "addLeaves", "()V"⟩
abbrev cX5_addOneArmed : ByteArray := prog_7_method_6_code
def yX5_addOneArmed : MethodName := ⟨RX5, "addOneArmed", "(LTreeBecomes$Pairs;I)V"⟩
abbrev cX5_addTwoArmed : ByteArray := prog_7_method_7_code
def yX5_addTwoArmed : MethodName := ⟨RX5, "addTwoArmed", "(LTreeBecomes$Pairs;I)V"⟩
abbrev cX5_addBoth : ByteArray := prog_7_method_8_code
def yX5_addBoth : MethodName := ⟨RX5, "addBoth", "(IIJ)V"⟩
def RX6 : String := "TreeBecomes$Text"
def TX6 : u_T := fun k => match k with
  | 0 => ("TreeBecomes$Text", "bytes", "[I", true)
  | 1 => ("TreeBecomes$Text", "length", "I", false)
  | 2 => ("TreeBecomes$Text", "place", "I", false)
  | 3 => ("TreeBecomes$Text", "token", "I", false)
  | 4 => ("TreeBecomes$Text", "value", "I", false)
  | _ => ("TreeBecomes$Text", "ahead", "I", false)
def tyX6 : Nat → FieldType := fun k => match k with
  | 0 => .array .int
  | 1 => .int
  | 2 => .int
  | 3 => .int
  | 4 => .int
  | _ => .int
abbrev wsX60 : List Cond := u_ws RX6 TX6 6
theorem nmX6 : ∀ a, a < 6 → ∀ b, b < 6 → a ≠ b → (TX6 a).2.1 ≠ (TX6 b).2.1 := by decide +kernel
theorem tyX6_ok : ∀ k, k < 6 → parseFieldDescriptor (TX6 k).2.2.1 = some (tyX6 k) := by decide +kernel
abbrev cX6_init : ByteArray := prog_8_method_1_code
def yX6_init : MethodName := ⟨RX6, "<init>", "()V"⟩
abbrev cX6_put : ByteArray := prog_8_method_2_code
def yX6_put : MethodName := ⟨RX6, "put", "(I)V"⟩
abbrev cX6_byteAt : ByteArray := prog_8_method_3_code
def yX6_byteAt : MethodName := ⟨RX6, "byteAt", "(I)I"⟩
abbrev cX6_begin : ByteArray := prog_8_method_4_code
def yX6_begin : MethodName := ⟨RX6, "begin", "()V"⟩
abbrev cX6_next : ByteArray := prog_8_method_5_code
def yX6_next : MethodName := ⟨RX6, "next", "()V"⟩
abbrev cX6_isStateNext : ByteArray := prog_8_method_6_code
def yX6_isStateNext : MethodName := ⟨RX6, "isStateNext", "()Z"⟩
abbrev cX6_readWord : ByteArray := prog_8_method_7_code
def yX6_readWord : MethodName := ⟨RX6, "readWord", "()V"⟩
abbrev cX6_isGoodWord : ByteArray := prog_8_method_8_code
def yX6_isGoodWord : MethodName := ⟨RX6, "isGoodWord", "()Z"⟩
abbrev cX6_readNumber : ByteArray := prog_8_method_9_code
def yX6_readNumber : MethodName := ⟨RX6, "readNumber", "()V"⟩
abbrev cX6_isLetter : ByteArray := prog_8_method_10_code
def yX6_isLetter : MethodName := ⟨RX6, "isLetter", "(I)Z"⟩
abbrev cX6_isDigit : ByteArray := prog_8_method_11_code
def yX6_isDigit : MethodName := ⟨RX6, "isDigit", "(I)Z"⟩
def RX7 : String := "TreeBecomes$Tree"
def TX7 : u_T := fun k => match k with
  | 0 => ("TreeBecomes$Tree", "sign", "[I", true)
  | 1 => ("TreeBecomes$Tree", "part", "[I", true)
  | 2 => ("TreeBecomes$Tree", "over", "[I", true)
  | 3 => ("TreeBecomes$Tree", "moved", "[I", true)
  | _ => ("TreeBecomes$Tree", "many", "I", false)
def tyX7 : Nat → FieldType := fun k => match k with
  | 0 => .array .int
  | 1 => .array .int
  | 2 => .array .int
  | 3 => .array .int
  | _ => .int
abbrev wsX70 : List Cond := u_ws RX7 TX7 5
theorem nmX7 : ∀ a, a < 5 → ∀ b, b < 5 → a ≠ b → (TX7 a).2.1 ≠ (TX7 b).2.1 := by decide +kernel
theorem tyX7_ok : ∀ k, k < 5 → parseFieldDescriptor (TX7 k).2.2.1 = some (tyX7 k) := by decide +kernel
abbrev cX7_init : ByteArray := prog_9_method_1_code
def yX7_init : MethodName := ⟨RX7, "<init>", "()V"⟩
abbrev cX7_has : ByteArray := prog_9_method_2_code
def yX7_has : MethodName := ⟨RX7, "has", "(I)Z"⟩
abbrev cX7_read : ByteArray := prog_9_method_3_code
def yX7_read : MethodName := ⟨RX7, "read", "(LTreeBecomes$Text;)I"⟩
abbrev cX7_settle : ByteArray := prog_9_method_4_code
def yX7_settle : MethodName := ⟨RX7, "settle", "()V"⟩
abbrev cX7_secondArm : ByteArray := prog_9_method_5_code
def yX7_secondArm : MethodName := ⟨RX7, "secondArm", "(I)I"⟩
abbrev cX7_swapArms : ByteArray := prog_9_method_6_code
def yX7_swapArms : MethodName := ⟨RX7, "swapArms", "(I)V"⟩
abbrev cX7_copyFrom : ByteArray := prog_9_method_7_code
def yX7_copyFrom : MethodName := ⟨RX7, "copyFrom", "(LTreeBecomes$Tree;)V"⟩
def RX8 : String := "TreeBecomes"
def TX8 : u_T := fun k => match k with
  | 0 => ("TreeBecomes", "text", "LTreeBecomes$Text;", true)
  | 1 => ("TreeBecomes", "images", "[LTreeBecomes$Image;", true)
  | 2 => ("TreeBecomes", "climb", "LTreeBecomes$Climb;", true)
  | 3 => ("TreeBecomes", "pairs", "LTreeBecomes$Pairs;", true)
  | 4 => ("TreeBecomes", "rules", "LTreeBecomes$Law;", false)
  | 5 => ("TreeBecomes", "spareRules", "LTreeBecomes$Law;", false)
  | 6 => ("TreeBecomes", "nodes", "LTreeBecomes$Tree;", false)
  | 7 => ("TreeBecomes", "spareNodes", "LTreeBecomes$Tree;", false)
  | 8 => ("TreeBecomes", "on", "I", false)
  | 9 => ("TreeBecomes", "goods", "I", false)
  | _ => ("TreeBecomes", "asked", "J", false)
def tyX8 : Nat → FieldType := fun k => match k with
  | 0 => .object "TreeBecomes$Text"
  | 1 => .array (.object "TreeBecomes$Image")
  | 2 => .object "TreeBecomes$Climb"
  | 3 => .object "TreeBecomes$Pairs"
  | 4 => .object "TreeBecomes$Law"
  | 5 => .object "TreeBecomes$Law"
  | 6 => .object "TreeBecomes$Tree"
  | 7 => .object "TreeBecomes$Tree"
  | 8 => .int
  | 9 => .int
  | _ => .long
abbrev wsX80 : List Cond := u_ws RX8 TX8 11
theorem nmX8 : ∀ a, a < 11 → ∀ b, b < 11 → a ≠ b → (TX8 a).2.1 ≠ (TX8 b).2.1 := by decide +kernel
theorem tyX8_ok : ∀ k, k < 11 → parseFieldDescriptor (TX8 k).2.2.1 = some (tyX8 k) := by decide +kernel
abbrev cX8_init : ByteArray := prog_1_method_1_code
def yX8_init : MethodName := ⟨RX8, "<init>", "()V"⟩
abbrev cX8_type : ByteArray := prog_1_method_2_code
def yX8_type : MethodName := ⟨RX8, "type", "(JI)I"⟩
abbrev cX8_clear : ByteArray := prog_1_method_3_code
def yX8_clear : MethodName := ⟨RX8, "clear", "()I"⟩
abbrev cX8_law : ByteArray := prog_1_method_4_code
def yX8_law : MethodName := ⟨RX8, "law", "()I"⟩
abbrev cX8_tree : ByteArray := prog_1_method_5_code
def yX8_tree : MethodName := ⟨RX8, "tree", "()I"⟩
abbrev cX8_rule : ByteArray := prog_1_method_6_code
def yX8_rule : MethodName := ⟨RX8, "rule", "(II)I"⟩
abbrev cX8_turn : ByteArray := prog_1_method_7_code
def yX8_turn : MethodName := ⟨RX8, "turn", "(II)I"⟩
abbrev cX8_good : ByteArray := prog_1_method_8_code
def yX8_good : MethodName := ⟨RX8, "good", "(II)I"⟩
abbrev cX8_node : ByteArray := prog_1_method_9_code
def yX8_node : MethodName := ⟨RX8, "node", "(II)I"⟩
abbrev cX8_sign : ByteArray := prog_1_method_10_code
def yX8_sign : MethodName := ⟨RX8, "sign", "(II)I"⟩
abbrev cX8_exchange : ByteArray := prog_1_method_11_code
def yX8_exchange : MethodName := ⟨RX8, "exchange", "(I)I"⟩
abbrev cX8_isGood : ByteArray := prog_1_method_12_code
def yX8_isGood : MethodName := ⟨RX8, "isGood", "()I"⟩
abbrev cX8_runs : ByteArray := prog_1_method_13_code
def yX8_runs : MethodName := ⟨RX8, "runs", "()I"⟩
abbrev cX8_places : ByteArray := prog_1_method_14_code
def yX8_places : MethodName := ⟨RX8, "places", "(I)I"⟩
abbrev cX8_mend : ByteArray := prog_1_method_15_code
def yX8_mend : MethodName := ⟨RX8, "mend", "(I)I"⟩
abbrev cX8_sets : ByteArray := prog_1_method_16_code
def yX8_sets : MethodName := ⟨RX8, "sets", "()I"⟩
abbrev cX8_classes : ByteArray := prog_1_method_17_code
def yX8_classes : MethodName := ⟨RX8, "classes", "()I"⟩
abbrev cX8_useful : ByteArray := prog_1_method_18_code
def yX8_useful : MethodName := ⟨RX8, "useful", "()I"⟩
abbrev cX8_least : ByteArray := prog_1_method_19_code
def yX8_least : MethodName := ⟨RX8, "least", "(I)I"⟩
abbrev cX8_many : ByteArray := prog_1_method_20_code
def yX8_many : MethodName := ⟨RX8, "many", "(I)J"⟩
abbrev cX8_alike : ByteArray := prog_1_method_21_code
def yX8_alike : MethodName := ⟨RX8, "alike", "(I)I"⟩
abbrev cX8_apart : ByteArray := prog_1_method_22_code
def yX8_apart : MethodName := ⟨RX8, "apart", "(II)I"⟩
abbrev cX8_both : ByteArray := prog_1_method_23_code
def yX8_both : MethodName := ⟨RX8, "both", "(II)J"⟩
abbrev cX8_mark : ByteArray := prog_1_method_24_code
def yX8_mark : MethodName := ⟨RX8, "mark", "(II)I"⟩
abbrev cX8_keep : ByteArray := prog_1_method_25_code
def yX8_keep : MethodName := ⟨RX8, "keep", "(I)I"⟩
abbrev cX8_back : ByteArray := prog_1_method_26_code
def yX8_back : MethodName := ⟨RX8, "back", "(I)I"⟩
abbrev cX8_count : ByteArray := prog_1_method_27_code
def yX8_count : MethodName := ⟨RX8, "count", "(I)I"⟩
abbrev cX8_trace : ByteArray := prog_1_method_28_code
def yX8_trace : MethodName := ⟨RX8, "trace", "()J"⟩
abbrev cX8_worthAs : ByteArray := prog_1_method_29_code
def yX8_worthAs : MethodName := ⟨RX8, "worthAs", "(II)I"⟩
abbrev cX8_comesTo : ByteArray := prog_1_method_30_code
def yX8_comesTo : MethodName := ⟨RX8, "comesTo", "(I)I"⟩
abbrev cX8_pairsWith : ByteArray := prog_1_method_31_code
def yX8_pairsWith : MethodName := ⟨RX8, "pairsWith", "(I)LTreeBecomes$Pairs;"⟩
abbrev cX8_refusalOf : ByteArray := prog_1_method_32_code
def yX8_refusalOf : MethodName := ⟨RX8, "refusalOf", "(I)I"⟩
abbrev cX8_isImage : ByteArray := prog_1_method_33_code
def yX8_isImage : MethodName := ⟨RX8, "isImage", "(I)Z"⟩
abbrev cX8_isCounted : ByteArray := prog_1_method_34_code
def yX8_isCounted : MethodName := ⟨RX8, "isCounted", "(I)Z"⟩
abbrev cX8_isState : ByteArray := prog_1_method_35_code
def yX8_isState : MethodName := ⟨RX8, "isState", "(I)Z"⟩
abbrev cX8_isBit : ByteArray := prog_1_method_36_code
def yX8_isBit : MethodName := ⟨RX8, "isBit", "(I)Z"⟩
abbrev cX8_bit : ByteArray := prog_1_method_37_code
def yX8_bit : MethodName := ⟨RX8, "bit", "(II)I"⟩
abbrev cX8_withBit : ByteArray := prog_1_method_38_code
def yX8_withBit : MethodName := ⟨RX8, "withBit", "(III)I"⟩
abbrev cX8_armsOf : ByteArray := prog_1_method_39_code
def yX8_armsOf : MethodName := ⟨RX8, "armsOf", "(I)I"⟩
abbrev cX8_firstSignWith : ByteArray := prog_1_method_40_code
def yX8_firstSignWith : MethodName := ⟨RX8, "firstSignWith", "(I)I"⟩
def RX9 : String := "TreeBecomesModel"
def TX9 : u_T := fun k => match k with
  | 0 => ("TreeBecomesModel", "trace", "J", false)
  | 1 => ("TreeBecomesModel", "text", "[B", true)
  | 2 => ("TreeBecomesModel", "typed", "I", false)
  | 3 => ("TreeBecomesModel", "rules", "[I", true)
  | 4 => ("TreeBecomesModel", "signs", "[I", true)
  | 5 => ("TreeBecomesModel", "ones", "[I", true)
  | 6 => ("TreeBecomesModel", "twos", "[I", true)
  | 7 => ("TreeBecomesModel", "makes", "[I", true)
  | 8 => ("TreeBecomesModel", "at", "I", false)
  | 9 => ("TreeBecomesModel", "start", "I", false)
  | 10 => ("TreeBecomesModel", "sort", "I", false)
  | 11 => ("TreeBecomesModel", "value", "I", false)
  | 12 => ("TreeBecomesModel", "fault", "I", false)
  | 13 => ("TreeBecomesModel", "goodDraft", "I", false)
  | 14 => ("TreeBecomesModel", "now", "[I", true)
  | 15 => ("TreeBecomesModel", "isKept", "[Z", true)
  | 16 => ("TreeBecomesModel", "made", "[I", true)
  | 17 => ("TreeBecomesModel", "part", "[I", true)
  | 18 => ("TreeBecomesModel", "comes", "[I", true)
  | 19 => ("TreeBecomesModel", "ways", "[J", true)
  | 20 => ("TreeBecomesModel", "costs", "[I", true)
  | 21 => ("TreeBecomesModel", "settled", "[I", true)
  | 22 => ("TreeBecomesModel", "pairs", "I", false)
  | 23 => ("TreeBecomesModel", "pairA", "[I", true)
  | 24 => ("TreeBecomesModel", "pairB", "[I", true)
  | 25 => ("TreeBecomesModel", "next0", "[I", true)
  | 26 => ("TreeBecomesModel", "next1", "[I", true)
  | 27 => ("TreeBecomesModel", "next2", "[I", true)
  | 28 => ("TreeBecomesModel", "onB", "I", false)
  | 29 => ("TreeBecomesModel", "goodB", "I", false)
  | 30 => ("TreeBecomesModel", "isTooMany", "Z", false)
  | 31 => ("TreeBecomesModel", "kindOf", "[I", true)
  | 32 => ("TreeBecomesModel", "kindThen", "[I", true)
  | 33 => ("TreeBecomesModel", "size", "[I", true)
  | 34 => ("TreeBecomesModel", "word", "[I", true)
  | 35 => ("TreeBecomesModel", "tried", "[I", true)
  | _ => ("TreeBecomesModel", "trees", "[J", true)
def tyX9 : Nat → FieldType := fun k => match k with
  | 0 => .long
  | 1 => .array .byte
  | 2 => .int
  | 3 => .array .int
  | 4 => .array .int
  | 5 => .array .int
  | 6 => .array .int
  | 7 => .array .int
  | 8 => .int
  | 9 => .int
  | 10 => .int
  | 11 => .int
  | 12 => .int
  | 13 => .int
  | 14 => .array .int
  | 15 => .array .boolean
  | 16 => .array .int
  | 17 => .array .int
  | 18 => .array .int
  | 19 => .array .long
  | 20 => .array .int
  | 21 => .array .int
  | 22 => .int
  | 23 => .array .int
  | 24 => .array .int
  | 25 => .array .int
  | 26 => .array .int
  | 27 => .array .int
  | 28 => .int
  | 29 => .int
  | 30 => .boolean
  | 31 => .array .int
  | 32 => .array .int
  | 33 => .array .int
  | 34 => .array .int
  | 35 => .array .int
  | _ => .array .long
abbrev wsX90 : List Cond := u_ws RX9 TX9 37
theorem nmX9 : ∀ a, a < 37 → ∀ b, b < 37 → a ≠ b → (TX9 a).2.1 ≠ (TX9 b).2.1 := by decide +kernel
theorem tyX9_ok : ∀ k, k < 37 → parseFieldDescriptor (TX9 k).2.2.1 = some (tyX9 k) := by decide +kernel
abbrev cX9_init : ByteArray := prog_11_method_1_code
def yX9_init : MethodName := ⟨RX9, "<init>", "()V"⟩
abbrev cX9_in : ByteArray := prog_11_method_3_code
def yX9_in : MethodName := ⟨RX9, "in", "(III)Z"⟩
abbrev cX9_armsOf : ByteArray := prog_11_method_4_code
def yX9_armsOf : MethodName := ⟨RX9, "armsOf", "(I)I"⟩
abbrev cX9_type : ByteArray := prog_11_method_5_code
def yX9_type : MethodName := ⟨RX9, "type", "(JI)I"⟩
abbrev cX9_clear : ByteArray := prog_11_method_6_code
def yX9_clear : MethodName := ⟨RX9, "clear", "()I"⟩
abbrev cX9_here : ByteArray := prog_11_method_7_code
def yX9_here : MethodName := ⟨RX9, "here", "()I"⟩
abbrev cX9_next : ByteArray := prog_11_method_8_code
def yX9_next : MethodName := ⟨RX9, "next", "()V"⟩
abbrev cX9_due : ByteArray := prog_11_method_9_code
def yX9_due : MethodName := ⟨RX9, "due", "(Z)I"⟩
abbrev cX9_state : ByteArray := prog_11_method_10_code
def yX9_state : MethodName := ⟨RX9, "state", "()I"⟩
abbrev cX9_readItem : ByteArray := prog_11_method_11_code
def yX9_readItem : MethodName := ⟨RX9, "readItem", "()V"⟩
abbrev cX9_law : ByteArray := prog_11_method_12_code
def yX9_law : MethodName := ⟨RX9, "law", "()I"⟩
abbrev cX9_tree : ByteArray := prog_11_method_13_code
def yX9_tree : MethodName := ⟨RX9, "tree", "()I"⟩
abbrev cX9_isRule : ByteArray := prog_11_method_14_code
def yX9_isRule : MethodName := ⟨RX9, "isRule", "(I)Z"⟩
abbrev cX9_rule : ByteArray := prog_11_method_15_code
def yX9_rule : MethodName := ⟨RX9, "rule", "(II)I"⟩
abbrev cX9_turn : ByteArray := prog_11_method_16_code
def yX9_turn : MethodName := ⟨RX9, "turn", "(II)I"⟩
abbrev cX9_good : ByteArray := prog_11_method_17_code
def yX9_good : MethodName := ⟨RX9, "good", "(II)I"⟩
abbrev cX9_second : ByteArray := prog_11_method_18_code
def yX9_second : MethodName := ⟨RX9, "second", "(I)I"⟩
abbrev cX9_findParts : ByteArray := prog_11_method_19_code
def yX9_findParts : MethodName := ⟨RX9, "findParts", "()V"⟩
abbrev cX9_has : ByteArray := prog_11_method_20_code
def yX9_has : MethodName := ⟨RX9, "has", "(II)Z"⟩
abbrev cX9_makesOf : ByteArray := prog_11_method_21_code
def yX9_makesOf : MethodName := ⟨RX9, "makesOf", "(IIII)I"⟩
abbrev cX9_findComes : ByteArray := prog_11_method_22_code
def yX9_findComes : MethodName := ⟨RX9, "findComes", "()V"⟩
abbrev cX9_isNode : ByteArray := prog_11_method_23_code
def yX9_isNode : MethodName := ⟨RX9, "isNode", "(I)Z"⟩
abbrev cX9_over : ByteArray := prog_11_method_24_code
def yX9_over : MethodName := ⟨RX9, "over", "(I)I"⟩
abbrev cX9_node : ByteArray := prog_11_method_25_code
def yX9_node : MethodName := ⟨RX9, "node", "(II)I"⟩
abbrev cX9_sign : ByteArray := prog_11_method_26_code
def yX9_sign : MethodName := ⟨RX9, "sign", "(II)I"⟩
abbrev cX9_exchange : ByteArray := prog_11_method_27_code
def yX9_exchange : MethodName := ⟨RX9, "exchange", "(I)I"⟩
abbrev cX9_isGood : ByteArray := prog_11_method_28_code
def yX9_isGood : MethodName := ⟨RX9, "isGood", "()I"⟩
abbrev cX9_runs : ByteArray := prog_11_method_29_code
def yX9_runs : MethodName := ⟨RX9, "runs", "()I"⟩
abbrev cX9_places : ByteArray := prog_11_method_30_code
def yX9_places : MethodName := ⟨RX9, "places", "(I)I"⟩
abbrev cX9_costAll : ByteArray := prog_11_method_31_code
def yX9_costAll : MethodName := ⟨RX9, "costAll", "()I"⟩
abbrev cX9_mend : ByteArray := prog_11_method_32_code
def yX9_mend : MethodName := ⟨RX9, "mend", "(I)I"⟩
abbrev cX9_pairOf : ByteArray := prog_11_method_33_code
def yX9_pairOf : MethodName := ⟨RX9, "pairOf", "(III)I"⟩
abbrev cX9_findPairs : ByteArray := prog_11_method_34_code
def yX9_findPairs : MethodName := ⟨RX9, "findPairs", "(II)V"⟩
abbrev cX9_isGoodA : ByteArray := prog_11_method_35_code
def yX9_isGoodA : MethodName := ⟨RX9, "isGoodA", "(I)Z"⟩
abbrev cX9_isGoodB : ByteArray := prog_11_method_36_code
def yX9_isGoodB : MethodName := ⟨RX9, "isGoodB", "(I)Z"⟩
abbrev cX9_findOwn : ByteArray := prog_11_method_37_code
def yX9_findOwn : MethodName := ⟨RX9, "findOwn", "()V"⟩
abbrev cX9_sets : ByteArray := prog_11_method_38_code
def yX9_sets : MethodName := ⟨RX9, "sets", "()I"⟩
abbrev cX9_isSame : ByteArray := prog_11_method_39_code
def yX9_isSame : MethodName := ⟨RX9, "isSame", "(II)Z"⟩
abbrev cX9_classes : ByteArray := prog_11_method_40_code
def yX9_classes : MethodName := ⟨RX9, "classes", "()I"⟩
abbrev cX9_useful : ByteArray := prog_11_method_41_code
def yX9_useful : MethodName := ⟨RX9, "useful", "()I"⟩
abbrev cX9_put : ByteArray := prog_11_method_42_code
def yX9_put : MethodName := ⟨RX9, "put", "(II)V"⟩
abbrev cX9_offer : ByteArray := prog_11_method_43_code
def yX9_offer : MethodName := ⟨RX9, "offer", "(II)V"⟩
abbrev cX9_offerTwo : ByteArray := prog_11_method_44_code
def yX9_offerTwo : MethodName := ⟨RX9, "offerTwo", "(II)V"⟩
abbrev cX9_findWords : ByteArray := prog_11_method_45_code
def yX9_findWords : MethodName := ⟨RX9, "findWords", "()V"⟩
abbrev cX9_isWanted : ByteArray := prog_11_method_46_code
def yX9_isWanted : MethodName := ⟨RX9, "isWanted", "(IZ)Z"⟩
abbrev cX9_leastOf : ByteArray := prog_11_method_47_code
def yX9_leastOf : MethodName := ⟨RX9, "leastOf", "(Z)I"⟩
abbrev cX9_isLess : ByteArray := prog_11_method_48_code
def yX9_isLess : MethodName := ⟨RX9, "isLess", "(II)Z"⟩
abbrev cX9_toldOf : ByteArray := prog_11_method_49_code
def yX9_toldOf : MethodName := ⟨RX9, "toldOf", "(II)I"⟩
abbrev cX9_least : ByteArray := prog_11_method_50_code
def yX9_least : MethodName := ⟨RX9, "least", "(I)I"⟩
abbrev cX9_findTrees : ByteArray := prog_11_method_51_code
def yX9_findTrees : MethodName := ⟨RX9, "findTrees", "(I)V"⟩
abbrev cX9_addTwo : ByteArray := prog_11_method_52_code
def yX9_addTwo : MethodName := ⟨RX9, "addTwo", "(IIII)V"⟩
abbrev cX9_manyOf : ByteArray := prog_11_method_53_code
def yX9_manyOf : MethodName := ⟨RX9, "manyOf", "(IZ)J"⟩
abbrev cX9_many : ByteArray := prog_11_method_54_code
def yX9_many : MethodName := ⟨RX9, "many", "(I)J"⟩
abbrev cX9_refuses : ByteArray := prog_11_method_55_code
def yX9_refuses : MethodName := ⟨RX9, "refuses", "(IZ)I"⟩
abbrev cX9_alike : ByteArray := prog_11_method_56_code
def yX9_alike : MethodName := ⟨RX9, "alike", "(I)I"⟩
abbrev cX9_apart : ByteArray := prog_11_method_57_code
def yX9_apart : MethodName := ⟨RX9, "apart", "(II)I"⟩
abbrev cX9_both : ByteArray := prog_11_method_58_code
def yX9_both : MethodName := ⟨RX9, "both", "(II)J"⟩
abbrev cX9_bitsIn : ByteArray := prog_11_method_59_code
def yX9_bitsIn : MethodName := ⟨RX9, "bitsIn", "(I)I"⟩
abbrev cX9_mark : ByteArray := prog_11_method_60_code
def yX9_mark : MethodName := ⟨RX9, "mark", "(II)I"⟩
abbrev cX9_copy : ByteArray := prog_11_method_61_code
def yX9_copy : MethodName := ⟨RX9, "copy", "(II)V"⟩
abbrev cX9_keep : ByteArray := prog_11_method_62_code
def yX9_keep : MethodName := ⟨RX9, "keep", "(I)I"⟩
abbrev cX9_back : ByteArray := prog_11_method_63_code
def yX9_back : MethodName := ⟨RX9, "back", "(I)I"⟩
abbrev cX9_count : ByteArray := prog_11_method_64_code
def yX9_count : MethodName := ⟨RX9, "count", "(I)I"⟩
abbrev cX9_trace : ByteArray := prog_11_method_65_code
def yX9_trace : MethodName := ⟨RX9, "trace", "()J"⟩
def RJ6 : String := "java/lang/Integer"
def TJ6 : u_T := fun k => match k with
  | _ => ("", "", "", false)
def tyJ6 : Nat → FieldType := fun k => match k with
  | _ => .int
abbrev wsJ60 : List Cond := u_ws RJ6 TJ6 0
theorem nmJ6 : ∀ a, a < 0 → ∀ b, b < 0 → a ≠ b → (TJ6 a).2.1 ≠ (TJ6 b).2.1 := by decide +kernel
theorem tyJ6_ok : ∀ k, k < 0 → parseFieldDescriptor (TJ6 k).2.2.1 = some (tyJ6 k) := by decide +kernel
abbrev cJ6_bitCount_0f7a4 : ByteArray := prog_12_method_49_code
def yJ6_bitCount_0f7a4 : MethodName := ⟨RJ6, "bitCount", "(I)I"⟩
def RJ9 : String := "java/lang/Math"
def TJ9 : u_T := fun k => match k with
  | _ => ("", "", "", false)
def tyJ9 : Nat → FieldType := fun k => match k with
  | _ => .int
abbrev wsJ90 : List Cond := u_ws RJ9 TJ9 0
theorem nmJ9 : ∀ a, a < 0 → ∀ b, b < 0 → a ≠ b → (TJ9 a).2.1 ≠ (TJ9 b).2.1 := by decide +kernel
theorem tyJ9_ok : ∀ k, k < 0 → parseFieldDescriptor (TJ9 k).2.2.1 = some (tyJ9 k) := by decide +kernel
abbrev cJ9_min_7cf53 : ByteArray := prog_13_method_69_code
def yJ9_min_7cf53 : MethodName := ⟨RJ9, "min", "(II)I"⟩
def RL : String := "TreeBecomesLaw"
abbrev cL_law : ByteArray := code
def yL_law : MethodName := ⟨RL, "law", "([I)Z"⟩
end
section
theorem dX0_init_0 : decode cX0_init 0 = .ok (.aload_n 0, 1) := by decide +kernel
theorem dX0_init_1 : decode cX0_init 1 = .ok (.invokespecial 3, 3) := by decide +kernel
theorem dX0_init_4 : decode cX0_init 4 = .ok (.aload_n 0, 1) := by decide +kernel
theorem dX0_init_5 : decode cX0_init 5 = .ok (.bipush 31, 2) := by decide +kernel
theorem dX0_init_7 : decode cX0_init 7 = .ok (.newarray .int, 2) := by decide +kernel
theorem dX0_init_9 : decode cX0_init 9 = .ok (.putfield 9, 3) := by decide +kernel
theorem dX0_init_12 : decode cX0_init 12 = .ok (.aload_n 0, 1) := by decide +kernel
theorem dX0_init_13 : decode cX0_init 13 = .ok (.sipush 186, 3) := by decide +kernel
theorem dX0_init_16 : decode cX0_init 16 = .ok (.newarray .long, 2) := by decide +kernel
theorem dX0_init_18 : decode cX0_init 18 = .ok (.putfield 15, 3) := by decide +kernel
theorem dX0_init_21 : decode cX0_init 21 = .ok (.aload_n 0, 1) := by decide +kernel
theorem dX0_init_22 : decode cX0_init 22 = .ok (.sipush 186, 3) := by decide +kernel
theorem dX0_init_25 : decode cX0_init 25 = .ok (.newarray .int, 2) := by decide +kernel
theorem dX0_init_27 : decode cX0_init 27 = .ok (.putfield 19, 3) := by decide +kernel
theorem dX0_init_30 : decode cX0_init 30 = .ok (.aload_n 0, 1) := by decide +kernel
theorem dX0_init_31 : decode cX0_init 31 = .ok (.sipush 186, 3) := by decide +kernel
theorem dX0_init_34 : decode cX0_init 34 = .ok (.newarray .long, 2) := by decide +kernel
theorem dX0_init_36 : decode cX0_init 36 = .ok (.putfield 22, 3) := by decide +kernel
theorem dX0_init_39 : decode cX0_init 39 = .ok (.return_, 1) := by decide +kernel
theorem dX0_come_0 : decode cX0_come 0 = .ok (.aload_n 1, 1) := by decide +kernel
theorem dX0_come_1 : decode cX0_come 1 = .ok (.getfield 25, 3) := by decide +kernel
theorem dX0_come_4 : decode cX0_come 4 = .ok (.iconst 1, 1) := by decide +kernel
theorem dX0_come_5 : decode cX0_come 5 = .ok (.isub, 1) := by decide +kernel
theorem dX0_come_6 : decode cX0_come 6 = .ok (.istore 4, 2) := by decide +kernel
theorem dX0_come_8 : decode cX0_come 8 = .ok (.iload 4, 2) := by decide +kernel
theorem dX0_come_10 : decode cX0_come 10 = .ok (.ifCond .lt 48, 3) := by decide +kernel
theorem dX0_come_13 : decode cX0_come 13 = .ok (.aload_n 0, 1) := by decide +kernel
theorem dX0_come_14 : decode cX0_come 14 = .ok (.getfield 9, 3) := by decide +kernel
theorem dX0_come_17 : decode cX0_come 17 = .ok (.iload 4, 2) := by decide +kernel
theorem dX0_come_19 : decode cX0_come 19 = .ok (.aload_n 2, 1) := by decide +kernel
theorem dX0_come_20 : decode cX0_come 20 = .ok (.aload_n 1, 1) := by decide +kernel
theorem dX0_come_21 : decode cX0_come 21 = .ok (.getfield 31, 3) := by decide +kernel
theorem dX0_come_24 : decode cX0_come 24 = .ok (.iload 4, 2) := by decide +kernel
theorem dX0_come_26 : decode cX0_come 26 = .ok (.iaload, 1) := by decide +kernel
theorem dX0_come_27 : decode cX0_come 27 = .ok (.iload_n 3, 1) := by decide +kernel
theorem dX0_come_28 : decode cX0_come 28 = .ok (.aload_n 0, 1) := by decide +kernel
theorem dX0_come_29 : decode cX0_come 29 = .ok (.aload_n 1, 1) := by decide +kernel
theorem dX0_come_30 : decode cX0_come 30 = .ok (.iload 4, 2) := by decide +kernel
theorem dX0_come_32 : decode cX0_come 32 = .ok (.iconst 1, 1) := by decide +kernel
theorem dX0_come_33 : decode cX0_come 33 = .ok (.iadd, 1) := by decide +kernel
theorem dX0_come_34 : decode cX0_come 34 = .ok (.invokevirtual 34, 3) := by decide +kernel
theorem dX0_come_37 : decode cX0_come 37 = .ok (.aload_n 0, 1) := by decide +kernel
theorem dX0_come_38 : decode cX0_come 38 = .ok (.aload_n 1, 1) := by decide +kernel
theorem dX0_come_39 : decode cX0_come 39 = .ok (.aload_n 1, 1) := by decide +kernel
theorem dX0_come_40 : decode cX0_come 40 = .ok (.iload 4, 2) := by decide +kernel
theorem dX0_come_42 : decode cX0_come 42 = .ok (.invokevirtual 38, 3) := by decide +kernel
theorem dX0_come_45 : decode cX0_come 45 = .ok (.invokevirtual 34, 3) := by decide +kernel
theorem dX0_come_48 : decode cX0_come 48 = .ok (.invokevirtual 42, 3) := by decide +kernel
theorem dX0_come_51 : decode cX0_come 51 = .ok (.iastore, 1) := by decide +kernel
theorem dX0_come_52 : decode cX0_come 52 = .ok (.iinc 4 (-1), 3) := by decide +kernel
theorem dX0_come_55 : decode cX0_come 55 = .ok (.goto (-47), 3) := by decide +kernel
theorem dX0_come_58 : decode cX0_come 58 = .ok (.return_, 1) := by decide +kernel
theorem dX0_comesOf_0 : decode cX0_comesOf 0 = .ok (.aload_n 1, 1) := by decide +kernel
theorem dX0_comesOf_1 : decode cX0_comesOf 1 = .ok (.iload_n 2, 1) := by decide +kernel
theorem dX0_comesOf_2 : decode cX0_comesOf 2 = .ok (.invokevirtual 48, 3) := by decide +kernel
theorem dX0_comesOf_5 : decode cX0_comesOf 5 = .ok (.ifCond .eq 12, 3) := by decide +kernel
theorem dX0_comesOf_8 : decode cX0_comesOf 8 = .ok (.aload_n 0, 1) := by decide +kernel
theorem dX0_comesOf_9 : decode cX0_comesOf 9 = .ok (.getfield 9, 3) := by decide +kernel
theorem dX0_comesOf_12 : decode cX0_comesOf 12 = .ok (.iload_n 2, 1) := by decide +kernel
theorem dX0_comesOf_13 : decode cX0_comesOf 13 = .ok (.iaload, 1) := by decide +kernel
theorem dX0_comesOf_14 : decode cX0_comesOf 14 = .ok (.goto 4, 3) := by decide +kernel
theorem dX0_comesOf_17 : decode cX0_comesOf 17 = .ok (.iconst 0, 1) := by decide +kernel
theorem dX0_comesOf_18 : decode cX0_comesOf 18 = .ok (.ireturn, 1) := by decide +kernel
theorem dX0_placeOf_0 : decode cX0_placeOf 0 = .ok (.aload_n 0, 1) := by decide +kernel
theorem dX0_placeOf_1 : decode cX0_placeOf 1 = .ok (.iload_n 1, 1) := by decide +kernel
theorem dX0_placeOf_2 : decode cX0_placeOf 2 = .ok (.invokevirtual 48, 3) := by decide +kernel
theorem dX0_placeOf_5 : decode cX0_placeOf 5 = .ok (.ifCond .eq 19, 3) := by decide +kernel
theorem dX0_placeOf_8 : decode cX0_placeOf 8 = .ok (.iload_n 2, 1) := by decide +kernel
theorem dX0_placeOf_9 : decode cX0_placeOf 9 = .ok (.invokestatic 52, 3) := by decide +kernel
theorem dX0_placeOf_12 : decode cX0_placeOf 12 = .ok (.ifCond .eq 12, 3) := by decide +kernel
theorem dX0_placeOf_15 : decode cX0_placeOf 15 = .ok (.iload_n 1, 1) := by decide +kernel
theorem dX0_placeOf_16 : decode cX0_placeOf 16 = .ok (.bipush 6, 2) := by decide +kernel
theorem dX0_placeOf_18 : decode cX0_placeOf 18 = .ok (.imul, 1) := by decide +kernel
theorem dX0_placeOf_19 : decode cX0_placeOf 19 = .ok (.iload_n 2, 1) := by decide +kernel
theorem dX0_placeOf_20 : decode cX0_placeOf 20 = .ok (.iadd, 1) := by decide +kernel
theorem dX0_placeOf_21 : decode cX0_placeOf 21 = .ok (.goto 4, 3) := by decide +kernel
theorem dX0_placeOf_24 : decode cX0_placeOf 24 = .ok (.iconst (-1), 1) := by decide +kernel
theorem dX0_placeOf_25 : decode cX0_placeOf 25 = .ok (.ireturn, 1) := by decide +kernel
theorem dX0_countWays_0 : decode cX0_countWays 0 = .ok (.aload_n 1, 1) := by decide +kernel
theorem dX0_countWays_1 : decode cX0_countWays 1 = .ok (.getfield 25, 3) := by decide +kernel
theorem dX0_countWays_4 : decode cX0_countWays 4 = .ok (.iconst 1, 1) := by decide +kernel
theorem dX0_countWays_5 : decode cX0_countWays 5 = .ok (.isub, 1) := by decide +kernel
theorem dX0_countWays_6 : decode cX0_countWays 6 = .ok (.istore 4, 2) := by decide +kernel
theorem dX0_countWays_8 : decode cX0_countWays 8 = .ok (.iload 4, 2) := by decide +kernel
theorem dX0_countWays_10 : decode cX0_countWays 10 = .ok (.ifCond .lt 128, 3) := by decide +kernel
theorem dX0_countWays_13 : decode cX0_countWays 13 = .ok (.iconst 0, 1) := by decide +kernel
theorem dX0_countWays_14 : decode cX0_countWays 14 = .ok (.istore 5, 2) := by decide +kernel
theorem dX0_countWays_16 : decode cX0_countWays 16 = .ok (.iload 5, 2) := by decide +kernel
theorem dX0_countWays_18 : decode cX0_countWays 18 = .ok (.bipush 6, 2) := by decide +kernel
theorem dX0_countWays_20 : decode cX0_countWays 20 = .ok (.if_icmp .ge 23, 3) := by decide +kernel
theorem dX0_countWays_23 : decode cX0_countWays 23 = .ok (.aload_n 0, 1) := by decide +kernel
theorem dX0_countWays_24 : decode cX0_countWays 24 = .ok (.getfield 15, 3) := by decide +kernel
theorem dX0_countWays_27 : decode cX0_countWays 27 = .ok (.iload 4, 2) := by decide +kernel
theorem dX0_countWays_29 : decode cX0_countWays 29 = .ok (.bipush 6, 2) := by decide +kernel
theorem dX0_countWays_31 : decode cX0_countWays 31 = .ok (.imul, 1) := by decide +kernel
theorem dX0_countWays_32 : decode cX0_countWays 32 = .ok (.iload 5, 2) := by decide +kernel
theorem dX0_countWays_34 : decode cX0_countWays 34 = .ok (.iadd, 1) := by decide +kernel
theorem dX0_countWays_35 : decode cX0_countWays 35 = .ok (.lconst 0, 1) := by decide +kernel
theorem dX0_countWays_36 : decode cX0_countWays 36 = .ok (.lastore, 1) := by decide +kernel
theorem dX0_countWays_37 : decode cX0_countWays 37 = .ok (.iinc 5 1, 3) := by decide +kernel
theorem dX0_countWays_40 : decode cX0_countWays 40 = .ok (.goto (-24), 3) := by decide +kernel
theorem dX0_countWays_43 : decode cX0_countWays 43 = .ok (.iconst 0, 1) := by decide +kernel
theorem dX0_countWays_44 : decode cX0_countWays 44 = .ok (.istore 5, 2) := by decide +kernel
theorem dX0_countWays_46 : decode cX0_countWays 46 = .ok (.iload 5, 2) := by decide +kernel
theorem dX0_countWays_48 : decode cX0_countWays 48 = .ok (.aload_n 2, 1) := by decide +kernel
theorem dX0_countWays_49 : decode cX0_countWays 49 = .ok (.getfield 55, 3) := by decide +kernel
theorem dX0_countWays_52 : decode cX0_countWays 52 = .ok (.if_icmp .ge 80, 3) := by decide +kernel
theorem dX0_countWays_55 : decode cX0_countWays 55 = .ok (.iload_n 3, 1) := by decide +kernel
theorem dX0_countWays_56 : decode cX0_countWays 56 = .ok (.iload 5, 2) := by decide +kernel
theorem dX0_countWays_58 : decode cX0_countWays 58 = .ok (.invokestatic 56, 3) := by decide +kernel
theorem dX0_countWays_61 : decode cX0_countWays 61 = .ok (.iconst 1, 1) := by decide +kernel
theorem dX0_countWays_62 : decode cX0_countWays 62 = .ok (.if_icmp .ne 64, 3) := by decide +kernel
theorem dX0_countWays_65 : decode cX0_countWays 65 = .ok (.aload_n 2, 1) := by decide +kernel
theorem dX0_countWays_66 : decode cX0_countWays 66 = .ok (.getfield 60, 3) := by decide +kernel
theorem dX0_countWays_69 : decode cX0_countWays 69 = .ok (.iload 5, 2) := by decide +kernel
theorem dX0_countWays_71 : decode cX0_countWays 71 = .ok (.iaload, 1) := by decide +kernel
theorem dX0_countWays_72 : decode cX0_countWays 72 = .ok (.aload_n 1, 1) := by decide +kernel
theorem dX0_countWays_73 : decode cX0_countWays 73 = .ok (.getfield 31, 3) := by decide +kernel
theorem dX0_countWays_76 : decode cX0_countWays 76 = .ok (.iload 4, 2) := by decide +kernel
theorem dX0_countWays_78 : decode cX0_countWays 78 = .ok (.iaload, 1) := by decide +kernel
theorem dX0_countWays_79 : decode cX0_countWays 79 = .ok (.if_icmp .ne 47, 3) := by decide +kernel
theorem dX0_countWays_82 : decode cX0_countWays 82 = .ok (.iload 4, 2) := by decide +kernel
theorem dX0_countWays_84 : decode cX0_countWays 84 = .ok (.bipush 6, 2) := by decide +kernel
theorem dX0_countWays_86 : decode cX0_countWays 86 = .ok (.imul, 1) := by decide +kernel
theorem dX0_countWays_87 : decode cX0_countWays 87 = .ok (.aload_n 2, 1) := by decide +kernel
theorem dX0_countWays_88 : decode cX0_countWays 88 = .ok (.getfield 61, 3) := by decide +kernel
theorem dX0_countWays_91 : decode cX0_countWays 91 = .ok (.iload 5, 2) := by decide +kernel
theorem dX0_countWays_93 : decode cX0_countWays 93 = .ok (.iaload, 1) := by decide +kernel
theorem dX0_countWays_94 : decode cX0_countWays 94 = .ok (.iadd, 1) := by decide +kernel
theorem dX0_countWays_95 : decode cX0_countWays 95 = .ok (.istore 6, 2) := by decide +kernel
theorem dX0_countWays_97 : decode cX0_countWays 97 = .ok (.aload_n 0, 1) := by decide +kernel
theorem dX0_countWays_98 : decode cX0_countWays 98 = .ok (.getfield 15, 3) := by decide +kernel
theorem dX0_countWays_101 : decode cX0_countWays 101 = .ok (.iload 6, 2) := by decide +kernel
theorem dX0_countWays_103 : decode cX0_countWays 103 = .ok (.aload_n 0, 1) := by decide +kernel
theorem dX0_countWays_104 : decode cX0_countWays 104 = .ok (.getfield 15, 3) := by decide +kernel
theorem dX0_countWays_107 : decode cX0_countWays 107 = .ok (.iload 6, 2) := by decide +kernel
theorem dX0_countWays_109 : decode cX0_countWays 109 = .ok (.laload, 1) := by decide +kernel
theorem dX0_countWays_110 : decode cX0_countWays 110 = .ok (.aload_n 0, 1) := by decide +kernel
theorem dX0_countWays_111 : decode cX0_countWays 111 = .ok (.aload_n 1, 1) := by decide +kernel
theorem dX0_countWays_112 : decode cX0_countWays 112 = .ok (.aload_n 2, 1) := by decide +kernel
theorem dX0_countWays_113 : decode cX0_countWays 113 = .ok (.iload 4, 2) := by decide +kernel
theorem dX0_countWays_115 : decode cX0_countWays 115 = .ok (.iload 5, 2) := by decide +kernel
theorem dX0_countWays_117 : decode cX0_countWays 117 = .ok (.invokevirtual 64, 3) := by decide +kernel
theorem dX0_countWays_120 : decode cX0_countWays 120 = .ok (.ladd, 1) := by decide +kernel
theorem dX0_countWays_121 : decode cX0_countWays 121 = .ok (.ldc2_w 68, 3) := by decide +kernel
theorem dX0_countWays_124 : decode cX0_countWays 124 = .ok (.lrem, 1) := by decide +kernel
theorem dX0_countWays_125 : decode cX0_countWays 125 = .ok (.lastore, 1) := by decide +kernel
theorem dX0_countWays_126 : decode cX0_countWays 126 = .ok (.iinc 5 1, 3) := by decide +kernel
theorem dX0_countWays_129 : decode cX0_countWays 129 = .ok (.goto (-83), 3) := by decide +kernel
theorem dX0_countWays_132 : decode cX0_countWays 132 = .ok (.iinc 4 (-1), 3) := by decide +kernel
theorem dX0_countWays_135 : decode cX0_countWays 135 = .ok (.goto (-127), 3) := by decide +kernel
theorem dX0_countWays_138 : decode cX0_countWays 138 = .ok (.return_, 1) := by decide +kernel
theorem dX0_waysBy_0 : decode cX0_waysBy 0 = .ok (.aload_n 2, 1) := by decide +kernel
theorem dX0_waysBy_1 : decode cX0_waysBy 1 = .ok (.getfield 60, 3) := by decide +kernel
theorem dX0_waysBy_4 : decode cX0_waysBy 4 = .ok (.iload 4, 2) := by decide +kernel
theorem dX0_waysBy_6 : decode cX0_waysBy 6 = .ok (.iaload, 1) := by decide +kernel
theorem dX0_waysBy_7 : decode cX0_waysBy 7 = .ok (.invokestatic 70, 3) := by decide +kernel
theorem dX0_waysBy_10 : decode cX0_waysBy 10 = .ok (.istore 5, 2) := by decide +kernel
theorem dX0_waysBy_12 : decode cX0_waysBy 12 = .ok (.lconst 1, 1) := by decide +kernel
theorem dX0_waysBy_13 : decode cX0_waysBy 13 = .ok (.lstore 6, 2) := by decide +kernel
theorem dX0_waysBy_15 : decode cX0_waysBy 15 = .ok (.iload 5, 2) := by decide +kernel
theorem dX0_waysBy_17 : decode cX0_waysBy 17 = .ok (.ifCond .le 37, 3) := by decide +kernel
theorem dX0_waysBy_20 : decode cX0_waysBy 20 = .ok (.aload_n 1, 1) := by decide +kernel
theorem dX0_waysBy_21 : decode cX0_waysBy 21 = .ok (.iload_n 3, 1) := by decide +kernel
theorem dX0_waysBy_22 : decode cX0_waysBy 22 = .ok (.iconst 1, 1) := by decide +kernel
theorem dX0_waysBy_23 : decode cX0_waysBy 23 = .ok (.iadd, 1) := by decide +kernel
theorem dX0_waysBy_24 : decode cX0_waysBy 24 = .ok (.aload_n 2, 1) := by decide +kernel
theorem dX0_waysBy_25 : decode cX0_waysBy 25 = .ok (.getfield 73, 3) := by decide +kernel
theorem dX0_waysBy_28 : decode cX0_waysBy 28 = .ok (.iload 4, 2) := by decide +kernel
theorem dX0_waysBy_30 : decode cX0_waysBy 30 = .ok (.iaload, 1) := by decide +kernel
theorem dX0_waysBy_31 : decode cX0_waysBy 31 = .ok (.invokestatic 76, 3) := by decide +kernel
theorem dX0_waysBy_34 : decode cX0_waysBy 34 = .ok (.istore 8, 2) := by decide +kernel
theorem dX0_waysBy_36 : decode cX0_waysBy 36 = .ok (.iload 8, 2) := by decide +kernel
theorem dX0_waysBy_38 : decode cX0_waysBy 38 = .ok (.ifCond .ge 7, 3) := by decide +kernel
theorem dX0_waysBy_41 : decode cX0_waysBy 41 = .ok (.lconst 0, 1) := by decide +kernel
theorem dX0_waysBy_42 : decode cX0_waysBy 42 = .ok (.goto 10, 3) := by decide +kernel
theorem dX0_waysBy_45 : decode cX0_waysBy 45 = .ok (.aload_n 0, 1) := by decide +kernel
theorem dX0_waysBy_46 : decode cX0_waysBy 46 = .ok (.getfield 15, 3) := by decide +kernel
theorem dX0_waysBy_49 : decode cX0_waysBy 49 = .ok (.iload 8, 2) := by decide +kernel
theorem dX0_waysBy_51 : decode cX0_waysBy 51 = .ok (.laload, 1) := by decide +kernel
theorem dX0_waysBy_52 : decode cX0_waysBy 52 = .ok (.lstore 6, 2) := by decide +kernel
theorem dX0_waysBy_54 : decode cX0_waysBy 54 = .ok (.iload 5, 2) := by decide +kernel
theorem dX0_waysBy_56 : decode cX0_waysBy 56 = .ok (.iconst 1, 1) := by decide +kernel
theorem dX0_waysBy_57 : decode cX0_waysBy 57 = .ok (.if_icmp .le 46, 3) := by decide +kernel
theorem dX0_waysBy_60 : decode cX0_waysBy 60 = .ok (.aload_n 1, 1) := by decide +kernel
theorem dX0_waysBy_61 : decode cX0_waysBy 61 = .ok (.aload_n 1, 1) := by decide +kernel
theorem dX0_waysBy_62 : decode cX0_waysBy 62 = .ok (.iload_n 3, 1) := by decide +kernel
theorem dX0_waysBy_63 : decode cX0_waysBy 63 = .ok (.invokevirtual 38, 3) := by decide +kernel
theorem dX0_waysBy_66 : decode cX0_waysBy 66 = .ok (.aload_n 2, 1) := by decide +kernel
theorem dX0_waysBy_67 : decode cX0_waysBy 67 = .ok (.getfield 80, 3) := by decide +kernel
theorem dX0_waysBy_70 : decode cX0_waysBy 70 = .ok (.iload 4, 2) := by decide +kernel
theorem dX0_waysBy_72 : decode cX0_waysBy 72 = .ok (.iaload, 1) := by decide +kernel
theorem dX0_waysBy_73 : decode cX0_waysBy 73 = .ok (.invokestatic 76, 3) := by decide +kernel
theorem dX0_waysBy_76 : decode cX0_waysBy 76 = .ok (.istore 8, 2) := by decide +kernel
theorem dX0_waysBy_78 : decode cX0_waysBy 78 = .ok (.iload 8, 2) := by decide +kernel
theorem dX0_waysBy_80 : decode cX0_waysBy 80 = .ok (.ifCond .ge 7, 3) := by decide +kernel
theorem dX0_waysBy_83 : decode cX0_waysBy 83 = .ok (.lconst 0, 1) := by decide +kernel
theorem dX0_waysBy_84 : decode cX0_waysBy 84 = .ok (.goto 17, 3) := by decide +kernel
theorem dX0_waysBy_87 : decode cX0_waysBy 87 = .ok (.lload 6, 2) := by decide +kernel
theorem dX0_waysBy_89 : decode cX0_waysBy 89 = .ok (.aload_n 0, 1) := by decide +kernel
theorem dX0_waysBy_90 : decode cX0_waysBy 90 = .ok (.getfield 15, 3) := by decide +kernel
theorem dX0_waysBy_93 : decode cX0_waysBy 93 = .ok (.iload 8, 2) := by decide +kernel
theorem dX0_waysBy_95 : decode cX0_waysBy 95 = .ok (.laload, 1) := by decide +kernel
theorem dX0_waysBy_96 : decode cX0_waysBy 96 = .ok (.lmul, 1) := by decide +kernel
theorem dX0_waysBy_97 : decode cX0_waysBy 97 = .ok (.ldc2_w 68, 3) := by decide +kernel
theorem dX0_waysBy_100 : decode cX0_waysBy 100 = .ok (.lrem, 1) := by decide +kernel
theorem dX0_waysBy_101 : decode cX0_waysBy 101 = .ok (.lstore 6, 2) := by decide +kernel
theorem dX0_waysBy_103 : decode cX0_waysBy 103 = .ok (.lload 6, 2) := by decide +kernel
theorem dX0_waysBy_105 : decode cX0_waysBy 105 = .ok (.lreturn, 1) := by decide +kernel
theorem dX0_goodWays_0 : decode cX0_goodWays 0 = .ok (.lconst 0, 1) := by decide +kernel
theorem dX0_goodWays_1 : decode cX0_goodWays 1 = .ok (.lstore_n 2, 1) := by decide +kernel
theorem dX0_goodWays_2 : decode cX0_goodWays 2 = .ok (.iconst 0, 1) := by decide +kernel
theorem dX0_goodWays_3 : decode cX0_goodWays 3 = .ok (.istore 4, 2) := by decide +kernel
theorem dX0_goodWays_5 : decode cX0_goodWays 5 = .ok (.iload 4, 2) := by decide +kernel
theorem dX0_goodWays_7 : decode cX0_goodWays 7 = .ok (.bipush 6, 2) := by decide +kernel
theorem dX0_goodWays_9 : decode cX0_goodWays 9 = .ok (.if_icmp .ge 29, 3) := by decide +kernel
theorem dX0_goodWays_12 : decode cX0_goodWays 12 = .ok (.iload_n 1, 1) := by decide +kernel
theorem dX0_goodWays_13 : decode cX0_goodWays 13 = .ok (.iload 4, 2) := by decide +kernel
theorem dX0_goodWays_15 : decode cX0_goodWays 15 = .ok (.invokestatic 56, 3) := by decide +kernel
theorem dX0_goodWays_18 : decode cX0_goodWays 18 = .ok (.iconst 1, 1) := by decide +kernel
theorem dX0_goodWays_19 : decode cX0_goodWays 19 = .ok (.if_icmp .ne 13, 3) := by decide +kernel
theorem dX0_goodWays_22 : decode cX0_goodWays 22 = .ok (.lload_n 2, 1) := by decide +kernel
theorem dX0_goodWays_23 : decode cX0_goodWays 23 = .ok (.aload_n 0, 1) := by decide +kernel
theorem dX0_goodWays_24 : decode cX0_goodWays 24 = .ok (.getfield 15, 3) := by decide +kernel
theorem dX0_goodWays_27 : decode cX0_goodWays 27 = .ok (.iload 4, 2) := by decide +kernel
theorem dX0_goodWays_29 : decode cX0_goodWays 29 = .ok (.laload, 1) := by decide +kernel
theorem dX0_goodWays_30 : decode cX0_goodWays 30 = .ok (.ladd, 1) := by decide +kernel
theorem dX0_goodWays_31 : decode cX0_goodWays 31 = .ok (.lstore_n 2, 1) := by decide +kernel
theorem dX0_goodWays_32 : decode cX0_goodWays 32 = .ok (.iinc 4 1, 3) := by decide +kernel
theorem dX0_goodWays_35 : decode cX0_goodWays 35 = .ok (.goto (-30), 3) := by decide +kernel
theorem dX0_goodWays_38 : decode cX0_goodWays 38 = .ok (.lload_n 2, 1) := by decide +kernel
theorem dX0_goodWays_39 : decode cX0_goodWays 39 = .ok (.ldc2_w 68, 3) := by decide +kernel
theorem dX0_goodWays_42 : decode cX0_goodWays 42 = .ok (.lrem, 1) := by decide +kernel
theorem dX0_goodWays_43 : decode cX0_goodWays 43 = .ok (.l2i, 1) := by decide +kernel
theorem dX0_goodWays_44 : decode cX0_goodWays 44 = .ok (.ireturn, 1) := by decide +kernel
theorem dX0_weighChanges_0 : decode cX0_weighChanges 0 = .ok (.aload_n 1, 1) := by decide +kernel
theorem dX0_weighChanges_1 : decode cX0_weighChanges 1 = .ok (.getfield 25, 3) := by decide +kernel
theorem dX0_weighChanges_4 : decode cX0_weighChanges 4 = .ok (.iconst 1, 1) := by decide +kernel
theorem dX0_weighChanges_5 : decode cX0_weighChanges 5 = .ok (.isub, 1) := by decide +kernel
theorem dX0_weighChanges_6 : decode cX0_weighChanges 6 = .ok (.istore 4, 2) := by decide +kernel
theorem dX0_weighChanges_8 : decode cX0_weighChanges 8 = .ok (.iload 4, 2) := by decide +kernel
theorem dX0_weighChanges_10 : decode cX0_weighChanges 10 = .ok (.ifCond .lt 116, 3) := by decide +kernel
theorem dX0_weighChanges_13 : decode cX0_weighChanges 13 = .ok (.iconst 0, 1) := by decide +kernel
theorem dX0_weighChanges_14 : decode cX0_weighChanges 14 = .ok (.istore 5, 2) := by decide +kernel
theorem dX0_weighChanges_16 : decode cX0_weighChanges 16 = .ok (.iload 5, 2) := by decide +kernel
theorem dX0_weighChanges_18 : decode cX0_weighChanges 18 = .ok (.bipush 6, 2) := by decide +kernel
theorem dX0_weighChanges_20 : decode cX0_weighChanges 20 = .ok (.if_icmp .ge 39, 3) := by decide +kernel
theorem dX0_weighChanges_23 : decode cX0_weighChanges 23 = .ok (.aload_n 0, 1) := by decide +kernel
theorem dX0_weighChanges_24 : decode cX0_weighChanges 24 = .ok (.getfield 19, 3) := by decide +kernel
theorem dX0_weighChanges_27 : decode cX0_weighChanges 27 = .ok (.iload 4, 2) := by decide +kernel
theorem dX0_weighChanges_29 : decode cX0_weighChanges 29 = .ok (.bipush 6, 2) := by decide +kernel
theorem dX0_weighChanges_31 : decode cX0_weighChanges 31 = .ok (.imul, 1) := by decide +kernel
theorem dX0_weighChanges_32 : decode cX0_weighChanges 32 = .ok (.iload 5, 2) := by decide +kernel
theorem dX0_weighChanges_34 : decode cX0_weighChanges 34 = .ok (.iadd, 1) := by decide +kernel
theorem dX0_weighChanges_35 : decode cX0_weighChanges 35 = .ok (.sipush 1000, 3) := by decide +kernel
theorem dX0_weighChanges_38 : decode cX0_weighChanges 38 = .ok (.iastore, 1) := by decide +kernel
theorem dX0_weighChanges_39 : decode cX0_weighChanges 39 = .ok (.aload_n 0, 1) := by decide +kernel
theorem dX0_weighChanges_40 : decode cX0_weighChanges 40 = .ok (.getfield 22, 3) := by decide +kernel
theorem dX0_weighChanges_43 : decode cX0_weighChanges 43 = .ok (.iload 4, 2) := by decide +kernel
theorem dX0_weighChanges_45 : decode cX0_weighChanges 45 = .ok (.bipush 6, 2) := by decide +kernel
theorem dX0_weighChanges_47 : decode cX0_weighChanges 47 = .ok (.imul, 1) := by decide +kernel
theorem dX0_weighChanges_48 : decode cX0_weighChanges 48 = .ok (.iload 5, 2) := by decide +kernel
theorem dX0_weighChanges_50 : decode cX0_weighChanges 50 = .ok (.iadd, 1) := by decide +kernel
theorem dX0_weighChanges_51 : decode cX0_weighChanges 51 = .ok (.lconst 0, 1) := by decide +kernel
theorem dX0_weighChanges_52 : decode cX0_weighChanges 52 = .ok (.lastore, 1) := by decide +kernel
theorem dX0_weighChanges_53 : decode cX0_weighChanges 53 = .ok (.iinc 5 1, 3) := by decide +kernel
theorem dX0_weighChanges_56 : decode cX0_weighChanges 56 = .ok (.goto (-40), 3) := by decide +kernel
theorem dX0_weighChanges_59 : decode cX0_weighChanges 59 = .ok (.iconst 0, 1) := by decide +kernel
theorem dX0_weighChanges_60 : decode cX0_weighChanges 60 = .ok (.istore 5, 2) := by decide +kernel
theorem dX0_weighChanges_62 : decode cX0_weighChanges 62 = .ok (.iload 5, 2) := by decide +kernel
theorem dX0_weighChanges_64 : decode cX0_weighChanges 64 = .ok (.aload_n 2, 1) := by decide +kernel
theorem dX0_weighChanges_65 : decode cX0_weighChanges 65 = .ok (.getfield 55, 3) := by decide +kernel
theorem dX0_weighChanges_68 : decode cX0_weighChanges 68 = .ok (.if_icmp .ge 52, 3) := by decide +kernel
theorem dX0_weighChanges_71 : decode cX0_weighChanges 71 = .ok (.iload_n 3, 1) := by decide +kernel
theorem dX0_weighChanges_72 : decode cX0_weighChanges 72 = .ok (.iload 5, 2) := by decide +kernel
theorem dX0_weighChanges_74 : decode cX0_weighChanges 74 = .ok (.invokestatic 56, 3) := by decide +kernel
theorem dX0_weighChanges_77 : decode cX0_weighChanges 77 = .ok (.iconst 1, 1) := by decide +kernel
theorem dX0_weighChanges_78 : decode cX0_weighChanges 78 = .ok (.if_icmp .ne 36, 3) := by decide +kernel
theorem dX0_weighChanges_81 : decode cX0_weighChanges 81 = .ok (.aload_n 2, 1) := by decide +kernel
theorem dX0_weighChanges_82 : decode cX0_weighChanges 82 = .ok (.getfield 60, 3) := by decide +kernel
theorem dX0_weighChanges_85 : decode cX0_weighChanges 85 = .ok (.iload 5, 2) := by decide +kernel
theorem dX0_weighChanges_87 : decode cX0_weighChanges 87 = .ok (.iaload, 1) := by decide +kernel
theorem dX0_weighChanges_88 : decode cX0_weighChanges 88 = .ok (.invokestatic 70, 3) := by decide +kernel
theorem dX0_weighChanges_91 : decode cX0_weighChanges 91 = .ok (.aload_n 1, 1) := by decide +kernel
theorem dX0_weighChanges_92 : decode cX0_weighChanges 92 = .ok (.getfield 31, 3) := by decide +kernel
theorem dX0_weighChanges_95 : decode cX0_weighChanges 95 = .ok (.iload 4, 2) := by decide +kernel
theorem dX0_weighChanges_97 : decode cX0_weighChanges 97 = .ok (.iaload, 1) := by decide +kernel
theorem dX0_weighChanges_98 : decode cX0_weighChanges 98 = .ok (.invokestatic 70, 3) := by decide +kernel
theorem dX0_weighChanges_101 : decode cX0_weighChanges 101 = .ok (.if_icmp .ne 13, 3) := by decide +kernel
theorem dX0_weighChanges_104 : decode cX0_weighChanges 104 = .ok (.aload_n 0, 1) := by decide +kernel
theorem dX0_weighChanges_105 : decode cX0_weighChanges 105 = .ok (.aload_n 1, 1) := by decide +kernel
theorem dX0_weighChanges_106 : decode cX0_weighChanges 106 = .ok (.aload_n 2, 1) := by decide +kernel
theorem dX0_weighChanges_107 : decode cX0_weighChanges 107 = .ok (.iload 4, 2) := by decide +kernel
theorem dX0_weighChanges_109 : decode cX0_weighChanges 109 = .ok (.iload 5, 2) := by decide +kernel
theorem dX0_weighChanges_111 : decode cX0_weighChanges 111 = .ok (.invokevirtual 83, 3) := by decide +kernel
theorem dX0_weighChanges_114 : decode cX0_weighChanges 114 = .ok (.iinc 5 1, 3) := by decide +kernel
theorem dX0_weighChanges_117 : decode cX0_weighChanges 117 = .ok (.goto (-55), 3) := by decide +kernel
theorem dX0_weighChanges_120 : decode cX0_weighChanges 120 = .ok (.iinc 4 (-1), 3) := by decide +kernel
theorem dX0_weighChanges_123 : decode cX0_weighChanges 123 = .ok (.goto (-115), 3) := by decide +kernel
theorem dX0_weighChanges_126 : decode cX0_weighChanges 126 = .ok (.return_, 1) := by decide +kernel
theorem dX0_weighRule_0 : decode cX0_weighRule 0 = .ok (.aload_n 2, 1) := by decide +kernel
theorem dX0_weighRule_1 : decode cX0_weighRule 1 = .ok (.getfield 60, 3) := by decide +kernel
theorem dX0_weighRule_4 : decode cX0_weighRule 4 = .ok (.iload 4, 2) := by decide +kernel
theorem dX0_weighRule_6 : decode cX0_weighRule 6 = .ok (.iaload, 1) := by decide +kernel
theorem dX0_weighRule_7 : decode cX0_weighRule 7 = .ok (.invokestatic 70, 3) := by decide +kernel
theorem dX0_weighRule_10 : decode cX0_weighRule 10 = .ok (.istore 5, 2) := by decide +kernel
theorem dX0_weighRule_12 : decode cX0_weighRule 12 = .ok (.aload_n 2, 1) := by decide +kernel
theorem dX0_weighRule_13 : decode cX0_weighRule 13 = .ok (.getfield 60, 3) := by decide +kernel
theorem dX0_weighRule_16 : decode cX0_weighRule 16 = .ok (.iload 4, 2) := by decide +kernel
theorem dX0_weighRule_18 : decode cX0_weighRule 18 = .ok (.iaload, 1) := by decide +kernel
theorem dX0_weighRule_19 : decode cX0_weighRule 19 = .ok (.aload_n 1, 1) := by decide +kernel
theorem dX0_weighRule_20 : decode cX0_weighRule 20 = .ok (.getfield 31, 3) := by decide +kernel
theorem dX0_weighRule_23 : decode cX0_weighRule 23 = .ok (.iload_n 3, 1) := by decide +kernel
theorem dX0_weighRule_24 : decode cX0_weighRule 24 = .ok (.iaload, 1) := by decide +kernel
theorem dX0_weighRule_25 : decode cX0_weighRule 25 = .ok (.if_icmp .ne 7, 3) := by decide +kernel
theorem dX0_weighRule_28 : decode cX0_weighRule 28 = .ok (.iconst 0, 1) := by decide +kernel
theorem dX0_weighRule_29 : decode cX0_weighRule 29 = .ok (.goto 4, 3) := by decide +kernel
theorem dX0_weighRule_32 : decode cX0_weighRule 32 = .ok (.iconst 1, 1) := by decide +kernel
theorem dX0_weighRule_33 : decode cX0_weighRule 33 = .ok (.istore 6, 2) := by decide +kernel
theorem dX0_weighRule_35 : decode cX0_weighRule 35 = .ok (.aload_n 2, 1) := by decide +kernel
theorem dX0_weighRule_36 : decode cX0_weighRule 36 = .ok (.getfield 60, 3) := by decide +kernel
theorem dX0_weighRule_39 : decode cX0_weighRule 39 = .ok (.iload 4, 2) := by decide +kernel
theorem dX0_weighRule_41 : decode cX0_weighRule 41 = .ok (.iaload, 1) := by decide +kernel
theorem dX0_weighRule_42 : decode cX0_weighRule 42 = .ok (.iload 5, 2) := by decide +kernel
theorem dX0_weighRule_44 : decode cX0_weighRule 44 = .ok (.invokestatic 87, 3) := by decide +kernel
theorem dX0_weighRule_47 : decode cX0_weighRule 47 = .ok (.isub, 1) := by decide +kernel
theorem dX0_weighRule_48 : decode cX0_weighRule 48 = .ok (.iload_n 3, 1) := by decide +kernel
theorem dX0_weighRule_49 : decode cX0_weighRule 49 = .ok (.invokestatic 90, 3) := by decide +kernel
theorem dX0_weighRule_52 : decode cX0_weighRule 52 = .ok (.lstore 7, 2) := by decide +kernel
theorem dX0_weighRule_54 : decode cX0_weighRule 54 = .ok (.iload 5, 2) := by decide +kernel
theorem dX0_weighRule_56 : decode cX0_weighRule 56 = .ok (.ifCond .le 63, 3) := by decide +kernel
theorem dX0_weighRule_59 : decode cX0_weighRule 59 = .ok (.aload_n 1, 1) := by decide +kernel
theorem dX0_weighRule_60 : decode cX0_weighRule 60 = .ok (.iload_n 3, 1) := by decide +kernel
theorem dX0_weighRule_61 : decode cX0_weighRule 61 = .ok (.iconst 1, 1) := by decide +kernel
theorem dX0_weighRule_62 : decode cX0_weighRule 62 = .ok (.iadd, 1) := by decide +kernel
theorem dX0_weighRule_63 : decode cX0_weighRule 63 = .ok (.aload_n 2, 1) := by decide +kernel
theorem dX0_weighRule_64 : decode cX0_weighRule 64 = .ok (.getfield 73, 3) := by decide +kernel
theorem dX0_weighRule_67 : decode cX0_weighRule 67 = .ok (.iload 4, 2) := by decide +kernel
theorem dX0_weighRule_69 : decode cX0_weighRule 69 = .ok (.iaload, 1) := by decide +kernel
theorem dX0_weighRule_70 : decode cX0_weighRule 70 = .ok (.invokestatic 76, 3) := by decide +kernel
theorem dX0_weighRule_73 : decode cX0_weighRule 73 = .ok (.istore 9, 2) := by decide +kernel
theorem dX0_weighRule_75 : decode cX0_weighRule 75 = .ok (.iload 6, 2) := by decide +kernel
theorem dX0_weighRule_77 : decode cX0_weighRule 77 = .ok (.iload 9, 2) := by decide +kernel
theorem dX0_weighRule_79 : decode cX0_weighRule 79 = .ok (.ifCond .ge 9, 3) := by decide +kernel
theorem dX0_weighRule_82 : decode cX0_weighRule 82 = .ok (.sipush 1000, 3) := by decide +kernel
theorem dX0_weighRule_85 : decode cX0_weighRule 85 = .ok (.goto 10, 3) := by decide +kernel
theorem dX0_weighRule_88 : decode cX0_weighRule 88 = .ok (.aload_n 0, 1) := by decide +kernel
theorem dX0_weighRule_89 : decode cX0_weighRule 89 = .ok (.getfield 19, 3) := by decide +kernel
theorem dX0_weighRule_92 : decode cX0_weighRule 92 = .ok (.iload 9, 2) := by decide +kernel
theorem dX0_weighRule_94 : decode cX0_weighRule 94 = .ok (.iaload, 1) := by decide +kernel
theorem dX0_weighRule_95 : decode cX0_weighRule 95 = .ok (.iadd, 1) := by decide +kernel
theorem dX0_weighRule_96 : decode cX0_weighRule 96 = .ok (.istore 6, 2) := by decide +kernel
theorem dX0_weighRule_98 : decode cX0_weighRule 98 = .ok (.lload 7, 2) := by decide +kernel
theorem dX0_weighRule_100 : decode cX0_weighRule 100 = .ok (.iload 9, 2) := by decide +kernel
theorem dX0_weighRule_102 : decode cX0_weighRule 102 = .ok (.ifCond .ge 7, 3) := by decide +kernel
theorem dX0_weighRule_105 : decode cX0_weighRule 105 = .ok (.lconst 0, 1) := by decide +kernel
theorem dX0_weighRule_106 : decode cX0_weighRule 106 = .ok (.goto 10, 3) := by decide +kernel
theorem dX0_weighRule_109 : decode cX0_weighRule 109 = .ok (.aload_n 0, 1) := by decide +kernel
theorem dX0_weighRule_110 : decode cX0_weighRule 110 = .ok (.getfield 22, 3) := by decide +kernel
theorem dX0_weighRule_113 : decode cX0_weighRule 113 = .ok (.iload 9, 2) := by decide +kernel
theorem dX0_weighRule_115 : decode cX0_weighRule 115 = .ok (.laload, 1) := by decide +kernel
theorem dX0_weighRule_116 : decode cX0_weighRule 116 = .ok (.lor, 1) := by decide +kernel
theorem dX0_weighRule_117 : decode cX0_weighRule 117 = .ok (.lstore 7, 2) := by decide +kernel
theorem dX0_weighRule_119 : decode cX0_weighRule 119 = .ok (.iload 5, 2) := by decide +kernel
theorem dX0_weighRule_121 : decode cX0_weighRule 121 = .ok (.iconst 1, 1) := by decide +kernel
theorem dX0_weighRule_122 : decode cX0_weighRule 122 = .ok (.if_icmp .le 65, 3) := by decide +kernel
theorem dX0_weighRule_125 : decode cX0_weighRule 125 = .ok (.aload_n 1, 1) := by decide +kernel
theorem dX0_weighRule_126 : decode cX0_weighRule 126 = .ok (.aload_n 1, 1) := by decide +kernel
theorem dX0_weighRule_127 : decode cX0_weighRule 127 = .ok (.iload_n 3, 1) := by decide +kernel
theorem dX0_weighRule_128 : decode cX0_weighRule 128 = .ok (.invokevirtual 38, 3) := by decide +kernel
theorem dX0_weighRule_131 : decode cX0_weighRule 131 = .ok (.aload_n 2, 1) := by decide +kernel
theorem dX0_weighRule_132 : decode cX0_weighRule 132 = .ok (.getfield 80, 3) := by decide +kernel
theorem dX0_weighRule_135 : decode cX0_weighRule 135 = .ok (.iload 4, 2) := by decide +kernel
theorem dX0_weighRule_137 : decode cX0_weighRule 137 = .ok (.iaload, 1) := by decide +kernel
theorem dX0_weighRule_138 : decode cX0_weighRule 138 = .ok (.invokestatic 76, 3) := by decide +kernel
theorem dX0_weighRule_141 : decode cX0_weighRule 141 = .ok (.istore 9, 2) := by decide +kernel
theorem dX0_weighRule_143 : decode cX0_weighRule 143 = .ok (.iload 6, 2) := by decide +kernel
theorem dX0_weighRule_145 : decode cX0_weighRule 145 = .ok (.iload 9, 2) := by decide +kernel
theorem dX0_weighRule_147 : decode cX0_weighRule 147 = .ok (.ifCond .ge 9, 3) := by decide +kernel
theorem dX0_weighRule_150 : decode cX0_weighRule 150 = .ok (.sipush 1000, 3) := by decide +kernel
theorem dX0_weighRule_153 : decode cX0_weighRule 153 = .ok (.goto 10, 3) := by decide +kernel
theorem dX0_weighRule_156 : decode cX0_weighRule 156 = .ok (.aload_n 0, 1) := by decide +kernel
theorem dX0_weighRule_157 : decode cX0_weighRule 157 = .ok (.getfield 19, 3) := by decide +kernel
theorem dX0_weighRule_160 : decode cX0_weighRule 160 = .ok (.iload 9, 2) := by decide +kernel
theorem dX0_weighRule_162 : decode cX0_weighRule 162 = .ok (.iaload, 1) := by decide +kernel
theorem dX0_weighRule_163 : decode cX0_weighRule 163 = .ok (.iadd, 1) := by decide +kernel
theorem dX0_weighRule_164 : decode cX0_weighRule 164 = .ok (.istore 6, 2) := by decide +kernel
theorem dX0_weighRule_166 : decode cX0_weighRule 166 = .ok (.lload 7, 2) := by decide +kernel
theorem dX0_weighRule_168 : decode cX0_weighRule 168 = .ok (.iload 9, 2) := by decide +kernel
theorem dX0_weighRule_170 : decode cX0_weighRule 170 = .ok (.ifCond .ge 7, 3) := by decide +kernel
theorem dX0_weighRule_173 : decode cX0_weighRule 173 = .ok (.lconst 0, 1) := by decide +kernel
theorem dX0_weighRule_174 : decode cX0_weighRule 174 = .ok (.goto 10, 3) := by decide +kernel
theorem dX0_weighRule_177 : decode cX0_weighRule 177 = .ok (.aload_n 0, 1) := by decide +kernel
theorem dX0_weighRule_178 : decode cX0_weighRule 178 = .ok (.getfield 22, 3) := by decide +kernel
theorem dX0_weighRule_181 : decode cX0_weighRule 181 = .ok (.iload 9, 2) := by decide +kernel
theorem dX0_weighRule_183 : decode cX0_weighRule 183 = .ok (.laload, 1) := by decide +kernel
theorem dX0_weighRule_184 : decode cX0_weighRule 184 = .ok (.lor, 1) := by decide +kernel
theorem dX0_weighRule_185 : decode cX0_weighRule 185 = .ok (.lstore 7, 2) := by decide +kernel
theorem dX0_weighRule_187 : decode cX0_weighRule 187 = .ok (.iload_n 3, 1) := by decide +kernel
theorem dX0_weighRule_188 : decode cX0_weighRule 188 = .ok (.bipush 6, 2) := by decide +kernel
theorem dX0_weighRule_190 : decode cX0_weighRule 190 = .ok (.imul, 1) := by decide +kernel
theorem dX0_weighRule_191 : decode cX0_weighRule 191 = .ok (.aload_n 2, 1) := by decide +kernel
theorem dX0_weighRule_192 : decode cX0_weighRule 192 = .ok (.getfield 61, 3) := by decide +kernel
theorem dX0_weighRule_195 : decode cX0_weighRule 195 = .ok (.iload 4, 2) := by decide +kernel
theorem dX0_weighRule_197 : decode cX0_weighRule 197 = .ok (.iaload, 1) := by decide +kernel
theorem dX0_weighRule_198 : decode cX0_weighRule 198 = .ok (.iadd, 1) := by decide +kernel
theorem dX0_weighRule_199 : decode cX0_weighRule 199 = .ok (.istore 9, 2) := by decide +kernel
theorem dX0_weighRule_201 : decode cX0_weighRule 201 = .ok (.iload 6, 2) := by decide +kernel
theorem dX0_weighRule_203 : decode cX0_weighRule 203 = .ok (.aload_n 0, 1) := by decide +kernel
theorem dX0_weighRule_204 : decode cX0_weighRule 204 = .ok (.getfield 19, 3) := by decide +kernel
theorem dX0_weighRule_207 : decode cX0_weighRule 207 = .ok (.iload 9, 2) := by decide +kernel
theorem dX0_weighRule_209 : decode cX0_weighRule 209 = .ok (.iaload, 1) := by decide +kernel
theorem dX0_weighRule_210 : decode cX0_weighRule 210 = .ok (.if_icmp .lt 36, 3) := by decide +kernel
theorem dX0_weighRule_213 : decode cX0_weighRule 213 = .ok (.iload 6, 2) := by decide +kernel
theorem dX0_weighRule_215 : decode cX0_weighRule 215 = .ok (.sipush 1000, 3) := by decide +kernel
theorem dX0_weighRule_218 : decode cX0_weighRule 218 = .ok (.if_icmp .ge 46, 3) := by decide +kernel
theorem dX0_weighRule_221 : decode cX0_weighRule 221 = .ok (.iload 6, 2) := by decide +kernel
theorem dX0_weighRule_223 : decode cX0_weighRule 223 = .ok (.aload_n 0, 1) := by decide +kernel
theorem dX0_weighRule_224 : decode cX0_weighRule 224 = .ok (.getfield 19, 3) := by decide +kernel
theorem dX0_weighRule_227 : decode cX0_weighRule 227 = .ok (.iload 9, 2) := by decide +kernel
theorem dX0_weighRule_229 : decode cX0_weighRule 229 = .ok (.iaload, 1) := by decide +kernel
theorem dX0_weighRule_230 : decode cX0_weighRule 230 = .ok (.if_icmp .ne 34, 3) := by decide +kernel
theorem dX0_weighRule_233 : decode cX0_weighRule 233 = .ok (.lload 7, 2) := by decide +kernel
theorem dX0_weighRule_235 : decode cX0_weighRule 235 = .ok (.aload_n 0, 1) := by decide +kernel
theorem dX0_weighRule_236 : decode cX0_weighRule 236 = .ok (.getfield 22, 3) := by decide +kernel
theorem dX0_weighRule_239 : decode cX0_weighRule 239 = .ok (.iload 9, 2) := by decide +kernel
theorem dX0_weighRule_241 : decode cX0_weighRule 241 = .ok (.laload, 1) := by decide +kernel
theorem dX0_weighRule_242 : decode cX0_weighRule 242 = .ok (.lcmp, 1) := by decide +kernel
theorem dX0_weighRule_243 : decode cX0_weighRule 243 = .ok (.ifCond .ge 21, 3) := by decide +kernel
theorem dX0_weighRule_246 : decode cX0_weighRule 246 = .ok (.aload_n 0, 1) := by decide +kernel
theorem dX0_weighRule_247 : decode cX0_weighRule 247 = .ok (.getfield 19, 3) := by decide +kernel
theorem dX0_weighRule_250 : decode cX0_weighRule 250 = .ok (.iload 9, 2) := by decide +kernel
theorem dX0_weighRule_252 : decode cX0_weighRule 252 = .ok (.iload 6, 2) := by decide +kernel
theorem dX0_weighRule_254 : decode cX0_weighRule 254 = .ok (.iastore, 1) := by decide +kernel
theorem dX0_weighRule_255 : decode cX0_weighRule 255 = .ok (.aload_n 0, 1) := by decide +kernel
theorem dX0_weighRule_256 : decode cX0_weighRule 256 = .ok (.getfield 22, 3) := by decide +kernel
theorem dX0_weighRule_259 : decode cX0_weighRule 259 = .ok (.iload 9, 2) := by decide +kernel
theorem dX0_weighRule_261 : decode cX0_weighRule 261 = .ok (.lload 7, 2) := by decide +kernel
theorem dX0_weighRule_263 : decode cX0_weighRule 263 = .ok (.lastore, 1) := by decide +kernel
theorem dX0_weighRule_264 : decode cX0_weighRule 264 = .ok (.return_, 1) := by decide +kernel
theorem dX0_cheapestOf_0 : decode cX0_cheapestOf 0 = .ok (.bipush (-9), 2) := by decide +kernel
theorem dX0_cheapestOf_2 : decode cX0_cheapestOf 2 = .ok (.istore_n 2, 1) := by decide +kernel
theorem dX0_cheapestOf_3 : decode cX0_cheapestOf 3 = .ok (.iconst 0, 1) := by decide +kernel
theorem dX0_cheapestOf_4 : decode cX0_cheapestOf 4 = .ok (.istore_n 3, 1) := by decide +kernel
theorem dX0_cheapestOf_5 : decode cX0_cheapestOf 5 = .ok (.iload_n 3, 1) := by decide +kernel
theorem dX0_cheapestOf_6 : decode cX0_cheapestOf 6 = .ok (.bipush 6, 2) := by decide +kernel
theorem dX0_cheapestOf_8 : decode cX0_cheapestOf 8 = .ok (.if_icmp .ge 45, 3) := by decide +kernel
theorem dX0_cheapestOf_11 : decode cX0_cheapestOf 11 = .ok (.iload_n 1, 1) := by decide +kernel
theorem dX0_cheapestOf_12 : decode cX0_cheapestOf 12 = .ok (.iload_n 3, 1) := by decide +kernel
theorem dX0_cheapestOf_13 : decode cX0_cheapestOf 13 = .ok (.invokestatic 56, 3) := by decide +kernel
theorem dX0_cheapestOf_16 : decode cX0_cheapestOf 16 = .ok (.iconst 1, 1) := by decide +kernel
theorem dX0_cheapestOf_17 : decode cX0_cheapestOf 17 = .ok (.if_icmp .ne 30, 3) := by decide +kernel
theorem dX0_cheapestOf_20 : decode cX0_cheapestOf 20 = .ok (.aload_n 0, 1) := by decide +kernel
theorem dX0_cheapestOf_21 : decode cX0_cheapestOf 21 = .ok (.getfield 19, 3) := by decide +kernel
theorem dX0_cheapestOf_24 : decode cX0_cheapestOf 24 = .ok (.iload_n 3, 1) := by decide +kernel
theorem dX0_cheapestOf_25 : decode cX0_cheapestOf 25 = .ok (.iaload, 1) := by decide +kernel
theorem dX0_cheapestOf_26 : decode cX0_cheapestOf 26 = .ok (.sipush 1000, 3) := by decide +kernel
theorem dX0_cheapestOf_29 : decode cX0_cheapestOf 29 = .ok (.if_icmp .ge 18, 3) := by decide +kernel
theorem dX0_cheapestOf_32 : decode cX0_cheapestOf 32 = .ok (.iload_n 2, 1) := by decide +kernel
theorem dX0_cheapestOf_33 : decode cX0_cheapestOf 33 = .ok (.ifCond .lt 12, 3) := by decide +kernel
theorem dX0_cheapestOf_36 : decode cX0_cheapestOf 36 = .ok (.aload_n 0, 1) := by decide +kernel
theorem dX0_cheapestOf_37 : decode cX0_cheapestOf 37 = .ok (.iload_n 3, 1) := by decide +kernel
theorem dX0_cheapestOf_38 : decode cX0_cheapestOf 38 = .ok (.iload_n 2, 1) := by decide +kernel
theorem dX0_cheapestOf_39 : decode cX0_cheapestOf 39 = .ok (.invokevirtual 94, 3) := by decide +kernel
theorem dX0_cheapestOf_42 : decode cX0_cheapestOf 42 = .ok (.ifCond .eq 5, 3) := by decide +kernel
theorem dX0_cheapestOf_45 : decode cX0_cheapestOf 45 = .ok (.iload_n 3, 1) := by decide +kernel
theorem dX0_cheapestOf_46 : decode cX0_cheapestOf 46 = .ok (.istore_n 2, 1) := by decide +kernel
theorem dX0_cheapestOf_47 : decode cX0_cheapestOf 47 = .ok (.iinc 3 1, 3) := by decide +kernel
theorem dX0_cheapestOf_50 : decode cX0_cheapestOf 50 = .ok (.goto (-45), 3) := by decide +kernel
theorem dX0_cheapestOf_53 : decode cX0_cheapestOf 53 = .ok (.iload_n 2, 1) := by decide +kernel
theorem dX0_cheapestOf_54 : decode cX0_cheapestOf 54 = .ok (.ireturn, 1) := by decide +kernel
theorem dX0_isBetter_0 : decode cX0_isBetter 0 = .ok (.aload_n 0, 1) := by decide +kernel
theorem dX0_isBetter_1 : decode cX0_isBetter 1 = .ok (.getfield 19, 3) := by decide +kernel
theorem dX0_isBetter_4 : decode cX0_isBetter 4 = .ok (.iload_n 1, 1) := by decide +kernel
theorem dX0_isBetter_5 : decode cX0_isBetter 5 = .ok (.iaload, 1) := by decide +kernel
theorem dX0_isBetter_6 : decode cX0_isBetter 6 = .ok (.aload_n 0, 1) := by decide +kernel
theorem dX0_isBetter_7 : decode cX0_isBetter 7 = .ok (.getfield 19, 3) := by decide +kernel
theorem dX0_isBetter_10 : decode cX0_isBetter 10 = .ok (.iload_n 2, 1) := by decide +kernel
theorem dX0_isBetter_11 : decode cX0_isBetter 11 = .ok (.iaload, 1) := by decide +kernel
theorem dX0_isBetter_12 : decode cX0_isBetter 12 = .ok (.if_icmp .lt 34, 3) := by decide +kernel
theorem dX0_isBetter_15 : decode cX0_isBetter 15 = .ok (.aload_n 0, 1) := by decide +kernel
theorem dX0_isBetter_16 : decode cX0_isBetter 16 = .ok (.getfield 19, 3) := by decide +kernel
theorem dX0_isBetter_19 : decode cX0_isBetter 19 = .ok (.iload_n 1, 1) := by decide +kernel
theorem dX0_isBetter_20 : decode cX0_isBetter 20 = .ok (.iaload, 1) := by decide +kernel
theorem dX0_isBetter_21 : decode cX0_isBetter 21 = .ok (.aload_n 0, 1) := by decide +kernel
theorem dX0_isBetter_22 : decode cX0_isBetter 22 = .ok (.getfield 19, 3) := by decide +kernel
theorem dX0_isBetter_25 : decode cX0_isBetter 25 = .ok (.iload_n 2, 1) := by decide +kernel
theorem dX0_isBetter_26 : decode cX0_isBetter 26 = .ok (.iaload, 1) := by decide +kernel
theorem dX0_isBetter_27 : decode cX0_isBetter 27 = .ok (.if_icmp .ne 23, 3) := by decide +kernel
theorem dX0_isBetter_30 : decode cX0_isBetter 30 = .ok (.aload_n 0, 1) := by decide +kernel
theorem dX0_isBetter_31 : decode cX0_isBetter 31 = .ok (.getfield 22, 3) := by decide +kernel
theorem dX0_isBetter_34 : decode cX0_isBetter 34 = .ok (.iload_n 1, 1) := by decide +kernel
theorem dX0_isBetter_35 : decode cX0_isBetter 35 = .ok (.laload, 1) := by decide +kernel
theorem dX0_isBetter_36 : decode cX0_isBetter 36 = .ok (.aload_n 0, 1) := by decide +kernel
theorem dX0_isBetter_37 : decode cX0_isBetter 37 = .ok (.getfield 22, 3) := by decide +kernel
theorem dX0_isBetter_40 : decode cX0_isBetter 40 = .ok (.iload_n 2, 1) := by decide +kernel
theorem dX0_isBetter_41 : decode cX0_isBetter 41 = .ok (.laload, 1) := by decide +kernel
theorem dX0_isBetter_42 : decode cX0_isBetter 42 = .ok (.lcmp, 1) := by decide +kernel
theorem dX0_isBetter_43 : decode cX0_isBetter 43 = .ok (.ifCond .ge 7, 3) := by decide +kernel
theorem dX0_isBetter_46 : decode cX0_isBetter 46 = .ok (.iconst 1, 1) := by decide +kernel
theorem dX0_isBetter_47 : decode cX0_isBetter 47 = .ok (.goto 4, 3) := by decide +kernel
theorem dX0_isBetter_50 : decode cX0_isBetter 50 = .ok (.iconst 0, 1) := by decide +kernel
theorem dX0_isBetter_51 : decode cX0_isBetter 51 = .ok (.ireturn, 1) := by decide +kernel
theorem dX0_codeOfStep_0 : decode cX0_codeOfStep 0 = .ok (.iload_n 0, 1) := by decide +kernel
theorem dX0_codeOfStep_1 : decode cX0_codeOfStep 1 = .ok (.i2l, 1) := by decide +kernel
theorem dX0_codeOfStep_2 : decode cX0_codeOfStep 2 = .ok (.iconst 2, 1) := by decide +kernel
theorem dX0_codeOfStep_3 : decode cX0_codeOfStep 3 = .ok (.bipush 30, 2) := by decide +kernel
theorem dX0_codeOfStep_5 : decode cX0_codeOfStep 5 = .ok (.iload_n 1, 1) := by decide +kernel
theorem dX0_codeOfStep_6 : decode cX0_codeOfStep 6 = .ok (.isub, 1) := by decide +kernel
theorem dX0_codeOfStep_7 : decode cX0_codeOfStep 7 = .ok (.imul, 1) := by decide +kernel
theorem dX0_codeOfStep_8 : decode cX0_codeOfStep 8 = .ok (.lshl, 1) := by decide +kernel
theorem dX0_codeOfStep_9 : decode cX0_codeOfStep 9 = .ok (.lreturn, 1) := by decide +kernel
theorem dX0_stepInCode_0 : decode cX0_stepInCode 0 = .ok (.lload_n 0, 1) := by decide +kernel
theorem dX0_stepInCode_1 : decode cX0_stepInCode 1 = .ok (.iconst 2, 1) := by decide +kernel
theorem dX0_stepInCode_2 : decode cX0_stepInCode 2 = .ok (.bipush 30, 2) := by decide +kernel
theorem dX0_stepInCode_4 : decode cX0_stepInCode 4 = .ok (.iload_n 2, 1) := by decide +kernel
theorem dX0_stepInCode_5 : decode cX0_stepInCode 5 = .ok (.isub, 1) := by decide +kernel
theorem dX0_stepInCode_6 : decode cX0_stepInCode 6 = .ok (.imul, 1) := by decide +kernel
theorem dX0_stepInCode_7 : decode cX0_stepInCode 7 = .ok (.lshr, 1) := by decide +kernel
theorem dX0_stepInCode_8 : decode cX0_stepInCode 8 = .ok (.l2i, 1) := by decide +kernel
theorem dX0_stepInCode_9 : decode cX0_stepInCode 9 = .ok (.iconst 3, 1) := by decide +kernel
theorem dX0_stepInCode_10 : decode cX0_stepInCode 10 = .ok (.iand, 1) := by decide +kernel
theorem dX0_stepInCode_11 : decode cX0_stepInCode 11 = .ok (.ireturn, 1) := by decide +kernel
theorem dX1_init_0 : decode cX1_init 0 = .ok (.aload_n 0, 1) := by decide +kernel
theorem dX1_init_1 : decode cX1_init 1 = .ok (.invokespecial 1, 3) := by decide +kernel
theorem dX1_init_4 : decode cX1_init 4 = .ok (.aload_n 0, 1) := by decide +kernel
theorem dX1_init_5 : decode cX1_init 5 = .ok (.new 7, 3) := by decide +kernel
theorem dX1_init_8 : decode cX1_init 8 = .ok (.dup, 1) := by decide +kernel
theorem dX1_init_9 : decode cX1_init 9 = .ok (.invokespecial 9, 3) := by decide +kernel
theorem dX1_init_12 : decode cX1_init 12 = .ok (.putfield 10, 3) := by decide +kernel
theorem dX1_init_15 : decode cX1_init 15 = .ok (.return_, 1) := by decide +kernel
theorem dX2_init_0 : decode cX2_init 0 = .ok (.aload_n 0, 1) := by decide +kernel
theorem dX2_init_1 : decode cX2_init 1 = .ok (.invokespecial 1, 3) := by decide +kernel
theorem dX2_init_4 : decode cX2_init 4 = .ok (.aload_n 0, 1) := by decide +kernel
theorem dX2_init_5 : decode cX2_init 5 = .ok (.sipush 128, 3) := by decide +kernel
theorem dX2_init_8 : decode cX2_init 8 = .ok (.newarray .int, 2) := by decide +kernel
theorem dX2_init_10 : decode cX2_init 10 = .ok (.putfield 9, 3) := by decide +kernel
theorem dX2_init_13 : decode cX2_init 13 = .ok (.aload_n 0, 1) := by decide +kernel
theorem dX2_init_14 : decode cX2_init 14 = .ok (.sipush 128, 3) := by decide +kernel
theorem dX2_init_17 : decode cX2_init 17 = .ok (.newarray .int, 2) := by decide +kernel
theorem dX2_init_19 : decode cX2_init 19 = .ok (.putfield 15, 3) := by decide +kernel
theorem dX2_init_22 : decode cX2_init 22 = .ok (.aload_n 0, 1) := by decide +kernel
theorem dX2_init_23 : decode cX2_init 23 = .ok (.sipush 128, 3) := by decide +kernel
theorem dX2_init_26 : decode cX2_init 26 = .ok (.newarray .int, 2) := by decide +kernel
theorem dX2_init_28 : decode cX2_init 28 = .ok (.putfield 18, 3) := by decide +kernel
theorem dX2_init_31 : decode cX2_init 31 = .ok (.return_, 1) := by decide +kernel
theorem dX2_countKinds_0 : decode cX2_countKinds 0 = .ok (.iconst 0, 1) := by decide +kernel
theorem dX2_countKinds_1 : decode cX2_countKinds 1 = .ok (.istore_n 3, 1) := by decide +kernel
theorem dX2_countKinds_2 : decode cX2_countKinds 2 = .ok (.iload_n 3, 1) := by decide +kernel
theorem dX2_countKinds_3 : decode cX2_countKinds 3 = .ok (.aload_n 1, 1) := by decide +kernel
theorem dX2_countKinds_4 : decode cX2_countKinds 4 = .ok (.getfield 21, 3) := by decide +kernel
theorem dX2_countKinds_7 : decode cX2_countKinds 7 = .ok (.if_icmp .ge 29, 3) := by decide +kernel
theorem dX2_countKinds_10 : decode cX2_countKinds 10 = .ok (.aload_n 0, 1) := by decide +kernel
theorem dX2_countKinds_11 : decode cX2_countKinds 11 = .ok (.getfield 9, 3) := by decide +kernel
theorem dX2_countKinds_14 : decode cX2_countKinds 14 = .ok (.iload_n 3, 1) := by decide +kernel
theorem dX2_countKinds_15 : decode cX2_countKinds 15 = .ok (.aload_n 1, 1) := by decide +kernel
theorem dX2_countKinds_16 : decode cX2_countKinds 16 = .ok (.iload_n 3, 1) := by decide +kernel
theorem dX2_countKinds_17 : decode cX2_countKinds 17 = .ok (.iload_n 2, 1) := by decide +kernel
theorem dX2_countKinds_18 : decode cX2_countKinds 18 = .ok (.invokevirtual 25, 3) := by decide +kernel
theorem dX2_countKinds_21 : decode cX2_countKinds 21 = .ok (.ifCond .eq 7, 3) := by decide +kernel
theorem dX2_countKinds_24 : decode cX2_countKinds 24 = .ok (.iconst 1, 1) := by decide +kernel
theorem dX2_countKinds_25 : decode cX2_countKinds 25 = .ok (.goto 4, 3) := by decide +kernel
theorem dX2_countKinds_28 : decode cX2_countKinds 28 = .ok (.iconst 0, 1) := by decide +kernel
theorem dX2_countKinds_29 : decode cX2_countKinds 29 = .ok (.iastore, 1) := by decide +kernel
theorem dX2_countKinds_30 : decode cX2_countKinds 30 = .ok (.iinc 3 1, 3) := by decide +kernel
theorem dX2_countKinds_33 : decode cX2_countKinds 33 = .ok (.goto (-31), 3) := by decide +kernel
theorem dX2_countKinds_36 : decode cX2_countKinds 36 = .ok (.iconst 0, 1) := by decide +kernel
theorem dX2_countKinds_37 : decode cX2_countKinds 37 = .ok (.istore_n 3, 1) := by decide +kernel
theorem dX2_countKinds_38 : decode cX2_countKinds 38 = .ok (.iconst 0, 1) := by decide +kernel
theorem dX2_countKinds_39 : decode cX2_countKinds 39 = .ok (.istore 4, 2) := by decide +kernel
theorem dX2_countKinds_41 : decode cX2_countKinds 41 = .ok (.iload 4, 2) := by decide +kernel
theorem dX2_countKinds_43 : decode cX2_countKinds 43 = .ok (.bipush 120, 2) := by decide +kernel
theorem dX2_countKinds_45 : decode cX2_countKinds 45 = .ok (.if_icmp .ge 28, 3) := by decide +kernel
theorem dX2_countKinds_48 : decode cX2_countKinds 48 = .ok (.aload_n 0, 1) := by decide +kernel
theorem dX2_countKinds_49 : decode cX2_countKinds 49 = .ok (.aload_n 1, 1) := by decide +kernel
theorem dX2_countKinds_50 : decode cX2_countKinds 50 = .ok (.invokevirtual 29, 3) := by decide +kernel
theorem dX2_countKinds_53 : decode cX2_countKinds 53 = .ok (.istore 5, 2) := by decide +kernel
theorem dX2_countKinds_55 : decode cX2_countKinds 55 = .ok (.iload 5, 2) := by decide +kernel
theorem dX2_countKinds_57 : decode cX2_countKinds 57 = .ok (.iload_n 3, 1) := by decide +kernel
theorem dX2_countKinds_58 : decode cX2_countKinds 58 = .ok (.if_icmp .ne 6, 3) := by decide +kernel
theorem dX2_countKinds_61 : decode cX2_countKinds 61 = .ok (.iload 5, 2) := by decide +kernel
theorem dX2_countKinds_63 : decode cX2_countKinds 63 = .ok (.ireturn, 1) := by decide +kernel
theorem dX2_countKinds_64 : decode cX2_countKinds 64 = .ok (.iload 5, 2) := by decide +kernel
theorem dX2_countKinds_66 : decode cX2_countKinds 66 = .ok (.istore_n 3, 1) := by decide +kernel
theorem dX2_countKinds_67 : decode cX2_countKinds 67 = .ok (.iinc 4 1, 3) := by decide +kernel
theorem dX2_countKinds_70 : decode cX2_countKinds 70 = .ok (.goto (-29), 3) := by decide +kernel
theorem dX2_countKinds_73 : decode cX2_countKinds 73 = .ok (.iload_n 3, 1) := by decide +kernel
theorem dX2_countKinds_74 : decode cX2_countKinds 74 = .ok (.ireturn, 1) := by decide +kernel
theorem dX2_splitByMoves_0 : decode cX2_splitByMoves 0 = .ok (.iconst 0, 1) := by decide +kernel
theorem dX2_splitByMoves_1 : decode cX2_splitByMoves 1 = .ok (.istore_n 2, 1) := by decide +kernel
theorem dX2_splitByMoves_2 : decode cX2_splitByMoves 2 = .ok (.iconst 0, 1) := by decide +kernel
theorem dX2_splitByMoves_3 : decode cX2_splitByMoves 3 = .ok (.istore_n 3, 1) := by decide +kernel
theorem dX2_splitByMoves_4 : decode cX2_splitByMoves 4 = .ok (.iload_n 3, 1) := by decide +kernel
theorem dX2_splitByMoves_5 : decode cX2_splitByMoves 5 = .ok (.aload_n 1, 1) := by decide +kernel
theorem dX2_splitByMoves_6 : decode cX2_splitByMoves 6 = .ok (.getfield 21, 3) := by decide +kernel
theorem dX2_splitByMoves_9 : decode cX2_splitByMoves 9 = .ok (.if_icmp .ge 64, 3) := by decide +kernel
theorem dX2_splitByMoves_12 : decode cX2_splitByMoves 12 = .ok (.iconst 0, 1) := by decide +kernel
theorem dX2_splitByMoves_13 : decode cX2_splitByMoves 13 = .ok (.istore 4, 2) := by decide +kernel
theorem dX2_splitByMoves_15 : decode cX2_splitByMoves 15 = .ok (.iload 4, 2) := by decide +kernel
theorem dX2_splitByMoves_17 : decode cX2_splitByMoves 17 = .ok (.iload_n 2, 1) := by decide +kernel
theorem dX2_splitByMoves_18 : decode cX2_splitByMoves 18 = .ok (.if_icmp .ge 25, 3) := by decide +kernel
theorem dX2_splitByMoves_21 : decode cX2_splitByMoves 21 = .ok (.aload_n 0, 1) := by decide +kernel
theorem dX2_splitByMoves_22 : decode cX2_splitByMoves 22 = .ok (.aload_n 1, 1) := by decide +kernel
theorem dX2_splitByMoves_23 : decode cX2_splitByMoves 23 = .ok (.aload_n 0, 1) := by decide +kernel
theorem dX2_splitByMoves_24 : decode cX2_splitByMoves 24 = .ok (.getfield 18, 3) := by decide +kernel
theorem dX2_splitByMoves_27 : decode cX2_splitByMoves 27 = .ok (.iload 4, 2) := by decide +kernel
theorem dX2_splitByMoves_29 : decode cX2_splitByMoves 29 = .ok (.iaload, 1) := by decide +kernel
theorem dX2_splitByMoves_30 : decode cX2_splitByMoves 30 = .ok (.iload_n 3, 1) := by decide +kernel
theorem dX2_splitByMoves_31 : decode cX2_splitByMoves 31 = .ok (.invokevirtual 33, 3) := by decide +kernel
theorem dX2_splitByMoves_34 : decode cX2_splitByMoves 34 = .ok (.ifCond .ne 9, 3) := by decide +kernel
theorem dX2_splitByMoves_37 : decode cX2_splitByMoves 37 = .ok (.iinc 4 1, 3) := by decide +kernel
theorem dX2_splitByMoves_40 : decode cX2_splitByMoves 40 = .ok (.goto (-25), 3) := by decide +kernel
theorem dX2_splitByMoves_43 : decode cX2_splitByMoves 43 = .ok (.iload 4, 2) := by decide +kernel
theorem dX2_splitByMoves_45 : decode cX2_splitByMoves 45 = .ok (.iload_n 2, 1) := by decide +kernel
theorem dX2_splitByMoves_46 : decode cX2_splitByMoves 46 = .ok (.if_icmp .ne 13, 3) := by decide +kernel
theorem dX2_splitByMoves_49 : decode cX2_splitByMoves 49 = .ok (.aload_n 0, 1) := by decide +kernel
theorem dX2_splitByMoves_50 : decode cX2_splitByMoves 50 = .ok (.getfield 18, 3) := by decide +kernel
theorem dX2_splitByMoves_53 : decode cX2_splitByMoves 53 = .ok (.iload_n 2, 1) := by decide +kernel
theorem dX2_splitByMoves_54 : decode cX2_splitByMoves 54 = .ok (.iload_n 3, 1) := by decide +kernel
theorem dX2_splitByMoves_55 : decode cX2_splitByMoves 55 = .ok (.iastore, 1) := by decide +kernel
theorem dX2_splitByMoves_56 : decode cX2_splitByMoves 56 = .ok (.iinc 2 1, 3) := by decide +kernel
theorem dX2_splitByMoves_59 : decode cX2_splitByMoves 59 = .ok (.aload_n 0, 1) := by decide +kernel
theorem dX2_splitByMoves_60 : decode cX2_splitByMoves 60 = .ok (.getfield 15, 3) := by decide +kernel
theorem dX2_splitByMoves_63 : decode cX2_splitByMoves 63 = .ok (.iload_n 3, 1) := by decide +kernel
theorem dX2_splitByMoves_64 : decode cX2_splitByMoves 64 = .ok (.iload 4, 2) := by decide +kernel
theorem dX2_splitByMoves_66 : decode cX2_splitByMoves 66 = .ok (.iastore, 1) := by decide +kernel
theorem dX2_splitByMoves_67 : decode cX2_splitByMoves 67 = .ok (.iinc 3 1, 3) := by decide +kernel
theorem dX2_splitByMoves_70 : decode cX2_splitByMoves 70 = .ok (.goto (-66), 3) := by decide +kernel
theorem dX2_splitByMoves_73 : decode cX2_splitByMoves 73 = .ok (.iconst 0, 1) := by decide +kernel
theorem dX2_splitByMoves_74 : decode cX2_splitByMoves 74 = .ok (.istore_n 3, 1) := by decide +kernel
theorem dX2_splitByMoves_75 : decode cX2_splitByMoves 75 = .ok (.iload_n 3, 1) := by decide +kernel
theorem dX2_splitByMoves_76 : decode cX2_splitByMoves 76 = .ok (.aload_n 1, 1) := by decide +kernel
theorem dX2_splitByMoves_77 : decode cX2_splitByMoves 77 = .ok (.getfield 21, 3) := by decide +kernel
theorem dX2_splitByMoves_80 : decode cX2_splitByMoves 80 = .ok (.if_icmp .ge 21, 3) := by decide +kernel
theorem dX2_splitByMoves_83 : decode cX2_splitByMoves 83 = .ok (.aload_n 0, 1) := by decide +kernel
theorem dX2_splitByMoves_84 : decode cX2_splitByMoves 84 = .ok (.getfield 9, 3) := by decide +kernel
theorem dX2_splitByMoves_87 : decode cX2_splitByMoves 87 = .ok (.iload_n 3, 1) := by decide +kernel
theorem dX2_splitByMoves_88 : decode cX2_splitByMoves 88 = .ok (.aload_n 0, 1) := by decide +kernel
theorem dX2_splitByMoves_89 : decode cX2_splitByMoves 89 = .ok (.getfield 15, 3) := by decide +kernel
theorem dX2_splitByMoves_92 : decode cX2_splitByMoves 92 = .ok (.iload_n 3, 1) := by decide +kernel
theorem dX2_splitByMoves_93 : decode cX2_splitByMoves 93 = .ok (.iaload, 1) := by decide +kernel
theorem dX2_splitByMoves_94 : decode cX2_splitByMoves 94 = .ok (.iastore, 1) := by decide +kernel
theorem dX2_splitByMoves_95 : decode cX2_splitByMoves 95 = .ok (.iinc 3 1, 3) := by decide +kernel
theorem dX2_splitByMoves_98 : decode cX2_splitByMoves 98 = .ok (.goto (-23), 3) := by decide +kernel
theorem dX2_splitByMoves_101 : decode cX2_splitByMoves 101 = .ok (.iload_n 2, 1) := by decide +kernel
theorem dX2_splitByMoves_102 : decode cX2_splitByMoves 102 = .ok (.ireturn, 1) := by decide +kernel
theorem dX2_isLike_0 : decode cX2_isLike 0 = .ok (.aload_n 0, 1) := by decide +kernel
theorem dX2_isLike_1 : decode cX2_isLike 1 = .ok (.getfield 9, 3) := by decide +kernel
theorem dX2_isLike_4 : decode cX2_isLike 4 = .ok (.iload_n 2, 1) := by decide +kernel
theorem dX2_isLike_5 : decode cX2_isLike 5 = .ok (.iaload, 1) := by decide +kernel
theorem dX2_isLike_6 : decode cX2_isLike 6 = .ok (.aload_n 0, 1) := by decide +kernel
theorem dX2_isLike_7 : decode cX2_isLike 7 = .ok (.getfield 9, 3) := by decide +kernel
theorem dX2_isLike_10 : decode cX2_isLike 10 = .ok (.iload_n 3, 1) := by decide +kernel
theorem dX2_isLike_11 : decode cX2_isLike 11 = .ok (.iaload, 1) := by decide +kernel
theorem dX2_isLike_12 : decode cX2_isLike 12 = .ok (.if_icmp .ne 20, 3) := by decide +kernel
theorem dX2_isLike_15 : decode cX2_isLike 15 = .ok (.aload_n 0, 1) := by decide +kernel
theorem dX2_isLike_16 : decode cX2_isLike 16 = .ok (.aload_n 1, 1) := by decide +kernel
theorem dX2_isLike_17 : decode cX2_isLike 17 = .ok (.iload_n 2, 1) := by decide +kernel
theorem dX2_isLike_18 : decode cX2_isLike 18 = .ok (.invokevirtual 37, 3) := by decide +kernel
theorem dX2_isLike_21 : decode cX2_isLike 21 = .ok (.aload_n 1, 1) := by decide +kernel
theorem dX2_isLike_22 : decode cX2_isLike 22 = .ok (.iload_n 3, 1) := by decide +kernel
theorem dX2_isLike_23 : decode cX2_isLike 23 = .ok (.invokevirtual 37, 3) := by decide +kernel
theorem dX2_isLike_26 : decode cX2_isLike 26 = .ok (.invokevirtual 41, 3) := by decide +kernel
theorem dX2_isLike_29 : decode cX2_isLike 29 = .ok (.ifCond .ne 5, 3) := by decide +kernel
theorem dX2_isLike_32 : decode cX2_isLike 32 = .ok (.iconst 0, 1) := by decide +kernel
theorem dX2_isLike_33 : decode cX2_isLike 33 = .ok (.ireturn, 1) := by decide +kernel
theorem dX2_isLike_34 : decode cX2_isLike 34 = .ok (.iconst 0, 1) := by decide +kernel
theorem dX2_isLike_35 : decode cX2_isLike 35 = .ok (.istore 4, 2) := by decide +kernel
theorem dX2_isLike_37 : decode cX2_isLike 37 = .ok (.iload 4, 2) := by decide +kernel
theorem dX2_isLike_39 : decode cX2_isLike 39 = .ok (.aload_n 1, 1) := by decide +kernel
theorem dX2_isLike_40 : decode cX2_isLike 40 = .ok (.getfield 21, 3) := by decide +kernel
theorem dX2_isLike_43 : decode cX2_isLike 43 = .ok (.if_icmp .ge 53, 3) := by decide +kernel
theorem dX2_isLike_46 : decode cX2_isLike 46 = .ok (.aload_n 0, 1) := by decide +kernel
theorem dX2_isLike_47 : decode cX2_isLike 47 = .ok (.aload_n 1, 1) := by decide +kernel
theorem dX2_isLike_48 : decode cX2_isLike 48 = .ok (.iload_n 2, 1) := by decide +kernel
theorem dX2_isLike_49 : decode cX2_isLike 49 = .ok (.iload 4, 2) := by decide +kernel
theorem dX2_isLike_51 : decode cX2_isLike 51 = .ok (.invokevirtual 44, 3) := by decide +kernel
theorem dX2_isLike_54 : decode cX2_isLike 54 = .ok (.aload_n 1, 1) := by decide +kernel
theorem dX2_isLike_55 : decode cX2_isLike 55 = .ok (.iload_n 3, 1) := by decide +kernel
theorem dX2_isLike_56 : decode cX2_isLike 56 = .ok (.iload 4, 2) := by decide +kernel
theorem dX2_isLike_58 : decode cX2_isLike 58 = .ok (.invokevirtual 44, 3) := by decide +kernel
theorem dX2_isLike_61 : decode cX2_isLike 61 = .ok (.invokevirtual 41, 3) := by decide +kernel
theorem dX2_isLike_64 : decode cX2_isLike 64 = .ok (.ifCond .eq 24, 3) := by decide +kernel
theorem dX2_isLike_67 : decode cX2_isLike 67 = .ok (.aload_n 0, 1) := by decide +kernel
theorem dX2_isLike_68 : decode cX2_isLike 68 = .ok (.aload_n 1, 1) := by decide +kernel
theorem dX2_isLike_69 : decode cX2_isLike 69 = .ok (.iload 4, 2) := by decide +kernel
theorem dX2_isLike_71 : decode cX2_isLike 71 = .ok (.iload_n 2, 1) := by decide +kernel
theorem dX2_isLike_72 : decode cX2_isLike 72 = .ok (.invokevirtual 44, 3) := by decide +kernel
theorem dX2_isLike_75 : decode cX2_isLike 75 = .ok (.aload_n 1, 1) := by decide +kernel
theorem dX2_isLike_76 : decode cX2_isLike 76 = .ok (.iload 4, 2) := by decide +kernel
theorem dX2_isLike_78 : decode cX2_isLike 78 = .ok (.iload_n 3, 1) := by decide +kernel
theorem dX2_isLike_79 : decode cX2_isLike 79 = .ok (.invokevirtual 44, 3) := by decide +kernel
theorem dX2_isLike_82 : decode cX2_isLike 82 = .ok (.invokevirtual 41, 3) := by decide +kernel
theorem dX2_isLike_85 : decode cX2_isLike 85 = .ok (.ifCond .ne 5, 3) := by decide +kernel
theorem dX2_isLike_88 : decode cX2_isLike 88 = .ok (.iconst 0, 1) := by decide +kernel
theorem dX2_isLike_89 : decode cX2_isLike 89 = .ok (.ireturn, 1) := by decide +kernel
theorem dX2_isLike_90 : decode cX2_isLike 90 = .ok (.iinc 4 1, 3) := by decide +kernel
theorem dX2_isLike_93 : decode cX2_isLike 93 = .ok (.goto (-56), 3) := by decide +kernel
theorem dX2_isLike_96 : decode cX2_isLike 96 = .ok (.iconst 1, 1) := by decide +kernel
theorem dX2_isLike_97 : decode cX2_isLike 97 = .ok (.ireturn, 1) := by decide +kernel
theorem dX2_areKinds_0 : decode cX2_areKinds 0 = .ok (.aload_n 0, 1) := by decide +kernel
theorem dX2_areKinds_1 : decode cX2_areKinds 1 = .ok (.getfield 9, 3) := by decide +kernel
theorem dX2_areKinds_4 : decode cX2_areKinds 4 = .ok (.iload_n 1, 1) := by decide +kernel
theorem dX2_areKinds_5 : decode cX2_areKinds 5 = .ok (.invokestatic 48, 3) := by decide +kernel
theorem dX2_areKinds_8 : decode cX2_areKinds 8 = .ok (.iaload, 1) := by decide +kernel
theorem dX2_areKinds_9 : decode cX2_areKinds 9 = .ok (.aload_n 0, 1) := by decide +kernel
theorem dX2_areKinds_10 : decode cX2_areKinds 10 = .ok (.getfield 9, 3) := by decide +kernel
theorem dX2_areKinds_13 : decode cX2_areKinds 13 = .ok (.iload_n 2, 1) := by decide +kernel
theorem dX2_areKinds_14 : decode cX2_areKinds 14 = .ok (.invokestatic 48, 3) := by decide +kernel
theorem dX2_areKinds_17 : decode cX2_areKinds 17 = .ok (.iaload, 1) := by decide +kernel
theorem dX2_areKinds_18 : decode cX2_areKinds 18 = .ok (.if_icmp .ne 28, 3) := by decide +kernel
theorem dX2_areKinds_21 : decode cX2_areKinds 21 = .ok (.aload_n 0, 1) := by decide +kernel
theorem dX2_areKinds_22 : decode cX2_areKinds 22 = .ok (.getfield 9, 3) := by decide +kernel
theorem dX2_areKinds_25 : decode cX2_areKinds 25 = .ok (.iload_n 1, 1) := by decide +kernel
theorem dX2_areKinds_26 : decode cX2_areKinds 26 = .ok (.invokestatic 51, 3) := by decide +kernel
theorem dX2_areKinds_29 : decode cX2_areKinds 29 = .ok (.iaload, 1) := by decide +kernel
theorem dX2_areKinds_30 : decode cX2_areKinds 30 = .ok (.aload_n 0, 1) := by decide +kernel
theorem dX2_areKinds_31 : decode cX2_areKinds 31 = .ok (.getfield 9, 3) := by decide +kernel
theorem dX2_areKinds_34 : decode cX2_areKinds 34 = .ok (.iload_n 2, 1) := by decide +kernel
theorem dX2_areKinds_35 : decode cX2_areKinds 35 = .ok (.invokestatic 51, 3) := by decide +kernel
theorem dX2_areKinds_38 : decode cX2_areKinds 38 = .ok (.iaload, 1) := by decide +kernel
theorem dX2_areKinds_39 : decode cX2_areKinds 39 = .ok (.if_icmp .ne 7, 3) := by decide +kernel
theorem dX2_areKinds_42 : decode cX2_areKinds 42 = .ok (.iconst 1, 1) := by decide +kernel
theorem dX2_areKinds_43 : decode cX2_areKinds 43 = .ok (.goto 4, 3) := by decide +kernel
theorem dX2_areKinds_46 : decode cX2_areKinds 46 = .ok (.iconst 0, 1) := by decide +kernel
theorem dX2_areKinds_47 : decode cX2_areKinds 47 = .ok (.ireturn, 1) := by decide +kernel
theorem dX3_init_0 : decode cX3_init 0 = .ok (.aload_n 0, 1) := by decide +kernel
theorem dX3_init_1 : decode cX3_init 1 = .ok (.invokespecial 3, 3) := by decide +kernel
theorem dX3_init_4 : decode cX3_init 4 = .ok (.aload_n 0, 1) := by decide +kernel
theorem dX3_init_5 : decode cX3_init 5 = .ok (.bipush 16, 2) := by decide +kernel
theorem dX3_init_7 : decode cX3_init 7 = .ok (.newarray .int, 2) := by decide +kernel
theorem dX3_init_9 : decode cX3_init 9 = .ok (.putfield 9, 3) := by decide +kernel
theorem dX3_init_12 : decode cX3_init 12 = .ok (.aload_n 0, 1) := by decide +kernel
theorem dX3_init_13 : decode cX3_init 13 = .ok (.bipush 16, 2) := by decide +kernel
theorem dX3_init_15 : decode cX3_init 15 = .ok (.newarray .int, 2) := by decide +kernel
theorem dX3_init_17 : decode cX3_init 17 = .ok (.putfield 15, 3) := by decide +kernel
theorem dX3_init_20 : decode cX3_init 20 = .ok (.aload_n 0, 1) := by decide +kernel
theorem dX3_init_21 : decode cX3_init 21 = .ok (.bipush 16, 2) := by decide +kernel
theorem dX3_init_23 : decode cX3_init 23 = .ok (.newarray .int, 2) := by decide +kernel
theorem dX3_init_25 : decode cX3_init 25 = .ok (.putfield 18, 3) := by decide +kernel
theorem dX3_init_28 : decode cX3_init 28 = .ok (.aload_n 0, 1) := by decide +kernel
theorem dX3_init_29 : decode cX3_init 29 = .ok (.bipush 16, 2) := by decide +kernel
theorem dX3_init_31 : decode cX3_init 31 = .ok (.newarray .int, 2) := by decide +kernel
theorem dX3_init_33 : decode cX3_init 33 = .ok (.putfield 21, 3) := by decide +kernel
theorem dX3_init_36 : decode cX3_init 36 = .ok (.return_, 1) := by decide +kernel
theorem dX3_has_0 : decode cX3_has 0 = .ok (.iload_n 1, 1) := by decide +kernel
theorem dX3_has_1 : decode cX3_has 1 = .ok (.ifCond .lt 21, 3) := by decide +kernel
theorem dX3_has_4 : decode cX3_has 4 = .ok (.iload_n 1, 1) := by decide +kernel
theorem dX3_has_5 : decode cX3_has 5 = .ok (.aload_n 0, 1) := by decide +kernel
theorem dX3_has_6 : decode cX3_has 6 = .ok (.getfield 24, 3) := by decide +kernel
theorem dX3_has_9 : decode cX3_has 9 = .ok (.if_icmp .ge 13, 3) := by decide +kernel
theorem dX3_has_12 : decode cX3_has 12 = .ok (.iload_n 1, 1) := by decide +kernel
theorem dX3_has_13 : decode cX3_has 13 = .ok (.bipush 16, 2) := by decide +kernel
theorem dX3_has_15 : decode cX3_has 15 = .ok (.if_icmp .ge 7, 3) := by decide +kernel
theorem dX3_has_18 : decode cX3_has 18 = .ok (.iconst 1, 1) := by decide +kernel
theorem dX3_has_19 : decode cX3_has 19 = .ok (.goto 4, 3) := by decide +kernel
theorem dX3_has_22 : decode cX3_has 22 = .ok (.iconst 0, 1) := by decide +kernel
theorem dX3_has_23 : decode cX3_has 23 = .ok (.ireturn, 1) := by decide +kernel
theorem dX3_allOn_0 : decode cX3_allOn 0 = .ok (.iconst 1, 1) := by decide +kernel
theorem dX3_allOn_1 : decode cX3_allOn 1 = .ok (.aload_n 0, 1) := by decide +kernel
theorem dX3_allOn_2 : decode cX3_allOn 2 = .ok (.getfield 24, 3) := by decide +kernel
theorem dX3_allOn_5 : decode cX3_allOn 5 = .ok (.ishl, 1) := by decide +kernel
theorem dX3_allOn_6 : decode cX3_allOn 6 = .ok (.iconst 1, 1) := by decide +kernel
theorem dX3_allOn_7 : decode cX3_allOn 7 = .ok (.isub, 1) := by decide +kernel
theorem dX3_allOn_8 : decode cX3_allOn 8 = .ok (.ireturn, 1) := by decide +kernel
theorem dX3_read_0 : decode cX3_read 0 = .ok (.aload_n 0, 1) := by decide +kernel
theorem dX3_read_1 : decode cX3_read 1 = .ok (.iconst 0, 1) := by decide +kernel
theorem dX3_read_2 : decode cX3_read 2 = .ok (.putfield 24, 3) := by decide +kernel
theorem dX3_read_5 : decode cX3_read 5 = .ok (.aload_n 0, 1) := by decide +kernel
theorem dX3_read_6 : decode cX3_read 6 = .ok (.iconst 0, 1) := by decide +kernel
theorem dX3_read_7 : decode cX3_read 7 = .ok (.putfield 28, 3) := by decide +kernel
theorem dX3_read_10 : decode cX3_read 10 = .ok (.aload_n 1, 1) := by decide +kernel
theorem dX3_read_11 : decode cX3_read 11 = .ok (.invokevirtual 31, 3) := by decide +kernel
theorem dX3_read_14 : decode cX3_read 14 = .ok (.iconst 0, 1) := by decide +kernel
theorem dX3_read_15 : decode cX3_read 15 = .ok (.istore_n 2, 1) := by decide +kernel
theorem dX3_read_16 : decode cX3_read 16 = .ok (.iconst 0, 1) := by decide +kernel
theorem dX3_read_17 : decode cX3_read 17 = .ok (.istore_n 3, 1) := by decide +kernel
theorem dX3_read_18 : decode cX3_read 18 = .ok (.iload_n 3, 1) := by decide +kernel
theorem dX3_read_19 : decode cX3_read 19 = .ok (.sipush 300, 3) := by decide +kernel
theorem dX3_read_22 : decode cX3_read 22 = .ok (.if_icmp .ge 47, 3) := by decide +kernel
theorem dX3_read_25 : decode cX3_read 25 = .ok (.aload_n 1, 1) := by decide +kernel
theorem dX3_read_26 : decode cX3_read 26 = .ok (.getfield 36, 3) := by decide +kernel
theorem dX3_read_29 : decode cX3_read 29 = .ok (.ifCond .eq 40, 3) := by decide +kernel
theorem dX3_read_32 : decode cX3_read 32 = .ok (.aload_n 0, 1) := by decide +kernel
theorem dX3_read_33 : decode cX3_read 33 = .ok (.aload_n 1, 1) := by decide +kernel
theorem dX3_read_34 : decode cX3_read 34 = .ok (.invokevirtual 39, 3) := by decide +kernel
theorem dX3_read_37 : decode cX3_read 37 = .ok (.ifCond .eq 11, 3) := by decide +kernel
theorem dX3_read_40 : decode cX3_read 40 = .ok (.aload_n 1, 1) := by decide +kernel
theorem dX3_read_41 : decode cX3_read 41 = .ok (.getfield 36, 3) := by decide +kernel
theorem dX3_read_44 : decode cX3_read 44 = .ok (.iconst 4, 1) := by decide +kernel
theorem dX3_read_45 : decode cX3_read 45 = .ok (.if_icmp .eq 11, 3) := by decide +kernel
theorem dX3_read_48 : decode cX3_read 48 = .ok (.bipush (-10), 2) := by decide +kernel
theorem dX3_read_50 : decode cX3_read 50 = .ok (.aload_n 1, 1) := by decide +kernel
theorem dX3_read_51 : decode cX3_read 51 = .ok (.getfield 43, 3) := by decide +kernel
theorem dX3_read_54 : decode cX3_read 54 = .ok (.isub, 1) := by decide +kernel
theorem dX3_read_55 : decode cX3_read 55 = .ok (.ireturn, 1) := by decide +kernel
theorem dX3_read_56 : decode cX3_read 56 = .ok (.aload_n 1, 1) := by decide +kernel
theorem dX3_read_57 : decode cX3_read 57 = .ok (.invokevirtual 46, 3) := by decide +kernel
theorem dX3_read_60 : decode cX3_read 60 = .ok (.iinc 2 1, 3) := by decide +kernel
theorem dX3_read_63 : decode cX3_read 63 = .ok (.iinc 3 1, 3) := by decide +kernel
theorem dX3_read_66 : decode cX3_read 66 = .ok (.goto (-48), 3) := by decide +kernel
theorem dX3_read_69 : decode cX3_read 69 = .ok (.iload_n 2, 1) := by decide +kernel
theorem dX3_read_70 : decode cX3_read 70 = .ok (.ireturn, 1) := by decide +kernel
theorem dX3_readItem_0 : decode cX3_readItem 0 = .ok (.aload_n 1, 1) := by decide +kernel
theorem dX3_readItem_1 : decode cX3_readItem 1 = .ok (.getfield 36, 3) := by decide +kernel
theorem dX3_readItem_4 : decode cX3_readItem 4 = .ok (.iconst 1, 1) := by decide +kernel
theorem dX3_readItem_5 : decode cX3_readItem 5 = .ok (.if_icmp .ne 26, 3) := by decide +kernel
theorem dX3_readItem_8 : decode cX3_readItem 8 = .ok (.aload_n 0, 1) := by decide +kernel
theorem dX3_readItem_9 : decode cX3_readItem 9 = .ok (.getfield 24, 3) := by decide +kernel
theorem dX3_readItem_12 : decode cX3_readItem 12 = .ok (.bipush 16, 2) := by decide +kernel
theorem dX3_readItem_14 : decode cX3_readItem 14 = .ok (.if_icmp .ge 15, 3) := by decide +kernel
theorem dX3_readItem_17 : decode cX3_readItem 17 = .ok (.aload_n 0, 1) := by decide +kernel
theorem dX3_readItem_18 : decode cX3_readItem 18 = .ok (.aload_n 1, 1) := by decide +kernel
theorem dX3_readItem_19 : decode cX3_readItem 19 = .ok (.invokevirtual 49, 3) := by decide +kernel
theorem dX3_readItem_22 : decode cX3_readItem 22 = .ok (.ifCond .eq 7, 3) := by decide +kernel
theorem dX3_readItem_25 : decode cX3_readItem 25 = .ok (.iconst 1, 1) := by decide +kernel
theorem dX3_readItem_26 : decode cX3_readItem 26 = .ok (.goto 4, 3) := by decide +kernel
theorem dX3_readItem_29 : decode cX3_readItem 29 = .ok (.iconst 0, 1) := by decide +kernel
theorem dX3_readItem_30 : decode cX3_readItem 30 = .ok (.ireturn, 1) := by decide +kernel
theorem dX3_readItem_31 : decode cX3_readItem 31 = .ok (.aload_n 1, 1) := by decide +kernel
theorem dX3_readItem_32 : decode cX3_readItem 32 = .ok (.getfield 36, 3) := by decide +kernel
theorem dX3_readItem_35 : decode cX3_readItem 35 = .ok (.iconst 2, 1) := by decide +kernel
theorem dX3_readItem_36 : decode cX3_readItem 36 = .ok (.if_icmp .ne 15, 3) := by decide +kernel
theorem dX3_readItem_39 : decode cX3_readItem 39 = .ok (.aload_n 0, 1) := by decide +kernel
theorem dX3_readItem_40 : decode cX3_readItem 40 = .ok (.aload_n 1, 1) := by decide +kernel
theorem dX3_readItem_41 : decode cX3_readItem 41 = .ok (.invokevirtual 52, 3) := by decide +kernel
theorem dX3_readItem_44 : decode cX3_readItem 44 = .ok (.ifCond .eq 7, 3) := by decide +kernel
theorem dX3_readItem_47 : decode cX3_readItem 47 = .ok (.iconst 1, 1) := by decide +kernel
theorem dX3_readItem_48 : decode cX3_readItem 48 = .ok (.goto 4, 3) := by decide +kernel
theorem dX3_readItem_51 : decode cX3_readItem 51 = .ok (.iconst 0, 1) := by decide +kernel
theorem dX3_readItem_52 : decode cX3_readItem 52 = .ok (.ireturn, 1) := by decide +kernel
theorem dX3_readRule_0 : decode cX3_readRule 0 = .ok (.aload_n 0, 1) := by decide +kernel
theorem dX3_readRule_1 : decode cX3_readRule 1 = .ok (.getfield 24, 3) := by decide +kernel
theorem dX3_readRule_4 : decode cX3_readRule 4 = .ok (.istore_n 2, 1) := by decide +kernel
theorem dX3_readRule_5 : decode cX3_readRule 5 = .ok (.aload_n 1, 1) := by decide +kernel
theorem dX3_readRule_6 : decode cX3_readRule 6 = .ok (.getfield 55, 3) := by decide +kernel
theorem dX3_readRule_9 : decode cX3_readRule 9 = .ok (.istore_n 3, 1) := by decide +kernel
theorem dX3_readRule_10 : decode cX3_readRule 10 = .ok (.aload_n 0, 1) := by decide +kernel
theorem dX3_readRule_11 : decode cX3_readRule 11 = .ok (.getfield 9, 3) := by decide +kernel
theorem dX3_readRule_14 : decode cX3_readRule 14 = .ok (.iload_n 2, 1) := by decide +kernel
theorem dX3_readRule_15 : decode cX3_readRule 15 = .ok (.iload_n 3, 1) := by decide +kernel
theorem dX3_readRule_16 : decode cX3_readRule 16 = .ok (.iastore, 1) := by decide +kernel
theorem dX3_readRule_17 : decode cX3_readRule 17 = .ok (.aload_n 0, 1) := by decide +kernel
theorem dX3_readRule_18 : decode cX3_readRule 18 = .ok (.getfield 15, 3) := by decide +kernel
theorem dX3_readRule_21 : decode cX3_readRule 21 = .ok (.iload_n 2, 1) := by decide +kernel
theorem dX3_readRule_22 : decode cX3_readRule 22 = .ok (.bipush (-9), 2) := by decide +kernel
theorem dX3_readRule_24 : decode cX3_readRule 24 = .ok (.iastore, 1) := by decide +kernel
theorem dX3_readRule_25 : decode cX3_readRule 25 = .ok (.aload_n 0, 1) := by decide +kernel
theorem dX3_readRule_26 : decode cX3_readRule 26 = .ok (.getfield 18, 3) := by decide +kernel
theorem dX3_readRule_29 : decode cX3_readRule 29 = .ok (.iload_n 2, 1) := by decide +kernel
theorem dX3_readRule_30 : decode cX3_readRule 30 = .ok (.bipush (-9), 2) := by decide +kernel
theorem dX3_readRule_32 : decode cX3_readRule 32 = .ok (.iastore, 1) := by decide +kernel
theorem dX3_readRule_33 : decode cX3_readRule 33 = .ok (.aload_n 1, 1) := by decide +kernel
theorem dX3_readRule_34 : decode cX3_readRule 34 = .ok (.invokevirtual 46, 3) := by decide +kernel
theorem dX3_readRule_37 : decode cX3_readRule 37 = .ok (.iload_n 3, 1) := by decide +kernel
theorem dX3_readRule_38 : decode cX3_readRule 38 = .ok (.invokestatic 58, 3) := by decide +kernel
theorem dX3_readRule_41 : decode cX3_readRule 41 = .ok (.ifCond .le 26, 3) := by decide +kernel
theorem dX3_readRule_44 : decode cX3_readRule 44 = .ok (.aload_n 1, 1) := by decide +kernel
theorem dX3_readRule_45 : decode cX3_readRule 45 = .ok (.invokevirtual 62, 3) := by decide +kernel
theorem dX3_readRule_48 : decode cX3_readRule 48 = .ok (.ifCond .ne 5, 3) := by decide +kernel
theorem dX3_readRule_51 : decode cX3_readRule 51 = .ok (.iconst 0, 1) := by decide +kernel
theorem dX3_readRule_52 : decode cX3_readRule 52 = .ok (.ireturn, 1) := by decide +kernel
theorem dX3_readRule_53 : decode cX3_readRule 53 = .ok (.aload_n 0, 1) := by decide +kernel
theorem dX3_readRule_54 : decode cX3_readRule 54 = .ok (.getfield 15, 3) := by decide +kernel
theorem dX3_readRule_57 : decode cX3_readRule 57 = .ok (.iload_n 2, 1) := by decide +kernel
theorem dX3_readRule_58 : decode cX3_readRule 58 = .ok (.aload_n 1, 1) := by decide +kernel
theorem dX3_readRule_59 : decode cX3_readRule 59 = .ok (.getfield 55, 3) := by decide +kernel
theorem dX3_readRule_62 : decode cX3_readRule 62 = .ok (.iastore, 1) := by decide +kernel
theorem dX3_readRule_63 : decode cX3_readRule 63 = .ok (.aload_n 1, 1) := by decide +kernel
theorem dX3_readRule_64 : decode cX3_readRule 64 = .ok (.invokevirtual 46, 3) := by decide +kernel
theorem dX3_readRule_67 : decode cX3_readRule 67 = .ok (.iload_n 3, 1) := by decide +kernel
theorem dX3_readRule_68 : decode cX3_readRule 68 = .ok (.invokestatic 58, 3) := by decide +kernel
theorem dX3_readRule_71 : decode cX3_readRule 71 = .ok (.iconst 1, 1) := by decide +kernel
theorem dX3_readRule_72 : decode cX3_readRule 72 = .ok (.if_icmp .le 26, 3) := by decide +kernel
theorem dX3_readRule_75 : decode cX3_readRule 75 = .ok (.aload_n 1, 1) := by decide +kernel
theorem dX3_readRule_76 : decode cX3_readRule 76 = .ok (.invokevirtual 62, 3) := by decide +kernel
theorem dX3_readRule_79 : decode cX3_readRule 79 = .ok (.ifCond .ne 5, 3) := by decide +kernel
theorem dX3_readRule_82 : decode cX3_readRule 82 = .ok (.iconst 0, 1) := by decide +kernel
theorem dX3_readRule_83 : decode cX3_readRule 83 = .ok (.ireturn, 1) := by decide +kernel
theorem dX3_readRule_84 : decode cX3_readRule 84 = .ok (.aload_n 0, 1) := by decide +kernel
theorem dX3_readRule_85 : decode cX3_readRule 85 = .ok (.getfield 18, 3) := by decide +kernel
theorem dX3_readRule_88 : decode cX3_readRule 88 = .ok (.iload_n 2, 1) := by decide +kernel
theorem dX3_readRule_89 : decode cX3_readRule 89 = .ok (.aload_n 1, 1) := by decide +kernel
theorem dX3_readRule_90 : decode cX3_readRule 90 = .ok (.getfield 55, 3) := by decide +kernel
theorem dX3_readRule_93 : decode cX3_readRule 93 = .ok (.iastore, 1) := by decide +kernel
theorem dX3_readRule_94 : decode cX3_readRule 94 = .ok (.aload_n 1, 1) := by decide +kernel
theorem dX3_readRule_95 : decode cX3_readRule 95 = .ok (.invokevirtual 46, 3) := by decide +kernel
theorem dX3_readRule_98 : decode cX3_readRule 98 = .ok (.aload_n 1, 1) := by decide +kernel
theorem dX3_readRule_99 : decode cX3_readRule 99 = .ok (.invokevirtual 62, 3) := by decide +kernel
theorem dX3_readRule_102 : decode cX3_readRule 102 = .ok (.ifCond .ne 5, 3) := by decide +kernel
theorem dX3_readRule_105 : decode cX3_readRule 105 = .ok (.iconst 0, 1) := by decide +kernel
theorem dX3_readRule_106 : decode cX3_readRule 106 = .ok (.ireturn, 1) := by decide +kernel
theorem dX3_readRule_107 : decode cX3_readRule 107 = .ok (.aload_n 0, 1) := by decide +kernel
theorem dX3_readRule_108 : decode cX3_readRule 108 = .ok (.getfield 21, 3) := by decide +kernel
theorem dX3_readRule_111 : decode cX3_readRule 111 = .ok (.iload_n 2, 1) := by decide +kernel
theorem dX3_readRule_112 : decode cX3_readRule 112 = .ok (.aload_n 1, 1) := by decide +kernel
theorem dX3_readRule_113 : decode cX3_readRule 113 = .ok (.getfield 55, 3) := by decide +kernel
theorem dX3_readRule_116 : decode cX3_readRule 116 = .ok (.iastore, 1) := by decide +kernel
theorem dX3_readRule_117 : decode cX3_readRule 117 = .ok (.aload_n 1, 1) := by decide +kernel
theorem dX3_readRule_118 : decode cX3_readRule 118 = .ok (.invokevirtual 46, 3) := by decide +kernel
theorem dX3_readRule_121 : decode cX3_readRule 121 = .ok (.aload_n 0, 1) := by decide +kernel
theorem dX3_readRule_122 : decode cX3_readRule 122 = .ok (.dup, 1) := by decide +kernel
theorem dX3_readRule_123 : decode cX3_readRule 123 = .ok (.getfield 24, 3) := by decide +kernel
theorem dX3_readRule_126 : decode cX3_readRule 126 = .ok (.iconst 1, 1) := by decide +kernel
theorem dX3_readRule_127 : decode cX3_readRule 127 = .ok (.iadd, 1) := by decide +kernel
theorem dX3_readRule_128 : decode cX3_readRule 128 = .ok (.putfield 24, 3) := by decide +kernel
theorem dX3_readRule_131 : decode cX3_readRule 131 = .ok (.iconst 1, 1) := by decide +kernel
theorem dX3_readRule_132 : decode cX3_readRule 132 = .ok (.ireturn, 1) := by decide +kernel
theorem dX3_readGood_0 : decode cX3_readGood 0 = .ok (.aload_n 1, 1) := by decide +kernel
theorem dX3_readGood_1 : decode cX3_readGood 1 = .ok (.invokevirtual 46, 3) := by decide +kernel
theorem dX3_readGood_4 : decode cX3_readGood 4 = .ok (.aload_n 1, 1) := by decide +kernel
theorem dX3_readGood_5 : decode cX3_readGood 5 = .ok (.invokevirtual 62, 3) := by decide +kernel
theorem dX3_readGood_8 : decode cX3_readGood 8 = .ok (.ifCond .ne 5, 3) := by decide +kernel
theorem dX3_readGood_11 : decode cX3_readGood 11 = .ok (.iconst 0, 1) := by decide +kernel
theorem dX3_readGood_12 : decode cX3_readGood 12 = .ok (.ireturn, 1) := by decide +kernel
theorem dX3_readGood_13 : decode cX3_readGood 13 = .ok (.iconst 0, 1) := by decide +kernel
theorem dX3_readGood_14 : decode cX3_readGood 14 = .ok (.istore_n 2, 1) := by decide +kernel
theorem dX3_readGood_15 : decode cX3_readGood 15 = .ok (.iload_n 2, 1) := by decide +kernel
theorem dX3_readGood_16 : decode cX3_readGood 16 = .ok (.sipush 300, 3) := by decide +kernel
theorem dX3_readGood_19 : decode cX3_readGood 19 = .ok (.if_icmp .ge 35, 3) := by decide +kernel
theorem dX3_readGood_22 : decode cX3_readGood 22 = .ok (.aload_n 1, 1) := by decide +kernel
theorem dX3_readGood_23 : decode cX3_readGood 23 = .ok (.invokevirtual 62, 3) := by decide +kernel
theorem dX3_readGood_26 : decode cX3_readGood 26 = .ok (.ifCond .eq 28, 3) := by decide +kernel
theorem dX3_readGood_29 : decode cX3_readGood 29 = .ok (.aload_n 0, 1) := by decide +kernel
theorem dX3_readGood_30 : decode cX3_readGood 30 = .ok (.dup, 1) := by decide +kernel
theorem dX3_readGood_31 : decode cX3_readGood 31 = .ok (.getfield 28, 3) := by decide +kernel
theorem dX3_readGood_34 : decode cX3_readGood 34 = .ok (.iconst 1, 1) := by decide +kernel
theorem dX3_readGood_35 : decode cX3_readGood 35 = .ok (.aload_n 1, 1) := by decide +kernel
theorem dX3_readGood_36 : decode cX3_readGood 36 = .ok (.getfield 55, 3) := by decide +kernel
theorem dX3_readGood_39 : decode cX3_readGood 39 = .ok (.ishl, 1) := by decide +kernel
theorem dX3_readGood_40 : decode cX3_readGood 40 = .ok (.ior, 1) := by decide +kernel
theorem dX3_readGood_41 : decode cX3_readGood 41 = .ok (.putfield 28, 3) := by decide +kernel
theorem dX3_readGood_44 : decode cX3_readGood 44 = .ok (.aload_n 1, 1) := by decide +kernel
theorem dX3_readGood_45 : decode cX3_readGood 45 = .ok (.invokevirtual 46, 3) := by decide +kernel
theorem dX3_readGood_48 : decode cX3_readGood 48 = .ok (.iinc 2 1, 3) := by decide +kernel
theorem dX3_readGood_51 : decode cX3_readGood 51 = .ok (.goto (-36), 3) := by decide +kernel
theorem dX3_readGood_54 : decode cX3_readGood 54 = .ok (.iconst 1, 1) := by decide +kernel
theorem dX3_readGood_55 : decode cX3_readGood 55 = .ok (.ireturn, 1) := by decide +kernel
theorem dX3_copyFrom_0 : decode cX3_copyFrom 0 = .ok (.aload_n 0, 1) := by decide +kernel
theorem dX3_copyFrom_1 : decode cX3_copyFrom 1 = .ok (.aload_n 1, 1) := by decide +kernel
theorem dX3_copyFrom_2 : decode cX3_copyFrom 2 = .ok (.getfield 24, 3) := by decide +kernel
theorem dX3_copyFrom_5 : decode cX3_copyFrom 5 = .ok (.putfield 24, 3) := by decide +kernel
theorem dX3_copyFrom_8 : decode cX3_copyFrom 8 = .ok (.aload_n 0, 1) := by decide +kernel
theorem dX3_copyFrom_9 : decode cX3_copyFrom 9 = .ok (.aload_n 1, 1) := by decide +kernel
theorem dX3_copyFrom_10 : decode cX3_copyFrom 10 = .ok (.getfield 28, 3) := by decide +kernel
theorem dX3_copyFrom_13 : decode cX3_copyFrom 13 = .ok (.putfield 28, 3) := by decide +kernel
theorem dX3_copyFrom_16 : decode cX3_copyFrom 16 = .ok (.iconst 0, 1) := by decide +kernel
theorem dX3_copyFrom_17 : decode cX3_copyFrom 17 = .ok (.istore_n 2, 1) := by decide +kernel
theorem dX3_copyFrom_18 : decode cX3_copyFrom 18 = .ok (.iload_n 2, 1) := by decide +kernel
theorem dX3_copyFrom_19 : decode cX3_copyFrom 19 = .ok (.bipush 16, 2) := by decide +kernel
theorem dX3_copyFrom_21 : decode cX3_copyFrom 21 = .ok (.if_icmp .ge 57, 3) := by decide +kernel
theorem dX3_copyFrom_24 : decode cX3_copyFrom 24 = .ok (.aload_n 0, 1) := by decide +kernel
theorem dX3_copyFrom_25 : decode cX3_copyFrom 25 = .ok (.getfield 9, 3) := by decide +kernel
theorem dX3_copyFrom_28 : decode cX3_copyFrom 28 = .ok (.iload_n 2, 1) := by decide +kernel
theorem dX3_copyFrom_29 : decode cX3_copyFrom 29 = .ok (.aload_n 1, 1) := by decide +kernel
theorem dX3_copyFrom_30 : decode cX3_copyFrom 30 = .ok (.getfield 9, 3) := by decide +kernel
theorem dX3_copyFrom_33 : decode cX3_copyFrom 33 = .ok (.iload_n 2, 1) := by decide +kernel
theorem dX3_copyFrom_34 : decode cX3_copyFrom 34 = .ok (.iaload, 1) := by decide +kernel
theorem dX3_copyFrom_35 : decode cX3_copyFrom 35 = .ok (.iastore, 1) := by decide +kernel
theorem dX3_copyFrom_36 : decode cX3_copyFrom 36 = .ok (.aload_n 0, 1) := by decide +kernel
theorem dX3_copyFrom_37 : decode cX3_copyFrom 37 = .ok (.getfield 15, 3) := by decide +kernel
theorem dX3_copyFrom_40 : decode cX3_copyFrom 40 = .ok (.iload_n 2, 1) := by decide +kernel
theorem dX3_copyFrom_41 : decode cX3_copyFrom 41 = .ok (.aload_n 1, 1) := by decide +kernel
theorem dX3_copyFrom_42 : decode cX3_copyFrom 42 = .ok (.getfield 15, 3) := by decide +kernel
theorem dX3_copyFrom_45 : decode cX3_copyFrom 45 = .ok (.iload_n 2, 1) := by decide +kernel
theorem dX3_copyFrom_46 : decode cX3_copyFrom 46 = .ok (.iaload, 1) := by decide +kernel
theorem dX3_copyFrom_47 : decode cX3_copyFrom 47 = .ok (.iastore, 1) := by decide +kernel
theorem dX3_copyFrom_48 : decode cX3_copyFrom 48 = .ok (.aload_n 0, 1) := by decide +kernel
theorem dX3_copyFrom_49 : decode cX3_copyFrom 49 = .ok (.getfield 18, 3) := by decide +kernel
theorem dX3_copyFrom_52 : decode cX3_copyFrom 52 = .ok (.iload_n 2, 1) := by decide +kernel
theorem dX3_copyFrom_53 : decode cX3_copyFrom 53 = .ok (.aload_n 1, 1) := by decide +kernel
theorem dX3_copyFrom_54 : decode cX3_copyFrom 54 = .ok (.getfield 18, 3) := by decide +kernel
theorem dX3_copyFrom_57 : decode cX3_copyFrom 57 = .ok (.iload_n 2, 1) := by decide +kernel
theorem dX3_copyFrom_58 : decode cX3_copyFrom 58 = .ok (.iaload, 1) := by decide +kernel
theorem dX3_copyFrom_59 : decode cX3_copyFrom 59 = .ok (.iastore, 1) := by decide +kernel
theorem dX3_copyFrom_60 : decode cX3_copyFrom 60 = .ok (.aload_n 0, 1) := by decide +kernel
theorem dX3_copyFrom_61 : decode cX3_copyFrom 61 = .ok (.getfield 21, 3) := by decide +kernel
theorem dX3_copyFrom_64 : decode cX3_copyFrom 64 = .ok (.iload_n 2, 1) := by decide +kernel
theorem dX3_copyFrom_65 : decode cX3_copyFrom 65 = .ok (.aload_n 1, 1) := by decide +kernel
theorem dX3_copyFrom_66 : decode cX3_copyFrom 66 = .ok (.getfield 21, 3) := by decide +kernel
theorem dX3_copyFrom_69 : decode cX3_copyFrom 69 = .ok (.iload_n 2, 1) := by decide +kernel
theorem dX3_copyFrom_70 : decode cX3_copyFrom 70 = .ok (.iaload, 1) := by decide +kernel
theorem dX3_copyFrom_71 : decode cX3_copyFrom 71 = .ok (.iastore, 1) := by decide +kernel
theorem dX3_copyFrom_72 : decode cX3_copyFrom 72 = .ok (.iinc 2 1, 3) := by decide +kernel
theorem dX3_copyFrom_75 : decode cX3_copyFrom 75 = .ok (.goto (-57), 3) := by decide +kernel
theorem dX3_copyFrom_78 : decode cX3_copyFrom 78 = .ok (.return_, 1) := by decide +kernel
theorem dX3_fits_0 : decode cX3_fits 0 = .ok (.aload_n 0, 1) := by decide +kernel
theorem dX3_fits_1 : decode cX3_fits 1 = .ok (.getfield 9, 3) := by decide +kernel
theorem dX3_fits_4 : decode cX3_fits 4 = .ok (.iload_n 1, 1) := by decide +kernel
theorem dX3_fits_5 : decode cX3_fits 5 = .ok (.iaload, 1) := by decide +kernel
theorem dX3_fits_6 : decode cX3_fits 6 = .ok (.invokestatic 58, 3) := by decide +kernel
theorem dX3_fits_9 : decode cX3_fits 9 = .ok (.istore 4, 2) := by decide +kernel
theorem dX3_fits_11 : decode cX3_fits 11 = .ok (.iload 4, 2) := by decide +kernel
theorem dX3_fits_13 : decode cX3_fits 13 = .ok (.iconst 1, 1) := by decide +kernel
theorem dX3_fits_14 : decode cX3_fits 14 = .ok (.if_icmp .lt 17, 3) := by decide +kernel
theorem dX3_fits_17 : decode cX3_fits 17 = .ok (.iload_n 2, 1) := by decide +kernel
theorem dX3_fits_18 : decode cX3_fits 18 = .ok (.aload_n 0, 1) := by decide +kernel
theorem dX3_fits_19 : decode cX3_fits 19 = .ok (.getfield 15, 3) := by decide +kernel
theorem dX3_fits_22 : decode cX3_fits 22 = .ok (.iload_n 1, 1) := by decide +kernel
theorem dX3_fits_23 : decode cX3_fits 23 = .ok (.iaload, 1) := by decide +kernel
theorem dX3_fits_24 : decode cX3_fits 24 = .ok (.invokestatic 66, 3) := by decide +kernel
theorem dX3_fits_27 : decode cX3_fits 27 = .ok (.iconst 1, 1) := by decide +kernel
theorem dX3_fits_28 : decode cX3_fits 28 = .ok (.if_icmp .ne 27, 3) := by decide +kernel
theorem dX3_fits_31 : decode cX3_fits 31 = .ok (.iload 4, 2) := by decide +kernel
theorem dX3_fits_33 : decode cX3_fits 33 = .ok (.iconst 2, 1) := by decide +kernel
theorem dX3_fits_34 : decode cX3_fits 34 = .ok (.if_icmp .lt 17, 3) := by decide +kernel
theorem dX3_fits_37 : decode cX3_fits 37 = .ok (.iload_n 3, 1) := by decide +kernel
theorem dX3_fits_38 : decode cX3_fits 38 = .ok (.aload_n 0, 1) := by decide +kernel
theorem dX3_fits_39 : decode cX3_fits 39 = .ok (.getfield 18, 3) := by decide +kernel
theorem dX3_fits_42 : decode cX3_fits 42 = .ok (.iload_n 1, 1) := by decide +kernel
theorem dX3_fits_43 : decode cX3_fits 43 = .ok (.iaload, 1) := by decide +kernel
theorem dX3_fits_44 : decode cX3_fits 44 = .ok (.invokestatic 66, 3) := by decide +kernel
theorem dX3_fits_47 : decode cX3_fits 47 = .ok (.iconst 1, 1) := by decide +kernel
theorem dX3_fits_48 : decode cX3_fits 48 = .ok (.if_icmp .ne 7, 3) := by decide +kernel
theorem dX3_fits_51 : decode cX3_fits 51 = .ok (.iconst 1, 1) := by decide +kernel
theorem dX3_fits_52 : decode cX3_fits 52 = .ok (.goto 4, 3) := by decide +kernel
theorem dX3_fits_55 : decode cX3_fits 55 = .ok (.iconst 0, 1) := by decide +kernel
theorem dX3_fits_56 : decode cX3_fits 56 = .ok (.ireturn, 1) := by decide +kernel
theorem dX3_outcomes_0 : decode cX3_outcomes 0 = .ok (.iconst 0, 1) := by decide +kernel
theorem dX3_outcomes_1 : decode cX3_outcomes 1 = .ok (.istore 5, 2) := by decide +kernel
theorem dX3_outcomes_3 : decode cX3_outcomes 3 = .ok (.iconst 0, 1) := by decide +kernel
theorem dX3_outcomes_4 : decode cX3_outcomes 4 = .ok (.istore 6, 2) := by decide +kernel
theorem dX3_outcomes_6 : decode cX3_outcomes 6 = .ok (.iload 6, 2) := by decide +kernel
theorem dX3_outcomes_8 : decode cX3_outcomes 8 = .ok (.aload_n 0, 1) := by decide +kernel
theorem dX3_outcomes_9 : decode cX3_outcomes 9 = .ok (.getfield 24, 3) := by decide +kernel
theorem dX3_outcomes_12 : decode cX3_outcomes 12 = .ok (.if_icmp .ge 56, 3) := by decide +kernel
theorem dX3_outcomes_15 : decode cX3_outcomes 15 = .ok (.iload_n 2, 1) := by decide +kernel
theorem dX3_outcomes_16 : decode cX3_outcomes 16 = .ok (.iload 6, 2) := by decide +kernel
theorem dX3_outcomes_18 : decode cX3_outcomes 18 = .ok (.invokestatic 66, 3) := by decide +kernel
theorem dX3_outcomes_21 : decode cX3_outcomes 21 = .ok (.iconst 1, 1) := by decide +kernel
theorem dX3_outcomes_22 : decode cX3_outcomes 22 = .ok (.if_icmp .ne 40, 3) := by decide +kernel
theorem dX3_outcomes_25 : decode cX3_outcomes 25 = .ok (.aload_n 0, 1) := by decide +kernel
theorem dX3_outcomes_26 : decode cX3_outcomes 26 = .ok (.getfield 9, 3) := by decide +kernel
theorem dX3_outcomes_29 : decode cX3_outcomes 29 = .ok (.iload 6, 2) := by decide +kernel
theorem dX3_outcomes_31 : decode cX3_outcomes 31 = .ok (.iaload, 1) := by decide +kernel
theorem dX3_outcomes_32 : decode cX3_outcomes 32 = .ok (.iload_n 1, 1) := by decide +kernel
theorem dX3_outcomes_33 : decode cX3_outcomes 33 = .ok (.if_icmp .ne 29, 3) := by decide +kernel
theorem dX3_outcomes_36 : decode cX3_outcomes 36 = .ok (.aload_n 0, 1) := by decide +kernel
theorem dX3_outcomes_37 : decode cX3_outcomes 37 = .ok (.iload 6, 2) := by decide +kernel
theorem dX3_outcomes_39 : decode cX3_outcomes 39 = .ok (.iload_n 3, 1) := by decide +kernel
theorem dX3_outcomes_40 : decode cX3_outcomes 40 = .ok (.iload 4, 2) := by decide +kernel
theorem dX3_outcomes_42 : decode cX3_outcomes 42 = .ok (.invokevirtual 70, 3) := by decide +kernel
theorem dX3_outcomes_45 : decode cX3_outcomes 45 = .ok (.ifCond .eq 17, 3) := by decide +kernel
theorem dX3_outcomes_48 : decode cX3_outcomes 48 = .ok (.iload 5, 2) := by decide +kernel
theorem dX3_outcomes_50 : decode cX3_outcomes 50 = .ok (.iconst 1, 1) := by decide +kernel
theorem dX3_outcomes_51 : decode cX3_outcomes 51 = .ok (.aload_n 0, 1) := by decide +kernel
theorem dX3_outcomes_52 : decode cX3_outcomes 52 = .ok (.getfield 21, 3) := by decide +kernel
theorem dX3_outcomes_55 : decode cX3_outcomes 55 = .ok (.iload 6, 2) := by decide +kernel
theorem dX3_outcomes_57 : decode cX3_outcomes 57 = .ok (.iaload, 1) := by decide +kernel
theorem dX3_outcomes_58 : decode cX3_outcomes 58 = .ok (.ishl, 1) := by decide +kernel
theorem dX3_outcomes_59 : decode cX3_outcomes 59 = .ok (.ior, 1) := by decide +kernel
theorem dX3_outcomes_60 : decode cX3_outcomes 60 = .ok (.istore 5, 2) := by decide +kernel
theorem dX3_outcomes_62 : decode cX3_outcomes 62 = .ok (.iinc 6 1, 3) := by decide +kernel
theorem dX3_outcomes_65 : decode cX3_outcomes 65 = .ok (.goto (-59), 3) := by decide +kernel
theorem dX3_outcomes_68 : decode cX3_outcomes 68 = .ok (.iload 5, 2) := by decide +kernel
theorem dX3_outcomes_70 : decode cX3_outcomes 70 = .ok (.ireturn, 1) := by decide +kernel
theorem dX3_reachedStates_0 : decode cX3_reachedStates 0 = .ok (.iconst 0, 1) := by decide +kernel
theorem dX3_reachedStates_1 : decode cX3_reachedStates 1 = .ok (.istore_n 2, 1) := by decide +kernel
theorem dX3_reachedStates_2 : decode cX3_reachedStates 2 = .ok (.iconst 0, 1) := by decide +kernel
theorem dX3_reachedStates_3 : decode cX3_reachedStates 3 = .ok (.istore_n 3, 1) := by decide +kernel
theorem dX3_reachedStates_4 : decode cX3_reachedStates 4 = .ok (.iload_n 3, 1) := by decide +kernel
theorem dX3_reachedStates_5 : decode cX3_reachedStates 5 = .ok (.bipush 6, 2) := by decide +kernel
theorem dX3_reachedStates_7 : decode cX3_reachedStates 7 = .ok (.if_icmp .ge 60, 3) := by decide +kernel
theorem dX3_reachedStates_10 : decode cX3_reachedStates 10 = .ok (.iconst 0, 1) := by decide +kernel
theorem dX3_reachedStates_11 : decode cX3_reachedStates 11 = .ok (.istore 4, 2) := by decide +kernel
theorem dX3_reachedStates_13 : decode cX3_reachedStates 13 = .ok (.iload 4, 2) := by decide +kernel
theorem dX3_reachedStates_15 : decode cX3_reachedStates 15 = .ok (.aload_n 0, 1) := by decide +kernel
theorem dX3_reachedStates_16 : decode cX3_reachedStates 16 = .ok (.getfield 24, 3) := by decide +kernel
theorem dX3_reachedStates_19 : decode cX3_reachedStates 19 = .ok (.if_icmp .ge 42, 3) := by decide +kernel
theorem dX3_reachedStates_22 : decode cX3_reachedStates 22 = .ok (.iload_n 1, 1) := by decide +kernel
theorem dX3_reachedStates_23 : decode cX3_reachedStates 23 = .ok (.iload 4, 2) := by decide +kernel
theorem dX3_reachedStates_25 : decode cX3_reachedStates 25 = .ok (.invokestatic 66, 3) := by decide +kernel
theorem dX3_reachedStates_28 : decode cX3_reachedStates 28 = .ok (.iconst 1, 1) := by decide +kernel
theorem dX3_reachedStates_29 : decode cX3_reachedStates 29 = .ok (.if_icmp .ne 26, 3) := by decide +kernel
theorem dX3_reachedStates_32 : decode cX3_reachedStates 32 = .ok (.aload_n 0, 1) := by decide +kernel
theorem dX3_reachedStates_33 : decode cX3_reachedStates 33 = .ok (.iload 4, 2) := by decide +kernel
theorem dX3_reachedStates_35 : decode cX3_reachedStates 35 = .ok (.iload_n 2, 1) := by decide +kernel
theorem dX3_reachedStates_36 : decode cX3_reachedStates 36 = .ok (.iload_n 2, 1) := by decide +kernel
theorem dX3_reachedStates_37 : decode cX3_reachedStates 37 = .ok (.invokevirtual 70, 3) := by decide +kernel
theorem dX3_reachedStates_40 : decode cX3_reachedStates 40 = .ok (.ifCond .eq 15, 3) := by decide +kernel
theorem dX3_reachedStates_43 : decode cX3_reachedStates 43 = .ok (.iload_n 2, 1) := by decide +kernel
theorem dX3_reachedStates_44 : decode cX3_reachedStates 44 = .ok (.iconst 1, 1) := by decide +kernel
theorem dX3_reachedStates_45 : decode cX3_reachedStates 45 = .ok (.aload_n 0, 1) := by decide +kernel
theorem dX3_reachedStates_46 : decode cX3_reachedStates 46 = .ok (.getfield 21, 3) := by decide +kernel
theorem dX3_reachedStates_49 : decode cX3_reachedStates 49 = .ok (.iload 4, 2) := by decide +kernel
theorem dX3_reachedStates_51 : decode cX3_reachedStates 51 = .ok (.iaload, 1) := by decide +kernel
theorem dX3_reachedStates_52 : decode cX3_reachedStates 52 = .ok (.ishl, 1) := by decide +kernel
theorem dX3_reachedStates_53 : decode cX3_reachedStates 53 = .ok (.ior, 1) := by decide +kernel
theorem dX3_reachedStates_54 : decode cX3_reachedStates 54 = .ok (.istore_n 2, 1) := by decide +kernel
theorem dX3_reachedStates_55 : decode cX3_reachedStates 55 = .ok (.iinc 4 1, 3) := by decide +kernel
theorem dX3_reachedStates_58 : decode cX3_reachedStates 58 = .ok (.goto (-45), 3) := by decide +kernel
theorem dX3_reachedStates_61 : decode cX3_reachedStates 61 = .ok (.iinc 3 1, 3) := by decide +kernel
theorem dX3_reachedStates_64 : decode cX3_reachedStates 64 = .ok (.goto (-60), 3) := by decide +kernel
theorem dX3_reachedStates_67 : decode cX3_reachedStates 67 = .ok (.iload_n 2, 1) := by decide +kernel
theorem dX3_reachedStates_68 : decode cX3_reachedStates 68 = .ok (.ireturn, 1) := by decide +kernel
theorem dX3_usefulStates_0 : decode cX3_usefulStates 0 = .ok (.aload_n 0, 1) := by decide +kernel
theorem dX3_usefulStates_1 : decode cX3_usefulStates 1 = .ok (.iload_n 1, 1) := by decide +kernel
theorem dX3_usefulStates_2 : decode cX3_usefulStates 2 = .ok (.invokevirtual 74, 3) := by decide +kernel
theorem dX3_usefulStates_5 : decode cX3_usefulStates 5 = .ok (.istore_n 3, 1) := by decide +kernel
theorem dX3_usefulStates_6 : decode cX3_usefulStates 6 = .ok (.iload_n 3, 1) := by decide +kernel
theorem dX3_usefulStates_7 : decode cX3_usefulStates 7 = .ok (.iload_n 2, 1) := by decide +kernel
theorem dX3_usefulStates_8 : decode cX3_usefulStates 8 = .ok (.iand, 1) := by decide +kernel
theorem dX3_usefulStates_9 : decode cX3_usefulStates 9 = .ok (.istore 4, 2) := by decide +kernel
theorem dX3_usefulStates_11 : decode cX3_usefulStates 11 = .ok (.iconst 0, 1) := by decide +kernel
theorem dX3_usefulStates_12 : decode cX3_usefulStates 12 = .ok (.istore 5, 2) := by decide +kernel
theorem dX3_usefulStates_14 : decode cX3_usefulStates 14 = .ok (.iload 5, 2) := by decide +kernel
theorem dX3_usefulStates_16 : decode cX3_usefulStates 16 = .ok (.bipush 6, 2) := by decide +kernel
theorem dX3_usefulStates_18 : decode cX3_usefulStates 18 = .ok (.if_icmp .ge 75, 3) := by decide +kernel
theorem dX3_usefulStates_21 : decode cX3_usefulStates 21 = .ok (.iconst 0, 1) := by decide +kernel
theorem dX3_usefulStates_22 : decode cX3_usefulStates 22 = .ok (.istore 6, 2) := by decide +kernel
theorem dX3_usefulStates_24 : decode cX3_usefulStates 24 = .ok (.iload 6, 2) := by decide +kernel
theorem dX3_usefulStates_26 : decode cX3_usefulStates 26 = .ok (.aload_n 0, 1) := by decide +kernel
theorem dX3_usefulStates_27 : decode cX3_usefulStates 27 = .ok (.getfield 24, 3) := by decide +kernel
theorem dX3_usefulStates_30 : decode cX3_usefulStates 30 = .ok (.if_icmp .ge 57, 3) := by decide +kernel
theorem dX3_usefulStates_33 : decode cX3_usefulStates 33 = .ok (.iload_n 1, 1) := by decide +kernel
theorem dX3_usefulStates_34 : decode cX3_usefulStates 34 = .ok (.iload 6, 2) := by decide +kernel
theorem dX3_usefulStates_36 : decode cX3_usefulStates 36 = .ok (.invokestatic 66, 3) := by decide +kernel
theorem dX3_usefulStates_39 : decode cX3_usefulStates 39 = .ok (.iconst 1, 1) := by decide +kernel
theorem dX3_usefulStates_40 : decode cX3_usefulStates 40 = .ok (.if_icmp .ne 41, 3) := by decide +kernel
theorem dX3_usefulStates_43 : decode cX3_usefulStates 43 = .ok (.iload 4, 2) := by decide +kernel
theorem dX3_usefulStates_45 : decode cX3_usefulStates 45 = .ok (.aload_n 0, 1) := by decide +kernel
theorem dX3_usefulStates_46 : decode cX3_usefulStates 46 = .ok (.getfield 21, 3) := by decide +kernel
theorem dX3_usefulStates_49 : decode cX3_usefulStates 49 = .ok (.iload 6, 2) := by decide +kernel
theorem dX3_usefulStates_51 : decode cX3_usefulStates 51 = .ok (.iaload, 1) := by decide +kernel
theorem dX3_usefulStates_52 : decode cX3_usefulStates 52 = .ok (.invokestatic 66, 3) := by decide +kernel
theorem dX3_usefulStates_55 : decode cX3_usefulStates 55 = .ok (.iconst 1, 1) := by decide +kernel
theorem dX3_usefulStates_56 : decode cX3_usefulStates 56 = .ok (.if_icmp .ne 25, 3) := by decide +kernel
theorem dX3_usefulStates_59 : decode cX3_usefulStates 59 = .ok (.aload_n 0, 1) := by decide +kernel
theorem dX3_usefulStates_60 : decode cX3_usefulStates 60 = .ok (.iload 6, 2) := by decide +kernel
theorem dX3_usefulStates_62 : decode cX3_usefulStates 62 = .ok (.iload_n 3, 1) := by decide +kernel
theorem dX3_usefulStates_63 : decode cX3_usefulStates 63 = .ok (.iload_n 3, 1) := by decide +kernel
theorem dX3_usefulStates_64 : decode cX3_usefulStates 64 = .ok (.invokevirtual 70, 3) := by decide +kernel
theorem dX3_usefulStates_67 : decode cX3_usefulStates 67 = .ok (.ifCond .eq 14, 3) := by decide +kernel
theorem dX3_usefulStates_70 : decode cX3_usefulStates 70 = .ok (.iload 4, 2) := by decide +kernel
theorem dX3_usefulStates_72 : decode cX3_usefulStates 72 = .ok (.aload_n 0, 1) := by decide +kernel
theorem dX3_usefulStates_73 : decode cX3_usefulStates 73 = .ok (.iload 6, 2) := by decide +kernel
theorem dX3_usefulStates_75 : decode cX3_usefulStates 75 = .ok (.invokevirtual 77, 3) := by decide +kernel
theorem dX3_usefulStates_78 : decode cX3_usefulStates 78 = .ok (.ior, 1) := by decide +kernel
theorem dX3_usefulStates_79 : decode cX3_usefulStates 79 = .ok (.istore 4, 2) := by decide +kernel
theorem dX3_usefulStates_81 : decode cX3_usefulStates 81 = .ok (.iinc 6 1, 3) := by decide +kernel
theorem dX3_usefulStates_84 : decode cX3_usefulStates 84 = .ok (.goto (-60), 3) := by decide +kernel
theorem dX3_usefulStates_87 : decode cX3_usefulStates 87 = .ok (.iinc 5 1, 3) := by decide +kernel
theorem dX3_usefulStates_90 : decode cX3_usefulStates 90 = .ok (.goto (-76), 3) := by decide +kernel
theorem dX3_usefulStates_93 : decode cX3_usefulStates 93 = .ok (.iload 4, 2) := by decide +kernel
theorem dX3_usefulStates_95 : decode cX3_usefulStates 95 = .ok (.ireturn, 1) := by decide +kernel
theorem dX3_armStates_0 : decode cX3_armStates 0 = .ok (.aload_n 0, 1) := by decide +kernel
theorem dX3_armStates_1 : decode cX3_armStates 1 = .ok (.getfield 9, 3) := by decide +kernel
theorem dX3_armStates_4 : decode cX3_armStates 4 = .ok (.iload_n 1, 1) := by decide +kernel
theorem dX3_armStates_5 : decode cX3_armStates 5 = .ok (.iaload, 1) := by decide +kernel
theorem dX3_armStates_6 : decode cX3_armStates 6 = .ok (.invokestatic 58, 3) := by decide +kernel
theorem dX3_armStates_9 : decode cX3_armStates 9 = .ok (.istore_n 2, 1) := by decide +kernel
theorem dX3_armStates_10 : decode cX3_armStates 10 = .ok (.iload_n 2, 1) := by decide +kernel
theorem dX3_armStates_11 : decode cX3_armStates 11 = .ok (.ifCond .le 14, 3) := by decide +kernel
theorem dX3_armStates_14 : decode cX3_armStates 14 = .ok (.iconst 1, 1) := by decide +kernel
theorem dX3_armStates_15 : decode cX3_armStates 15 = .ok (.aload_n 0, 1) := by decide +kernel
theorem dX3_armStates_16 : decode cX3_armStates 16 = .ok (.getfield 15, 3) := by decide +kernel
theorem dX3_armStates_19 : decode cX3_armStates 19 = .ok (.iload_n 1, 1) := by decide +kernel
theorem dX3_armStates_20 : decode cX3_armStates 20 = .ok (.iaload, 1) := by decide +kernel
theorem dX3_armStates_21 : decode cX3_armStates 21 = .ok (.ishl, 1) := by decide +kernel
theorem dX3_armStates_22 : decode cX3_armStates 22 = .ok (.goto 4, 3) := by decide +kernel
theorem dX3_armStates_25 : decode cX3_armStates 25 = .ok (.iconst 0, 1) := by decide +kernel
theorem dX3_armStates_26 : decode cX3_armStates 26 = .ok (.istore_n 3, 1) := by decide +kernel
theorem dX3_armStates_27 : decode cX3_armStates 27 = .ok (.iload_n 2, 1) := by decide +kernel
theorem dX3_armStates_28 : decode cX3_armStates 28 = .ok (.iconst 1, 1) := by decide +kernel
theorem dX3_armStates_29 : decode cX3_armStates 29 = .ok (.if_icmp .le 16, 3) := by decide +kernel
theorem dX3_armStates_32 : decode cX3_armStates 32 = .ok (.iload_n 3, 1) := by decide +kernel
theorem dX3_armStates_33 : decode cX3_armStates 33 = .ok (.iconst 1, 1) := by decide +kernel
theorem dX3_armStates_34 : decode cX3_armStates 34 = .ok (.aload_n 0, 1) := by decide +kernel
theorem dX3_armStates_35 : decode cX3_armStates 35 = .ok (.getfield 18, 3) := by decide +kernel
theorem dX3_armStates_38 : decode cX3_armStates 38 = .ok (.iload_n 1, 1) := by decide +kernel
theorem dX3_armStates_39 : decode cX3_armStates 39 = .ok (.iaload, 1) := by decide +kernel
theorem dX3_armStates_40 : decode cX3_armStates 40 = .ok (.ishl, 1) := by decide +kernel
theorem dX3_armStates_41 : decode cX3_armStates 41 = .ok (.ior, 1) := by decide +kernel
theorem dX3_armStates_42 : decode cX3_armStates 42 = .ok (.goto 4, 3) := by decide +kernel
theorem dX3_armStates_45 : decode cX3_armStates 45 = .ok (.iload_n 3, 1) := by decide +kernel
theorem dX3_armStates_46 : decode cX3_armStates 46 = .ok (.ireturn, 1) := by decide +kernel
theorem dX4_init_0 : decode cX4_init 0 = .ok (.aload_n 0, 1) := by decide +kernel
theorem dX4_init_1 : decode cX4_init 1 = .ok (.invokespecial 5, 3) := by decide +kernel
theorem dX4_init_4 : decode cX4_init 4 = .ok (.aload_n 0, 1) := by decide +kernel
theorem dX4_init_5 : decode cX4_init 5 = .ok (.bipush 120, 2) := by decide +kernel
theorem dX4_init_7 : decode cX4_init 7 = .ok (.newarray .int, 2) := by decide +kernel
theorem dX4_init_9 : decode cX4_init 9 = .ok (.putfield 11, 3) := by decide +kernel
theorem dX4_init_12 : decode cX4_init 12 = .ok (.aload_n 0, 1) := by decide +kernel
theorem dX4_init_13 : decode cX4_init 13 = .ok (.bipush 120, 2) := by decide +kernel
theorem dX4_init_15 : decode cX4_init 15 = .ok (.newarray .int, 2) := by decide +kernel
theorem dX4_init_17 : decode cX4_init 17 = .ok (.putfield 15, 3) := by decide +kernel
theorem dX4_init_20 : decode cX4_init 20 = .ok (.aload_n 0, 1) := by decide +kernel
theorem dX4_init_21 : decode cX4_init 21 = .ok (.bipush 120, 2) := by decide +kernel
theorem dX4_init_23 : decode cX4_init 23 = .ok (.newarray .int, 2) := by decide +kernel
theorem dX4_init_25 : decode cX4_init 25 = .ok (.putfield 18, 3) := by decide +kernel
theorem dX4_init_28 : decode cX4_init 28 = .ok (.aload_n 0, 1) := by decide +kernel
theorem dX4_init_29 : decode cX4_init 29 = .ok (.bipush 120, 2) := by decide +kernel
theorem dX4_init_31 : decode cX4_init 31 = .ok (.newarray .int, 2) := by decide +kernel
theorem dX4_init_33 : decode cX4_init 33 = .ok (.putfield 21, 3) := by decide +kernel
theorem dX4_init_36 : decode cX4_init 36 = .ok (.aload_n 0, 1) := by decide +kernel
theorem dX4_init_37 : decode cX4_init 37 = .ok (.bipush 120, 2) := by decide +kernel
theorem dX4_init_39 : decode cX4_init 39 = .ok (.newarray .int, 2) := by decide +kernel
theorem dX4_init_41 : decode cX4_init 41 = .ok (.putfield 24, 3) := by decide +kernel
theorem dX4_init_44 : decode cX4_init 44 = .ok (.aload_n 0, 1) := by decide +kernel
theorem dX4_init_45 : decode cX4_init 45 = .ok (.bipush 120, 2) := by decide +kernel
theorem dX4_init_47 : decode cX4_init 47 = .ok (.newarray .int, 2) := by decide +kernel
theorem dX4_init_49 : decode cX4_init 49 = .ok (.putfield 27, 3) := by decide +kernel
theorem dX4_init_52 : decode cX4_init 52 = .ok (.aload_n 0, 1) := by decide +kernel
theorem dX4_init_53 : decode cX4_init 53 = .ok (.bipush 120, 2) := by decide +kernel
theorem dX4_init_55 : decode cX4_init 55 = .ok (.newarray .int, 2) := by decide +kernel
theorem dX4_init_57 : decode cX4_init 57 = .ok (.putfield 30, 3) := by decide +kernel
theorem dX4_init_60 : decode cX4_init 60 = .ok (.aload_n 0, 1) := by decide +kernel
theorem dX4_init_61 : decode cX4_init 61 = .ok (.bipush 120, 2) := by decide +kernel
theorem dX4_init_63 : decode cX4_init 63 = .ok (.newarray .boolean, 2) := by decide +kernel
theorem dX4_init_65 : decode cX4_init 65 = .ok (.putfield 33, 3) := by decide +kernel
theorem dX4_init_68 : decode cX4_init 68 = .ok (.aload_n 0, 1) := by decide +kernel
theorem dX4_init_69 : decode cX4_init 69 = .ok (.sipush 4096, 3) := by decide +kernel
theorem dX4_init_72 : decode cX4_init 72 = .ok (.newarray .short, 2) := by decide +kernel
theorem dX4_init_74 : decode cX4_init 74 = .ok (.putfield 37, 3) := by decide +kernel
theorem dX4_init_77 : decode cX4_init 77 = .ok (.aload_n 0, 1) := by decide +kernel
theorem dX4_init_78 : decode cX4_init 78 = .ok (.bipush 8, 2) := by decide +kernel
theorem dX4_init_80 : decode cX4_init 80 = .ok (.newarray .int, 2) := by decide +kernel
theorem dX4_init_82 : decode cX4_init 82 = .ok (.putfield 41, 3) := by decide +kernel
theorem dX4_init_85 : decode cX4_init 85 = .ok (.aload_n 0, 1) := by decide +kernel
theorem dX4_init_86 : decode cX4_init 86 = .ok (.bipush 120, 2) := by decide +kernel
theorem dX4_init_88 : decode cX4_init 88 = .ok (.newarray .short, 2) := by decide +kernel
theorem dX4_init_90 : decode cX4_init 90 = .ok (.putfield 44, 3) := by decide +kernel
theorem dX4_init_93 : decode cX4_init 93 = .ok (.aload_n 0, 1) := by decide +kernel
theorem dX4_init_94 : decode cX4_init 94 = .ok (.sipush 14400, 3) := by decide +kernel
theorem dX4_init_97 : decode cX4_init 97 = .ok (.newarray .short, 2) := by decide +kernel
theorem dX4_init_99 : decode cX4_init 99 = .ok (.putfield 47, 3) := by decide +kernel
theorem dX4_init_102 : decode cX4_init 102 = .ok (.aload_n 0, 1) := by decide +kernel
theorem dX4_init_103 : decode cX4_init 103 = .ok (.new 50, 3) := by decide +kernel
theorem dX4_init_106 : decode cX4_init 106 = .ok (.dup, 1) := by decide +kernel
theorem dX4_init_107 : decode cX4_init 107 = .ok (.invokespecial 52, 3) := by decide +kernel
theorem dX4_init_110 : decode cX4_init 110 = .ok (.putfield 53, 3) := by decide +kernel
theorem dX4_init_113 : decode cX4_init 113 = .ok (.aload_n 0, 1) := by decide +kernel
theorem dX4_init_114 : decode cX4_init 114 = .ok (.new 57, 3) := by decide +kernel
theorem dX4_init_117 : decode cX4_init 117 = .ok (.dup, 1) := by decide +kernel
theorem dX4_init_118 : decode cX4_init 118 = .ok (.invokespecial 59, 3) := by decide +kernel
theorem dX4_init_121 : decode cX4_init 121 = .ok (.putfield 60, 3) := by decide +kernel
theorem dX4_init_124 : decode cX4_init 124 = .ok (.aload_n 0, 1) := by decide +kernel
theorem dX4_init_125 : decode cX4_init 125 = .ok (.new 64, 3) := by decide +kernel
theorem dX4_init_128 : decode cX4_init 128 = .ok (.dup, 1) := by decide +kernel
theorem dX4_init_129 : decode cX4_init 129 = .ok (.invokespecial 66, 3) := by decide +kernel
theorem dX4_init_132 : decode cX4_init 132 = .ok (.putfield 67, 3) := by decide +kernel
theorem dX4_init_135 : decode cX4_init 135 = .ok (.aload_n 0, 1) := by decide +kernel
theorem dX4_init_136 : decode cX4_init 136 = .ok (.iconst (-1), 1) := by decide +kernel
theorem dX4_init_137 : decode cX4_init 137 = .ok (.putfield 71, 3) := by decide +kernel
theorem dX4_init_140 : decode cX4_init 140 = .ok (.aload_n 0, 1) := by decide +kernel
theorem dX4_init_141 : decode cX4_init 141 = .ok (.iconst (-1), 1) := by decide +kernel
theorem dX4_init_142 : decode cX4_init 142 = .ok (.putfield 75, 3) := by decide +kernel
theorem dX4_init_145 : decode cX4_init 145 = .ok (.return_, 1) := by decide +kernel
theorem dX4_forget_0 : decode cX4_forget 0 = .ok (.iconst 0, 1) := by decide +kernel
theorem dX4_forget_1 : decode cX4_forget 1 = .ok (.istore_n 1, 1) := by decide +kernel
theorem dX4_forget_2 : decode cX4_forget 2 = .ok (.iload_n 1, 1) := by decide +kernel
theorem dX4_forget_3 : decode cX4_forget 3 = .ok (.aload_n 0, 1) := by decide +kernel
theorem dX4_forget_4 : decode cX4_forget 4 = .ok (.getfield 78, 3) := by decide +kernel
theorem dX4_forget_7 : decode cX4_forget 7 = .ok (.if_icmp .ge 21, 3) := by decide +kernel
theorem dX4_forget_10 : decode cX4_forget 10 = .ok (.aload_n 0, 1) := by decide +kernel
theorem dX4_forget_11 : decode cX4_forget 11 = .ok (.getfield 37, 3) := by decide +kernel
theorem dX4_forget_14 : decode cX4_forget 14 = .ok (.aload_n 0, 1) := by decide +kernel
theorem dX4_forget_15 : decode cX4_forget 15 = .ok (.getfield 11, 3) := by decide +kernel
theorem dX4_forget_18 : decode cX4_forget 18 = .ok (.iload_n 1, 1) := by decide +kernel
theorem dX4_forget_19 : decode cX4_forget 19 = .ok (.iaload, 1) := by decide +kernel
theorem dX4_forget_20 : decode cX4_forget 20 = .ok (.iconst 0, 1) := by decide +kernel
theorem dX4_forget_21 : decode cX4_forget 21 = .ok (.sastore, 1) := by decide +kernel
theorem dX4_forget_22 : decode cX4_forget 22 = .ok (.iinc 1 1, 3) := by decide +kernel
theorem dX4_forget_25 : decode cX4_forget 25 = .ok (.goto (-23), 3) := by decide +kernel
theorem dX4_forget_28 : decode cX4_forget 28 = .ok (.aload_n 0, 1) := by decide +kernel
theorem dX4_forget_29 : decode cX4_forget 29 = .ok (.iconst 0, 1) := by decide +kernel
theorem dX4_forget_30 : decode cX4_forget 30 = .ok (.putfield 78, 3) := by decide +kernel
theorem dX4_forget_33 : decode cX4_forget 33 = .ok (.aload_n 0, 1) := by decide +kernel
theorem dX4_forget_34 : decode cX4_forget 34 = .ok (.iconst 0, 1) := by decide +kernel
theorem dX4_forget_35 : decode cX4_forget 35 = .ok (.putfield 81, 3) := by decide +kernel
theorem dX4_forget_38 : decode cX4_forget 38 = .ok (.aload_n 0, 1) := by decide +kernel
theorem dX4_forget_39 : decode cX4_forget 39 = .ok (.iconst (-1), 1) := by decide +kernel
theorem dX4_forget_40 : decode cX4_forget 40 = .ok (.putfield 71, 3) := by decide +kernel
theorem dX4_forget_43 : decode cX4_forget 43 = .ok (.aload_n 0, 1) := by decide +kernel
theorem dX4_forget_44 : decode cX4_forget 44 = .ok (.iconst (-1), 1) := by decide +kernel
theorem dX4_forget_45 : decode cX4_forget 45 = .ok (.putfield 75, 3) := by decide +kernel
theorem dX4_forget_48 : decode cX4_forget 48 = .ok (.return_, 1) := by decide +kernel
theorem dX4_learn_0 : decode cX4_learn 0 = .ok (.iload_n 2, 1) := by decide +kernel
theorem dX4_learn_1 : decode cX4_learn 1 = .ok (.aload_n 0, 1) := by decide +kernel
theorem dX4_learn_2 : decode cX4_learn 2 = .ok (.getfield 71, 3) := by decide +kernel
theorem dX4_learn_5 : decode cX4_learn 5 = .ok (.if_icmp .ne 12, 3) := by decide +kernel
theorem dX4_learn_8 : decode cX4_learn 8 = .ok (.iload_n 3, 1) := by decide +kernel
theorem dX4_learn_9 : decode cX4_learn 9 = .ok (.aload_n 0, 1) := by decide +kernel
theorem dX4_learn_10 : decode cX4_learn 10 = .ok (.getfield 75, 3) := by decide +kernel
theorem dX4_learn_13 : decode cX4_learn 13 = .ok (.if_icmp .ne 4, 3) := by decide +kernel
theorem dX4_learn_16 : decode cX4_learn 16 = .ok (.return_, 1) := by decide +kernel
theorem dX4_learn_17 : decode cX4_learn 17 = .ok (.aload_n 0, 1) := by decide +kernel
theorem dX4_learn_18 : decode cX4_learn 18 = .ok (.invokevirtual 85, 3) := by decide +kernel
theorem dX4_learn_21 : decode cX4_learn 21 = .ok (.aload_n 0, 1) := by decide +kernel
theorem dX4_learn_22 : decode cX4_learn 22 = .ok (.getfield 67, 3) := by decide +kernel
theorem dX4_learn_25 : decode cX4_learn 25 = .ok (.aload_n 1, 1) := by decide +kernel
theorem dX4_learn_26 : decode cX4_learn 26 = .ok (.invokevirtual 88, 3) := by decide +kernel
theorem dX4_learn_29 : decode cX4_learn 29 = .ok (.aload_n 0, 1) := by decide +kernel
theorem dX4_learn_30 : decode cX4_learn 30 = .ok (.iload_n 2, 1) := by decide +kernel
theorem dX4_learn_31 : decode cX4_learn 31 = .ok (.putfield 71, 3) := by decide +kernel
theorem dX4_learn_34 : decode cX4_learn 34 = .ok (.aload_n 0, 1) := by decide +kernel
theorem dX4_learn_35 : decode cX4_learn 35 = .ok (.iload_n 3, 1) := by decide +kernel
theorem dX4_learn_36 : decode cX4_learn 36 = .ok (.putfield 75, 3) := by decide +kernel
theorem dX4_learn_39 : decode cX4_learn 39 = .ok (.aload_n 0, 1) := by decide +kernel
theorem dX4_learn_40 : decode cX4_learn 40 = .ok (.invokevirtual 92, 3) := by decide +kernel
theorem dX4_learn_43 : decode cX4_learn 43 = .ok (.iconst 0, 1) := by decide +kernel
theorem dX4_learn_44 : decode cX4_learn 44 = .ok (.istore 4, 2) := by decide +kernel
theorem dX4_learn_46 : decode cX4_learn 46 = .ok (.iload 4, 2) := by decide +kernel
theorem dX4_learn_48 : decode cX4_learn 48 = .ok (.bipush 120, 2) := by decide +kernel
theorem dX4_learn_50 : decode cX4_learn 50 = .ok (.if_icmp .ge 151, 3) := by decide +kernel
theorem dX4_learn_53 : decode cX4_learn 53 = .ok (.aload_n 0, 1) := by decide +kernel
theorem dX4_learn_54 : decode cX4_learn 54 = .ok (.getfield 81, 3) := by decide +kernel
theorem dX4_learn_57 : decode cX4_learn 57 = .ok (.ifCond .ne 144, 3) := by decide +kernel
theorem dX4_learn_60 : decode cX4_learn 60 = .ok (.aload_n 0, 1) := by decide +kernel
theorem dX4_learn_61 : decode cX4_learn 61 = .ok (.invokevirtual 95, 3) := by decide +kernel
theorem dX4_learn_64 : decode cX4_learn 64 = .ok (.istore 5, 2) := by decide +kernel
theorem dX4_learn_66 : decode cX4_learn 66 = .ok (.iload 5, 2) := by decide +kernel
theorem dX4_learn_68 : decode cX4_learn 68 = .ok (.ifCond .ge 4, 3) := by decide +kernel
theorem dX4_learn_71 : decode cX4_learn 71 = .ok (.return_, 1) := by decide +kernel
theorem dX4_learn_72 : decode cX4_learn 72 = .ok (.aload_n 0, 1) := by decide +kernel
theorem dX4_learn_73 : decode cX4_learn 73 = .ok (.getfield 33, 3) := by decide +kernel
theorem dX4_learn_76 : decode cX4_learn 76 = .ok (.iload 5, 2) := by decide +kernel
theorem dX4_learn_78 : decode cX4_learn 78 = .ok (.iconst 1, 1) := by decide +kernel
theorem dX4_learn_79 : decode cX4_learn 79 = .ok (.bastore, 1) := by decide +kernel
theorem dX4_learn_80 : decode cX4_learn 80 = .ok (.aload_n 0, 1) := by decide +kernel
theorem dX4_learn_81 : decode cX4_learn 81 = .ok (.aload_n 0, 1) := by decide +kernel
theorem dX4_learn_82 : decode cX4_learn 82 = .ok (.getfield 41, 3) := by decide +kernel
theorem dX4_learn_85 : decode cX4_learn 85 = .ok (.iconst 4, 1) := by decide +kernel
theorem dX4_learn_86 : decode cX4_learn 86 = .ok (.iaload, 1) := by decide +kernel
theorem dX4_learn_87 : decode cX4_learn 87 = .ok (.aload_n 0, 1) := by decide +kernel
theorem dX4_learn_88 : decode cX4_learn 88 = .ok (.getfield 15, 3) := by decide +kernel
theorem dX4_learn_91 : decode cX4_learn 91 = .ok (.iload 5, 2) := by decide +kernel
theorem dX4_learn_93 : decode cX4_learn 93 = .ok (.iaload, 1) := by decide +kernel
theorem dX4_learn_94 : decode cX4_learn 94 = .ok (.iand, 1) := by decide +kernel
theorem dX4_learn_95 : decode cX4_learn 95 = .ok (.iconst 4, 1) := by decide +kernel
theorem dX4_learn_96 : decode cX4_learn 96 = .ok (.iload 5, 2) := by decide +kernel
theorem dX4_learn_98 : decode cX4_learn 98 = .ok (.iconst (-1), 1) := by decide +kernel
theorem dX4_learn_99 : decode cX4_learn 99 = .ok (.invokevirtual 99, 3) := by decide +kernel
theorem dX4_learn_102 : decode cX4_learn 102 = .ok (.istore 6, 2) := by decide +kernel
theorem dX4_learn_104 : decode cX4_learn 104 = .ok (.aload_n 0, 1) := by decide +kernel
theorem dX4_learn_105 : decode cX4_learn 105 = .ok (.aload_n 0, 1) := by decide +kernel
theorem dX4_learn_106 : decode cX4_learn 106 = .ok (.getfield 41, 3) := by decide +kernel
theorem dX4_learn_109 : decode cX4_learn 109 = .ok (.iconst 5, 1) := by decide +kernel
theorem dX4_learn_110 : decode cX4_learn 110 = .ok (.iaload, 1) := by decide +kernel
theorem dX4_learn_111 : decode cX4_learn 111 = .ok (.aload_n 0, 1) := by decide +kernel
theorem dX4_learn_112 : decode cX4_learn 112 = .ok (.getfield 15, 3) := by decide +kernel
theorem dX4_learn_115 : decode cX4_learn 115 = .ok (.iload 5, 2) := by decide +kernel
theorem dX4_learn_117 : decode cX4_learn 117 = .ok (.iaload, 1) := by decide +kernel
theorem dX4_learn_118 : decode cX4_learn 118 = .ok (.iand, 1) := by decide +kernel
theorem dX4_learn_119 : decode cX4_learn 119 = .ok (.iconst 5, 1) := by decide +kernel
theorem dX4_learn_120 : decode cX4_learn 120 = .ok (.iload 5, 2) := by decide +kernel
theorem dX4_learn_122 : decode cX4_learn 122 = .ok (.iconst (-1), 1) := by decide +kernel
theorem dX4_learn_123 : decode cX4_learn 123 = .ok (.invokevirtual 99, 3) := by decide +kernel
theorem dX4_learn_126 : decode cX4_learn 126 = .ok (.istore 7, 2) := by decide +kernel
theorem dX4_learn_128 : decode cX4_learn 128 = .ok (.aload_n 0, 1) := by decide +kernel
theorem dX4_learn_129 : decode cX4_learn 129 = .ok (.getfield 44, 3) := by decide +kernel
theorem dX4_learn_132 : decode cX4_learn 132 = .ok (.iload 5, 2) := by decide +kernel
theorem dX4_learn_134 : decode cX4_learn 134 = .ok (.iload 6, 2) := by decide +kernel
theorem dX4_learn_136 : decode cX4_learn 136 = .ok (.iload 7, 2) := by decide +kernel
theorem dX4_learn_138 : decode cX4_learn 138 = .ok (.bipush 7, 2) := by decide +kernel
theorem dX4_learn_140 : decode cX4_learn 140 = .ok (.ishl, 1) := by decide +kernel
theorem dX4_learn_141 : decode cX4_learn 141 = .ok (.ior, 1) := by decide +kernel
theorem dX4_learn_142 : decode cX4_learn 142 = .ok (.i2s, 1) := by decide +kernel
theorem dX4_learn_143 : decode cX4_learn 143 = .ok (.sastore, 1) := by decide +kernel
theorem dX4_learn_144 : decode cX4_learn 144 = .ok (.iconst 0, 1) := by decide +kernel
theorem dX4_learn_145 : decode cX4_learn 145 = .ok (.istore 8, 2) := by decide +kernel
theorem dX4_learn_147 : decode cX4_learn 147 = .ok (.iload 8, 2) := by decide +kernel
theorem dX4_learn_149 : decode cX4_learn 149 = .ok (.aload_n 0, 1) := by decide +kernel
theorem dX4_learn_150 : decode cX4_learn 150 = .ok (.getfield 78, 3) := by decide +kernel
theorem dX4_learn_153 : decode cX4_learn 153 = .ok (.if_icmp .ge 42, 3) := by decide +kernel
theorem dX4_learn_156 : decode cX4_learn 156 = .ok (.aload_n 0, 1) := by decide +kernel
theorem dX4_learn_157 : decode cX4_learn 157 = .ok (.getfield 81, 3) := by decide +kernel
theorem dX4_learn_160 : decode cX4_learn 160 = .ok (.ifCond .ne 35, 3) := by decide +kernel
theorem dX4_learn_163 : decode cX4_learn 163 = .ok (.aload_n 0, 1) := by decide +kernel
theorem dX4_learn_164 : decode cX4_learn 164 = .ok (.getfield 33, 3) := by decide +kernel
theorem dX4_learn_167 : decode cX4_learn 167 = .ok (.iload 8, 2) := by decide +kernel
theorem dX4_learn_169 : decode cX4_learn 169 = .ok (.baload, 1) := by decide +kernel
theorem dX4_learn_170 : decode cX4_learn 170 = .ok (.ifCond .eq 19, 3) := by decide +kernel
theorem dX4_learn_173 : decode cX4_learn 173 = .ok (.aload_n 0, 1) := by decide +kernel
theorem dX4_learn_174 : decode cX4_learn 174 = .ok (.iload 5, 2) := by decide +kernel
theorem dX4_learn_176 : decode cX4_learn 176 = .ok (.iload 8, 2) := by decide +kernel
theorem dX4_learn_178 : decode cX4_learn 178 = .ok (.invokevirtual 103, 3) := by decide +kernel
theorem dX4_learn_181 : decode cX4_learn 181 = .ok (.aload_n 0, 1) := by decide +kernel
theorem dX4_learn_182 : decode cX4_learn 182 = .ok (.iload 8, 2) := by decide +kernel
theorem dX4_learn_184 : decode cX4_learn 184 = .ok (.iload 5, 2) := by decide +kernel
theorem dX4_learn_186 : decode cX4_learn 186 = .ok (.invokevirtual 103, 3) := by decide +kernel
theorem dX4_learn_189 : decode cX4_learn 189 = .ok (.iinc 8 1, 3) := by decide +kernel
theorem dX4_learn_192 : decode cX4_learn 192 = .ok (.goto (-45), 3) := by decide +kernel
theorem dX4_learn_195 : decode cX4_learn 195 = .ok (.iinc 4 1, 3) := by decide +kernel
theorem dX4_learn_198 : decode cX4_learn 198 = .ok (.goto (-152), 3) := by decide +kernel
theorem dX4_learn_201 : decode cX4_learn 201 = .ok (.return_, 1) := by decide +kernel
theorem dX4_begin_0 : decode cX4_begin 0 = .ok (.aload_n 0, 1) := by decide +kernel
theorem dX4_begin_1 : decode cX4_begin 1 = .ok (.getfield 53, 3) := by decide +kernel
theorem dX4_begin_4 : decode cX4_begin 4 = .ok (.invokevirtual 107, 3) := by decide +kernel
theorem dX4_begin_7 : decode cX4_begin 7 = .ok (.iconst 0, 1) := by decide +kernel
theorem dX4_begin_8 : decode cX4_begin 8 = .ok (.istore_n 1, 1) := by decide +kernel
theorem dX4_begin_9 : decode cX4_begin 9 = .ok (.iload_n 1, 1) := by decide +kernel
theorem dX4_begin_10 : decode cX4_begin 10 = .ok (.bipush 8, 2) := by decide +kernel
theorem dX4_begin_12 : decode cX4_begin 12 = .ok (.if_icmp .ge 16, 3) := by decide +kernel
theorem dX4_begin_15 : decode cX4_begin 15 = .ok (.aload_n 0, 1) := by decide +kernel
theorem dX4_begin_16 : decode cX4_begin 16 = .ok (.getfield 41, 3) := by decide +kernel
theorem dX4_begin_19 : decode cX4_begin 19 = .ok (.iload_n 1, 1) := by decide +kernel
theorem dX4_begin_20 : decode cX4_begin 20 = .ok (.iconst 0, 1) := by decide +kernel
theorem dX4_begin_21 : decode cX4_begin 21 = .ok (.iastore, 1) := by decide +kernel
theorem dX4_begin_22 : decode cX4_begin 22 = .ok (.iinc 1 1, 3) := by decide +kernel
end
section
theorem dX4_begin_25 : decode cX4_begin 25 = .ok (.goto (-16), 3) := by decide +kernel
theorem dX4_begin_28 : decode cX4_begin 28 = .ok (.iconst 0, 1) := by decide +kernel
theorem dX4_begin_29 : decode cX4_begin 29 = .ok (.istore_n 1, 1) := by decide +kernel
theorem dX4_begin_30 : decode cX4_begin 30 = .ok (.iload_n 1, 1) := by decide +kernel
theorem dX4_begin_31 : decode cX4_begin 31 = .ok (.aload_n 0, 1) := by decide +kernel
theorem dX4_begin_32 : decode cX4_begin 32 = .ok (.getfield 67, 3) := by decide +kernel
theorem dX4_begin_35 : decode cX4_begin 35 = .ok (.getfield 108, 3) := by decide +kernel
theorem dX4_begin_38 : decode cX4_begin 38 = .ok (.if_icmp .ge 50, 3) := by decide +kernel
theorem dX4_begin_41 : decode cX4_begin 41 = .ok (.aload_n 0, 1) := by decide +kernel
theorem dX4_begin_42 : decode cX4_begin 42 = .ok (.getfield 41, 3) := by decide +kernel
theorem dX4_begin_45 : decode cX4_begin 45 = .ok (.aload_n 0, 1) := by decide +kernel
theorem dX4_begin_46 : decode cX4_begin 46 = .ok (.getfield 67, 3) := by decide +kernel
theorem dX4_begin_49 : decode cX4_begin 49 = .ok (.getfield 109, 3) := by decide +kernel
theorem dX4_begin_52 : decode cX4_begin 52 = .ok (.iload_n 1, 1) := by decide +kernel
theorem dX4_begin_53 : decode cX4_begin 53 = .ok (.iaload, 1) := by decide +kernel
theorem dX4_begin_54 : decode cX4_begin 54 = .ok (.dup2, 1) := by decide +kernel
theorem dX4_begin_55 : decode cX4_begin 55 = .ok (.iaload, 1) := by decide +kernel
theorem dX4_begin_56 : decode cX4_begin 56 = .ok (.aload_n 0, 1) := by decide +kernel
theorem dX4_begin_57 : decode cX4_begin 57 = .ok (.getfield 71, 3) := by decide +kernel
theorem dX4_begin_60 : decode cX4_begin 60 = .ok (.iload_n 1, 1) := by decide +kernel
theorem dX4_begin_61 : decode cX4_begin 61 = .ok (.invokestatic 110, 3) := by decide +kernel
theorem dX4_begin_64 : decode cX4_begin 64 = .ok (.iload_n 1, 1) := by decide +kernel
theorem dX4_begin_65 : decode cX4_begin 65 = .ok (.ishl, 1) := by decide +kernel
theorem dX4_begin_66 : decode cX4_begin 66 = .ok (.aload_n 0, 1) := by decide +kernel
theorem dX4_begin_67 : decode cX4_begin 67 = .ok (.getfield 75, 3) := by decide +kernel
theorem dX4_begin_70 : decode cX4_begin 70 = .ok (.iload_n 1, 1) := by decide +kernel
theorem dX4_begin_71 : decode cX4_begin 71 = .ok (.invokestatic 110, 3) := by decide +kernel
theorem dX4_begin_74 : decode cX4_begin 74 = .ok (.iload_n 1, 1) := by decide +kernel
theorem dX4_begin_75 : decode cX4_begin 75 = .ok (.bipush 16, 2) := by decide +kernel
theorem dX4_begin_77 : decode cX4_begin 77 = .ok (.iadd, 1) := by decide +kernel
theorem dX4_begin_78 : decode cX4_begin 78 = .ok (.ishl, 1) := by decide +kernel
theorem dX4_begin_79 : decode cX4_begin 79 = .ok (.ior, 1) := by decide +kernel
theorem dX4_begin_80 : decode cX4_begin 80 = .ok (.ior, 1) := by decide +kernel
theorem dX4_begin_81 : decode cX4_begin 81 = .ok (.iastore, 1) := by decide +kernel
theorem dX4_begin_82 : decode cX4_begin 82 = .ok (.iinc 1 1, 3) := by decide +kernel
theorem dX4_begin_85 : decode cX4_begin 85 = .ok (.goto (-55), 3) := by decide +kernel
theorem dX4_begin_88 : decode cX4_begin 88 = .ok (.iconst 0, 1) := by decide +kernel
theorem dX4_begin_89 : decode cX4_begin 89 = .ok (.istore_n 1, 1) := by decide +kernel
theorem dX4_begin_90 : decode cX4_begin 90 = .ok (.iload_n 1, 1) := by decide +kernel
theorem dX4_begin_91 : decode cX4_begin 91 = .ok (.iconst 4, 1) := by decide +kernel
theorem dX4_begin_92 : decode cX4_begin 92 = .ok (.if_icmp .ge 30, 3) := by decide +kernel
theorem dX4_begin_95 : decode cX4_begin 95 = .ok (.aload_n 0, 1) := by decide +kernel
theorem dX4_begin_96 : decode cX4_begin 96 = .ok (.getfield 53, 3) := by decide +kernel
theorem dX4_begin_99 : decode cX4_begin 99 = .ok (.iload_n 1, 1) := by decide +kernel
theorem dX4_begin_100 : decode cX4_begin 100 = .ok (.aload_n 0, 1) := by decide +kernel
theorem dX4_begin_101 : decode cX4_begin 101 = .ok (.aload_n 0, 1) := by decide +kernel
theorem dX4_begin_102 : decode cX4_begin 102 = .ok (.getfield 41, 3) := by decide +kernel
theorem dX4_begin_105 : decode cX4_begin 105 = .ok (.iload_n 1, 1) := by decide +kernel
theorem dX4_begin_106 : decode cX4_begin 106 = .ok (.iaload, 1) := by decide +kernel
theorem dX4_begin_107 : decode cX4_begin 107 = .ok (.iload_n 1, 1) := by decide +kernel
theorem dX4_begin_108 : decode cX4_begin 108 = .ok (.iconst (-1), 1) := by decide +kernel
theorem dX4_begin_109 : decode cX4_begin 109 = .ok (.iconst (-1), 1) := by decide +kernel
theorem dX4_begin_110 : decode cX4_begin 110 = .ok (.invokevirtual 99, 3) := by decide +kernel
theorem dX4_begin_113 : decode cX4_begin 113 = .ok (.invokevirtual 114, 3) := by decide +kernel
theorem dX4_begin_116 : decode cX4_begin 116 = .ok (.iinc 1 1, 3) := by decide +kernel
theorem dX4_begin_119 : decode cX4_begin 119 = .ok (.goto (-29), 3) := by decide +kernel
theorem dX4_begin_122 : decode cX4_begin 122 = .ok (.return_, 1) := by decide +kernel
theorem dX4_nearest_0 : decode cX4_nearest 0 = .ok (.iconst (-1), 1) := by decide +kernel
theorem dX4_nearest_1 : decode cX4_nearest 1 = .ok (.istore_n 1, 1) := by decide +kernel
theorem dX4_nearest_2 : decode cX4_nearest 2 = .ok (.iconst 0, 1) := by decide +kernel
theorem dX4_nearest_3 : decode cX4_nearest 3 = .ok (.istore_n 2, 1) := by decide +kernel
theorem dX4_nearest_4 : decode cX4_nearest 4 = .ok (.iload_n 2, 1) := by decide +kernel
theorem dX4_nearest_5 : decode cX4_nearest 5 = .ok (.aload_n 0, 1) := by decide +kernel
theorem dX4_nearest_6 : decode cX4_nearest 6 = .ok (.getfield 78, 3) := by decide +kernel
theorem dX4_nearest_9 : decode cX4_nearest 9 = .ok (.if_icmp .ge 39, 3) := by decide +kernel
theorem dX4_nearest_12 : decode cX4_nearest 12 = .ok (.aload_n 0, 1) := by decide +kernel
theorem dX4_nearest_13 : decode cX4_nearest 13 = .ok (.getfield 33, 3) := by decide +kernel
theorem dX4_nearest_16 : decode cX4_nearest 16 = .ok (.iload_n 2, 1) := by decide +kernel
theorem dX4_nearest_17 : decode cX4_nearest 17 = .ok (.baload, 1) := by decide +kernel
theorem dX4_nearest_18 : decode cX4_nearest 18 = .ok (.ifCond .ne 24, 3) := by decide +kernel
theorem dX4_nearest_21 : decode cX4_nearest 21 = .ok (.iload_n 1, 1) := by decide +kernel
theorem dX4_nearest_22 : decode cX4_nearest 22 = .ok (.ifCond .lt 18, 3) := by decide +kernel
theorem dX4_nearest_25 : decode cX4_nearest 25 = .ok (.aload_n 0, 1) := by decide +kernel
theorem dX4_nearest_26 : decode cX4_nearest 26 = .ok (.getfield 21, 3) := by decide +kernel
theorem dX4_nearest_29 : decode cX4_nearest 29 = .ok (.iload_n 2, 1) := by decide +kernel
theorem dX4_nearest_30 : decode cX4_nearest 30 = .ok (.iaload, 1) := by decide +kernel
theorem dX4_nearest_31 : decode cX4_nearest 31 = .ok (.aload_n 0, 1) := by decide +kernel
theorem dX4_nearest_32 : decode cX4_nearest 32 = .ok (.getfield 21, 3) := by decide +kernel
theorem dX4_nearest_35 : decode cX4_nearest 35 = .ok (.iload_n 1, 1) := by decide +kernel
theorem dX4_nearest_36 : decode cX4_nearest 36 = .ok (.iaload, 1) := by decide +kernel
theorem dX4_nearest_37 : decode cX4_nearest 37 = .ok (.if_icmp .ge 5, 3) := by decide +kernel
theorem dX4_nearest_40 : decode cX4_nearest 40 = .ok (.iload_n 2, 1) := by decide +kernel
theorem dX4_nearest_41 : decode cX4_nearest 41 = .ok (.istore_n 1, 1) := by decide +kernel
theorem dX4_nearest_42 : decode cX4_nearest 42 = .ok (.iinc 2 1, 3) := by decide +kernel
theorem dX4_nearest_45 : decode cX4_nearest 45 = .ok (.goto (-41), 3) := by decide +kernel
theorem dX4_nearest_48 : decode cX4_nearest 48 = .ok (.iload_n 1, 1) := by decide +kernel
theorem dX4_nearest_49 : decode cX4_nearest 49 = .ok (.ireturn, 1) := by decide +kernel
theorem dX4_join_0 : decode cX4_join 0 = .ok (.aload_n 0, 1) := by decide +kernel
theorem dX4_join_1 : decode cX4_join 1 = .ok (.getfield 15, 3) := by decide +kernel
theorem dX4_join_4 : decode cX4_join 4 = .ok (.iload_n 1, 1) := by decide +kernel
theorem dX4_join_5 : decode cX4_join 5 = .ok (.iaload, 1) := by decide +kernel
theorem dX4_join_6 : decode cX4_join 6 = .ok (.aload_n 0, 1) := by decide +kernel
theorem dX4_join_7 : decode cX4_join 7 = .ok (.getfield 18, 3) := by decide +kernel
theorem dX4_join_10 : decode cX4_join 10 = .ok (.iload_n 2, 1) := by decide +kernel
theorem dX4_join_11 : decode cX4_join 11 = .ok (.iaload, 1) := by decide +kernel
theorem dX4_join_12 : decode cX4_join 12 = .ok (.iand, 1) := by decide +kernel
theorem dX4_join_13 : decode cX4_join 13 = .ok (.istore_n 3, 1) := by decide +kernel
theorem dX4_join_14 : decode cX4_join 14 = .ok (.aload_n 0, 1) := by decide +kernel
theorem dX4_join_15 : decode cX4_join 15 = .ok (.aload_n 0, 1) := by decide +kernel
theorem dX4_join_16 : decode cX4_join 16 = .ok (.getfield 41, 3) := by decide +kernel
theorem dX4_join_19 : decode cX4_join 19 = .ok (.bipush 6, 2) := by decide +kernel
theorem dX4_join_21 : decode cX4_join 21 = .ok (.iaload, 1) := by decide +kernel
theorem dX4_join_22 : decode cX4_join 22 = .ok (.iload_n 3, 1) := by decide +kernel
theorem dX4_join_23 : decode cX4_join 23 = .ok (.iand, 1) := by decide +kernel
theorem dX4_join_24 : decode cX4_join 24 = .ok (.bipush 6, 2) := by decide +kernel
theorem dX4_join_26 : decode cX4_join 26 = .ok (.iload_n 1, 1) := by decide +kernel
theorem dX4_join_27 : decode cX4_join 27 = .ok (.iload_n 2, 1) := by decide +kernel
theorem dX4_join_28 : decode cX4_join 28 = .ok (.invokevirtual 99, 3) := by decide +kernel
theorem dX4_join_31 : decode cX4_join 31 = .ok (.istore 4, 2) := by decide +kernel
theorem dX4_join_33 : decode cX4_join 33 = .ok (.aload_n 0, 1) := by decide +kernel
theorem dX4_join_34 : decode cX4_join 34 = .ok (.aload_n 0, 1) := by decide +kernel
theorem dX4_join_35 : decode cX4_join 35 = .ok (.getfield 41, 3) := by decide +kernel
theorem dX4_join_38 : decode cX4_join 38 = .ok (.bipush 7, 2) := by decide +kernel
theorem dX4_join_40 : decode cX4_join 40 = .ok (.iaload, 1) := by decide +kernel
theorem dX4_join_41 : decode cX4_join 41 = .ok (.iload_n 3, 1) := by decide +kernel
theorem dX4_join_42 : decode cX4_join 42 = .ok (.iand, 1) := by decide +kernel
theorem dX4_join_43 : decode cX4_join 43 = .ok (.bipush 7, 2) := by decide +kernel
theorem dX4_join_45 : decode cX4_join 45 = .ok (.iload_n 1, 1) := by decide +kernel
theorem dX4_join_46 : decode cX4_join 46 = .ok (.iload_n 2, 1) := by decide +kernel
theorem dX4_join_47 : decode cX4_join 47 = .ok (.invokevirtual 99, 3) := by decide +kernel
theorem dX4_join_50 : decode cX4_join 50 = .ok (.istore 5, 2) := by decide +kernel
theorem dX4_join_52 : decode cX4_join 52 = .ok (.aload_n 0, 1) := by decide +kernel
theorem dX4_join_53 : decode cX4_join 53 = .ok (.getfield 47, 3) := by decide +kernel
theorem dX4_join_56 : decode cX4_join 56 = .ok (.iload_n 1, 1) := by decide +kernel
theorem dX4_join_57 : decode cX4_join 57 = .ok (.bipush 120, 2) := by decide +kernel
theorem dX4_join_59 : decode cX4_join 59 = .ok (.imul, 1) := by decide +kernel
theorem dX4_join_60 : decode cX4_join 60 = .ok (.iload_n 2, 1) := by decide +kernel
theorem dX4_join_61 : decode cX4_join 61 = .ok (.iadd, 1) := by decide +kernel
theorem dX4_join_62 : decode cX4_join 62 = .ok (.iload 4, 2) := by decide +kernel
theorem dX4_join_64 : decode cX4_join 64 = .ok (.iload 5, 2) := by decide +kernel
theorem dX4_join_66 : decode cX4_join 66 = .ok (.bipush 7, 2) := by decide +kernel
theorem dX4_join_68 : decode cX4_join 68 = .ok (.ishl, 1) := by decide +kernel
theorem dX4_join_69 : decode cX4_join 69 = .ok (.ior, 1) := by decide +kernel
theorem dX4_join_70 : decode cX4_join 70 = .ok (.i2s, 1) := by decide +kernel
theorem dX4_join_71 : decode cX4_join 71 = .ok (.sastore, 1) := by decide +kernel
theorem dX4_join_72 : decode cX4_join 72 = .ok (.return_, 1) := by decide +kernel
theorem dX4_offer_0 : decode cX4_offer 0 = .ok (.aload_n 0, 1) := by decide +kernel
theorem dX4_offer_1 : decode cX4_offer 1 = .ok (.iload_n 1, 1) := by decide +kernel
theorem dX4_offer_2 : decode cX4_offer 2 = .ok (.invokevirtual 117, 3) := by decide +kernel
theorem dX4_offer_5 : decode cX4_offer 5 = .ok (.istore 5, 2) := by decide +kernel
theorem dX4_offer_7 : decode cX4_offer 7 = .ok (.aload_n 0, 1) := by decide +kernel
theorem dX4_offer_8 : decode cX4_offer 8 = .ok (.getfield 37, 3) := by decide +kernel
theorem dX4_offer_11 : decode cX4_offer 11 = .ok (.iload 5, 2) := by decide +kernel
theorem dX4_offer_13 : decode cX4_offer 13 = .ok (.saload, 1) := by decide +kernel
theorem dX4_offer_14 : decode cX4_offer 14 = .ok (.iconst 1, 1) := by decide +kernel
theorem dX4_offer_15 : decode cX4_offer 15 = .ok (.isub, 1) := by decide +kernel
theorem dX4_offer_16 : decode cX4_offer 16 = .ok (.istore 6, 2) := by decide +kernel
theorem dX4_offer_18 : decode cX4_offer 18 = .ok (.aload_n 0, 1) := by decide +kernel
theorem dX4_offer_19 : decode cX4_offer 19 = .ok (.iload_n 3, 1) := by decide +kernel
theorem dX4_offer_20 : decode cX4_offer 20 = .ok (.iload 4, 2) := by decide +kernel
theorem dX4_offer_22 : decode cX4_offer 22 = .ok (.invokevirtual 121, 3) := by decide +kernel
theorem dX4_offer_25 : decode cX4_offer 25 = .ok (.istore 7, 2) := by decide +kernel
theorem dX4_offer_27 : decode cX4_offer 27 = .ok (.iload 6, 2) := by decide +kernel
theorem dX4_offer_29 : decode cX4_offer 29 = .ok (.ifCond .ge 34, 3) := by decide +kernel
theorem dX4_offer_32 : decode cX4_offer 32 = .ok (.aload_n 0, 1) := by decide +kernel
theorem dX4_offer_33 : decode cX4_offer 33 = .ok (.getfield 78, 3) := by decide +kernel
theorem dX4_offer_36 : decode cX4_offer 36 = .ok (.bipush 120, 2) := by decide +kernel
theorem dX4_offer_38 : decode cX4_offer 38 = .ok (.if_icmp .lt 10, 3) := by decide +kernel
theorem dX4_offer_41 : decode cX4_offer 41 = .ok (.aload_n 0, 1) := by decide +kernel
theorem dX4_offer_42 : decode cX4_offer 42 = .ok (.iconst 1, 1) := by decide +kernel
theorem dX4_offer_43 : decode cX4_offer 43 = .ok (.putfield 81, 3) := by decide +kernel
theorem dX4_offer_46 : decode cX4_offer 46 = .ok (.iconst 0, 1) := by decide +kernel
theorem dX4_offer_47 : decode cX4_offer 47 = .ok (.ireturn, 1) := by decide +kernel
theorem dX4_offer_48 : decode cX4_offer 48 = .ok (.aload_n 0, 1) := by decide +kernel
theorem dX4_offer_49 : decode cX4_offer 49 = .ok (.getfield 78, 3) := by decide +kernel
theorem dX4_offer_52 : decode cX4_offer 52 = .ok (.istore 6, 2) := by decide +kernel
theorem dX4_offer_54 : decode cX4_offer 54 = .ok (.aload_n 0, 1) := by decide +kernel
theorem dX4_offer_55 : decode cX4_offer 55 = .ok (.iload 5, 2) := by decide +kernel
theorem dX4_offer_57 : decode cX4_offer 57 = .ok (.invokevirtual 124, 3) := by decide +kernel
theorem dX4_offer_60 : decode cX4_offer 60 = .ok (.goto 31, 3) := by decide +kernel
theorem dX4_offer_63 : decode cX4_offer 63 = .ok (.aload_n 0, 1) := by decide +kernel
theorem dX4_offer_64 : decode cX4_offer 64 = .ok (.getfield 33, 3) := by decide +kernel
theorem dX4_offer_67 : decode cX4_offer 67 = .ok (.iload 6, 2) := by decide +kernel
theorem dX4_offer_69 : decode cX4_offer 69 = .ok (.baload, 1) := by decide +kernel
theorem dX4_offer_70 : decode cX4_offer 70 = .ok (.ifCond .ne 18, 3) := by decide +kernel
theorem dX4_offer_73 : decode cX4_offer 73 = .ok (.aload_n 0, 1) := by decide +kernel
theorem dX4_offer_74 : decode cX4_offer 74 = .ok (.iload 7, 2) := by decide +kernel
theorem dX4_offer_76 : decode cX4_offer 76 = .ok (.iload_n 2, 1) := by decide +kernel
theorem dX4_offer_77 : decode cX4_offer 77 = .ok (.iload_n 3, 1) := by decide +kernel
theorem dX4_offer_78 : decode cX4_offer 78 = .ok (.iload 4, 2) := by decide +kernel
theorem dX4_offer_80 : decode cX4_offer 80 = .ok (.iload 6, 2) := by decide +kernel
theorem dX4_offer_82 : decode cX4_offer 82 = .ok (.invokevirtual 128, 3) := by decide +kernel
theorem dX4_offer_85 : decode cX4_offer 85 = .ok (.ifCond .ne 6, 3) := by decide +kernel
theorem dX4_offer_88 : decode cX4_offer 88 = .ok (.iload 6, 2) := by decide +kernel
theorem dX4_offer_90 : decode cX4_offer 90 = .ok (.ireturn, 1) := by decide +kernel
theorem dX4_offer_91 : decode cX4_offer 91 = .ok (.aload_n 0, 1) := by decide +kernel
theorem dX4_offer_92 : decode cX4_offer 92 = .ok (.getfield 21, 3) := by decide +kernel
theorem dX4_offer_95 : decode cX4_offer 95 = .ok (.iload 6, 2) := by decide +kernel
theorem dX4_offer_97 : decode cX4_offer 97 = .ok (.iload 7, 2) := by decide +kernel
theorem dX4_offer_99 : decode cX4_offer 99 = .ok (.iastore, 1) := by decide +kernel
theorem dX4_offer_100 : decode cX4_offer 100 = .ok (.aload_n 0, 1) := by decide +kernel
theorem dX4_offer_101 : decode cX4_offer 101 = .ok (.getfield 24, 3) := by decide +kernel
theorem dX4_offer_104 : decode cX4_offer 104 = .ok (.iload 6, 2) := by decide +kernel
theorem dX4_offer_106 : decode cX4_offer 106 = .ok (.iload_n 2, 1) := by decide +kernel
theorem dX4_offer_107 : decode cX4_offer 107 = .ok (.iastore, 1) := by decide +kernel
theorem dX4_offer_108 : decode cX4_offer 108 = .ok (.aload_n 0, 1) := by decide +kernel
theorem dX4_offer_109 : decode cX4_offer 109 = .ok (.getfield 27, 3) := by decide +kernel
theorem dX4_offer_112 : decode cX4_offer 112 = .ok (.iload 6, 2) := by decide +kernel
theorem dX4_offer_114 : decode cX4_offer 114 = .ok (.iload_n 3, 1) := by decide +kernel
theorem dX4_offer_115 : decode cX4_offer 115 = .ok (.iastore, 1) := by decide +kernel
theorem dX4_offer_116 : decode cX4_offer 116 = .ok (.aload_n 0, 1) := by decide +kernel
theorem dX4_offer_117 : decode cX4_offer 117 = .ok (.getfield 30, 3) := by decide +kernel
theorem dX4_offer_120 : decode cX4_offer 120 = .ok (.iload 6, 2) := by decide +kernel
theorem dX4_offer_122 : decode cX4_offer 122 = .ok (.iload 4, 2) := by decide +kernel
theorem dX4_offer_124 : decode cX4_offer 124 = .ok (.iastore, 1) := by decide +kernel
theorem dX4_offer_125 : decode cX4_offer 125 = .ok (.iload 6, 2) := by decide +kernel
theorem dX4_offer_127 : decode cX4_offer 127 = .ok (.ireturn, 1) := by decide +kernel
theorem dX4_resultsOf_0 : decode cX4_resultsOf 0 = .ok (.iconst 0, 1) := by decide +kernel
theorem dX4_resultsOf_1 : decode cX4_resultsOf 1 = .ok (.istore_n 2, 1) := by decide +kernel
theorem dX4_resultsOf_2 : decode cX4_resultsOf 2 = .ok (.iconst 0, 1) := by decide +kernel
theorem dX4_resultsOf_3 : decode cX4_resultsOf 3 = .ok (.istore_n 3, 1) := by decide +kernel
theorem dX4_resultsOf_4 : decode cX4_resultsOf 4 = .ok (.iload_n 3, 1) := by decide +kernel
theorem dX4_resultsOf_5 : decode cX4_resultsOf 5 = .ok (.aload_n 0, 1) := by decide +kernel
theorem dX4_resultsOf_6 : decode cX4_resultsOf 6 = .ok (.getfield 67, 3) := by decide +kernel
theorem dX4_resultsOf_9 : decode cX4_resultsOf 9 = .ok (.getfield 108, 3) := by decide +kernel
theorem dX4_resultsOf_12 : decode cX4_resultsOf 12 = .ok (.if_icmp .ge 55, 3) := by decide +kernel
theorem dX4_resultsOf_15 : decode cX4_resultsOf 15 = .ok (.iload_n 1, 1) := by decide +kernel
theorem dX4_resultsOf_16 : decode cX4_resultsOf 16 = .ok (.ifCond .eq 51, 3) := by decide +kernel
theorem dX4_resultsOf_19 : decode cX4_resultsOf 19 = .ok (.iload_n 2, 1) := by decide +kernel
theorem dX4_resultsOf_20 : decode cX4_resultsOf 20 = .ok (.iload_n 1, 1) := by decide +kernel
theorem dX4_resultsOf_21 : decode cX4_resultsOf 21 = .ok (.iload_n 3, 1) := by decide +kernel
theorem dX4_resultsOf_22 : decode cX4_resultsOf 22 = .ok (.invokestatic 110, 3) := by decide +kernel
theorem dX4_resultsOf_25 : decode cX4_resultsOf 25 = .ok (.aload_n 0, 1) := by decide +kernel
theorem dX4_resultsOf_26 : decode cX4_resultsOf 26 = .ok (.getfield 67, 3) := by decide +kernel
theorem dX4_resultsOf_29 : decode cX4_resultsOf 29 = .ok (.getfield 132, 3) := by decide +kernel
theorem dX4_resultsOf_32 : decode cX4_resultsOf 32 = .ok (.iload_n 3, 1) := by decide +kernel
theorem dX4_resultsOf_33 : decode cX4_resultsOf 33 = .ok (.iaload, 1) := by decide +kernel
theorem dX4_resultsOf_34 : decode cX4_resultsOf 34 = .ok (.ishl, 1) := by decide +kernel
theorem dX4_resultsOf_35 : decode cX4_resultsOf 35 = .ok (.ior, 1) := by decide +kernel
theorem dX4_resultsOf_36 : decode cX4_resultsOf 36 = .ok (.istore_n 2, 1) := by decide +kernel
theorem dX4_resultsOf_37 : decode cX4_resultsOf 37 = .ok (.iload_n 2, 1) := by decide +kernel
theorem dX4_resultsOf_38 : decode cX4_resultsOf 38 = .ok (.iload_n 1, 1) := by decide +kernel
theorem dX4_resultsOf_39 : decode cX4_resultsOf 39 = .ok (.iload_n 3, 1) := by decide +kernel
theorem dX4_resultsOf_40 : decode cX4_resultsOf 40 = .ok (.bipush 16, 2) := by decide +kernel
theorem dX4_resultsOf_42 : decode cX4_resultsOf 42 = .ok (.iadd, 1) := by decide +kernel
theorem dX4_resultsOf_43 : decode cX4_resultsOf 43 = .ok (.invokestatic 110, 3) := by decide +kernel
theorem dX4_resultsOf_46 : decode cX4_resultsOf 46 = .ok (.aload_n 0, 1) := by decide +kernel
theorem dX4_resultsOf_47 : decode cX4_resultsOf 47 = .ok (.getfield 67, 3) := by decide +kernel
theorem dX4_resultsOf_50 : decode cX4_resultsOf 50 = .ok (.getfield 132, 3) := by decide +kernel
theorem dX4_resultsOf_53 : decode cX4_resultsOf 53 = .ok (.iload_n 3, 1) := by decide +kernel
theorem dX4_resultsOf_54 : decode cX4_resultsOf 54 = .ok (.iaload, 1) := by decide +kernel
theorem dX4_resultsOf_55 : decode cX4_resultsOf 55 = .ok (.bipush 6, 2) := by decide +kernel
theorem dX4_resultsOf_57 : decode cX4_resultsOf 57 = .ok (.iadd, 1) := by decide +kernel
theorem dX4_resultsOf_58 : decode cX4_resultsOf 58 = .ok (.ishl, 1) := by decide +kernel
theorem dX4_resultsOf_59 : decode cX4_resultsOf 59 = .ok (.ior, 1) := by decide +kernel
theorem dX4_resultsOf_60 : decode cX4_resultsOf 60 = .ok (.istore_n 2, 1) := by decide +kernel
theorem dX4_resultsOf_61 : decode cX4_resultsOf 61 = .ok (.iinc 3 1, 3) := by decide +kernel
theorem dX4_resultsOf_64 : decode cX4_resultsOf 64 = .ok (.goto (-60), 3) := by decide +kernel
theorem dX4_resultsOf_67 : decode cX4_resultsOf 67 = .ok (.iload_n 2, 1) := by decide +kernel
theorem dX4_resultsOf_68 : decode cX4_resultsOf 68 = .ok (.ireturn, 1) := by decide +kernel
theorem dX4_sizeOver_0 : decode cX4_sizeOver 0 = .ok (.iconst 1, 1) := by decide +kernel
theorem dX4_sizeOver_1 : decode cX4_sizeOver 1 = .ok (.istore_n 3, 1) := by decide +kernel
theorem dX4_sizeOver_2 : decode cX4_sizeOver 2 = .ok (.iload_n 1, 1) := by decide +kernel
theorem dX4_sizeOver_3 : decode cX4_sizeOver 3 = .ok (.ifCond .lt 12, 3) := by decide +kernel
theorem dX4_sizeOver_6 : decode cX4_sizeOver 6 = .ok (.iload_n 3, 1) := by decide +kernel
theorem dX4_sizeOver_7 : decode cX4_sizeOver 7 = .ok (.aload_n 0, 1) := by decide +kernel
theorem dX4_sizeOver_8 : decode cX4_sizeOver 8 = .ok (.getfield 21, 3) := by decide +kernel
theorem dX4_sizeOver_11 : decode cX4_sizeOver 11 = .ok (.iload_n 1, 1) := by decide +kernel
theorem dX4_sizeOver_12 : decode cX4_sizeOver 12 = .ok (.iaload, 1) := by decide +kernel
theorem dX4_sizeOver_13 : decode cX4_sizeOver 13 = .ok (.iadd, 1) := by decide +kernel
theorem dX4_sizeOver_14 : decode cX4_sizeOver 14 = .ok (.istore_n 3, 1) := by decide +kernel
theorem dX4_sizeOver_15 : decode cX4_sizeOver 15 = .ok (.iload_n 2, 1) := by decide +kernel
theorem dX4_sizeOver_16 : decode cX4_sizeOver 16 = .ok (.ifCond .lt 12, 3) := by decide +kernel
theorem dX4_sizeOver_19 : decode cX4_sizeOver 19 = .ok (.iload_n 3, 1) := by decide +kernel
theorem dX4_sizeOver_20 : decode cX4_sizeOver 20 = .ok (.aload_n 0, 1) := by decide +kernel
theorem dX4_sizeOver_21 : decode cX4_sizeOver 21 = .ok (.getfield 21, 3) := by decide +kernel
theorem dX4_sizeOver_24 : decode cX4_sizeOver 24 = .ok (.iload_n 2, 1) := by decide +kernel
theorem dX4_sizeOver_25 : decode cX4_sizeOver 25 = .ok (.iaload, 1) := by decide +kernel
theorem dX4_sizeOver_26 : decode cX4_sizeOver 26 = .ok (.iadd, 1) := by decide +kernel
theorem dX4_sizeOver_27 : decode cX4_sizeOver 27 = .ok (.istore_n 3, 1) := by decide +kernel
theorem dX4_sizeOver_28 : decode cX4_sizeOver 28 = .ok (.iload_n 3, 1) := by decide +kernel
theorem dX4_sizeOver_29 : decode cX4_sizeOver 29 = .ok (.bipush 32, 2) := by decide +kernel
theorem dX4_sizeOver_31 : decode cX4_sizeOver 31 = .ok (.invokestatic 135, 3) := by decide +kernel
theorem dX4_sizeOver_34 : decode cX4_sizeOver 34 = .ok (.ireturn, 1) := by decide +kernel
theorem dX4_add_0 : decode cX4_add 0 = .ok (.aload_n 0, 1) := by decide +kernel
theorem dX4_add_1 : decode cX4_add 1 = .ok (.getfield 78, 3) := by decide +kernel
theorem dX4_add_4 : decode cX4_add 4 = .ok (.istore_n 2, 1) := by decide +kernel
theorem dX4_add_5 : decode cX4_add 5 = .ok (.aload_n 0, 1) := by decide +kernel
theorem dX4_add_6 : decode cX4_add 6 = .ok (.dup, 1) := by decide +kernel
theorem dX4_add_7 : decode cX4_add 7 = .ok (.getfield 78, 3) := by decide +kernel
theorem dX4_add_10 : decode cX4_add 10 = .ok (.iconst 1, 1) := by decide +kernel
theorem dX4_add_11 : decode cX4_add 11 = .ok (.iadd, 1) := by decide +kernel
theorem dX4_add_12 : decode cX4_add 12 = .ok (.putfield 78, 3) := by decide +kernel
theorem dX4_add_15 : decode cX4_add 15 = .ok (.aload_n 0, 1) := by decide +kernel
theorem dX4_add_16 : decode cX4_add 16 = .ok (.getfield 37, 3) := by decide +kernel
theorem dX4_add_19 : decode cX4_add 19 = .ok (.iload_n 1, 1) := by decide +kernel
theorem dX4_add_20 : decode cX4_add 20 = .ok (.aload_n 0, 1) := by decide +kernel
theorem dX4_add_21 : decode cX4_add 21 = .ok (.getfield 78, 3) := by decide +kernel
theorem dX4_add_24 : decode cX4_add 24 = .ok (.i2s, 1) := by decide +kernel
theorem dX4_add_25 : decode cX4_add 25 = .ok (.sastore, 1) := by decide +kernel
theorem dX4_add_26 : decode cX4_add 26 = .ok (.aload_n 0, 1) := by decide +kernel
theorem dX4_add_27 : decode cX4_add 27 = .ok (.getfield 11, 3) := by decide +kernel
theorem dX4_add_30 : decode cX4_add 30 = .ok (.iload_n 2, 1) := by decide +kernel
theorem dX4_add_31 : decode cX4_add 31 = .ok (.iload_n 1, 1) := by decide +kernel
theorem dX4_add_32 : decode cX4_add 32 = .ok (.iastore, 1) := by decide +kernel
theorem dX4_add_33 : decode cX4_add 33 = .ok (.aload_n 0, 1) := by decide +kernel
theorem dX4_add_34 : decode cX4_add 34 = .ok (.getfield 33, 3) := by decide +kernel
theorem dX4_add_37 : decode cX4_add 37 = .ok (.iload_n 2, 1) := by decide +kernel
theorem dX4_add_38 : decode cX4_add 38 = .ok (.iconst 0, 1) := by decide +kernel
theorem dX4_add_39 : decode cX4_add 39 = .ok (.bastore, 1) := by decide +kernel
theorem dX4_add_40 : decode cX4_add 40 = .ok (.aload_n 0, 1) := by decide +kernel
theorem dX4_add_41 : decode cX4_add 41 = .ok (.getfield 15, 3) := by decide +kernel
theorem dX4_add_44 : decode cX4_add 44 = .ok (.iload_n 2, 1) := by decide +kernel
theorem dX4_add_45 : decode cX4_add 45 = .ok (.iconst 0, 1) := by decide +kernel
theorem dX4_add_46 : decode cX4_add 46 = .ok (.iastore, 1) := by decide +kernel
theorem dX4_add_47 : decode cX4_add 47 = .ok (.aload_n 0, 1) := by decide +kernel
theorem dX4_add_48 : decode cX4_add 48 = .ok (.getfield 18, 3) := by decide +kernel
theorem dX4_add_51 : decode cX4_add 51 = .ok (.iload_n 2, 1) := by decide +kernel
theorem dX4_add_52 : decode cX4_add 52 = .ok (.iconst 0, 1) := by decide +kernel
theorem dX4_add_53 : decode cX4_add 53 = .ok (.iastore, 1) := by decide +kernel
theorem dX4_add_54 : decode cX4_add 54 = .ok (.iconst 0, 1) := by decide +kernel
theorem dX4_add_55 : decode cX4_add 55 = .ok (.istore_n 3, 1) := by decide +kernel
theorem dX4_add_56 : decode cX4_add 56 = .ok (.iload_n 3, 1) := by decide +kernel
theorem dX4_add_57 : decode cX4_add 57 = .ok (.aload_n 0, 1) := by decide +kernel
theorem dX4_add_58 : decode cX4_add 58 = .ok (.getfield 67, 3) := by decide +kernel
theorem dX4_add_61 : decode cX4_add 61 = .ok (.getfield 108, 3) := by decide +kernel
theorem dX4_add_64 : decode cX4_add 64 = .ok (.if_icmp .ge 86, 3) := by decide +kernel
theorem dX4_add_67 : decode cX4_add 67 = .ok (.aload_n 0, 1) := by decide +kernel
theorem dX4_add_68 : decode cX4_add 68 = .ok (.getfield 67, 3) := by decide +kernel
theorem dX4_add_71 : decode cX4_add 71 = .ok (.getfield 109, 3) := by decide +kernel
theorem dX4_add_74 : decode cX4_add 74 = .ok (.iload_n 3, 1) := by decide +kernel
theorem dX4_add_75 : decode cX4_add 75 = .ok (.iaload, 1) := by decide +kernel
theorem dX4_add_76 : decode cX4_add 76 = .ok (.invokestatic 140, 3) := by decide +kernel
theorem dX4_add_79 : decode cX4_add 79 = .ok (.ifCond .le 26, 3) := by decide +kernel
theorem dX4_add_82 : decode cX4_add 82 = .ok (.aload_n 0, 1) := by decide +kernel
theorem dX4_add_83 : decode cX4_add 83 = .ok (.getfield 15, 3) := by decide +kernel
theorem dX4_add_86 : decode cX4_add 86 = .ok (.iload_n 2, 1) := by decide +kernel
theorem dX4_add_87 : decode cX4_add 87 = .ok (.dup2, 1) := by decide +kernel
theorem dX4_add_88 : decode cX4_add 88 = .ok (.iaload, 1) := by decide +kernel
theorem dX4_add_89 : decode cX4_add 89 = .ok (.iload_n 1, 1) := by decide +kernel
theorem dX4_add_90 : decode cX4_add 90 = .ok (.aload_n 0, 1) := by decide +kernel
theorem dX4_add_91 : decode cX4_add 91 = .ok (.getfield 67, 3) := by decide +kernel
theorem dX4_add_94 : decode cX4_add 94 = .ok (.getfield 143, 3) := by decide +kernel
theorem dX4_add_97 : decode cX4_add 97 = .ok (.iload_n 3, 1) := by decide +kernel
theorem dX4_add_98 : decode cX4_add 98 = .ok (.iaload, 1) := by decide +kernel
theorem dX4_add_99 : decode cX4_add 99 = .ok (.iload_n 3, 1) := by decide +kernel
theorem dX4_add_100 : decode cX4_add 100 = .ok (.invokestatic 144, 3) := by decide +kernel
theorem dX4_add_103 : decode cX4_add 103 = .ok (.ior, 1) := by decide +kernel
theorem dX4_add_104 : decode cX4_add 104 = .ok (.iastore, 1) := by decide +kernel
theorem dX4_add_105 : decode cX4_add 105 = .ok (.aload_n 0, 1) := by decide +kernel
theorem dX4_add_106 : decode cX4_add 106 = .ok (.getfield 67, 3) := by decide +kernel
theorem dX4_add_109 : decode cX4_add 109 = .ok (.getfield 109, 3) := by decide +kernel
theorem dX4_add_112 : decode cX4_add 112 = .ok (.iload_n 3, 1) := by decide +kernel
theorem dX4_add_113 : decode cX4_add 113 = .ok (.iaload, 1) := by decide +kernel
theorem dX4_add_114 : decode cX4_add 114 = .ok (.invokestatic 140, 3) := by decide +kernel
theorem dX4_add_117 : decode cX4_add 117 = .ok (.iconst 1, 1) := by decide +kernel
theorem dX4_add_118 : decode cX4_add 118 = .ok (.if_icmp .le 26, 3) := by decide +kernel
theorem dX4_add_121 : decode cX4_add 121 = .ok (.aload_n 0, 1) := by decide +kernel
theorem dX4_add_122 : decode cX4_add 122 = .ok (.getfield 18, 3) := by decide +kernel
theorem dX4_add_125 : decode cX4_add 125 = .ok (.iload_n 2, 1) := by decide +kernel
theorem dX4_add_126 : decode cX4_add 126 = .ok (.dup2, 1) := by decide +kernel
theorem dX4_add_127 : decode cX4_add 127 = .ok (.iaload, 1) := by decide +kernel
theorem dX4_add_128 : decode cX4_add 128 = .ok (.iload_n 1, 1) := by decide +kernel
theorem dX4_add_129 : decode cX4_add 129 = .ok (.aload_n 0, 1) := by decide +kernel
theorem dX4_add_130 : decode cX4_add 130 = .ok (.getfield 67, 3) := by decide +kernel
theorem dX4_add_133 : decode cX4_add 133 = .ok (.getfield 148, 3) := by decide +kernel
theorem dX4_add_136 : decode cX4_add 136 = .ok (.iload_n 3, 1) := by decide +kernel
theorem dX4_add_137 : decode cX4_add 137 = .ok (.iaload, 1) := by decide +kernel
theorem dX4_add_138 : decode cX4_add 138 = .ok (.iload_n 3, 1) := by decide +kernel
theorem dX4_add_139 : decode cX4_add 139 = .ok (.invokestatic 144, 3) := by decide +kernel
theorem dX4_add_142 : decode cX4_add 142 = .ok (.ior, 1) := by decide +kernel
theorem dX4_add_143 : decode cX4_add 143 = .ok (.iastore, 1) := by decide +kernel
theorem dX4_add_144 : decode cX4_add 144 = .ok (.iinc 3 1, 3) := by decide +kernel
theorem dX4_add_147 : decode cX4_add 147 = .ok (.goto (-91), 3) := by decide +kernel
theorem dX4_add_150 : decode cX4_add 150 = .ok (.return_, 1) := by decide +kernel
theorem dX4_ruleBits_0 : decode cX4_ruleBits 0 = .ok (.iload_n 0, 1) := by decide +kernel
theorem dX4_ruleBits_1 : decode cX4_ruleBits 1 = .ok (.iload_n 1, 1) := by decide +kernel
theorem dX4_ruleBits_2 : decode cX4_ruleBits 2 = .ok (.invokestatic 110, 3) := by decide +kernel
theorem dX4_ruleBits_5 : decode cX4_ruleBits 5 = .ok (.iload_n 2, 1) := by decide +kernel
theorem dX4_ruleBits_6 : decode cX4_ruleBits 6 = .ok (.ishl, 1) := by decide +kernel
theorem dX4_ruleBits_7 : decode cX4_ruleBits 7 = .ok (.iload_n 0, 1) := by decide +kernel
theorem dX4_ruleBits_8 : decode cX4_ruleBits 8 = .ok (.iload_n 1, 1) := by decide +kernel
theorem dX4_ruleBits_9 : decode cX4_ruleBits 9 = .ok (.bipush 6, 2) := by decide +kernel
theorem dX4_ruleBits_11 : decode cX4_ruleBits 11 = .ok (.iadd, 1) := by decide +kernel
theorem dX4_ruleBits_12 : decode cX4_ruleBits 12 = .ok (.invokestatic 110, 3) := by decide +kernel
theorem dX4_ruleBits_15 : decode cX4_ruleBits 15 = .ok (.iload_n 2, 1) := by decide +kernel
theorem dX4_ruleBits_16 : decode cX4_ruleBits 16 = .ok (.bipush 16, 2) := by decide +kernel
theorem dX4_ruleBits_18 : decode cX4_ruleBits 18 = .ok (.iadd, 1) := by decide +kernel
theorem dX4_ruleBits_19 : decode cX4_ruleBits 19 = .ok (.ishl, 1) := by decide +kernel
theorem dX4_ruleBits_20 : decode cX4_ruleBits 20 = .ok (.ior, 1) := by decide +kernel
theorem dX4_ruleBits_21 : decode cX4_ruleBits 21 = .ok (.ireturn, 1) := by decide +kernel
theorem dX4_isLess_0 : decode cX4_isLess 0 = .ok (.iload_n 1, 1) := by decide +kernel
theorem dX4_isLess_1 : decode cX4_isLess 1 = .ok (.aload_n 0, 1) := by decide +kernel
theorem dX4_isLess_2 : decode cX4_isLess 2 = .ok (.getfield 21, 3) := by decide +kernel
theorem dX4_isLess_5 : decode cX4_isLess 5 = .ok (.iload 5, 2) := by decide +kernel
theorem dX4_isLess_7 : decode cX4_isLess 7 = .ok (.iaload, 1) := by decide +kernel
theorem dX4_isLess_8 : decode cX4_isLess 8 = .ok (.if_icmp .ne 9, 3) := by decide +kernel
theorem dX4_isLess_11 : decode cX4_isLess 11 = .ok (.iload_n 1, 1) := by decide +kernel
theorem dX4_isLess_12 : decode cX4_isLess 12 = .ok (.bipush 32, 2) := by decide +kernel
theorem dX4_isLess_14 : decode cX4_isLess 14 = .ok (.if_icmp .ne 20, 3) := by decide +kernel
theorem dX4_isLess_17 : decode cX4_isLess 17 = .ok (.iload_n 1, 1) := by decide +kernel
theorem dX4_isLess_18 : decode cX4_isLess 18 = .ok (.aload_n 0, 1) := by decide +kernel
theorem dX4_isLess_19 : decode cX4_isLess 19 = .ok (.getfield 21, 3) := by decide +kernel
theorem dX4_isLess_22 : decode cX4_isLess 22 = .ok (.iload 5, 2) := by decide +kernel
theorem dX4_isLess_24 : decode cX4_isLess 24 = .ok (.iaload, 1) := by decide +kernel
theorem dX4_isLess_25 : decode cX4_isLess 25 = .ok (.if_icmp .ge 7, 3) := by decide +kernel
theorem dX4_isLess_28 : decode cX4_isLess 28 = .ok (.iconst 1, 1) := by decide +kernel
theorem dX4_isLess_29 : decode cX4_isLess 29 = .ok (.goto 4, 3) := by decide +kernel
theorem dX4_isLess_32 : decode cX4_isLess 32 = .ok (.iconst 0, 1) := by decide +kernel
theorem dX4_isLess_33 : decode cX4_isLess 33 = .ok (.ireturn, 1) := by decide +kernel
theorem dX4_isLess_34 : decode cX4_isLess 34 = .ok (.iload_n 2, 1) := by decide +kernel
theorem dX4_isLess_35 : decode cX4_isLess 35 = .ok (.aload_n 0, 1) := by decide +kernel
theorem dX4_isLess_36 : decode cX4_isLess 36 = .ok (.getfield 24, 3) := by decide +kernel
theorem dX4_isLess_39 : decode cX4_isLess 39 = .ok (.iload 5, 2) := by decide +kernel
theorem dX4_isLess_41 : decode cX4_isLess 41 = .ok (.iaload, 1) := by decide +kernel
theorem dX4_isLess_42 : decode cX4_isLess 42 = .ok (.if_icmp .eq 20, 3) := by decide +kernel
theorem dX4_isLess_45 : decode cX4_isLess 45 = .ok (.iload_n 2, 1) := by decide +kernel
theorem dX4_isLess_46 : decode cX4_isLess 46 = .ok (.aload_n 0, 1) := by decide +kernel
theorem dX4_isLess_47 : decode cX4_isLess 47 = .ok (.getfield 24, 3) := by decide +kernel
theorem dX4_isLess_50 : decode cX4_isLess 50 = .ok (.iload 5, 2) := by decide +kernel
theorem dX4_isLess_52 : decode cX4_isLess 52 = .ok (.iaload, 1) := by decide +kernel
theorem dX4_isLess_53 : decode cX4_isLess 53 = .ok (.if_icmp .ge 7, 3) := by decide +kernel
theorem dX4_isLess_56 : decode cX4_isLess 56 = .ok (.iconst 1, 1) := by decide +kernel
theorem dX4_isLess_57 : decode cX4_isLess 57 = .ok (.goto 4, 3) := by decide +kernel
theorem dX4_isLess_60 : decode cX4_isLess 60 = .ok (.iconst 0, 1) := by decide +kernel
theorem dX4_isLess_61 : decode cX4_isLess 61 = .ok (.ireturn, 1) := by decide +kernel
theorem dX4_isLess_62 : decode cX4_isLess 62 = .ok (.iload_n 3, 1) := by decide +kernel
theorem dX4_isLess_63 : decode cX4_isLess 63 = .ok (.aload_n 0, 1) := by decide +kernel
theorem dX4_isLess_64 : decode cX4_isLess 64 = .ok (.getfield 27, 3) := by decide +kernel
theorem dX4_isLess_67 : decode cX4_isLess 67 = .ok (.iload 5, 2) := by decide +kernel
theorem dX4_isLess_69 : decode cX4_isLess 69 = .ok (.iaload, 1) := by decide +kernel
theorem dX4_isLess_70 : decode cX4_isLess 70 = .ok (.if_icmp .eq 18, 3) := by decide +kernel
theorem dX4_isLess_73 : decode cX4_isLess 73 = .ok (.aload_n 0, 1) := by decide +kernel
theorem dX4_isLess_74 : decode cX4_isLess 74 = .ok (.iload_n 3, 1) := by decide +kernel
theorem dX4_isLess_75 : decode cX4_isLess 75 = .ok (.aload_n 0, 1) := by decide +kernel
theorem dX4_isLess_76 : decode cX4_isLess 76 = .ok (.getfield 27, 3) := by decide +kernel
theorem dX4_isLess_79 : decode cX4_isLess 79 = .ok (.iload 5, 2) := by decide +kernel
theorem dX4_isLess_81 : decode cX4_isLess 81 = .ok (.iaload, 1) := by decide +kernel
theorem dX4_isLess_82 : decode cX4_isLess 82 = .ok (.invokevirtual 149, 3) := by decide +kernel
theorem dX4_isLess_85 : decode cX4_isLess 85 = .ok (.goto 16, 3) := by decide +kernel
theorem dX4_isLess_88 : decode cX4_isLess 88 = .ok (.aload_n 0, 1) := by decide +kernel
theorem dX4_isLess_89 : decode cX4_isLess 89 = .ok (.iload 4, 2) := by decide +kernel
theorem dX4_isLess_91 : decode cX4_isLess 91 = .ok (.aload_n 0, 1) := by decide +kernel
theorem dX4_isLess_92 : decode cX4_isLess 92 = .ok (.getfield 30, 3) := by decide +kernel
theorem dX4_isLess_95 : decode cX4_isLess 95 = .ok (.iload 5, 2) := by decide +kernel
theorem dX4_isLess_97 : decode cX4_isLess 97 = .ok (.iaload, 1) := by decide +kernel
theorem dX4_isLess_98 : decode cX4_isLess 98 = .ok (.invokevirtual 149, 3) := by decide +kernel
theorem dX4_isLess_101 : decode cX4_isLess 101 = .ok (.ireturn, 1) := by decide +kernel
theorem dX4_comesBefore_0 : decode cX4_comesBefore 0 = .ok (.iload_n 1, 1) := by decide +kernel
theorem dX4_comesBefore_1 : decode cX4_comesBefore 1 = .ok (.istore_n 3, 1) := by decide +kernel
theorem dX4_comesBefore_2 : decode cX4_comesBefore 2 = .ok (.iload_n 2, 1) := by decide +kernel
theorem dX4_comesBefore_3 : decode cX4_comesBefore 3 = .ok (.istore 4, 2) := by decide +kernel
theorem dX4_comesBefore_5 : decode cX4_comesBefore 5 = .ok (.iconst 0, 1) := by decide +kernel
theorem dX4_comesBefore_6 : decode cX4_comesBefore 6 = .ok (.istore 5, 2) := by decide +kernel
theorem dX4_comesBefore_8 : decode cX4_comesBefore 8 = .ok (.iload 5, 2) := by decide +kernel
theorem dX4_comesBefore_10 : decode cX4_comesBefore 10 = .ok (.bipush 31, 2) := by decide +kernel
theorem dX4_comesBefore_12 : decode cX4_comesBefore 12 = .ok (.if_icmp .ge 130, 3) := by decide +kernel
theorem dX4_comesBefore_15 : decode cX4_comesBefore 15 = .ok (.iload_n 3, 1) := by decide +kernel
theorem dX4_comesBefore_16 : decode cX4_comesBefore 16 = .ok (.ifCond .lt 126, 3) := by decide +kernel
theorem dX4_comesBefore_19 : decode cX4_comesBefore 19 = .ok (.iload 4, 2) := by decide +kernel
theorem dX4_comesBefore_21 : decode cX4_comesBefore 21 = .ok (.ifCond .lt 121, 3) := by decide +kernel
theorem dX4_comesBefore_24 : decode cX4_comesBefore 24 = .ok (.iload_n 3, 1) := by decide +kernel
theorem dX4_comesBefore_25 : decode cX4_comesBefore 25 = .ok (.iload 4, 2) := by decide +kernel
theorem dX4_comesBefore_27 : decode cX4_comesBefore 27 = .ok (.if_icmp .eq 115, 3) := by decide +kernel
theorem dX4_comesBefore_30 : decode cX4_comesBefore 30 = .ok (.aload_n 0, 1) := by decide +kernel
theorem dX4_comesBefore_31 : decode cX4_comesBefore 31 = .ok (.getfield 24, 3) := by decide +kernel
theorem dX4_comesBefore_34 : decode cX4_comesBefore 34 = .ok (.iload_n 3, 1) := by decide +kernel
theorem dX4_comesBefore_35 : decode cX4_comesBefore 35 = .ok (.iaload, 1) := by decide +kernel
theorem dX4_comesBefore_36 : decode cX4_comesBefore 36 = .ok (.aload_n 0, 1) := by decide +kernel
theorem dX4_comesBefore_37 : decode cX4_comesBefore 37 = .ok (.getfield 24, 3) := by decide +kernel
theorem dX4_comesBefore_40 : decode cX4_comesBefore 40 = .ok (.iload 4, 2) := by decide +kernel
theorem dX4_comesBefore_42 : decode cX4_comesBefore 42 = .ok (.iaload, 1) := by decide +kernel
theorem dX4_comesBefore_43 : decode cX4_comesBefore 43 = .ok (.if_icmp .eq 25, 3) := by decide +kernel
theorem dX4_comesBefore_46 : decode cX4_comesBefore 46 = .ok (.aload_n 0, 1) := by decide +kernel
theorem dX4_comesBefore_47 : decode cX4_comesBefore 47 = .ok (.getfield 24, 3) := by decide +kernel
theorem dX4_comesBefore_50 : decode cX4_comesBefore 50 = .ok (.iload_n 3, 1) := by decide +kernel
theorem dX4_comesBefore_51 : decode cX4_comesBefore 51 = .ok (.iaload, 1) := by decide +kernel
theorem dX4_comesBefore_52 : decode cX4_comesBefore 52 = .ok (.aload_n 0, 1) := by decide +kernel
theorem dX4_comesBefore_53 : decode cX4_comesBefore 53 = .ok (.getfield 24, 3) := by decide +kernel
theorem dX4_comesBefore_56 : decode cX4_comesBefore 56 = .ok (.iload 4, 2) := by decide +kernel
theorem dX4_comesBefore_58 : decode cX4_comesBefore 58 = .ok (.iaload, 1) := by decide +kernel
theorem dX4_comesBefore_59 : decode cX4_comesBefore 59 = .ok (.if_icmp .ge 7, 3) := by decide +kernel
theorem dX4_comesBefore_62 : decode cX4_comesBefore 62 = .ok (.iconst 1, 1) := by decide +kernel
theorem dX4_comesBefore_63 : decode cX4_comesBefore 63 = .ok (.goto 4, 3) := by decide +kernel
theorem dX4_comesBefore_66 : decode cX4_comesBefore 66 = .ok (.iconst 0, 1) := by decide +kernel
theorem dX4_comesBefore_67 : decode cX4_comesBefore 67 = .ok (.ireturn, 1) := by decide +kernel
theorem dX4_comesBefore_68 : decode cX4_comesBefore 68 = .ok (.aload_n 0, 1) := by decide +kernel
theorem dX4_comesBefore_69 : decode cX4_comesBefore 69 = .ok (.getfield 27, 3) := by decide +kernel
theorem dX4_comesBefore_72 : decode cX4_comesBefore 72 = .ok (.iload_n 3, 1) := by decide +kernel
theorem dX4_comesBefore_73 : decode cX4_comesBefore 73 = .ok (.iaload, 1) := by decide +kernel
theorem dX4_comesBefore_74 : decode cX4_comesBefore 74 = .ok (.aload_n 0, 1) := by decide +kernel
theorem dX4_comesBefore_75 : decode cX4_comesBefore 75 = .ok (.getfield 27, 3) := by decide +kernel
theorem dX4_comesBefore_78 : decode cX4_comesBefore 78 = .ok (.iload 4, 2) := by decide +kernel
theorem dX4_comesBefore_80 : decode cX4_comesBefore 80 = .ok (.iaload, 1) := by decide +kernel
theorem dX4_comesBefore_81 : decode cX4_comesBefore 81 = .ok (.if_icmp .ne 7, 3) := by decide +kernel
theorem dX4_comesBefore_84 : decode cX4_comesBefore 84 = .ok (.iconst 1, 1) := by decide +kernel
theorem dX4_comesBefore_85 : decode cX4_comesBefore 85 = .ok (.goto 4, 3) := by decide +kernel
theorem dX4_comesBefore_88 : decode cX4_comesBefore 88 = .ok (.iconst 0, 1) := by decide +kernel
theorem dX4_comesBefore_89 : decode cX4_comesBefore 89 = .ok (.istore 6, 2) := by decide +kernel
theorem dX4_comesBefore_91 : decode cX4_comesBefore 91 = .ok (.iload 6, 2) := by decide +kernel
theorem dX4_comesBefore_93 : decode cX4_comesBefore 93 = .ok (.ifCond .eq 12, 3) := by decide +kernel
theorem dX4_comesBefore_96 : decode cX4_comesBefore 96 = .ok (.aload_n 0, 1) := by decide +kernel
theorem dX4_comesBefore_97 : decode cX4_comesBefore 97 = .ok (.getfield 30, 3) := by decide +kernel
theorem dX4_comesBefore_100 : decode cX4_comesBefore 100 = .ok (.iload_n 3, 1) := by decide +kernel
theorem dX4_comesBefore_101 : decode cX4_comesBefore 101 = .ok (.iaload, 1) := by decide +kernel
theorem dX4_comesBefore_102 : decode cX4_comesBefore 102 = .ok (.goto 9, 3) := by decide +kernel
theorem dX4_comesBefore_105 : decode cX4_comesBefore 105 = .ok (.aload_n 0, 1) := by decide +kernel
theorem dX4_comesBefore_106 : decode cX4_comesBefore 106 = .ok (.getfield 27, 3) := by decide +kernel
theorem dX4_comesBefore_109 : decode cX4_comesBefore 109 = .ok (.iload_n 3, 1) := by decide +kernel
theorem dX4_comesBefore_110 : decode cX4_comesBefore 110 = .ok (.iaload, 1) := by decide +kernel
theorem dX4_comesBefore_111 : decode cX4_comesBefore 111 = .ok (.istore_n 3, 1) := by decide +kernel
theorem dX4_comesBefore_112 : decode cX4_comesBefore 112 = .ok (.iload 6, 2) := by decide +kernel
theorem dX4_comesBefore_114 : decode cX4_comesBefore 114 = .ok (.ifCond .eq 13, 3) := by decide +kernel
theorem dX4_comesBefore_117 : decode cX4_comesBefore 117 = .ok (.aload_n 0, 1) := by decide +kernel
theorem dX4_comesBefore_118 : decode cX4_comesBefore 118 = .ok (.getfield 30, 3) := by decide +kernel
theorem dX4_comesBefore_121 : decode cX4_comesBefore 121 = .ok (.iload 4, 2) := by decide +kernel
theorem dX4_comesBefore_123 : decode cX4_comesBefore 123 = .ok (.iaload, 1) := by decide +kernel
theorem dX4_comesBefore_124 : decode cX4_comesBefore 124 = .ok (.goto 10, 3) := by decide +kernel
theorem dX4_comesBefore_127 : decode cX4_comesBefore 127 = .ok (.aload_n 0, 1) := by decide +kernel
theorem dX4_comesBefore_128 : decode cX4_comesBefore 128 = .ok (.getfield 27, 3) := by decide +kernel
theorem dX4_comesBefore_131 : decode cX4_comesBefore 131 = .ok (.iload 4, 2) := by decide +kernel
theorem dX4_comesBefore_133 : decode cX4_comesBefore 133 = .ok (.iaload, 1) := by decide +kernel
theorem dX4_comesBefore_134 : decode cX4_comesBefore 134 = .ok (.istore 4, 2) := by decide +kernel
theorem dX4_comesBefore_136 : decode cX4_comesBefore 136 = .ok (.iinc 5 1, 3) := by decide +kernel
theorem dX4_comesBefore_139 : decode cX4_comesBefore 139 = .ok (.goto (-131), 3) := by decide +kernel
theorem dX4_comesBefore_142 : decode cX4_comesBefore 142 = .ok (.iconst 0, 1) := by decide +kernel
theorem dX4_comesBefore_143 : decode cX4_comesBefore 143 = .ok (.ireturn, 1) := by decide +kernel
theorem dX4_sizeOf_0 : decode cX4_sizeOf 0 = .ok (.aload_n 0, 1) := by decide +kernel
theorem dX4_sizeOf_1 : decode cX4_sizeOf 1 = .ok (.getfield 21, 3) := by decide +kernel
theorem dX4_sizeOf_4 : decode cX4_sizeOf 4 = .ok (.iload_n 1, 1) := by decide +kernel
theorem dX4_sizeOf_5 : decode cX4_sizeOf 5 = .ok (.iaload, 1) := by decide +kernel
theorem dX4_sizeOf_6 : decode cX4_sizeOf 6 = .ok (.ireturn, 1) := by decide +kernel
theorem dX4_overOne_0 : decode cX4_overOne 0 = .ok (.aload_n 0, 1) := by decide +kernel
theorem dX4_overOne_1 : decode cX4_overOne 1 = .ok (.getfield 44, 3) := by decide +kernel
theorem dX4_overOne_4 : decode cX4_overOne 4 = .ok (.iload_n 1, 1) := by decide +kernel
theorem dX4_overOne_5 : decode cX4_overOne 5 = .ok (.saload, 1) := by decide +kernel
theorem dX4_overOne_6 : decode cX4_overOne 6 = .ok (.ireturn, 1) := by decide +kernel
theorem dX4_overTwo_0 : decode cX4_overTwo 0 = .ok (.aload_n 0, 1) := by decide +kernel
theorem dX4_overTwo_1 : decode cX4_overTwo 1 = .ok (.getfield 47, 3) := by decide +kernel
theorem dX4_overTwo_4 : decode cX4_overTwo 4 = .ok (.iload_n 1, 1) := by decide +kernel
theorem dX4_overTwo_5 : decode cX4_overTwo 5 = .ok (.bipush 120, 2) := by decide +kernel
theorem dX4_overTwo_7 : decode cX4_overTwo 7 = .ok (.imul, 1) := by decide +kernel
theorem dX4_overTwo_8 : decode cX4_overTwo 8 = .ok (.iload_n 2, 1) := by decide +kernel
theorem dX4_overTwo_9 : decode cX4_overTwo 9 = .ok (.iadd, 1) := by decide +kernel
theorem dX4_overTwo_10 : decode cX4_overTwo 10 = .ok (.saload, 1) := by decide +kernel
theorem dX4_overTwo_11 : decode cX4_overTwo 11 = .ok (.ireturn, 1) := by decide +kernel
theorem dX4_lowOf_0 : decode cX4_lowOf 0 = .ok (.iload_n 0, 1) := by decide +kernel
theorem dX4_lowOf_1 : decode cX4_lowOf 1 = .ok (.bipush 127, 2) := by decide +kernel
theorem dX4_lowOf_3 : decode cX4_lowOf 3 = .ok (.iand, 1) := by decide +kernel
theorem dX4_lowOf_4 : decode cX4_lowOf 4 = .ok (.ireturn, 1) := by decide +kernel
theorem dX4_highOf_0 : decode cX4_highOf 0 = .ok (.iload_n 0, 1) := by decide +kernel
theorem dX4_highOf_1 : decode cX4_highOf 1 = .ok (.bipush 7, 2) := by decide +kernel
theorem dX4_highOf_3 : decode cX4_highOf 3 = .ok (.ishr, 1) := by decide +kernel
theorem dX4_highOf_4 : decode cX4_highOf 4 = .ok (.bipush 127, 2) := by decide +kernel
theorem dX4_highOf_6 : decode cX4_highOf 6 = .ok (.iand, 1) := by decide +kernel
theorem dX4_highOf_7 : decode cX4_highOf 7 = .ok (.ireturn, 1) := by decide +kernel
theorem dX4_isGoodHere_0 : decode cX4_isGoodHere 0 = .ok (.aload_n 0, 1) := by decide +kernel
theorem dX4_isGoodHere_1 : decode cX4_isGoodHere 1 = .ok (.getfield 11, 3) := by decide +kernel
theorem dX4_isGoodHere_4 : decode cX4_isGoodHere 4 = .ok (.iload_n 1, 1) := by decide +kernel
theorem dX4_isGoodHere_5 : decode cX4_isGoodHere 5 = .ok (.iaload, 1) := by decide +kernel
theorem dX4_isGoodHere_6 : decode cX4_isGoodHere 6 = .ok (.iload_n 2, 1) := by decide +kernel
theorem dX4_isGoodHere_7 : decode cX4_isGoodHere 7 = .ok (.iand, 1) := by decide +kernel
theorem dX4_isGoodHere_8 : decode cX4_isGoodHere 8 = .ok (.ifCond .eq 7, 3) := by decide +kernel
theorem dX4_isGoodHere_11 : decode cX4_isGoodHere 11 = .ok (.iconst 1, 1) := by decide +kernel
theorem dX4_isGoodHere_12 : decode cX4_isGoodHere 12 = .ok (.goto 4, 3) := by decide +kernel
theorem dX4_isGoodHere_15 : decode cX4_isGoodHere 15 = .ok (.iconst 0, 1) := by decide +kernel
theorem dX4_isGoodHere_16 : decode cX4_isGoodHere 16 = .ok (.ireturn, 1) := by decide +kernel
theorem dX4_isGoodThere_0 : decode cX4_isGoodThere 0 = .ok (.aload_n 0, 1) := by decide +kernel
theorem dX4_isGoodThere_1 : decode cX4_isGoodThere 1 = .ok (.getfield 11, 3) := by decide +kernel
theorem dX4_isGoodThere_4 : decode cX4_isGoodThere 4 = .ok (.iload_n 1, 1) := by decide +kernel
theorem dX4_isGoodThere_5 : decode cX4_isGoodThere 5 = .ok (.iaload, 1) := by decide +kernel
theorem dX4_isGoodThere_6 : decode cX4_isGoodThere 6 = .ok (.bipush 6, 2) := by decide +kernel
theorem dX4_isGoodThere_8 : decode cX4_isGoodThere 8 = .ok (.ishr, 1) := by decide +kernel
theorem dX4_isGoodThere_9 : decode cX4_isGoodThere 9 = .ok (.iload_n 2, 1) := by decide +kernel
theorem dX4_isGoodThere_10 : decode cX4_isGoodThere 10 = .ok (.iand, 1) := by decide +kernel
theorem dX4_isGoodThere_11 : decode cX4_isGoodThere 11 = .ok (.ifCond .eq 7, 3) := by decide +kernel
theorem dX4_isGoodThere_14 : decode cX4_isGoodThere 14 = .ok (.iconst 1, 1) := by decide +kernel
theorem dX4_isGoodThere_15 : decode cX4_isGoodThere 15 = .ok (.goto 4, 3) := by decide +kernel
theorem dX4_isGoodThere_18 : decode cX4_isGoodThere 18 = .ok (.iconst 0, 1) := by decide +kernel
theorem dX4_isGoodThere_19 : decode cX4_isGoodThere 19 = .ok (.ireturn, 1) := by decide +kernel
theorem dX4_isApart_0 : decode cX4_isApart 0 = .ok (.aload_n 0, 1) := by decide +kernel
theorem dX4_isApart_1 : decode cX4_isApart 1 = .ok (.iload_n 1, 1) := by decide +kernel
theorem dX4_isApart_2 : decode cX4_isApart 2 = .ok (.iload_n 2, 1) := by decide +kernel
theorem dX4_isApart_3 : decode cX4_isApart 3 = .ok (.invokevirtual 153, 3) := by decide +kernel
theorem dX4_isApart_6 : decode cX4_isApart 6 = .ok (.aload_n 0, 1) := by decide +kernel
theorem dX4_isApart_7 : decode cX4_isApart 7 = .ok (.iload_n 1, 1) := by decide +kernel
theorem dX4_isApart_8 : decode cX4_isApart 8 = .ok (.iload_n 3, 1) := by decide +kernel
theorem dX4_isApart_9 : decode cX4_isApart 9 = .ok (.invokevirtual 156, 3) := by decide +kernel
theorem dX4_isApart_12 : decode cX4_isApart 12 = .ok (.if_icmp .eq 7, 3) := by decide +kernel
theorem dX4_isApart_15 : decode cX4_isApart 15 = .ok (.iconst 1, 1) := by decide +kernel
theorem dX4_isApart_16 : decode cX4_isApart 16 = .ok (.goto 4, 3) := by decide +kernel
theorem dX4_isApart_19 : decode cX4_isApart 19 = .ok (.iconst 0, 1) := by decide +kernel
theorem dX4_isApart_20 : decode cX4_isApart 20 = .ok (.ireturn, 1) := by decide +kernel
theorem dX4_leastApart_0 : decode cX4_leastApart 0 = .ok (.bipush (-9), 2) := by decide +kernel
theorem dX4_leastApart_2 : decode cX4_leastApart 2 = .ok (.istore_n 3, 1) := by decide +kernel
theorem dX4_leastApart_3 : decode cX4_leastApart 3 = .ok (.iconst 0, 1) := by decide +kernel
theorem dX4_leastApart_4 : decode cX4_leastApart 4 = .ok (.istore 4, 2) := by decide +kernel
theorem dX4_leastApart_6 : decode cX4_leastApart 6 = .ok (.iload 4, 2) := by decide +kernel
theorem dX4_leastApart_8 : decode cX4_leastApart 8 = .ok (.aload_n 0, 1) := by decide +kernel
theorem dX4_leastApart_9 : decode cX4_leastApart 9 = .ok (.getfield 78, 3) := by decide +kernel
theorem dX4_leastApart_12 : decode cX4_leastApart 12 = .ok (.if_icmp .ge 81, 3) := by decide +kernel
theorem dX4_leastApart_15 : decode cX4_leastApart 15 = .ok (.aload_n 0, 1) := by decide +kernel
theorem dX4_leastApart_16 : decode cX4_leastApart 16 = .ok (.getfield 21, 3) := by decide +kernel
theorem dX4_leastApart_19 : decode cX4_leastApart 19 = .ok (.iload 4, 2) := by decide +kernel
theorem dX4_leastApart_21 : decode cX4_leastApart 21 = .ok (.iaload, 1) := by decide +kernel
theorem dX4_leastApart_22 : decode cX4_leastApart 22 = .ok (.bipush 32, 2) := by decide +kernel
theorem dX4_leastApart_24 : decode cX4_leastApart 24 = .ok (.if_icmp .eq 63, 3) := by decide +kernel
theorem dX4_leastApart_27 : decode cX4_leastApart 27 = .ok (.aload_n 0, 1) := by decide +kernel
theorem dX4_leastApart_28 : decode cX4_leastApart 28 = .ok (.iload 4, 2) := by decide +kernel
theorem dX4_leastApart_30 : decode cX4_leastApart 30 = .ok (.iload_n 1, 1) := by decide +kernel
theorem dX4_leastApart_31 : decode cX4_leastApart 31 = .ok (.iload_n 2, 1) := by decide +kernel
theorem dX4_leastApart_32 : decode cX4_leastApart 32 = .ok (.invokevirtual 159, 3) := by decide +kernel
theorem dX4_leastApart_35 : decode cX4_leastApart 35 = .ok (.ifCond .eq 52, 3) := by decide +kernel
theorem dX4_leastApart_38 : decode cX4_leastApart 38 = .ok (.iload_n 3, 1) := by decide +kernel
theorem dX4_leastApart_39 : decode cX4_leastApart 39 = .ok (.ifCond .lt 45, 3) := by decide +kernel
theorem dX4_leastApart_42 : decode cX4_leastApart 42 = .ok (.aload_n 0, 1) := by decide +kernel
theorem dX4_leastApart_43 : decode cX4_leastApart 43 = .ok (.getfield 21, 3) := by decide +kernel
theorem dX4_leastApart_46 : decode cX4_leastApart 46 = .ok (.iload 4, 2) := by decide +kernel
theorem dX4_leastApart_48 : decode cX4_leastApart 48 = .ok (.iaload, 1) := by decide +kernel
theorem dX4_leastApart_49 : decode cX4_leastApart 49 = .ok (.aload_n 0, 1) := by decide +kernel
theorem dX4_leastApart_50 : decode cX4_leastApart 50 = .ok (.getfield 21, 3) := by decide +kernel
theorem dX4_leastApart_53 : decode cX4_leastApart 53 = .ok (.iload_n 3, 1) := by decide +kernel
theorem dX4_leastApart_54 : decode cX4_leastApart 54 = .ok (.iaload, 1) := by decide +kernel
theorem dX4_leastApart_55 : decode cX4_leastApart 55 = .ok (.if_icmp .lt 29, 3) := by decide +kernel
theorem dX4_leastApart_58 : decode cX4_leastApart 58 = .ok (.aload_n 0, 1) := by decide +kernel
theorem dX4_leastApart_59 : decode cX4_leastApart 59 = .ok (.getfield 21, 3) := by decide +kernel
theorem dX4_leastApart_62 : decode cX4_leastApart 62 = .ok (.iload 4, 2) := by decide +kernel
theorem dX4_leastApart_64 : decode cX4_leastApart 64 = .ok (.iaload, 1) := by decide +kernel
theorem dX4_leastApart_65 : decode cX4_leastApart 65 = .ok (.aload_n 0, 1) := by decide +kernel
theorem dX4_leastApart_66 : decode cX4_leastApart 66 = .ok (.getfield 21, 3) := by decide +kernel
theorem dX4_leastApart_69 : decode cX4_leastApart 69 = .ok (.iload_n 3, 1) := by decide +kernel
theorem dX4_leastApart_70 : decode cX4_leastApart 70 = .ok (.iaload, 1) := by decide +kernel
theorem dX4_leastApart_71 : decode cX4_leastApart 71 = .ok (.if_icmp .ne 16, 3) := by decide +kernel
theorem dX4_leastApart_74 : decode cX4_leastApart 74 = .ok (.aload_n 0, 1) := by decide +kernel
theorem dX4_leastApart_75 : decode cX4_leastApart 75 = .ok (.iload 4, 2) := by decide +kernel
theorem dX4_leastApart_77 : decode cX4_leastApart 77 = .ok (.iload_n 3, 1) := by decide +kernel
theorem dX4_leastApart_78 : decode cX4_leastApart 78 = .ok (.invokevirtual 149, 3) := by decide +kernel
theorem dX4_leastApart_81 : decode cX4_leastApart 81 = .ok (.ifCond .eq 6, 3) := by decide +kernel
theorem dX4_leastApart_84 : decode cX4_leastApart 84 = .ok (.iload 4, 2) := by decide +kernel
theorem dX4_leastApart_86 : decode cX4_leastApart 86 = .ok (.istore_n 3, 1) := by decide +kernel
theorem dX4_leastApart_87 : decode cX4_leastApart 87 = .ok (.iinc 4 1, 3) := by decide +kernel
theorem dX4_leastApart_90 : decode cX4_leastApart 90 = .ok (.goto (-84), 3) := by decide +kernel
theorem dX4_leastApart_93 : decode cX4_leastApart 93 = .ok (.iload_n 3, 1) := by decide +kernel
theorem dX4_leastApart_94 : decode cX4_leastApart 94 = .ok (.ireturn, 1) := by decide +kernel
theorem dX4_tellTree_0 : decode cX4_tellTree 0 = .ok (.iload_n 1, 1) := by decide +kernel
theorem dX4_tellTree_1 : decode cX4_tellTree 1 = .ok (.ifCond .lt 11, 3) := by decide +kernel
theorem dX4_tellTree_4 : decode cX4_tellTree 4 = .ok (.iload_n 1, 1) := by decide +kernel
theorem dX4_tellTree_5 : decode cX4_tellTree 5 = .ok (.aload_n 0, 1) := by decide +kernel
theorem dX4_tellTree_6 : decode cX4_tellTree 6 = .ok (.getfield 78, 3) := by decide +kernel
theorem dX4_tellTree_9 : decode cX4_tellTree 9 = .ok (.if_icmp .lt 6, 3) := by decide +kernel
theorem dX4_tellTree_12 : decode cX4_tellTree 12 = .ok (.bipush (-9), 2) := by decide +kernel
theorem dX4_tellTree_14 : decode cX4_tellTree 14 = .ok (.ireturn, 1) := by decide +kernel
theorem dX4_tellTree_15 : decode cX4_tellTree 15 = .ok (.iload_n 2, 1) := by decide +kernel
theorem dX4_tellTree_16 : decode cX4_tellTree 16 = .ok (.ifCond .ge 10, 3) := by decide +kernel
theorem dX4_tellTree_19 : decode cX4_tellTree 19 = .ok (.aload_n 0, 1) := by decide +kernel
theorem dX4_tellTree_20 : decode cX4_tellTree 20 = .ok (.getfield 21, 3) := by decide +kernel
theorem dX4_tellTree_23 : decode cX4_tellTree 23 = .ok (.iload_n 1, 1) := by decide +kernel
theorem dX4_tellTree_24 : decode cX4_tellTree 24 = .ok (.iaload, 1) := by decide +kernel
theorem dX4_tellTree_25 : decode cX4_tellTree 25 = .ok (.ireturn, 1) := by decide +kernel
theorem dX4_tellTree_26 : decode cX4_tellTree 26 = .ok (.iload_n 2, 1) := by decide +kernel
theorem dX4_tellTree_27 : decode cX4_tellTree 27 = .ok (.aload_n 0, 1) := by decide +kernel
theorem dX4_tellTree_28 : decode cX4_tellTree 28 = .ok (.getfield 21, 3) := by decide +kernel
theorem dX4_tellTree_31 : decode cX4_tellTree 31 = .ok (.iload_n 1, 1) := by decide +kernel
theorem dX4_tellTree_32 : decode cX4_tellTree 32 = .ok (.iaload, 1) := by decide +kernel
theorem dX4_tellTree_33 : decode cX4_tellTree 33 = .ok (.if_icmp .ge 12, 3) := by decide +kernel
theorem dX4_tellTree_36 : decode cX4_tellTree 36 = .ok (.aload_n 0, 1) := by decide +kernel
theorem dX4_tellTree_37 : decode cX4_tellTree 37 = .ok (.iload_n 1, 1) := by decide +kernel
theorem dX4_tellTree_38 : decode cX4_tellTree 38 = .ok (.iload_n 2, 1) := by decide +kernel
theorem dX4_tellTree_39 : decode cX4_tellTree 39 = .ok (.invokevirtual 163, 3) := by decide +kernel
theorem dX4_tellTree_42 : decode cX4_tellTree 42 = .ok (.goto 5, 3) := by decide +kernel
theorem dX4_tellTree_45 : decode cX4_tellTree 45 = .ok (.bipush (-5), 2) := by decide +kernel
theorem dX4_tellTree_47 : decode cX4_tellTree 47 = .ok (.ireturn, 1) := by decide +kernel
theorem dX4_signAt_0 : decode cX4_signAt 0 = .ok (.iload_n 1, 1) := by decide +kernel
theorem dX4_signAt_1 : decode cX4_signAt 1 = .ok (.istore_n 3, 1) := by decide +kernel
theorem dX4_signAt_2 : decode cX4_signAt 2 = .ok (.iload_n 2, 1) := by decide +kernel
theorem dX4_signAt_3 : decode cX4_signAt 3 = .ok (.istore 4, 2) := by decide +kernel
theorem dX4_signAt_5 : decode cX4_signAt 5 = .ok (.iconst 0, 1) := by decide +kernel
theorem dX4_signAt_6 : decode cX4_signAt 6 = .ok (.istore 5, 2) := by decide +kernel
theorem dX4_signAt_8 : decode cX4_signAt 8 = .ok (.iload 5, 2) := by decide +kernel
theorem dX4_signAt_10 : decode cX4_signAt 10 = .ok (.bipush 31, 2) := by decide +kernel
theorem dX4_signAt_12 : decode cX4_signAt 12 = .ok (.if_icmp .ge 78, 3) := by decide +kernel
theorem dX4_signAt_15 : decode cX4_signAt 15 = .ok (.iload 4, 2) := by decide +kernel
theorem dX4_signAt_17 : decode cX4_signAt 17 = .ok (.ifCond .le 73, 3) := by decide +kernel
theorem dX4_signAt_20 : decode cX4_signAt 20 = .ok (.aload_n 0, 1) := by decide +kernel
theorem dX4_signAt_21 : decode cX4_signAt 21 = .ok (.getfield 27, 3) := by decide +kernel
theorem dX4_signAt_24 : decode cX4_signAt 24 = .ok (.iload_n 3, 1) := by decide +kernel
theorem dX4_signAt_25 : decode cX4_signAt 25 = .ok (.iaload, 1) := by decide +kernel
theorem dX4_signAt_26 : decode cX4_signAt 26 = .ok (.ifCond .lt 64, 3) := by decide +kernel
theorem dX4_signAt_29 : decode cX4_signAt 29 = .ok (.aload_n 0, 1) := by decide +kernel
theorem dX4_signAt_30 : decode cX4_signAt 30 = .ok (.getfield 27, 3) := by decide +kernel
theorem dX4_signAt_33 : decode cX4_signAt 33 = .ok (.iload_n 3, 1) := by decide +kernel
theorem dX4_signAt_34 : decode cX4_signAt 34 = .ok (.iaload, 1) := by decide +kernel
theorem dX4_signAt_35 : decode cX4_signAt 35 = .ok (.istore 6, 2) := by decide +kernel
theorem dX4_signAt_37 : decode cX4_signAt 37 = .ok (.iinc 4 (-1), 3) := by decide +kernel
theorem dX4_signAt_40 : decode cX4_signAt 40 = .ok (.iload 4, 2) := by decide +kernel
theorem dX4_signAt_42 : decode cX4_signAt 42 = .ok (.aload_n 0, 1) := by decide +kernel
theorem dX4_signAt_43 : decode cX4_signAt 43 = .ok (.getfield 21, 3) := by decide +kernel
theorem dX4_signAt_46 : decode cX4_signAt 46 = .ok (.iload 6, 2) := by decide +kernel
theorem dX4_signAt_48 : decode cX4_signAt 48 = .ok (.iaload, 1) := by decide +kernel
theorem dX4_signAt_49 : decode cX4_signAt 49 = .ok (.if_icmp .lt 32, 3) := by decide +kernel
theorem dX4_signAt_52 : decode cX4_signAt 52 = .ok (.aload_n 0, 1) := by decide +kernel
theorem dX4_signAt_53 : decode cX4_signAt 53 = .ok (.getfield 30, 3) := by decide +kernel
theorem dX4_signAt_56 : decode cX4_signAt 56 = .ok (.iload_n 3, 1) := by decide +kernel
theorem dX4_signAt_57 : decode cX4_signAt 57 = .ok (.iaload, 1) := by decide +kernel
theorem dX4_signAt_58 : decode cX4_signAt 58 = .ok (.ifCond .lt 23, 3) := by decide +kernel
theorem dX4_signAt_61 : decode cX4_signAt 61 = .ok (.iload 4, 2) := by decide +kernel
theorem dX4_signAt_63 : decode cX4_signAt 63 = .ok (.aload_n 0, 1) := by decide +kernel
theorem dX4_signAt_64 : decode cX4_signAt 64 = .ok (.getfield 21, 3) := by decide +kernel
theorem dX4_signAt_67 : decode cX4_signAt 67 = .ok (.iload 6, 2) := by decide +kernel
theorem dX4_signAt_69 : decode cX4_signAt 69 = .ok (.iaload, 1) := by decide +kernel
theorem dX4_signAt_70 : decode cX4_signAt 70 = .ok (.isub, 1) := by decide +kernel
theorem dX4_signAt_71 : decode cX4_signAt 71 = .ok (.istore 4, 2) := by decide +kernel
theorem dX4_signAt_73 : decode cX4_signAt 73 = .ok (.aload_n 0, 1) := by decide +kernel
theorem dX4_signAt_74 : decode cX4_signAt 74 = .ok (.getfield 30, 3) := by decide +kernel
theorem dX4_signAt_77 : decode cX4_signAt 77 = .ok (.iload_n 3, 1) := by decide +kernel
theorem dX4_signAt_78 : decode cX4_signAt 78 = .ok (.iaload, 1) := by decide +kernel
theorem dX4_signAt_79 : decode cX4_signAt 79 = .ok (.istore 6, 2) := by decide +kernel
theorem dX4_signAt_81 : decode cX4_signAt 81 = .ok (.iload 6, 2) := by decide +kernel
theorem dX4_signAt_83 : decode cX4_signAt 83 = .ok (.istore_n 3, 1) := by decide +kernel
theorem dX4_signAt_84 : decode cX4_signAt 84 = .ok (.iinc 5 1, 3) := by decide +kernel
theorem dX4_signAt_87 : decode cX4_signAt 87 = .ok (.goto (-79), 3) := by decide +kernel
theorem dX4_signAt_90 : decode cX4_signAt 90 = .ok (.aload_n 0, 1) := by decide +kernel
theorem dX4_signAt_91 : decode cX4_signAt 91 = .ok (.getfield 24, 3) := by decide +kernel
theorem dX4_signAt_94 : decode cX4_signAt 94 = .ok (.iload_n 3, 1) := by decide +kernel
theorem dX4_signAt_95 : decode cX4_signAt 95 = .ok (.iaload, 1) := by decide +kernel
theorem dX4_signAt_96 : decode cX4_signAt 96 = .ok (.ireturn, 1) := by decide +kernel
theorem dX5_init_0 : decode cX5_init 0 = .ok (.aload_n 0, 1) := by decide +kernel
theorem dX5_init_1 : decode cX5_init 1 = .ok (.invokespecial 3, 3) := by decide +kernel
theorem dX5_init_4 : decode cX5_init 4 = .ok (.aload_n 0, 1) := by decide +kernel
theorem dX5_init_5 : decode cX5_init 5 = .ok (.sipush 2048, 3) := by decide +kernel
theorem dX5_init_8 : decode cX5_init 8 = .ok (.newarray .long, 2) := by decide +kernel
theorem dX5_init_10 : decode cX5_init 10 = .ok (.putfield 13, 3) := by decide +kernel
theorem dX5_init_13 : decode cX5_init 13 = .ok (.aload_n 0, 1) := by decide +kernel
theorem dX5_init_14 : decode cX5_init 14 = .ok (.iconst 4, 1) := by decide +kernel
theorem dX5_init_15 : decode cX5_init 15 = .ok (.newarray .int, 2) := by decide +kernel
theorem dX5_init_17 : decode cX5_init 17 = .ok (.putfield 17, 3) := by decide +kernel
theorem dX5_init_20 : decode cX5_init 20 = .ok (.return_, 1) := by decide +kernel
theorem dX5_begin_0 : decode cX5_begin 0 = .ok (.aload_n 0, 1) := by decide +kernel
theorem dX5_begin_1 : decode cX5_begin 1 = .ok (.iconst 0, 1) := by decide +kernel
theorem dX5_begin_2 : decode cX5_begin 2 = .ok (.putfield 21, 3) := by decide +kernel
theorem dX5_begin_5 : decode cX5_begin 5 = .ok (.return_, 1) := by decide +kernel
theorem dX5_putLeaf_0 : decode cX5_putLeaf 0 = .ok (.iload_n 1, 1) := by decide +kernel
theorem dX5_putLeaf_1 : decode cX5_putLeaf 1 = .ok (.ifCond .lt 15, 3) := by decide +kernel
theorem dX5_putLeaf_4 : decode cX5_putLeaf 4 = .ok (.iload_n 1, 1) := by decide +kernel
theorem dX5_putLeaf_5 : decode cX5_putLeaf 5 = .ok (.iconst 4, 1) := by decide +kernel
theorem dX5_putLeaf_6 : decode cX5_putLeaf 6 = .ok (.if_icmp .ge 10, 3) := by decide +kernel
theorem dX5_putLeaf_9 : decode cX5_putLeaf 9 = .ok (.aload_n 0, 1) := by decide +kernel
theorem dX5_putLeaf_10 : decode cX5_putLeaf 10 = .ok (.getfield 17, 3) := by decide +kernel
theorem dX5_putLeaf_13 : decode cX5_putLeaf 13 = .ok (.iload_n 1, 1) := by decide +kernel
theorem dX5_putLeaf_14 : decode cX5_putLeaf 14 = .ok (.iload_n 2, 1) := by decide +kernel
theorem dX5_putLeaf_15 : decode cX5_putLeaf 15 = .ok (.iastore, 1) := by decide +kernel
theorem dX5_putLeaf_16 : decode cX5_putLeaf 16 = .ok (.return_, 1) := by decide +kernel
theorem dX5_treesOf_0 : decode cX5_treesOf 0 = .ok (.aload_n 0, 1) := by decide +kernel
theorem dX5_treesOf_1 : decode cX5_treesOf 1 = .ok (.getfield 21, 3) := by decide +kernel
theorem dX5_treesOf_4 : decode cX5_treesOf 4 = .ok (.ifCond .ne 42, 3) := by decide +kernel
theorem dX5_treesOf_7 : decode cX5_treesOf 7 = .ok (.aload_n 0, 1) := by decide +kernel
theorem dX5_treesOf_8 : decode cX5_treesOf 8 = .ok (.invokevirtual 25, 3) := by decide +kernel
theorem dX5_treesOf_11 : decode cX5_treesOf 11 = .ok (.iconst 2, 1) := by decide +kernel
theorem dX5_treesOf_12 : decode cX5_treesOf 12 = .ok (.istore 4, 2) := by decide +kernel
theorem dX5_treesOf_14 : decode cX5_treesOf 14 = .ok (.iload 4, 2) := by decide +kernel
theorem dX5_treesOf_16 : decode cX5_treesOf 16 = .ok (.bipush 16, 2) := by decide +kernel
theorem dX5_treesOf_18 : decode cX5_treesOf 18 = .ok (.if_icmp .ge 23, 3) := by decide +kernel
theorem dX5_treesOf_21 : decode cX5_treesOf 21 = .ok (.aload_n 0, 1) := by decide +kernel
theorem dX5_treesOf_22 : decode cX5_treesOf 22 = .ok (.aload_n 1, 1) := by decide +kernel
theorem dX5_treesOf_23 : decode cX5_treesOf 23 = .ok (.iload 4, 2) := by decide +kernel
theorem dX5_treesOf_25 : decode cX5_treesOf 25 = .ok (.invokevirtual 28, 3) := by decide +kernel
theorem dX5_treesOf_28 : decode cX5_treesOf 28 = .ok (.aload_n 0, 1) := by decide +kernel
theorem dX5_treesOf_29 : decode cX5_treesOf 29 = .ok (.aload_n 1, 1) := by decide +kernel
theorem dX5_treesOf_30 : decode cX5_treesOf 30 = .ok (.iload 4, 2) := by decide +kernel
theorem dX5_treesOf_32 : decode cX5_treesOf 32 = .ok (.invokevirtual 32, 3) := by decide +kernel
theorem dX5_treesOf_35 : decode cX5_treesOf 35 = .ok (.iinc 4 1, 3) := by decide +kernel
theorem dX5_treesOf_38 : decode cX5_treesOf 38 = .ok (.goto (-24), 3) := by decide +kernel
theorem dX5_treesOf_41 : decode cX5_treesOf 41 = .ok (.aload_n 0, 1) := by decide +kernel
theorem dX5_treesOf_42 : decode cX5_treesOf 42 = .ok (.iconst 1, 1) := by decide +kernel
theorem dX5_treesOf_43 : decode cX5_treesOf 43 = .ok (.putfield 21, 3) := by decide +kernel
theorem dX5_treesOf_46 : decode cX5_treesOf 46 = .ok (.aload_n 0, 1) := by decide +kernel
theorem dX5_treesOf_47 : decode cX5_treesOf 47 = .ok (.getfield 13, 3) := by decide +kernel
theorem dX5_treesOf_50 : decode cX5_treesOf 50 = .ok (.iload_n 2, 1) := by decide +kernel
theorem dX5_treesOf_51 : decode cX5_treesOf 51 = .ok (.bipush 16, 2) := by decide +kernel
theorem dX5_treesOf_53 : decode cX5_treesOf 53 = .ok (.imul, 1) := by decide +kernel
theorem dX5_treesOf_54 : decode cX5_treesOf 54 = .ok (.iload_n 3, 1) := by decide +kernel
theorem dX5_treesOf_55 : decode cX5_treesOf 55 = .ok (.iadd, 1) := by decide +kernel
theorem dX5_treesOf_56 : decode cX5_treesOf 56 = .ok (.laload, 1) := by decide +kernel
theorem dX5_treesOf_57 : decode cX5_treesOf 57 = .ok (.lreturn, 1) := by decide +kernel
theorem dX5_addLeaves_0 : decode cX5_addLeaves 0 = .ok (.iconst 0, 1) := by decide +kernel
theorem dX5_addLeaves_1 : decode cX5_addLeaves 1 = .ok (.istore_n 1, 1) := by decide +kernel
theorem dX5_addLeaves_2 : decode cX5_addLeaves 2 = .ok (.iload_n 1, 1) := by decide +kernel
theorem dX5_addLeaves_3 : decode cX5_addLeaves 3 = .ok (.sipush 2048, 3) := by decide +kernel
theorem dX5_addLeaves_6 : decode cX5_addLeaves 6 = .ok (.if_icmp .ge 16, 3) := by decide +kernel
theorem dX5_addLeaves_9 : decode cX5_addLeaves 9 = .ok (.aload_n 0, 1) := by decide +kernel
theorem dX5_addLeaves_10 : decode cX5_addLeaves 10 = .ok (.getfield 13, 3) := by decide +kernel
theorem dX5_addLeaves_13 : decode cX5_addLeaves 13 = .ok (.iload_n 1, 1) := by decide +kernel
theorem dX5_addLeaves_14 : decode cX5_addLeaves 14 = .ok (.lconst 0, 1) := by decide +kernel
theorem dX5_addLeaves_15 : decode cX5_addLeaves 15 = .ok (.lastore, 1) := by decide +kernel
theorem dX5_addLeaves_16 : decode cX5_addLeaves 16 = .ok (.iinc 1 1, 3) := by decide +kernel
theorem dX5_addLeaves_19 : decode cX5_addLeaves 19 = .ok (.goto (-17), 3) := by decide +kernel
theorem dX5_addLeaves_22 : decode cX5_addLeaves 22 = .ok (.iconst 0, 1) := by decide +kernel
theorem dX5_addLeaves_23 : decode cX5_addLeaves 23 = .ok (.istore_n 1, 1) := by decide +kernel
theorem dX5_addLeaves_24 : decode cX5_addLeaves 24 = .ok (.iload_n 1, 1) := by decide +kernel
theorem dX5_addLeaves_25 : decode cX5_addLeaves 25 = .ok (.iconst 4, 1) := by decide +kernel
theorem dX5_addLeaves_26 : decode cX5_addLeaves 26 = .ok (.if_icmp .ge 29, 3) := by decide +kernel
theorem dX5_addLeaves_29 : decode cX5_addLeaves 29 = .ok (.aload_n 0, 1) := by decide +kernel
theorem dX5_addLeaves_30 : decode cX5_addLeaves 30 = .ok (.getfield 13, 3) := by decide +kernel
theorem dX5_addLeaves_33 : decode cX5_addLeaves 33 = .ok (.aload_n 0, 1) := by decide +kernel
theorem dX5_addLeaves_34 : decode cX5_addLeaves 34 = .ok (.getfield 17, 3) := by decide +kernel
theorem dX5_addLeaves_37 : decode cX5_addLeaves 37 = .ok (.iload_n 1, 1) := by decide +kernel
theorem dX5_addLeaves_38 : decode cX5_addLeaves 38 = .ok (.iaload, 1) := by decide +kernel
theorem dX5_addLeaves_39 : decode cX5_addLeaves 39 = .ok (.bipush 16, 2) := by decide +kernel
theorem dX5_addLeaves_41 : decode cX5_addLeaves 41 = .ok (.imul, 1) := by decide +kernel
theorem dX5_addLeaves_42 : decode cX5_addLeaves 42 = .ok (.iconst 1, 1) := by decide +kernel
theorem dX5_addLeaves_43 : decode cX5_addLeaves 43 = .ok (.iadd, 1) := by decide +kernel
theorem dX5_addLeaves_44 : decode cX5_addLeaves 44 = .ok (.dup2, 1) := by decide +kernel
theorem dX5_addLeaves_45 : decode cX5_addLeaves 45 = .ok (.laload, 1) := by decide +kernel
theorem dX5_addLeaves_46 : decode cX5_addLeaves 46 = .ok (.lconst 1, 1) := by decide +kernel
theorem dX5_addLeaves_47 : decode cX5_addLeaves 47 = .ok (.ladd, 1) := by decide +kernel
theorem dX5_addLeaves_48 : decode cX5_addLeaves 48 = .ok (.lastore, 1) := by decide +kernel
theorem dX5_addLeaves_49 : decode cX5_addLeaves 49 = .ok (.iinc 1 1, 3) := by decide +kernel
theorem dX5_addLeaves_52 : decode cX5_addLeaves 52 = .ok (.goto (-28), 3) := by decide +kernel
theorem dX5_addLeaves_55 : decode cX5_addLeaves 55 = .ok (.return_, 1) := by decide +kernel
theorem dX5_addOneArmed_0 : decode cX5_addOneArmed 0 = .ok (.iconst 0, 1) := by decide +kernel
theorem dX5_addOneArmed_1 : decode cX5_addOneArmed 1 = .ok (.istore_n 3, 1) := by decide +kernel
theorem dX5_addOneArmed_2 : decode cX5_addOneArmed 2 = .ok (.iload_n 3, 1) := by decide +kernel
theorem dX5_addOneArmed_3 : decode cX5_addOneArmed 3 = .ok (.aload_n 1, 1) := by decide +kernel
theorem dX5_addOneArmed_4 : decode cX5_addOneArmed 4 = .ok (.getfield 35, 3) := by decide +kernel
theorem dX5_addOneArmed_7 : decode cX5_addOneArmed 7 = .ok (.if_icmp .ge 32, 3) := by decide +kernel
theorem dX5_addOneArmed_10 : decode cX5_addOneArmed 10 = .ok (.aload_n 0, 1) := by decide +kernel
theorem dX5_addOneArmed_11 : decode cX5_addOneArmed 11 = .ok (.aload_n 1, 1) := by decide +kernel
theorem dX5_addOneArmed_12 : decode cX5_addOneArmed 12 = .ok (.iload_n 3, 1) := by decide +kernel
theorem dX5_addOneArmed_13 : decode cX5_addOneArmed 13 = .ok (.invokevirtual 39, 3) := by decide +kernel
theorem dX5_addOneArmed_16 : decode cX5_addOneArmed 16 = .ok (.iload_n 2, 1) := by decide +kernel
theorem dX5_addOneArmed_17 : decode cX5_addOneArmed 17 = .ok (.aload_n 0, 1) := by decide +kernel
theorem dX5_addOneArmed_18 : decode cX5_addOneArmed 18 = .ok (.getfield 13, 3) := by decide +kernel
theorem dX5_addOneArmed_21 : decode cX5_addOneArmed 21 = .ok (.iload_n 3, 1) := by decide +kernel
theorem dX5_addOneArmed_22 : decode cX5_addOneArmed 22 = .ok (.bipush 16, 2) := by decide +kernel
theorem dX5_addOneArmed_24 : decode cX5_addOneArmed 24 = .ok (.imul, 1) := by decide +kernel
theorem dX5_addOneArmed_25 : decode cX5_addOneArmed 25 = .ok (.iload_n 2, 1) := by decide +kernel
theorem dX5_addOneArmed_26 : decode cX5_addOneArmed 26 = .ok (.iadd, 1) := by decide +kernel
theorem dX5_addOneArmed_27 : decode cX5_addOneArmed 27 = .ok (.iconst 1, 1) := by decide +kernel
theorem dX5_addOneArmed_28 : decode cX5_addOneArmed 28 = .ok (.isub, 1) := by decide +kernel
theorem dX5_addOneArmed_29 : decode cX5_addOneArmed 29 = .ok (.laload, 1) := by decide +kernel
theorem dX5_addOneArmed_30 : decode cX5_addOneArmed 30 = .ok (.invokevirtual 43, 3) := by decide +kernel
theorem dX5_addOneArmed_33 : decode cX5_addOneArmed 33 = .ok (.iinc 3 1, 3) := by decide +kernel
theorem dX5_addOneArmed_36 : decode cX5_addOneArmed 36 = .ok (.goto (-34), 3) := by decide +kernel
theorem dX5_addOneArmed_39 : decode cX5_addOneArmed 39 = .ok (.return_, 1) := by decide +kernel
theorem dX5_addTwoArmed_0 : decode cX5_addTwoArmed 0 = .ok (.iconst 0, 1) := by decide +kernel
theorem dX5_addTwoArmed_1 : decode cX5_addTwoArmed 1 = .ok (.istore_n 3, 1) := by decide +kernel
theorem dX5_addTwoArmed_2 : decode cX5_addTwoArmed 2 = .ok (.iload_n 3, 1) := by decide +kernel
theorem dX5_addTwoArmed_3 : decode cX5_addTwoArmed 3 = .ok (.aload_n 1, 1) := by decide +kernel
theorem dX5_addTwoArmed_4 : decode cX5_addTwoArmed 4 = .ok (.getfield 35, 3) := by decide +kernel
theorem dX5_addTwoArmed_7 : decode cX5_addTwoArmed 7 = .ok (.if_icmp .ge 114, 3) := by decide +kernel
theorem dX5_addTwoArmed_10 : decode cX5_addTwoArmed 10 = .ok (.iconst 0, 1) := by decide +kernel
theorem dX5_addTwoArmed_11 : decode cX5_addTwoArmed 11 = .ok (.istore 4, 2) := by decide +kernel
theorem dX5_addTwoArmed_13 : decode cX5_addTwoArmed 13 = .ok (.iload 4, 2) := by decide +kernel
theorem dX5_addTwoArmed_15 : decode cX5_addTwoArmed 15 = .ok (.aload_n 1, 1) := by decide +kernel
theorem dX5_addTwoArmed_16 : decode cX5_addTwoArmed 16 = .ok (.getfield 35, 3) := by decide +kernel
theorem dX5_addTwoArmed_19 : decode cX5_addTwoArmed 19 = .ok (.if_icmp .ge 96, 3) := by decide +kernel
theorem dX5_addTwoArmed_22 : decode cX5_addTwoArmed 22 = .ok (.lconst 0, 1) := by decide +kernel
theorem dX5_addTwoArmed_23 : decode cX5_addTwoArmed 23 = .ok (.lstore 5, 2) := by decide +kernel
theorem dX5_addTwoArmed_25 : decode cX5_addTwoArmed 25 = .ok (.aload_n 1, 1) := by decide +kernel
theorem dX5_addTwoArmed_26 : decode cX5_addTwoArmed 26 = .ok (.iload_n 3, 1) := by decide +kernel
theorem dX5_addTwoArmed_27 : decode cX5_addTwoArmed 27 = .ok (.invokevirtual 47, 3) := by decide +kernel
theorem dX5_addTwoArmed_30 : decode cX5_addTwoArmed 30 = .ok (.istore 7, 2) := by decide +kernel
theorem dX5_addTwoArmed_32 : decode cX5_addTwoArmed 32 = .ok (.iload 7, 2) := by decide +kernel
theorem dX5_addTwoArmed_34 : decode cX5_addTwoArmed 34 = .ok (.iload_n 2, 1) := by decide +kernel
theorem dX5_addTwoArmed_35 : decode cX5_addTwoArmed 35 = .ok (.iconst 1, 1) := by decide +kernel
theorem dX5_addTwoArmed_36 : decode cX5_addTwoArmed 36 = .ok (.isub, 1) := by decide +kernel
theorem dX5_addTwoArmed_37 : decode cX5_addTwoArmed 37 = .ok (.aload_n 1, 1) := by decide +kernel
theorem dX5_addTwoArmed_38 : decode cX5_addTwoArmed 38 = .ok (.iload 4, 2) := by decide +kernel
theorem dX5_addTwoArmed_40 : decode cX5_addTwoArmed 40 = .ok (.invokevirtual 47, 3) := by decide +kernel
theorem dX5_addTwoArmed_43 : decode cX5_addTwoArmed 43 = .ok (.isub, 1) := by decide +kernel
theorem dX5_addTwoArmed_44 : decode cX5_addTwoArmed 44 = .ok (.if_icmp .gt 44, 3) := by decide +kernel
theorem dX5_addTwoArmed_47 : decode cX5_addTwoArmed 47 = .ok (.lload 5, 2) := by decide +kernel
theorem dX5_addTwoArmed_49 : decode cX5_addTwoArmed 49 = .ok (.aload_n 0, 1) := by decide +kernel
theorem dX5_addTwoArmed_50 : decode cX5_addTwoArmed 50 = .ok (.getfield 13, 3) := by decide +kernel
theorem dX5_addTwoArmed_53 : decode cX5_addTwoArmed 53 = .ok (.iload_n 3, 1) := by decide +kernel
theorem dX5_addTwoArmed_54 : decode cX5_addTwoArmed 54 = .ok (.bipush 16, 2) := by decide +kernel
theorem dX5_addTwoArmed_56 : decode cX5_addTwoArmed 56 = .ok (.imul, 1) := by decide +kernel
theorem dX5_addTwoArmed_57 : decode cX5_addTwoArmed 57 = .ok (.iload 7, 2) := by decide +kernel
theorem dX5_addTwoArmed_59 : decode cX5_addTwoArmed 59 = .ok (.iadd, 1) := by decide +kernel
theorem dX5_addTwoArmed_60 : decode cX5_addTwoArmed 60 = .ok (.laload, 1) := by decide +kernel
theorem dX5_addTwoArmed_61 : decode cX5_addTwoArmed 61 = .ok (.aload_n 0, 1) := by decide +kernel
theorem dX5_addTwoArmed_62 : decode cX5_addTwoArmed 62 = .ok (.getfield 13, 3) := by decide +kernel
theorem dX5_addTwoArmed_65 : decode cX5_addTwoArmed 65 = .ok (.iload 4, 2) := by decide +kernel
theorem dX5_addTwoArmed_67 : decode cX5_addTwoArmed 67 = .ok (.bipush 16, 2) := by decide +kernel
theorem dX5_addTwoArmed_69 : decode cX5_addTwoArmed 69 = .ok (.imul, 1) := by decide +kernel
theorem dX5_addTwoArmed_70 : decode cX5_addTwoArmed 70 = .ok (.iload_n 2, 1) := by decide +kernel
theorem dX5_addTwoArmed_71 : decode cX5_addTwoArmed 71 = .ok (.iadd, 1) := by decide +kernel
theorem dX5_addTwoArmed_72 : decode cX5_addTwoArmed 72 = .ok (.iconst 1, 1) := by decide +kernel
theorem dX5_addTwoArmed_73 : decode cX5_addTwoArmed 73 = .ok (.isub, 1) := by decide +kernel
theorem dX5_addTwoArmed_74 : decode cX5_addTwoArmed 74 = .ok (.iload 7, 2) := by decide +kernel
theorem dX5_addTwoArmed_76 : decode cX5_addTwoArmed 76 = .ok (.isub, 1) := by decide +kernel
theorem dX5_addTwoArmed_77 : decode cX5_addTwoArmed 77 = .ok (.laload, 1) := by decide +kernel
theorem dX5_addTwoArmed_78 : decode cX5_addTwoArmed 78 = .ok (.lmul, 1) := by decide +kernel
theorem dX5_addTwoArmed_79 : decode cX5_addTwoArmed 79 = .ok (.ladd, 1) := by decide +kernel
theorem dX5_addTwoArmed_80 : decode cX5_addTwoArmed 80 = .ok (.lstore 5, 2) := by decide +kernel
theorem dX5_addTwoArmed_82 : decode cX5_addTwoArmed 82 = .ok (.iinc 7 1, 3) := by decide +kernel
theorem dX5_addTwoArmed_85 : decode cX5_addTwoArmed 85 = .ok (.goto (-53), 3) := by decide +kernel
theorem dX5_addTwoArmed_88 : decode cX5_addTwoArmed 88 = .ok (.lload 5, 2) := by decide +kernel
theorem dX5_addTwoArmed_90 : decode cX5_addTwoArmed 90 = .ok (.lconst 0, 1) := by decide +kernel
theorem dX5_addTwoArmed_91 : decode cX5_addTwoArmed 91 = .ok (.lcmp, 1) := by decide +kernel
theorem dX5_addTwoArmed_92 : decode cX5_addTwoArmed 92 = .ok (.ifCond .eq 17, 3) := by decide +kernel
theorem dX5_addTwoArmed_95 : decode cX5_addTwoArmed 95 = .ok (.aload_n 0, 1) := by decide +kernel
theorem dX5_addTwoArmed_96 : decode cX5_addTwoArmed 96 = .ok (.aload_n 1, 1) := by decide +kernel
theorem dX5_addTwoArmed_97 : decode cX5_addTwoArmed 97 = .ok (.iload_n 3, 1) := by decide +kernel
theorem dX5_addTwoArmed_98 : decode cX5_addTwoArmed 98 = .ok (.iload 4, 2) := by decide +kernel
theorem dX5_addTwoArmed_100 : decode cX5_addTwoArmed 100 = .ok (.invokevirtual 50, 3) := by decide +kernel
theorem dX5_addTwoArmed_103 : decode cX5_addTwoArmed 103 = .ok (.iload_n 2, 1) := by decide +kernel
theorem dX5_addTwoArmed_104 : decode cX5_addTwoArmed 104 = .ok (.lload 5, 2) := by decide +kernel
theorem dX5_addTwoArmed_106 : decode cX5_addTwoArmed 106 = .ok (.invokevirtual 43, 3) := by decide +kernel
theorem dX5_addTwoArmed_109 : decode cX5_addTwoArmed 109 = .ok (.iinc 4 1, 3) := by decide +kernel
theorem dX5_addTwoArmed_112 : decode cX5_addTwoArmed 112 = .ok (.goto (-99), 3) := by decide +kernel
theorem dX5_addTwoArmed_115 : decode cX5_addTwoArmed 115 = .ok (.iinc 3 1, 3) := by decide +kernel
theorem dX5_addTwoArmed_118 : decode cX5_addTwoArmed 118 = .ok (.goto (-116), 3) := by decide +kernel
theorem dX5_addTwoArmed_121 : decode cX5_addTwoArmed 121 = .ok (.return_, 1) := by decide +kernel
theorem dX5_addBoth_0 : decode cX5_addBoth 0 = .ok (.aload_n 0, 1) := by decide +kernel
theorem dX5_addBoth_1 : decode cX5_addBoth 1 = .ok (.getfield 13, 3) := by decide +kernel
theorem dX5_addBoth_4 : decode cX5_addBoth 4 = .ok (.iload_n 1, 1) := by decide +kernel
theorem dX5_addBoth_5 : decode cX5_addBoth 5 = .ok (.invokestatic 54, 3) := by decide +kernel
theorem dX5_addBoth_8 : decode cX5_addBoth 8 = .ok (.bipush 16, 2) := by decide +kernel
theorem dX5_addBoth_10 : decode cX5_addBoth 10 = .ok (.imul, 1) := by decide +kernel
theorem dX5_addBoth_11 : decode cX5_addBoth 11 = .ok (.iload_n 2, 1) := by decide +kernel
theorem dX5_addBoth_12 : decode cX5_addBoth 12 = .ok (.iadd, 1) := by decide +kernel
theorem dX5_addBoth_13 : decode cX5_addBoth 13 = .ok (.dup2, 1) := by decide +kernel
theorem dX5_addBoth_14 : decode cX5_addBoth 14 = .ok (.laload, 1) := by decide +kernel
theorem dX5_addBoth_15 : decode cX5_addBoth 15 = .ok (.lload_n 3, 1) := by decide +kernel
theorem dX5_addBoth_16 : decode cX5_addBoth 16 = .ok (.ladd, 1) := by decide +kernel
theorem dX5_addBoth_17 : decode cX5_addBoth 17 = .ok (.lastore, 1) := by decide +kernel
theorem dX5_addBoth_18 : decode cX5_addBoth 18 = .ok (.aload_n 0, 1) := by decide +kernel
theorem dX5_addBoth_19 : decode cX5_addBoth 19 = .ok (.getfield 13, 3) := by decide +kernel
theorem dX5_addBoth_22 : decode cX5_addBoth 22 = .ok (.iload_n 1, 1) := by decide +kernel
theorem dX5_addBoth_23 : decode cX5_addBoth 23 = .ok (.invokestatic 57, 3) := by decide +kernel
theorem dX5_addBoth_26 : decode cX5_addBoth 26 = .ok (.bipush 16, 2) := by decide +kernel
theorem dX5_addBoth_28 : decode cX5_addBoth 28 = .ok (.imul, 1) := by decide +kernel
theorem dX5_addBoth_29 : decode cX5_addBoth 29 = .ok (.iload_n 2, 1) := by decide +kernel
theorem dX5_addBoth_30 : decode cX5_addBoth 30 = .ok (.iadd, 1) := by decide +kernel
theorem dX5_addBoth_31 : decode cX5_addBoth 31 = .ok (.dup2, 1) := by decide +kernel
theorem dX5_addBoth_32 : decode cX5_addBoth 32 = .ok (.laload, 1) := by decide +kernel
theorem dX5_addBoth_33 : decode cX5_addBoth 33 = .ok (.lload_n 3, 1) := by decide +kernel
theorem dX5_addBoth_34 : decode cX5_addBoth 34 = .ok (.ladd, 1) := by decide +kernel
theorem dX5_addBoth_35 : decode cX5_addBoth 35 = .ok (.lastore, 1) := by decide +kernel
theorem dX5_addBoth_36 : decode cX5_addBoth 36 = .ok (.return_, 1) := by decide +kernel
theorem dX6_init_0 : decode cX6_init 0 = .ok (.aload_n 0, 1) := by decide +kernel
theorem dX6_init_1 : decode cX6_init 1 = .ok (.invokespecial 3, 3) := by decide +kernel
theorem dX6_init_4 : decode cX6_init 4 = .ok (.aload_n 0, 1) := by decide +kernel
theorem dX6_init_5 : decode cX6_init 5 = .ok (.sipush 300, 3) := by decide +kernel
theorem dX6_init_8 : decode cX6_init 8 = .ok (.newarray .int, 2) := by decide +kernel
theorem dX6_init_10 : decode cX6_init 10 = .ok (.putfield 9, 3) := by decide +kernel
theorem dX6_init_13 : decode cX6_init 13 = .ok (.return_, 1) := by decide +kernel
theorem dX6_put_0 : decode cX6_put 0 = .ok (.aload_n 0, 1) := by decide +kernel
theorem dX6_put_1 : decode cX6_put 1 = .ok (.getfield 15, 3) := by decide +kernel
theorem dX6_put_4 : decode cX6_put 4 = .ok (.sipush 300, 3) := by decide +kernel
theorem dX6_put_7 : decode cX6_put 7 = .ok (.if_icmp .ge 23, 3) := by decide +kernel
theorem dX6_put_10 : decode cX6_put 10 = .ok (.aload_n 0, 1) := by decide +kernel
theorem dX6_put_11 : decode cX6_put 11 = .ok (.getfield 9, 3) := by decide +kernel
theorem dX6_put_14 : decode cX6_put 14 = .ok (.aload_n 0, 1) := by decide +kernel
theorem dX6_put_15 : decode cX6_put 15 = .ok (.getfield 15, 3) := by decide +kernel
theorem dX6_put_18 : decode cX6_put 18 = .ok (.iload_n 1, 1) := by decide +kernel
theorem dX6_put_19 : decode cX6_put 19 = .ok (.iastore, 1) := by decide +kernel
theorem dX6_put_20 : decode cX6_put 20 = .ok (.aload_n 0, 1) := by decide +kernel
theorem dX6_put_21 : decode cX6_put 21 = .ok (.dup, 1) := by decide +kernel
theorem dX6_put_22 : decode cX6_put 22 = .ok (.getfield 15, 3) := by decide +kernel
theorem dX6_put_25 : decode cX6_put 25 = .ok (.iconst 1, 1) := by decide +kernel
theorem dX6_put_26 : decode cX6_put 26 = .ok (.iadd, 1) := by decide +kernel
theorem dX6_put_27 : decode cX6_put 27 = .ok (.putfield 15, 3) := by decide +kernel
theorem dX6_put_30 : decode cX6_put 30 = .ok (.return_, 1) := by decide +kernel
theorem dX6_byteAt_0 : decode cX6_byteAt 0 = .ok (.iload_n 1, 1) := by decide +kernel
theorem dX6_byteAt_1 : decode cX6_byteAt 1 = .ok (.ifCond .lt 27, 3) := by decide +kernel
theorem dX6_byteAt_4 : decode cX6_byteAt 4 = .ok (.iload_n 1, 1) := by decide +kernel
theorem dX6_byteAt_5 : decode cX6_byteAt 5 = .ok (.aload_n 0, 1) := by decide +kernel
theorem dX6_byteAt_6 : decode cX6_byteAt 6 = .ok (.getfield 15, 3) := by decide +kernel
theorem dX6_byteAt_9 : decode cX6_byteAt 9 = .ok (.if_icmp .ge 19, 3) := by decide +kernel
theorem dX6_byteAt_12 : decode cX6_byteAt 12 = .ok (.iload_n 1, 1) := by decide +kernel
theorem dX6_byteAt_13 : decode cX6_byteAt 13 = .ok (.sipush 300, 3) := by decide +kernel
theorem dX6_byteAt_16 : decode cX6_byteAt 16 = .ok (.if_icmp .ge 12, 3) := by decide +kernel
theorem dX6_byteAt_19 : decode cX6_byteAt 19 = .ok (.aload_n 0, 1) := by decide +kernel
theorem dX6_byteAt_20 : decode cX6_byteAt 20 = .ok (.getfield 9, 3) := by decide +kernel
theorem dX6_byteAt_23 : decode cX6_byteAt 23 = .ok (.iload_n 1, 1) := by decide +kernel
theorem dX6_byteAt_24 : decode cX6_byteAt 24 = .ok (.iaload, 1) := by decide +kernel
theorem dX6_byteAt_25 : decode cX6_byteAt 25 = .ok (.goto 4, 3) := by decide +kernel
theorem dX6_byteAt_28 : decode cX6_byteAt 28 = .ok (.iconst (-1), 1) := by decide +kernel
theorem dX6_byteAt_29 : decode cX6_byteAt 29 = .ok (.ireturn, 1) := by decide +kernel
theorem dX6_begin_0 : decode cX6_begin 0 = .ok (.aload_n 0, 1) := by decide +kernel
theorem dX6_begin_1 : decode cX6_begin 1 = .ok (.iconst 0, 1) := by decide +kernel
theorem dX6_begin_2 : decode cX6_begin 2 = .ok (.putfield 19, 3) := by decide +kernel
theorem dX6_begin_5 : decode cX6_begin 5 = .ok (.aload_n 0, 1) := by decide +kernel
theorem dX6_begin_6 : decode cX6_begin 6 = .ok (.invokevirtual 22, 3) := by decide +kernel
theorem dX6_begin_9 : decode cX6_begin 9 = .ok (.return_, 1) := by decide +kernel
theorem dX6_next_0 : decode cX6_next 0 = .ok (.iconst 0, 1) := by decide +kernel
theorem dX6_next_1 : decode cX6_next 1 = .ok (.istore_n 1, 1) := by decide +kernel
theorem dX6_next_2 : decode cX6_next 2 = .ok (.iload_n 1, 1) := by decide +kernel
theorem dX6_next_3 : decode cX6_next 3 = .ok (.sipush 300, 3) := by decide +kernel
theorem dX6_next_6 : decode cX6_next 6 = .ok (.if_icmp .ge 32, 3) := by decide +kernel
theorem dX6_next_9 : decode cX6_next 9 = .ok (.aload_n 0, 1) := by decide +kernel
theorem dX6_next_10 : decode cX6_next 10 = .ok (.aload_n 0, 1) := by decide +kernel
theorem dX6_next_11 : decode cX6_next 11 = .ok (.getfield 19, 3) := by decide +kernel
theorem dX6_next_14 : decode cX6_next 14 = .ok (.invokevirtual 25, 3) := by decide +kernel
theorem dX6_next_17 : decode cX6_next 17 = .ok (.bipush 32, 2) := by decide +kernel
theorem dX6_next_19 : decode cX6_next 19 = .ok (.if_icmp .ne 19, 3) := by decide +kernel
theorem dX6_next_22 : decode cX6_next 22 = .ok (.aload_n 0, 1) := by decide +kernel
theorem dX6_next_23 : decode cX6_next 23 = .ok (.dup, 1) := by decide +kernel
theorem dX6_next_24 : decode cX6_next 24 = .ok (.getfield 19, 3) := by decide +kernel
theorem dX6_next_27 : decode cX6_next 27 = .ok (.iconst 1, 1) := by decide +kernel
theorem dX6_next_28 : decode cX6_next 28 = .ok (.iadd, 1) := by decide +kernel
theorem dX6_next_29 : decode cX6_next 29 = .ok (.putfield 19, 3) := by decide +kernel
theorem dX6_next_32 : decode cX6_next 32 = .ok (.iinc 1 1, 3) := by decide +kernel
theorem dX6_next_35 : decode cX6_next 35 = .ok (.goto (-33), 3) := by decide +kernel
theorem dX6_next_38 : decode cX6_next 38 = .ok (.aload_n 0, 1) := by decide +kernel
theorem dX6_next_39 : decode cX6_next 39 = .ok (.aload_n 0, 1) := by decide +kernel
theorem dX6_next_40 : decode cX6_next 40 = .ok (.getfield 19, 3) := by decide +kernel
theorem dX6_next_43 : decode cX6_next 43 = .ok (.putfield 29, 3) := by decide +kernel
theorem dX6_next_46 : decode cX6_next 46 = .ok (.aload_n 0, 1) := by decide +kernel
theorem dX6_next_47 : decode cX6_next 47 = .ok (.iconst 0, 1) := by decide +kernel
theorem dX6_next_48 : decode cX6_next 48 = .ok (.putfield 32, 3) := by decide +kernel
theorem dX6_next_51 : decode cX6_next 51 = .ok (.aload_n 0, 1) := by decide +kernel
theorem dX6_next_52 : decode cX6_next 52 = .ok (.aload_n 0, 1) := by decide +kernel
theorem dX6_next_53 : decode cX6_next 53 = .ok (.getfield 19, 3) := by decide +kernel
theorem dX6_next_56 : decode cX6_next 56 = .ok (.invokevirtual 25, 3) := by decide +kernel
theorem dX6_next_59 : decode cX6_next 59 = .ok (.istore_n 1, 1) := by decide +kernel
theorem dX6_next_60 : decode cX6_next 60 = .ok (.iload_n 1, 1) := by decide +kernel
theorem dX6_next_61 : decode cX6_next 61 = .ok (.ifCond .ge 11, 3) := by decide +kernel
theorem dX6_next_64 : decode cX6_next 64 = .ok (.aload_n 0, 1) := by decide +kernel
theorem dX6_next_65 : decode cX6_next 65 = .ok (.iconst 0, 1) := by decide +kernel
theorem dX6_next_66 : decode cX6_next 66 = .ok (.putfield 35, 3) := by decide +kernel
theorem dX6_next_69 : decode cX6_next 69 = .ok (.goto 56, 3) := by decide +kernel
theorem dX6_next_72 : decode cX6_next 72 = .ok (.iload_n 1, 1) := by decide +kernel
theorem dX6_next_73 : decode cX6_next 73 = .ok (.invokestatic 38, 3) := by decide +kernel
theorem dX6_next_76 : decode cX6_next 76 = .ok (.ifCond .eq 10, 3) := by decide +kernel
theorem dX6_next_79 : decode cX6_next 79 = .ok (.aload_n 0, 1) := by decide +kernel
theorem dX6_next_80 : decode cX6_next 80 = .ok (.invokevirtual 42, 3) := by decide +kernel
theorem dX6_next_83 : decode cX6_next 83 = .ok (.goto 42, 3) := by decide +kernel
theorem dX6_next_86 : decode cX6_next 86 = .ok (.iload_n 1, 1) := by decide +kernel
theorem dX6_next_87 : decode cX6_next 87 = .ok (.invokestatic 45, 3) := by decide +kernel
theorem dX6_next_90 : decode cX6_next 90 = .ok (.ifCond .eq 10, 3) := by decide +kernel
theorem dX6_next_93 : decode cX6_next 93 = .ok (.aload_n 0, 1) := by decide +kernel
theorem dX6_next_94 : decode cX6_next 94 = .ok (.invokevirtual 48, 3) := by decide +kernel
theorem dX6_next_97 : decode cX6_next 97 = .ok (.goto 28, 3) := by decide +kernel
theorem dX6_next_100 : decode cX6_next 100 = .ok (.aload_n 0, 1) := by decide +kernel
theorem dX6_next_101 : decode cX6_next 101 = .ok (.iload_n 1, 1) := by decide +kernel
theorem dX6_next_102 : decode cX6_next 102 = .ok (.bipush 59, 2) := by decide +kernel
theorem dX6_next_104 : decode cX6_next 104 = .ok (.if_icmp .ne 7, 3) := by decide +kernel
theorem dX6_next_107 : decode cX6_next 107 = .ok (.iconst 4, 1) := by decide +kernel
theorem dX6_next_108 : decode cX6_next 108 = .ok (.goto 4, 3) := by decide +kernel
theorem dX6_next_111 : decode cX6_next 111 = .ok (.iconst 5, 1) := by decide +kernel
theorem dX6_next_112 : decode cX6_next 112 = .ok (.putfield 35, 3) := by decide +kernel
theorem dX6_next_115 : decode cX6_next 115 = .ok (.aload_n 0, 1) := by decide +kernel
theorem dX6_next_116 : decode cX6_next 116 = .ok (.dup, 1) := by decide +kernel
theorem dX6_next_117 : decode cX6_next 117 = .ok (.getfield 19, 3) := by decide +kernel
theorem dX6_next_120 : decode cX6_next 120 = .ok (.iconst 1, 1) := by decide +kernel
theorem dX6_next_121 : decode cX6_next 121 = .ok (.iadd, 1) := by decide +kernel
theorem dX6_next_122 : decode cX6_next 122 = .ok (.putfield 19, 3) := by decide +kernel
theorem dX6_next_125 : decode cX6_next 125 = .ok (.return_, 1) := by decide +kernel
theorem dX6_isStateNext_0 : decode cX6_isStateNext 0 = .ok (.aload_n 0, 1) := by decide +kernel
theorem dX6_isStateNext_1 : decode cX6_isStateNext 1 = .ok (.getfield 35, 3) := by decide +kernel
theorem dX6_isStateNext_4 : decode cX6_isStateNext 4 = .ok (.iconst 3, 1) := by decide +kernel
theorem dX6_isStateNext_5 : decode cX6_isStateNext 5 = .ok (.if_icmp .ne 17, 3) := by decide +kernel
theorem dX6_isStateNext_8 : decode cX6_isStateNext 8 = .ok (.aload_n 0, 1) := by decide +kernel
theorem dX6_isStateNext_9 : decode cX6_isStateNext 9 = .ok (.getfield 32, 3) := by decide +kernel
theorem dX6_isStateNext_12 : decode cX6_isStateNext 12 = .ok (.invokestatic 51, 3) := by decide +kernel
theorem dX6_isStateNext_15 : decode cX6_isStateNext 15 = .ok (.ifCond .eq 7, 3) := by decide +kernel
theorem dX6_isStateNext_18 : decode cX6_isStateNext 18 = .ok (.iconst 1, 1) := by decide +kernel
theorem dX6_isStateNext_19 : decode cX6_isStateNext 19 = .ok (.goto 4, 3) := by decide +kernel
theorem dX6_isStateNext_22 : decode cX6_isStateNext 22 = .ok (.iconst 0, 1) := by decide +kernel
theorem dX6_isStateNext_23 : decode cX6_isStateNext 23 = .ok (.ireturn, 1) := by decide +kernel
theorem dX6_readWord_0 : decode cX6_readWord 0 = .ok (.iconst 0, 1) := by decide +kernel
theorem dX6_readWord_1 : decode cX6_readWord 1 = .ok (.istore_n 1, 1) := by decide +kernel
theorem dX6_readWord_2 : decode cX6_readWord 2 = .ok (.iload_n 1, 1) := by decide +kernel
theorem dX6_readWord_3 : decode cX6_readWord 3 = .ok (.sipush 300, 3) := by decide +kernel
theorem dX6_readWord_6 : decode cX6_readWord 6 = .ok (.if_icmp .ge 33, 3) := by decide +kernel
theorem dX6_readWord_9 : decode cX6_readWord 9 = .ok (.aload_n 0, 1) := by decide +kernel
theorem dX6_readWord_10 : decode cX6_readWord 10 = .ok (.aload_n 0, 1) := by decide +kernel
theorem dX6_readWord_11 : decode cX6_readWord 11 = .ok (.getfield 19, 3) := by decide +kernel
theorem dX6_readWord_14 : decode cX6_readWord 14 = .ok (.invokevirtual 25, 3) := by decide +kernel
theorem dX6_readWord_17 : decode cX6_readWord 17 = .ok (.invokestatic 38, 3) := by decide +kernel
theorem dX6_readWord_20 : decode cX6_readWord 20 = .ok (.ifCond .eq 19, 3) := by decide +kernel
theorem dX6_readWord_23 : decode cX6_readWord 23 = .ok (.aload_n 0, 1) := by decide +kernel
theorem dX6_readWord_24 : decode cX6_readWord 24 = .ok (.dup, 1) := by decide +kernel
theorem dX6_readWord_25 : decode cX6_readWord 25 = .ok (.getfield 19, 3) := by decide +kernel
theorem dX6_readWord_28 : decode cX6_readWord 28 = .ok (.iconst 1, 1) := by decide +kernel
theorem dX6_readWord_29 : decode cX6_readWord 29 = .ok (.iadd, 1) := by decide +kernel
theorem dX6_readWord_30 : decode cX6_readWord 30 = .ok (.putfield 19, 3) := by decide +kernel
theorem dX6_readWord_33 : decode cX6_readWord 33 = .ok (.iinc 1 1, 3) := by decide +kernel
theorem dX6_readWord_36 : decode cX6_readWord 36 = .ok (.goto (-34), 3) := by decide +kernel
theorem dX6_readWord_39 : decode cX6_readWord 39 = .ok (.aload_n 0, 1) := by decide +kernel
theorem dX6_readWord_40 : decode cX6_readWord 40 = .ok (.aload_n 0, 1) := by decide +kernel
theorem dX6_readWord_41 : decode cX6_readWord 41 = .ok (.getfield 29, 3) := by decide +kernel
theorem dX6_readWord_44 : decode cX6_readWord 44 = .ok (.invokevirtual 25, 3) := by decide +kernel
theorem dX6_readWord_47 : decode cX6_readWord 47 = .ok (.bipush 97, 2) := by decide +kernel
theorem dX6_readWord_49 : decode cX6_readWord 49 = .ok (.isub, 1) := by decide +kernel
theorem dX6_readWord_50 : decode cX6_readWord 50 = .ok (.istore_n 1, 1) := by decide +kernel
theorem dX6_readWord_51 : decode cX6_readWord 51 = .ok (.aload_n 0, 1) := by decide +kernel
theorem dX6_readWord_52 : decode cX6_readWord 52 = .ok (.getfield 19, 3) := by decide +kernel
theorem dX6_readWord_55 : decode cX6_readWord 55 = .ok (.aload_n 0, 1) := by decide +kernel
theorem dX6_readWord_56 : decode cX6_readWord 56 = .ok (.getfield 29, 3) := by decide +kernel
theorem dX6_readWord_59 : decode cX6_readWord 59 = .ok (.isub, 1) := by decide +kernel
theorem dX6_readWord_60 : decode cX6_readWord 60 = .ok (.iconst 1, 1) := by decide +kernel
theorem dX6_readWord_61 : decode cX6_readWord 61 = .ok (.if_icmp .ne 22, 3) := by decide +kernel
theorem dX6_readWord_64 : decode cX6_readWord 64 = .ok (.iload_n 1, 1) := by decide +kernel
theorem dX6_readWord_65 : decode cX6_readWord 65 = .ok (.bipush 8, 2) := by decide +kernel
theorem dX6_readWord_67 : decode cX6_readWord 67 = .ok (.if_icmp .ge 16, 3) := by decide +kernel
theorem dX6_readWord_70 : decode cX6_readWord 70 = .ok (.aload_n 0, 1) := by decide +kernel
theorem dX6_readWord_71 : decode cX6_readWord 71 = .ok (.iconst 1, 1) := by decide +kernel
theorem dX6_readWord_72 : decode cX6_readWord 72 = .ok (.putfield 35, 3) := by decide +kernel
theorem dX6_readWord_75 : decode cX6_readWord 75 = .ok (.aload_n 0, 1) := by decide +kernel
theorem dX6_readWord_76 : decode cX6_readWord 76 = .ok (.iload_n 1, 1) := by decide +kernel
theorem dX6_readWord_77 : decode cX6_readWord 77 = .ok (.putfield 32, 3) := by decide +kernel
theorem dX6_readWord_80 : decode cX6_readWord 80 = .ok (.goto 19, 3) := by decide +kernel
theorem dX6_readWord_83 : decode cX6_readWord 83 = .ok (.aload_n 0, 1) := by decide +kernel
theorem dX6_readWord_84 : decode cX6_readWord 84 = .ok (.aload_n 0, 1) := by decide +kernel
theorem dX6_readWord_85 : decode cX6_readWord 85 = .ok (.invokevirtual 54, 3) := by decide +kernel
theorem dX6_readWord_88 : decode cX6_readWord 88 = .ok (.ifCond .eq 7, 3) := by decide +kernel
theorem dX6_readWord_91 : decode cX6_readWord 91 = .ok (.iconst 2, 1) := by decide +kernel
theorem dX6_readWord_92 : decode cX6_readWord 92 = .ok (.goto 4, 3) := by decide +kernel
theorem dX6_readWord_95 : decode cX6_readWord 95 = .ok (.iconst 5, 1) := by decide +kernel
theorem dX6_readWord_96 : decode cX6_readWord 96 = .ok (.putfield 35, 3) := by decide +kernel
theorem dX6_readWord_99 : decode cX6_readWord 99 = .ok (.return_, 1) := by decide +kernel
theorem dX6_isGoodWord_0 : decode cX6_isGoodWord 0 = .ok (.aload_n 0, 1) := by decide +kernel
theorem dX6_isGoodWord_1 : decode cX6_isGoodWord 1 = .ok (.getfield 19, 3) := by decide +kernel
theorem dX6_isGoodWord_4 : decode cX6_isGoodWord 4 = .ok (.aload_n 0, 1) := by decide +kernel
theorem dX6_isGoodWord_5 : decode cX6_isGoodWord 5 = .ok (.getfield 29, 3) := by decide +kernel
theorem dX6_isGoodWord_8 : decode cX6_isGoodWord 8 = .ok (.isub, 1) := by decide +kernel
theorem dX6_isGoodWord_9 : decode cX6_isGoodWord 9 = .ok (.iconst 4, 1) := by decide +kernel
theorem dX6_isGoodWord_10 : decode cX6_isGoodWord 10 = .ok (.if_icmp .ne 65, 3) := by decide +kernel
theorem dX6_isGoodWord_13 : decode cX6_isGoodWord 13 = .ok (.aload_n 0, 1) := by decide +kernel
theorem dX6_isGoodWord_14 : decode cX6_isGoodWord 14 = .ok (.aload_n 0, 1) := by decide +kernel
theorem dX6_isGoodWord_15 : decode cX6_isGoodWord 15 = .ok (.getfield 29, 3) := by decide +kernel
theorem dX6_isGoodWord_18 : decode cX6_isGoodWord 18 = .ok (.invokevirtual 25, 3) := by decide +kernel
theorem dX6_isGoodWord_21 : decode cX6_isGoodWord 21 = .ok (.bipush 103, 2) := by decide +kernel
theorem dX6_isGoodWord_23 : decode cX6_isGoodWord 23 = .ok (.if_icmp .ne 52, 3) := by decide +kernel
theorem dX6_isGoodWord_26 : decode cX6_isGoodWord 26 = .ok (.aload_n 0, 1) := by decide +kernel
theorem dX6_isGoodWord_27 : decode cX6_isGoodWord 27 = .ok (.aload_n 0, 1) := by decide +kernel
theorem dX6_isGoodWord_28 : decode cX6_isGoodWord 28 = .ok (.getfield 29, 3) := by decide +kernel
theorem dX6_isGoodWord_31 : decode cX6_isGoodWord 31 = .ok (.iconst 1, 1) := by decide +kernel
theorem dX6_isGoodWord_32 : decode cX6_isGoodWord 32 = .ok (.iadd, 1) := by decide +kernel
theorem dX6_isGoodWord_33 : decode cX6_isGoodWord 33 = .ok (.invokevirtual 25, 3) := by decide +kernel
theorem dX6_isGoodWord_36 : decode cX6_isGoodWord 36 = .ok (.bipush 111, 2) := by decide +kernel
theorem dX6_isGoodWord_38 : decode cX6_isGoodWord 38 = .ok (.if_icmp .ne 37, 3) := by decide +kernel
theorem dX6_isGoodWord_41 : decode cX6_isGoodWord 41 = .ok (.aload_n 0, 1) := by decide +kernel
theorem dX6_isGoodWord_42 : decode cX6_isGoodWord 42 = .ok (.aload_n 0, 1) := by decide +kernel
theorem dX6_isGoodWord_43 : decode cX6_isGoodWord 43 = .ok (.getfield 29, 3) := by decide +kernel
theorem dX6_isGoodWord_46 : decode cX6_isGoodWord 46 = .ok (.iconst 2, 1) := by decide +kernel
theorem dX6_isGoodWord_47 : decode cX6_isGoodWord 47 = .ok (.iadd, 1) := by decide +kernel
theorem dX6_isGoodWord_48 : decode cX6_isGoodWord 48 = .ok (.invokevirtual 25, 3) := by decide +kernel
theorem dX6_isGoodWord_51 : decode cX6_isGoodWord 51 = .ok (.bipush 111, 2) := by decide +kernel
theorem dX6_isGoodWord_53 : decode cX6_isGoodWord 53 = .ok (.if_icmp .ne 22, 3) := by decide +kernel
theorem dX6_isGoodWord_56 : decode cX6_isGoodWord 56 = .ok (.aload_n 0, 1) := by decide +kernel
theorem dX6_isGoodWord_57 : decode cX6_isGoodWord 57 = .ok (.aload_n 0, 1) := by decide +kernel
theorem dX6_isGoodWord_58 : decode cX6_isGoodWord 58 = .ok (.getfield 29, 3) := by decide +kernel
theorem dX6_isGoodWord_61 : decode cX6_isGoodWord 61 = .ok (.iconst 3, 1) := by decide +kernel
theorem dX6_isGoodWord_62 : decode cX6_isGoodWord 62 = .ok (.iadd, 1) := by decide +kernel
theorem dX6_isGoodWord_63 : decode cX6_isGoodWord 63 = .ok (.invokevirtual 25, 3) := by decide +kernel
theorem dX6_isGoodWord_66 : decode cX6_isGoodWord 66 = .ok (.bipush 100, 2) := by decide +kernel
theorem dX6_isGoodWord_68 : decode cX6_isGoodWord 68 = .ok (.if_icmp .ne 7, 3) := by decide +kernel
theorem dX6_isGoodWord_71 : decode cX6_isGoodWord 71 = .ok (.iconst 1, 1) := by decide +kernel
theorem dX6_isGoodWord_72 : decode cX6_isGoodWord 72 = .ok (.goto 4, 3) := by decide +kernel
theorem dX6_isGoodWord_75 : decode cX6_isGoodWord 75 = .ok (.iconst 0, 1) := by decide +kernel
theorem dX6_isGoodWord_76 : decode cX6_isGoodWord 76 = .ok (.ireturn, 1) := by decide +kernel
theorem dX6_readNumber_0 : decode cX6_readNumber 0 = .ok (.iconst 0, 1) := by decide +kernel
theorem dX6_readNumber_1 : decode cX6_readNumber 1 = .ok (.istore_n 1, 1) := by decide +kernel
theorem dX6_readNumber_2 : decode cX6_readNumber 2 = .ok (.iload_n 1, 1) := by decide +kernel
theorem dX6_readNumber_3 : decode cX6_readNumber 3 = .ok (.sipush 300, 3) := by decide +kernel
theorem dX6_readNumber_6 : decode cX6_readNumber 6 = .ok (.if_icmp .ge 61, 3) := by decide +kernel
theorem dX6_readNumber_9 : decode cX6_readNumber 9 = .ok (.aload_n 0, 1) := by decide +kernel
theorem dX6_readNumber_10 : decode cX6_readNumber 10 = .ok (.aload_n 0, 1) := by decide +kernel
theorem dX6_readNumber_11 : decode cX6_readNumber 11 = .ok (.getfield 19, 3) := by decide +kernel
theorem dX6_readNumber_14 : decode cX6_readNumber 14 = .ok (.invokevirtual 25, 3) := by decide +kernel
theorem dX6_readNumber_17 : decode cX6_readNumber 17 = .ok (.invokestatic 45, 3) := by decide +kernel
theorem dX6_readNumber_20 : decode cX6_readNumber 20 = .ok (.ifCond .eq 47, 3) := by decide +kernel
theorem dX6_readNumber_23 : decode cX6_readNumber 23 = .ok (.iload_n 1, 1) := by decide +kernel
theorem dX6_readNumber_24 : decode cX6_readNumber 24 = .ok (.iconst 2, 1) := by decide +kernel
theorem dX6_readNumber_25 : decode cX6_readNumber 25 = .ok (.if_icmp .ge 26, 3) := by decide +kernel
theorem dX6_readNumber_28 : decode cX6_readNumber 28 = .ok (.aload_n 0, 1) := by decide +kernel
theorem dX6_readNumber_29 : decode cX6_readNumber 29 = .ok (.aload_n 0, 1) := by decide +kernel
theorem dX6_readNumber_30 : decode cX6_readNumber 30 = .ok (.getfield 32, 3) := by decide +kernel
theorem dX6_readNumber_33 : decode cX6_readNumber 33 = .ok (.bipush 10, 2) := by decide +kernel
theorem dX6_readNumber_35 : decode cX6_readNumber 35 = .ok (.imul, 1) := by decide +kernel
theorem dX6_readNumber_36 : decode cX6_readNumber 36 = .ok (.aload_n 0, 1) := by decide +kernel
theorem dX6_readNumber_37 : decode cX6_readNumber 37 = .ok (.aload_n 0, 1) := by decide +kernel
theorem dX6_readNumber_38 : decode cX6_readNumber 38 = .ok (.getfield 19, 3) := by decide +kernel
theorem dX6_readNumber_41 : decode cX6_readNumber 41 = .ok (.invokevirtual 25, 3) := by decide +kernel
theorem dX6_readNumber_44 : decode cX6_readNumber 44 = .ok (.iadd, 1) := by decide +kernel
theorem dX6_readNumber_45 : decode cX6_readNumber 45 = .ok (.bipush 48, 2) := by decide +kernel
theorem dX6_readNumber_47 : decode cX6_readNumber 47 = .ok (.isub, 1) := by decide +kernel
theorem dX6_readNumber_48 : decode cX6_readNumber 48 = .ok (.putfield 32, 3) := by decide +kernel
theorem dX6_readNumber_51 : decode cX6_readNumber 51 = .ok (.aload_n 0, 1) := by decide +kernel
theorem dX6_readNumber_52 : decode cX6_readNumber 52 = .ok (.dup, 1) := by decide +kernel
theorem dX6_readNumber_53 : decode cX6_readNumber 53 = .ok (.getfield 19, 3) := by decide +kernel
theorem dX6_readNumber_56 : decode cX6_readNumber 56 = .ok (.iconst 1, 1) := by decide +kernel
theorem dX6_readNumber_57 : decode cX6_readNumber 57 = .ok (.iadd, 1) := by decide +kernel
theorem dX6_readNumber_58 : decode cX6_readNumber 58 = .ok (.putfield 19, 3) := by decide +kernel
theorem dX6_readNumber_61 : decode cX6_readNumber 61 = .ok (.iinc 1 1, 3) := by decide +kernel
theorem dX6_readNumber_64 : decode cX6_readNumber 64 = .ok (.goto (-62), 3) := by decide +kernel
theorem dX6_readNumber_67 : decode cX6_readNumber 67 = .ok (.aload_n 0, 1) := by decide +kernel
theorem dX6_readNumber_68 : decode cX6_readNumber 68 = .ok (.getfield 19, 3) := by decide +kernel
theorem dX6_readNumber_71 : decode cX6_readNumber 71 = .ok (.aload_n 0, 1) := by decide +kernel
theorem dX6_readNumber_72 : decode cX6_readNumber 72 = .ok (.getfield 29, 3) := by decide +kernel
theorem dX6_readNumber_75 : decode cX6_readNumber 75 = .ok (.isub, 1) := by decide +kernel
theorem dX6_readNumber_76 : decode cX6_readNumber 76 = .ok (.istore_n 1, 1) := by decide +kernel
theorem dX6_readNumber_77 : decode cX6_readNumber 77 = .ok (.iload_n 1, 1) := by decide +kernel
theorem dX6_readNumber_78 : decode cX6_readNumber 78 = .ok (.iconst 1, 1) := by decide +kernel
theorem dX6_readNumber_79 : decode cX6_readNumber 79 = .ok (.if_icmp .le 20, 3) := by decide +kernel
theorem dX6_readNumber_82 : decode cX6_readNumber 82 = .ok (.aload_n 0, 1) := by decide +kernel
theorem dX6_readNumber_83 : decode cX6_readNumber 83 = .ok (.aload_n 0, 1) := by decide +kernel
theorem dX6_readNumber_84 : decode cX6_readNumber 84 = .ok (.getfield 29, 3) := by decide +kernel
theorem dX6_readNumber_87 : decode cX6_readNumber 87 = .ok (.invokevirtual 25, 3) := by decide +kernel
theorem dX6_readNumber_90 : decode cX6_readNumber 90 = .ok (.bipush 48, 2) := by decide +kernel
theorem dX6_readNumber_92 : decode cX6_readNumber 92 = .ok (.if_icmp .ne 7, 3) := by decide +kernel
theorem dX6_readNumber_95 : decode cX6_readNumber 95 = .ok (.iconst 1, 1) := by decide +kernel
theorem dX6_readNumber_96 : decode cX6_readNumber 96 = .ok (.goto 4, 3) := by decide +kernel
theorem dX6_readNumber_99 : decode cX6_readNumber 99 = .ok (.iconst 0, 1) := by decide +kernel
theorem dX6_readNumber_100 : decode cX6_readNumber 100 = .ok (.istore_n 2, 1) := by decide +kernel
theorem dX6_readNumber_101 : decode cX6_readNumber 101 = .ok (.aload_n 0, 1) := by decide +kernel
theorem dX6_readNumber_102 : decode cX6_readNumber 102 = .ok (.iload_n 1, 1) := by decide +kernel
theorem dX6_readNumber_103 : decode cX6_readNumber 103 = .ok (.iconst 2, 1) := by decide +kernel
theorem dX6_readNumber_104 : decode cX6_readNumber 104 = .ok (.if_icmp .gt 7, 3) := by decide +kernel
theorem dX6_readNumber_107 : decode cX6_readNumber 107 = .ok (.iload_n 2, 1) := by decide +kernel
theorem dX6_readNumber_108 : decode cX6_readNumber 108 = .ok (.ifCond .eq 7, 3) := by decide +kernel
theorem dX6_readNumber_111 : decode cX6_readNumber 111 = .ok (.iconst 5, 1) := by decide +kernel
theorem dX6_readNumber_112 : decode cX6_readNumber 112 = .ok (.goto 4, 3) := by decide +kernel
theorem dX6_readNumber_115 : decode cX6_readNumber 115 = .ok (.iconst 3, 1) := by decide +kernel
theorem dX6_readNumber_116 : decode cX6_readNumber 116 = .ok (.putfield 35, 3) := by decide +kernel
theorem dX6_readNumber_119 : decode cX6_readNumber 119 = .ok (.return_, 1) := by decide +kernel
theorem dX6_isLetter_0 : decode cX6_isLetter 0 = .ok (.iload_n 0, 1) := by decide +kernel
theorem dX6_isLetter_1 : decode cX6_isLetter 1 = .ok (.bipush 97, 2) := by decide +kernel
theorem dX6_isLetter_3 : decode cX6_isLetter 3 = .ok (.if_icmp .lt 13, 3) := by decide +kernel
theorem dX6_isLetter_6 : decode cX6_isLetter 6 = .ok (.iload_n 0, 1) := by decide +kernel
theorem dX6_isLetter_7 : decode cX6_isLetter 7 = .ok (.bipush 122, 2) := by decide +kernel
theorem dX6_isLetter_9 : decode cX6_isLetter 9 = .ok (.if_icmp .gt 7, 3) := by decide +kernel
theorem dX6_isLetter_12 : decode cX6_isLetter 12 = .ok (.iconst 1, 1) := by decide +kernel
theorem dX6_isLetter_13 : decode cX6_isLetter 13 = .ok (.goto 4, 3) := by decide +kernel
theorem dX6_isLetter_16 : decode cX6_isLetter 16 = .ok (.iconst 0, 1) := by decide +kernel
theorem dX6_isLetter_17 : decode cX6_isLetter 17 = .ok (.ireturn, 1) := by decide +kernel
theorem dX6_isDigit_0 : decode cX6_isDigit 0 = .ok (.iload_n 0, 1) := by decide +kernel
theorem dX6_isDigit_1 : decode cX6_isDigit 1 = .ok (.bipush 48, 2) := by decide +kernel
theorem dX6_isDigit_3 : decode cX6_isDigit 3 = .ok (.if_icmp .lt 13, 3) := by decide +kernel
theorem dX6_isDigit_6 : decode cX6_isDigit 6 = .ok (.iload_n 0, 1) := by decide +kernel
theorem dX6_isDigit_7 : decode cX6_isDigit 7 = .ok (.bipush 57, 2) := by decide +kernel
theorem dX6_isDigit_9 : decode cX6_isDigit 9 = .ok (.if_icmp .gt 7, 3) := by decide +kernel
theorem dX6_isDigit_12 : decode cX6_isDigit 12 = .ok (.iconst 1, 1) := by decide +kernel
theorem dX6_isDigit_13 : decode cX6_isDigit 13 = .ok (.goto 4, 3) := by decide +kernel
theorem dX6_isDigit_16 : decode cX6_isDigit 16 = .ok (.iconst 0, 1) := by decide +kernel
theorem dX6_isDigit_17 : decode cX6_isDigit 17 = .ok (.ireturn, 1) := by decide +kernel
theorem dX7_init_0 : decode cX7_init 0 = .ok (.aload_n 0, 1) := by decide +kernel
theorem dX7_init_1 : decode cX7_init 1 = .ok (.invokespecial 3, 3) := by decide +kernel
theorem dX7_init_4 : decode cX7_init 4 = .ok (.aload_n 0, 1) := by decide +kernel
theorem dX7_init_5 : decode cX7_init 5 = .ok (.bipush 31, 2) := by decide +kernel
theorem dX7_init_7 : decode cX7_init 7 = .ok (.newarray .int, 2) := by decide +kernel
theorem dX7_init_9 : decode cX7_init 9 = .ok (.putfield 9, 3) := by decide +kernel
theorem dX7_init_12 : decode cX7_init 12 = .ok (.aload_n 0, 1) := by decide +kernel
theorem dX7_init_13 : decode cX7_init 13 = .ok (.bipush 31, 2) := by decide +kernel
theorem dX7_init_15 : decode cX7_init 15 = .ok (.newarray .int, 2) := by decide +kernel
theorem dX7_init_17 : decode cX7_init 17 = .ok (.putfield 15, 3) := by decide +kernel
theorem dX7_init_20 : decode cX7_init 20 = .ok (.aload_n 0, 1) := by decide +kernel
theorem dX7_init_21 : decode cX7_init 21 = .ok (.bipush 31, 2) := by decide +kernel
theorem dX7_init_23 : decode cX7_init 23 = .ok (.newarray .int, 2) := by decide +kernel
theorem dX7_init_25 : decode cX7_init 25 = .ok (.putfield 18, 3) := by decide +kernel
theorem dX7_init_28 : decode cX7_init 28 = .ok (.aload_n 0, 1) := by decide +kernel
theorem dX7_init_29 : decode cX7_init 29 = .ok (.bipush 31, 2) := by decide +kernel
theorem dX7_init_31 : decode cX7_init 31 = .ok (.newarray .int, 2) := by decide +kernel
theorem dX7_init_33 : decode cX7_init 33 = .ok (.putfield 21, 3) := by decide +kernel
theorem dX7_init_36 : decode cX7_init 36 = .ok (.return_, 1) := by decide +kernel
theorem dX7_has_0 : decode cX7_has 0 = .ok (.iload_n 1, 1) := by decide +kernel
theorem dX7_has_1 : decode cX7_has 1 = .ok (.ifCond .lt 21, 3) := by decide +kernel
theorem dX7_has_4 : decode cX7_has 4 = .ok (.iload_n 1, 1) := by decide +kernel
theorem dX7_has_5 : decode cX7_has 5 = .ok (.aload_n 0, 1) := by decide +kernel
theorem dX7_has_6 : decode cX7_has 6 = .ok (.getfield 24, 3) := by decide +kernel
theorem dX7_has_9 : decode cX7_has 9 = .ok (.if_icmp .ge 13, 3) := by decide +kernel
theorem dX7_has_12 : decode cX7_has 12 = .ok (.iload_n 1, 1) := by decide +kernel
theorem dX7_has_13 : decode cX7_has 13 = .ok (.bipush 31, 2) := by decide +kernel
theorem dX7_has_15 : decode cX7_has 15 = .ok (.if_icmp .ge 7, 3) := by decide +kernel
theorem dX7_has_18 : decode cX7_has 18 = .ok (.iconst 1, 1) := by decide +kernel
theorem dX7_has_19 : decode cX7_has 19 = .ok (.goto 4, 3) := by decide +kernel
theorem dX7_has_22 : decode cX7_has 22 = .ok (.iconst 0, 1) := by decide +kernel
theorem dX7_has_23 : decode cX7_has 23 = .ok (.ireturn, 1) := by decide +kernel
theorem dX7_read_0 : decode cX7_read 0 = .ok (.aload_n 0, 1) := by decide +kernel
theorem dX7_read_1 : decode cX7_read 1 = .ok (.iconst 0, 1) := by decide +kernel
theorem dX7_read_2 : decode cX7_read 2 = .ok (.putfield 24, 3) := by decide +kernel
theorem dX7_read_5 : decode cX7_read 5 = .ok (.iconst 1, 1) := by decide +kernel
theorem dX7_read_6 : decode cX7_read 6 = .ok (.istore_n 2, 1) := by decide +kernel
theorem dX7_read_7 : decode cX7_read 7 = .ok (.iconst 0, 1) := by decide +kernel
theorem dX7_read_8 : decode cX7_read 8 = .ok (.istore_n 3, 1) := by decide +kernel
theorem dX7_read_9 : decode cX7_read 9 = .ok (.iload_n 3, 1) := by decide +kernel
theorem dX7_read_10 : decode cX7_read 10 = .ok (.aload_n 1, 1) := by decide +kernel
theorem dX7_read_11 : decode cX7_read 11 = .ok (.getfield 28, 3) := by decide +kernel
theorem dX7_read_14 : decode cX7_read 14 = .ok (.if_icmp .ge 94, 3) := by decide +kernel
theorem dX7_read_17 : decode cX7_read 17 = .ok (.aload_n 1, 1) := by decide +kernel
theorem dX7_read_18 : decode cX7_read 18 = .ok (.iload_n 3, 1) := by decide +kernel
theorem dX7_read_19 : decode cX7_read 19 = .ok (.invokevirtual 33, 3) := by decide +kernel
theorem dX7_read_22 : decode cX7_read 22 = .ok (.istore 4, 2) := by decide +kernel
theorem dX7_read_24 : decode cX7_read 24 = .ok (.iload 4, 2) := by decide +kernel
theorem dX7_read_26 : decode cX7_read 26 = .ok (.bipush 32, 2) := by decide +kernel
theorem dX7_read_28 : decode cX7_read 28 = .ok (.if_icmp .ne 6, 3) := by decide +kernel
theorem dX7_read_31 : decode cX7_read 31 = .ok (.goto 71, 3) := by decide +kernel
theorem dX7_read_34 : decode cX7_read 34 = .ok (.iload 4, 2) := by decide +kernel
theorem dX7_read_36 : decode cX7_read 36 = .ok (.bipush 97, 2) := by decide +kernel
theorem dX7_read_38 : decode cX7_read 38 = .ok (.isub, 1) := by decide +kernel
theorem dX7_read_39 : decode cX7_read 39 = .ok (.istore 5, 2) := by decide +kernel
theorem dX7_read_41 : decode cX7_read 41 = .ok (.iload 5, 2) := by decide +kernel
theorem dX7_read_43 : decode cX7_read 43 = .ok (.ifCond .lt 23, 3) := by decide +kernel
theorem dX7_read_46 : decode cX7_read 46 = .ok (.iload 5, 2) := by decide +kernel
theorem dX7_read_48 : decode cX7_read 48 = .ok (.bipush 8, 2) := by decide +kernel
theorem dX7_read_50 : decode cX7_read 50 = .ok (.if_icmp .ge 16, 3) := by decide +kernel
theorem dX7_read_53 : decode cX7_read 53 = .ok (.iload_n 2, 1) := by decide +kernel
theorem dX7_read_54 : decode cX7_read 54 = .ok (.ifCond .eq 12, 3) := by decide +kernel
theorem dX7_read_57 : decode cX7_read 57 = .ok (.aload_n 0, 1) := by decide +kernel
theorem dX7_read_58 : decode cX7_read 58 = .ok (.getfield 24, 3) := by decide +kernel
theorem dX7_read_61 : decode cX7_read 61 = .ok (.bipush 31, 2) := by decide +kernel
theorem dX7_read_63 : decode cX7_read 63 = .ok (.if_icmp .lt 8, 3) := by decide +kernel
theorem dX7_read_66 : decode cX7_read 66 = .ok (.bipush (-10), 2) := by decide +kernel
theorem dX7_read_68 : decode cX7_read 68 = .ok (.iload_n 3, 1) := by decide +kernel
theorem dX7_read_69 : decode cX7_read 69 = .ok (.isub, 1) := by decide +kernel
theorem dX7_read_70 : decode cX7_read 70 = .ok (.ireturn, 1) := by decide +kernel
theorem dX7_read_71 : decode cX7_read 71 = .ok (.aload_n 0, 1) := by decide +kernel
theorem dX7_read_72 : decode cX7_read 72 = .ok (.getfield 9, 3) := by decide +kernel
theorem dX7_read_75 : decode cX7_read 75 = .ok (.aload_n 0, 1) := by decide +kernel
theorem dX7_read_76 : decode cX7_read 76 = .ok (.getfield 24, 3) := by decide +kernel
theorem dX7_read_79 : decode cX7_read 79 = .ok (.iload 5, 2) := by decide +kernel
theorem dX7_read_81 : decode cX7_read 81 = .ok (.iastore, 1) := by decide +kernel
theorem dX7_read_82 : decode cX7_read 82 = .ok (.aload_n 0, 1) := by decide +kernel
theorem dX7_read_83 : decode cX7_read 83 = .ok (.dup, 1) := by decide +kernel
theorem dX7_read_84 : decode cX7_read 84 = .ok (.getfield 24, 3) := by decide +kernel
theorem dX7_read_87 : decode cX7_read 87 = .ok (.iconst 1, 1) := by decide +kernel
theorem dX7_read_88 : decode cX7_read 88 = .ok (.iadd, 1) := by decide +kernel
theorem dX7_read_89 : decode cX7_read 89 = .ok (.putfield 24, 3) := by decide +kernel
theorem dX7_read_92 : decode cX7_read 92 = .ok (.iload_n 2, 1) := by decide +kernel
theorem dX7_read_93 : decode cX7_read 93 = .ok (.iload 5, 2) := by decide +kernel
theorem dX7_read_95 : decode cX7_read 95 = .ok (.invokestatic 37, 3) := by decide +kernel
theorem dX7_read_98 : decode cX7_read 98 = .ok (.iconst 1, 1) := by decide +kernel
theorem dX7_read_99 : decode cX7_read 99 = .ok (.isub, 1) := by decide +kernel
theorem dX7_read_100 : decode cX7_read 100 = .ok (.iadd, 1) := by decide +kernel
theorem dX7_read_101 : decode cX7_read 101 = .ok (.istore_n 2, 1) := by decide +kernel
theorem dX7_read_102 : decode cX7_read 102 = .ok (.iinc 3 1, 3) := by decide +kernel
theorem dX7_read_105 : decode cX7_read 105 = .ok (.goto (-96), 3) := by decide +kernel
theorem dX7_read_108 : decode cX7_read 108 = .ok (.iload_n 2, 1) := by decide +kernel
theorem dX7_read_109 : decode cX7_read 109 = .ok (.ifCond .le 11, 3) := by decide +kernel
theorem dX7_read_112 : decode cX7_read 112 = .ok (.bipush (-10), 2) := by decide +kernel
theorem dX7_read_114 : decode cX7_read 114 = .ok (.aload_n 1, 1) := by decide +kernel
theorem dX7_read_115 : decode cX7_read 115 = .ok (.getfield 28, 3) := by decide +kernel
theorem dX7_read_118 : decode cX7_read 118 = .ok (.isub, 1) := by decide +kernel
theorem dX7_read_119 : decode cX7_read 119 = .ok (.ireturn, 1) := by decide +kernel
theorem dX7_read_120 : decode cX7_read 120 = .ok (.aload_n 0, 1) := by decide +kernel
theorem dX7_read_121 : decode cX7_read 121 = .ok (.invokevirtual 40, 3) := by decide +kernel
theorem dX7_read_124 : decode cX7_read 124 = .ok (.aload_n 0, 1) := by decide +kernel
theorem dX7_read_125 : decode cX7_read 125 = .ok (.getfield 24, 3) := by decide +kernel
theorem dX7_read_128 : decode cX7_read 128 = .ok (.ireturn, 1) := by decide +kernel
theorem dX7_settle_0 : decode cX7_settle 0 = .ok (.aload_n 0, 1) := by decide +kernel
theorem dX7_settle_1 : decode cX7_settle 1 = .ok (.getfield 24, 3) := by decide +kernel
theorem dX7_settle_4 : decode cX7_settle 4 = .ok (.iconst 1, 1) := by decide +kernel
theorem dX7_settle_5 : decode cX7_settle 5 = .ok (.isub, 1) := by decide +kernel
theorem dX7_settle_6 : decode cX7_settle 6 = .ok (.istore_n 1, 1) := by decide +kernel
theorem dX7_settle_7 : decode cX7_settle 7 = .ok (.iload_n 1, 1) := by decide +kernel
theorem dX7_settle_8 : decode cX7_settle 8 = .ok (.ifCond .lt 87, 3) := by decide +kernel
theorem dX7_settle_11 : decode cX7_settle 11 = .ok (.aload_n 0, 1) := by decide +kernel
theorem dX7_settle_12 : decode cX7_settle 12 = .ok (.getfield 9, 3) := by decide +kernel
theorem dX7_settle_15 : decode cX7_settle 15 = .ok (.iload_n 1, 1) := by decide +kernel
theorem dX7_settle_16 : decode cX7_settle 16 = .ok (.iaload, 1) := by decide +kernel
theorem dX7_settle_17 : decode cX7_settle 17 = .ok (.invokestatic 37, 3) := by decide +kernel
theorem dX7_settle_20 : decode cX7_settle 20 = .ok (.istore_n 2, 1) := by decide +kernel
theorem dX7_settle_21 : decode cX7_settle 21 = .ok (.iconst 1, 1) := by decide +kernel
theorem dX7_settle_22 : decode cX7_settle 22 = .ok (.istore_n 3, 1) := by decide +kernel
theorem dX7_settle_23 : decode cX7_settle 23 = .ok (.iload_n 1, 1) := by decide +kernel
theorem dX7_settle_24 : decode cX7_settle 24 = .ok (.iconst 1, 1) := by decide +kernel
theorem dX7_settle_25 : decode cX7_settle 25 = .ok (.iadd, 1) := by decide +kernel
theorem dX7_settle_26 : decode cX7_settle 26 = .ok (.istore 4, 2) := by decide +kernel
theorem dX7_settle_28 : decode cX7_settle 28 = .ok (.iconst 0, 1) := by decide +kernel
theorem dX7_settle_29 : decode cX7_settle 29 = .ok (.istore 5, 2) := by decide +kernel
theorem dX7_settle_31 : decode cX7_settle 31 = .ok (.iload 5, 2) := by decide +kernel
theorem dX7_settle_33 : decode cX7_settle 33 = .ok (.iload_n 2, 1) := by decide +kernel
theorem dX7_settle_34 : decode cX7_settle 34 = .ok (.if_icmp .ge 48, 3) := by decide +kernel
theorem dX7_settle_37 : decode cX7_settle 37 = .ok (.aload_n 0, 1) := by decide +kernel
theorem dX7_settle_38 : decode cX7_settle 38 = .ok (.iload 4, 2) := by decide +kernel
theorem dX7_settle_40 : decode cX7_settle 40 = .ok (.invokevirtual 43, 3) := by decide +kernel
theorem dX7_settle_43 : decode cX7_settle 43 = .ok (.ifCond .eq 39, 3) := by decide +kernel
theorem dX7_settle_46 : decode cX7_settle 46 = .ok (.aload_n 0, 1) := by decide +kernel
theorem dX7_settle_47 : decode cX7_settle 47 = .ok (.getfield 18, 3) := by decide +kernel
theorem dX7_settle_50 : decode cX7_settle 50 = .ok (.iload 4, 2) := by decide +kernel
theorem dX7_settle_52 : decode cX7_settle 52 = .ok (.iload_n 1, 1) := by decide +kernel
theorem dX7_settle_53 : decode cX7_settle 53 = .ok (.iastore, 1) := by decide +kernel
theorem dX7_settle_54 : decode cX7_settle 54 = .ok (.iload_n 3, 1) := by decide +kernel
theorem dX7_settle_55 : decode cX7_settle 55 = .ok (.aload_n 0, 1) := by decide +kernel
theorem dX7_settle_56 : decode cX7_settle 56 = .ok (.getfield 15, 3) := by decide +kernel
theorem dX7_settle_59 : decode cX7_settle 59 = .ok (.iload 4, 2) := by decide +kernel
theorem dX7_settle_61 : decode cX7_settle 61 = .ok (.iaload, 1) := by decide +kernel
theorem dX7_settle_62 : decode cX7_settle 62 = .ok (.iadd, 1) := by decide +kernel
theorem dX7_settle_63 : decode cX7_settle 63 = .ok (.istore_n 3, 1) := by decide +kernel
theorem dX7_settle_64 : decode cX7_settle 64 = .ok (.iload 4, 2) := by decide +kernel
theorem dX7_settle_66 : decode cX7_settle 66 = .ok (.aload_n 0, 1) := by decide +kernel
theorem dX7_settle_67 : decode cX7_settle 67 = .ok (.getfield 15, 3) := by decide +kernel
theorem dX7_settle_70 : decode cX7_settle 70 = .ok (.iload 4, 2) := by decide +kernel
theorem dX7_settle_72 : decode cX7_settle 72 = .ok (.iaload, 1) := by decide +kernel
theorem dX7_settle_73 : decode cX7_settle 73 = .ok (.iadd, 1) := by decide +kernel
theorem dX7_settle_74 : decode cX7_settle 74 = .ok (.istore 4, 2) := by decide +kernel
theorem dX7_settle_76 : decode cX7_settle 76 = .ok (.iinc 5 1, 3) := by decide +kernel
theorem dX7_settle_79 : decode cX7_settle 79 = .ok (.goto (-48), 3) := by decide +kernel
theorem dX7_settle_82 : decode cX7_settle 82 = .ok (.aload_n 0, 1) := by decide +kernel
theorem dX7_settle_83 : decode cX7_settle 83 = .ok (.getfield 15, 3) := by decide +kernel
theorem dX7_settle_86 : decode cX7_settle 86 = .ok (.iload_n 1, 1) := by decide +kernel
theorem dX7_settle_87 : decode cX7_settle 87 = .ok (.iload_n 3, 1) := by decide +kernel
theorem dX7_settle_88 : decode cX7_settle 88 = .ok (.iastore, 1) := by decide +kernel
theorem dX7_settle_89 : decode cX7_settle 89 = .ok (.iinc 1 (-1), 3) := by decide +kernel
theorem dX7_settle_92 : decode cX7_settle 92 = .ok (.goto (-85), 3) := by decide +kernel
theorem dX7_settle_95 : decode cX7_settle 95 = .ok (.aload_n 0, 1) := by decide +kernel
theorem dX7_settle_96 : decode cX7_settle 96 = .ok (.getfield 18, 3) := by decide +kernel
theorem dX7_settle_99 : decode cX7_settle 99 = .ok (.iconst 0, 1) := by decide +kernel
theorem dX7_settle_100 : decode cX7_settle 100 = .ok (.bipush (-9), 2) := by decide +kernel
theorem dX7_settle_102 : decode cX7_settle 102 = .ok (.iastore, 1) := by decide +kernel
theorem dX7_settle_103 : decode cX7_settle 103 = .ok (.return_, 1) := by decide +kernel
theorem dX7_secondArm_0 : decode cX7_secondArm 0 = .ok (.aload_n 0, 1) := by decide +kernel
theorem dX7_secondArm_1 : decode cX7_secondArm 1 = .ok (.iload_n 1, 1) := by decide +kernel
theorem dX7_secondArm_2 : decode cX7_secondArm 2 = .ok (.iconst 1, 1) := by decide +kernel
theorem dX7_secondArm_3 : decode cX7_secondArm 3 = .ok (.iadd, 1) := by decide +kernel
end
section
theorem dX7_secondArm_4 : decode cX7_secondArm 4 = .ok (.invokevirtual 43, 3) := by decide +kernel
theorem dX7_secondArm_7 : decode cX7_secondArm 7 = .ok (.ifCond .eq 18, 3) := by decide +kernel
theorem dX7_secondArm_10 : decode cX7_secondArm 10 = .ok (.iload_n 1, 1) := by decide +kernel
theorem dX7_secondArm_11 : decode cX7_secondArm 11 = .ok (.iconst 1, 1) := by decide +kernel
theorem dX7_secondArm_12 : decode cX7_secondArm 12 = .ok (.iadd, 1) := by decide +kernel
theorem dX7_secondArm_13 : decode cX7_secondArm 13 = .ok (.aload_n 0, 1) := by decide +kernel
theorem dX7_secondArm_14 : decode cX7_secondArm 14 = .ok (.getfield 15, 3) := by decide +kernel
theorem dX7_secondArm_17 : decode cX7_secondArm 17 = .ok (.iload_n 1, 1) := by decide +kernel
theorem dX7_secondArm_18 : decode cX7_secondArm 18 = .ok (.iconst 1, 1) := by decide +kernel
theorem dX7_secondArm_19 : decode cX7_secondArm 19 = .ok (.iadd, 1) := by decide +kernel
theorem dX7_secondArm_20 : decode cX7_secondArm 20 = .ok (.iaload, 1) := by decide +kernel
theorem dX7_secondArm_21 : decode cX7_secondArm 21 = .ok (.iadd, 1) := by decide +kernel
theorem dX7_secondArm_22 : decode cX7_secondArm 22 = .ok (.goto 7, 3) := by decide +kernel
theorem dX7_secondArm_25 : decode cX7_secondArm 25 = .ok (.aload_n 0, 1) := by decide +kernel
theorem dX7_secondArm_26 : decode cX7_secondArm 26 = .ok (.getfield 24, 3) := by decide +kernel
theorem dX7_secondArm_29 : decode cX7_secondArm 29 = .ok (.ireturn, 1) := by decide +kernel
theorem dX7_swapArms_0 : decode cX7_swapArms 0 = .ok (.iload_n 1, 1) := by decide +kernel
theorem dX7_swapArms_1 : decode cX7_swapArms 1 = .ok (.iconst 1, 1) := by decide +kernel
theorem dX7_swapArms_2 : decode cX7_swapArms 2 = .ok (.iadd, 1) := by decide +kernel
theorem dX7_swapArms_3 : decode cX7_swapArms 3 = .ok (.istore_n 2, 1) := by decide +kernel
theorem dX7_swapArms_4 : decode cX7_swapArms 4 = .ok (.aload_n 0, 1) := by decide +kernel
theorem dX7_swapArms_5 : decode cX7_swapArms 5 = .ok (.iload_n 1, 1) := by decide +kernel
theorem dX7_swapArms_6 : decode cX7_swapArms 6 = .ok (.invokevirtual 47, 3) := by decide +kernel
theorem dX7_swapArms_9 : decode cX7_swapArms 9 = .ok (.istore_n 3, 1) := by decide +kernel
theorem dX7_swapArms_10 : decode cX7_swapArms 10 = .ok (.iload_n 1, 1) := by decide +kernel
theorem dX7_swapArms_11 : decode cX7_swapArms 11 = .ok (.aload_n 0, 1) := by decide +kernel
theorem dX7_swapArms_12 : decode cX7_swapArms 12 = .ok (.getfield 15, 3) := by decide +kernel
theorem dX7_swapArms_15 : decode cX7_swapArms 15 = .ok (.iload_n 1, 1) := by decide +kernel
theorem dX7_swapArms_16 : decode cX7_swapArms 16 = .ok (.iaload, 1) := by decide +kernel
theorem dX7_swapArms_17 : decode cX7_swapArms 17 = .ok (.iadd, 1) := by decide +kernel
theorem dX7_swapArms_18 : decode cX7_swapArms 18 = .ok (.istore 4, 2) := by decide +kernel
theorem dX7_swapArms_20 : decode cX7_swapArms 20 = .ok (.iconst 0, 1) := by decide +kernel
theorem dX7_swapArms_21 : decode cX7_swapArms 21 = .ok (.istore 5, 2) := by decide +kernel
theorem dX7_swapArms_23 : decode cX7_swapArms 23 = .ok (.iload_n 3, 1) := by decide +kernel
theorem dX7_swapArms_24 : decode cX7_swapArms 24 = .ok (.istore 6, 2) := by decide +kernel
theorem dX7_swapArms_26 : decode cX7_swapArms 26 = .ok (.iload 6, 2) := by decide +kernel
theorem dX7_swapArms_28 : decode cX7_swapArms 28 = .ok (.iload 4, 2) := by decide +kernel
theorem dX7_swapArms_30 : decode cX7_swapArms 30 = .ok (.if_icmp .ge 35, 3) := by decide +kernel
theorem dX7_swapArms_33 : decode cX7_swapArms 33 = .ok (.aload_n 0, 1) := by decide +kernel
theorem dX7_swapArms_34 : decode cX7_swapArms 34 = .ok (.iload 6, 2) := by decide +kernel
theorem dX7_swapArms_36 : decode cX7_swapArms 36 = .ok (.invokevirtual 43, 3) := by decide +kernel
theorem dX7_swapArms_39 : decode cX7_swapArms 39 = .ok (.ifCond .eq 26, 3) := by decide +kernel
theorem dX7_swapArms_42 : decode cX7_swapArms 42 = .ok (.aload_n 0, 1) := by decide +kernel
theorem dX7_swapArms_43 : decode cX7_swapArms 43 = .ok (.getfield 21, 3) := by decide +kernel
theorem dX7_swapArms_46 : decode cX7_swapArms 46 = .ok (.iload 5, 2) := by decide +kernel
theorem dX7_swapArms_48 : decode cX7_swapArms 48 = .ok (.aload_n 0, 1) := by decide +kernel
theorem dX7_swapArms_49 : decode cX7_swapArms 49 = .ok (.getfield 9, 3) := by decide +kernel
theorem dX7_swapArms_52 : decode cX7_swapArms 52 = .ok (.iload 6, 2) := by decide +kernel
theorem dX7_swapArms_54 : decode cX7_swapArms 54 = .ok (.iaload, 1) := by decide +kernel
theorem dX7_swapArms_55 : decode cX7_swapArms 55 = .ok (.iastore, 1) := by decide +kernel
theorem dX7_swapArms_56 : decode cX7_swapArms 56 = .ok (.iinc 5 1, 3) := by decide +kernel
theorem dX7_swapArms_59 : decode cX7_swapArms 59 = .ok (.iinc 6 1, 3) := by decide +kernel
theorem dX7_swapArms_62 : decode cX7_swapArms 62 = .ok (.goto (-36), 3) := by decide +kernel
theorem dX7_swapArms_65 : decode cX7_swapArms 65 = .ok (.iload_n 2, 1) := by decide +kernel
theorem dX7_swapArms_66 : decode cX7_swapArms 66 = .ok (.istore 6, 2) := by decide +kernel
theorem dX7_swapArms_68 : decode cX7_swapArms 68 = .ok (.iload 6, 2) := by decide +kernel
theorem dX7_swapArms_70 : decode cX7_swapArms 70 = .ok (.iload_n 3, 1) := by decide +kernel
theorem dX7_swapArms_71 : decode cX7_swapArms 71 = .ok (.if_icmp .ge 35, 3) := by decide +kernel
theorem dX7_swapArms_74 : decode cX7_swapArms 74 = .ok (.aload_n 0, 1) := by decide +kernel
theorem dX7_swapArms_75 : decode cX7_swapArms 75 = .ok (.iload 6, 2) := by decide +kernel
theorem dX7_swapArms_77 : decode cX7_swapArms 77 = .ok (.invokevirtual 43, 3) := by decide +kernel
theorem dX7_swapArms_80 : decode cX7_swapArms 80 = .ok (.ifCond .eq 26, 3) := by decide +kernel
theorem dX7_swapArms_83 : decode cX7_swapArms 83 = .ok (.aload_n 0, 1) := by decide +kernel
theorem dX7_swapArms_84 : decode cX7_swapArms 84 = .ok (.getfield 21, 3) := by decide +kernel
theorem dX7_swapArms_87 : decode cX7_swapArms 87 = .ok (.iload 5, 2) := by decide +kernel
theorem dX7_swapArms_89 : decode cX7_swapArms 89 = .ok (.aload_n 0, 1) := by decide +kernel
theorem dX7_swapArms_90 : decode cX7_swapArms 90 = .ok (.getfield 9, 3) := by decide +kernel
theorem dX7_swapArms_93 : decode cX7_swapArms 93 = .ok (.iload 6, 2) := by decide +kernel
theorem dX7_swapArms_95 : decode cX7_swapArms 95 = .ok (.iaload, 1) := by decide +kernel
theorem dX7_swapArms_96 : decode cX7_swapArms 96 = .ok (.iastore, 1) := by decide +kernel
theorem dX7_swapArms_97 : decode cX7_swapArms 97 = .ok (.iinc 5 1, 3) := by decide +kernel
theorem dX7_swapArms_100 : decode cX7_swapArms 100 = .ok (.iinc 6 1, 3) := by decide +kernel
theorem dX7_swapArms_103 : decode cX7_swapArms 103 = .ok (.goto (-35), 3) := by decide +kernel
theorem dX7_swapArms_106 : decode cX7_swapArms 106 = .ok (.iconst 0, 1) := by decide +kernel
theorem dX7_swapArms_107 : decode cX7_swapArms 107 = .ok (.istore 6, 2) := by decide +kernel
theorem dX7_swapArms_109 : decode cX7_swapArms 109 = .ok (.iload 6, 2) := by decide +kernel
theorem dX7_swapArms_111 : decode cX7_swapArms 111 = .ok (.iload 5, 2) := by decide +kernel
theorem dX7_swapArms_113 : decode cX7_swapArms 113 = .ok (.if_icmp .ge 36, 3) := by decide +kernel
theorem dX7_swapArms_116 : decode cX7_swapArms 116 = .ok (.aload_n 0, 1) := by decide +kernel
theorem dX7_swapArms_117 : decode cX7_swapArms 117 = .ok (.iload_n 2, 1) := by decide +kernel
theorem dX7_swapArms_118 : decode cX7_swapArms 118 = .ok (.iload 6, 2) := by decide +kernel
theorem dX7_swapArms_120 : decode cX7_swapArms 120 = .ok (.iadd, 1) := by decide +kernel
theorem dX7_swapArms_121 : decode cX7_swapArms 121 = .ok (.invokevirtual 43, 3) := by decide +kernel
theorem dX7_swapArms_124 : decode cX7_swapArms 124 = .ok (.ifCond .eq 25, 3) := by decide +kernel
theorem dX7_swapArms_127 : decode cX7_swapArms 127 = .ok (.aload_n 0, 1) := by decide +kernel
theorem dX7_swapArms_128 : decode cX7_swapArms 128 = .ok (.getfield 9, 3) := by decide +kernel
theorem dX7_swapArms_131 : decode cX7_swapArms 131 = .ok (.iload_n 2, 1) := by decide +kernel
theorem dX7_swapArms_132 : decode cX7_swapArms 132 = .ok (.iload 6, 2) := by decide +kernel
theorem dX7_swapArms_134 : decode cX7_swapArms 134 = .ok (.iadd, 1) := by decide +kernel
theorem dX7_swapArms_135 : decode cX7_swapArms 135 = .ok (.aload_n 0, 1) := by decide +kernel
theorem dX7_swapArms_136 : decode cX7_swapArms 136 = .ok (.getfield 21, 3) := by decide +kernel
theorem dX7_swapArms_139 : decode cX7_swapArms 139 = .ok (.iload 6, 2) := by decide +kernel
theorem dX7_swapArms_141 : decode cX7_swapArms 141 = .ok (.iaload, 1) := by decide +kernel
theorem dX7_swapArms_142 : decode cX7_swapArms 142 = .ok (.iastore, 1) := by decide +kernel
theorem dX7_swapArms_143 : decode cX7_swapArms 143 = .ok (.iinc 6 1, 3) := by decide +kernel
theorem dX7_swapArms_146 : decode cX7_swapArms 146 = .ok (.goto (-37), 3) := by decide +kernel
theorem dX7_swapArms_149 : decode cX7_swapArms 149 = .ok (.aload_n 0, 1) := by decide +kernel
theorem dX7_swapArms_150 : decode cX7_swapArms 150 = .ok (.invokevirtual 40, 3) := by decide +kernel
theorem dX7_swapArms_153 : decode cX7_swapArms 153 = .ok (.return_, 1) := by decide +kernel
theorem dX7_copyFrom_0 : decode cX7_copyFrom 0 = .ok (.aload_n 0, 1) := by decide +kernel
theorem dX7_copyFrom_1 : decode cX7_copyFrom 1 = .ok (.aload_n 1, 1) := by decide +kernel
theorem dX7_copyFrom_2 : decode cX7_copyFrom 2 = .ok (.getfield 24, 3) := by decide +kernel
theorem dX7_copyFrom_5 : decode cX7_copyFrom 5 = .ok (.putfield 24, 3) := by decide +kernel
theorem dX7_copyFrom_8 : decode cX7_copyFrom 8 = .ok (.iconst 0, 1) := by decide +kernel
theorem dX7_copyFrom_9 : decode cX7_copyFrom 9 = .ok (.istore_n 2, 1) := by decide +kernel
theorem dX7_copyFrom_10 : decode cX7_copyFrom 10 = .ok (.iload_n 2, 1) := by decide +kernel
theorem dX7_copyFrom_11 : decode cX7_copyFrom 11 = .ok (.bipush 31, 2) := by decide +kernel
theorem dX7_copyFrom_13 : decode cX7_copyFrom 13 = .ok (.if_icmp .ge 45, 3) := by decide +kernel
theorem dX7_copyFrom_16 : decode cX7_copyFrom 16 = .ok (.aload_n 0, 1) := by decide +kernel
theorem dX7_copyFrom_17 : decode cX7_copyFrom 17 = .ok (.getfield 9, 3) := by decide +kernel
theorem dX7_copyFrom_20 : decode cX7_copyFrom 20 = .ok (.iload_n 2, 1) := by decide +kernel
theorem dX7_copyFrom_21 : decode cX7_copyFrom 21 = .ok (.aload_n 1, 1) := by decide +kernel
theorem dX7_copyFrom_22 : decode cX7_copyFrom 22 = .ok (.getfield 9, 3) := by decide +kernel
theorem dX7_copyFrom_25 : decode cX7_copyFrom 25 = .ok (.iload_n 2, 1) := by decide +kernel
theorem dX7_copyFrom_26 : decode cX7_copyFrom 26 = .ok (.iaload, 1) := by decide +kernel
theorem dX7_copyFrom_27 : decode cX7_copyFrom 27 = .ok (.iastore, 1) := by decide +kernel
theorem dX7_copyFrom_28 : decode cX7_copyFrom 28 = .ok (.aload_n 0, 1) := by decide +kernel
theorem dX7_copyFrom_29 : decode cX7_copyFrom 29 = .ok (.getfield 15, 3) := by decide +kernel
theorem dX7_copyFrom_32 : decode cX7_copyFrom 32 = .ok (.iload_n 2, 1) := by decide +kernel
theorem dX7_copyFrom_33 : decode cX7_copyFrom 33 = .ok (.aload_n 1, 1) := by decide +kernel
theorem dX7_copyFrom_34 : decode cX7_copyFrom 34 = .ok (.getfield 15, 3) := by decide +kernel
theorem dX7_copyFrom_37 : decode cX7_copyFrom 37 = .ok (.iload_n 2, 1) := by decide +kernel
theorem dX7_copyFrom_38 : decode cX7_copyFrom 38 = .ok (.iaload, 1) := by decide +kernel
theorem dX7_copyFrom_39 : decode cX7_copyFrom 39 = .ok (.iastore, 1) := by decide +kernel
theorem dX7_copyFrom_40 : decode cX7_copyFrom 40 = .ok (.aload_n 0, 1) := by decide +kernel
theorem dX7_copyFrom_41 : decode cX7_copyFrom 41 = .ok (.getfield 18, 3) := by decide +kernel
theorem dX7_copyFrom_44 : decode cX7_copyFrom 44 = .ok (.iload_n 2, 1) := by decide +kernel
theorem dX7_copyFrom_45 : decode cX7_copyFrom 45 = .ok (.aload_n 1, 1) := by decide +kernel
theorem dX7_copyFrom_46 : decode cX7_copyFrom 46 = .ok (.getfield 18, 3) := by decide +kernel
theorem dX7_copyFrom_49 : decode cX7_copyFrom 49 = .ok (.iload_n 2, 1) := by decide +kernel
theorem dX7_copyFrom_50 : decode cX7_copyFrom 50 = .ok (.iaload, 1) := by decide +kernel
theorem dX7_copyFrom_51 : decode cX7_copyFrom 51 = .ok (.iastore, 1) := by decide +kernel
theorem dX7_copyFrom_52 : decode cX7_copyFrom 52 = .ok (.iinc 2 1, 3) := by decide +kernel
theorem dX7_copyFrom_55 : decode cX7_copyFrom 55 = .ok (.goto (-45), 3) := by decide +kernel
theorem dX7_copyFrom_58 : decode cX7_copyFrom 58 = .ok (.return_, 1) := by decide +kernel
theorem dX8_init_0 : decode cX8_init 0 = .ok (.aload_n 0, 1) := by decide +kernel
theorem dX8_init_1 : decode cX8_init 1 = .ok (.invokespecial 1, 3) := by decide +kernel
theorem dX8_init_4 : decode cX8_init 4 = .ok (.aload_n 0, 1) := by decide +kernel
theorem dX8_init_5 : decode cX8_init 5 = .ok (.new 7, 3) := by decide +kernel
theorem dX8_init_8 : decode cX8_init 8 = .ok (.dup, 1) := by decide +kernel
theorem dX8_init_9 : decode cX8_init 9 = .ok (.invokespecial 9, 3) := by decide +kernel
theorem dX8_init_12 : decode cX8_init 12 = .ok (.putfield 10, 3) := by decide +kernel
theorem dX8_init_15 : decode cX8_init 15 = .ok (.aload_n 0, 1) := by decide +kernel
theorem dX8_init_16 : decode cX8_init 16 = .ok (.iconst 2, 1) := by decide +kernel
theorem dX8_init_17 : decode cX8_init 17 = .ok (.anewarray 16, 3) := by decide +kernel
theorem dX8_init_20 : decode cX8_init 20 = .ok (.putfield 18, 3) := by decide +kernel
theorem dX8_init_23 : decode cX8_init 23 = .ok (.aload_n 0, 1) := by decide +kernel
theorem dX8_init_24 : decode cX8_init 24 = .ok (.new 22, 3) := by decide +kernel
theorem dX8_init_27 : decode cX8_init 27 = .ok (.dup, 1) := by decide +kernel
theorem dX8_init_28 : decode cX8_init 28 = .ok (.invokespecial 24, 3) := by decide +kernel
theorem dX8_init_31 : decode cX8_init 31 = .ok (.putfield 25, 3) := by decide +kernel
theorem dX8_init_34 : decode cX8_init 34 = .ok (.aload_n 0, 1) := by decide +kernel
theorem dX8_init_35 : decode cX8_init 35 = .ok (.new 29, 3) := by decide +kernel
theorem dX8_init_38 : decode cX8_init 38 = .ok (.dup, 1) := by decide +kernel
theorem dX8_init_39 : decode cX8_init 39 = .ok (.invokespecial 31, 3) := by decide +kernel
theorem dX8_init_42 : decode cX8_init 42 = .ok (.putfield 32, 3) := by decide +kernel
theorem dX8_init_45 : decode cX8_init 45 = .ok (.aload_n 0, 1) := by decide +kernel
theorem dX8_init_46 : decode cX8_init 46 = .ok (.new 36, 3) := by decide +kernel
theorem dX8_init_49 : decode cX8_init 49 = .ok (.dup, 1) := by decide +kernel
theorem dX8_init_50 : decode cX8_init 50 = .ok (.invokespecial 38, 3) := by decide +kernel
theorem dX8_init_53 : decode cX8_init 53 = .ok (.putfield 39, 3) := by decide +kernel
theorem dX8_init_56 : decode cX8_init 56 = .ok (.aload_n 0, 1) := by decide +kernel
theorem dX8_init_57 : decode cX8_init 57 = .ok (.new 36, 3) := by decide +kernel
theorem dX8_init_60 : decode cX8_init 60 = .ok (.dup, 1) := by decide +kernel
theorem dX8_init_61 : decode cX8_init 61 = .ok (.invokespecial 38, 3) := by decide +kernel
theorem dX8_init_64 : decode cX8_init 64 = .ok (.putfield 43, 3) := by decide +kernel
theorem dX8_init_67 : decode cX8_init 67 = .ok (.aload_n 0, 1) := by decide +kernel
theorem dX8_init_68 : decode cX8_init 68 = .ok (.new 46, 3) := by decide +kernel
theorem dX8_init_71 : decode cX8_init 71 = .ok (.dup, 1) := by decide +kernel
theorem dX8_init_72 : decode cX8_init 72 = .ok (.invokespecial 48, 3) := by decide +kernel
theorem dX8_init_75 : decode cX8_init 75 = .ok (.putfield 49, 3) := by decide +kernel
theorem dX8_init_78 : decode cX8_init 78 = .ok (.aload_n 0, 1) := by decide +kernel
theorem dX8_init_79 : decode cX8_init 79 = .ok (.new 46, 3) := by decide +kernel
theorem dX8_init_82 : decode cX8_init 82 = .ok (.dup, 1) := by decide +kernel
theorem dX8_init_83 : decode cX8_init 83 = .ok (.invokespecial 48, 3) := by decide +kernel
theorem dX8_init_86 : decode cX8_init 86 = .ok (.putfield 53, 3) := by decide +kernel
theorem dX8_init_89 : decode cX8_init 89 = .ok (.iconst 0, 1) := by decide +kernel
theorem dX8_init_90 : decode cX8_init 90 = .ok (.istore_n 1, 1) := by decide +kernel
theorem dX8_init_91 : decode cX8_init 91 = .ok (.iload_n 1, 1) := by decide +kernel
theorem dX8_init_92 : decode cX8_init 92 = .ok (.iconst 2, 1) := by decide +kernel
theorem dX8_init_93 : decode cX8_init 93 = .ok (.if_icmp .ge 22, 3) := by decide +kernel
theorem dX8_init_96 : decode cX8_init 96 = .ok (.aload_n 0, 1) := by decide +kernel
theorem dX8_init_97 : decode cX8_init 97 = .ok (.getfield 18, 3) := by decide +kernel
theorem dX8_init_100 : decode cX8_init 100 = .ok (.iload_n 1, 1) := by decide +kernel
theorem dX8_init_101 : decode cX8_init 101 = .ok (.new 16, 3) := by decide +kernel
theorem dX8_init_104 : decode cX8_init 104 = .ok (.dup, 1) := by decide +kernel
theorem dX8_init_105 : decode cX8_init 105 = .ok (.invokespecial 56, 3) := by decide +kernel
theorem dX8_init_108 : decode cX8_init 108 = .ok (.aastore, 1) := by decide +kernel
theorem dX8_init_109 : decode cX8_init 109 = .ok (.iinc 1 1, 3) := by decide +kernel
theorem dX8_init_112 : decode cX8_init 112 = .ok (.goto (-21), 3) := by decide +kernel
theorem dX8_init_115 : decode cX8_init 115 = .ok (.return_, 1) := by decide +kernel
theorem dX8_type_0 : decode cX8_type 0 = .ok (.iload_n 3, 1) := by decide +kernel
theorem dX8_type_1 : decode cX8_type 1 = .ok (.iconst 1, 1) := by decide +kernel
theorem dX8_type_2 : decode cX8_type 2 = .ok (.if_icmp .lt 9, 3) := by decide +kernel
theorem dX8_type_5 : decode cX8_type 5 = .ok (.iload_n 3, 1) := by decide +kernel
theorem dX8_type_6 : decode cX8_type 6 = .ok (.bipush 8, 2) := by decide +kernel
theorem dX8_type_8 : decode cX8_type 8 = .ok (.if_icmp .le 5, 3) := by decide +kernel
theorem dX8_type_11 : decode cX8_type 11 = .ok (.iconst (-1), 1) := by decide +kernel
theorem dX8_type_12 : decode cX8_type 12 = .ok (.ireturn, 1) := by decide +kernel
theorem dX8_type_13 : decode cX8_type 13 = .ok (.aload_n 0, 1) := by decide +kernel
theorem dX8_type_14 : decode cX8_type 14 = .ok (.getfield 10, 3) := by decide +kernel
theorem dX8_type_17 : decode cX8_type 17 = .ok (.getfield 57, 3) := by decide +kernel
theorem dX8_type_20 : decode cX8_type 20 = .ok (.iload_n 3, 1) := by decide +kernel
theorem dX8_type_21 : decode cX8_type 21 = .ok (.iadd, 1) := by decide +kernel
theorem dX8_type_22 : decode cX8_type 22 = .ok (.sipush 300, 3) := by decide +kernel
theorem dX8_type_25 : decode cX8_type 25 = .ok (.if_icmp .le 6, 3) := by decide +kernel
theorem dX8_type_28 : decode cX8_type 28 = .ok (.bipush (-3), 2) := by decide +kernel
theorem dX8_type_30 : decode cX8_type 30 = .ok (.ireturn, 1) := by decide +kernel
theorem dX8_type_31 : decode cX8_type 31 = .ok (.iload_n 3, 1) := by decide +kernel
theorem dX8_type_32 : decode cX8_type 32 = .ok (.iconst 1, 1) := by decide +kernel
theorem dX8_type_33 : decode cX8_type 33 = .ok (.isub, 1) := by decide +kernel
theorem dX8_type_34 : decode cX8_type 34 = .ok (.istore 4, 2) := by decide +kernel
theorem dX8_type_36 : decode cX8_type 36 = .ok (.iload 4, 2) := by decide +kernel
theorem dX8_type_38 : decode cX8_type 38 = .ok (.ifCond .lt 28, 3) := by decide +kernel
theorem dX8_type_41 : decode cX8_type 41 = .ok (.aload_n 0, 1) := by decide +kernel
theorem dX8_type_42 : decode cX8_type 42 = .ok (.getfield 10, 3) := by decide +kernel
theorem dX8_type_45 : decode cX8_type 45 = .ok (.lload_n 1, 1) := by decide +kernel
theorem dX8_type_46 : decode cX8_type 46 = .ok (.bipush 8, 2) := by decide +kernel
theorem dX8_type_48 : decode cX8_type 48 = .ok (.iload 4, 2) := by decide +kernel
theorem dX8_type_50 : decode cX8_type 50 = .ok (.imul, 1) := by decide +kernel
theorem dX8_type_51 : decode cX8_type 51 = .ok (.lshr, 1) := by decide +kernel
theorem dX8_type_52 : decode cX8_type 52 = .ok (.l2i, 1) := by decide +kernel
theorem dX8_type_53 : decode cX8_type 53 = .ok (.sipush 255, 3) := by decide +kernel
theorem dX8_type_56 : decode cX8_type 56 = .ok (.iand, 1) := by decide +kernel
theorem dX8_type_57 : decode cX8_type 57 = .ok (.invokevirtual 61, 3) := by decide +kernel
theorem dX8_type_60 : decode cX8_type 60 = .ok (.iinc 4 (-1), 3) := by decide +kernel
theorem dX8_type_63 : decode cX8_type 63 = .ok (.goto (-27), 3) := by decide +kernel
theorem dX8_type_66 : decode cX8_type 66 = .ok (.aload_n 0, 1) := by decide +kernel
theorem dX8_type_67 : decode cX8_type 67 = .ok (.getfield 10, 3) := by decide +kernel
theorem dX8_type_70 : decode cX8_type 70 = .ok (.getfield 57, 3) := by decide +kernel
theorem dX8_type_73 : decode cX8_type 73 = .ok (.ireturn, 1) := by decide +kernel
theorem dX8_clear_0 : decode cX8_clear 0 = .ok (.aload_n 0, 1) := by decide +kernel
theorem dX8_clear_1 : decode cX8_clear 1 = .ok (.getfield 10, 3) := by decide +kernel
theorem dX8_clear_4 : decode cX8_clear 4 = .ok (.getfield 57, 3) := by decide +kernel
theorem dX8_clear_7 : decode cX8_clear 7 = .ok (.istore_n 1, 1) := by decide +kernel
theorem dX8_clear_8 : decode cX8_clear 8 = .ok (.aload_n 0, 1) := by decide +kernel
theorem dX8_clear_9 : decode cX8_clear 9 = .ok (.getfield 10, 3) := by decide +kernel
theorem dX8_clear_12 : decode cX8_clear 12 = .ok (.iconst 0, 1) := by decide +kernel
theorem dX8_clear_13 : decode cX8_clear 13 = .ok (.putfield 57, 3) := by decide +kernel
theorem dX8_clear_16 : decode cX8_clear 16 = .ok (.iload_n 1, 1) := by decide +kernel
theorem dX8_clear_17 : decode cX8_clear 17 = .ok (.ireturn, 1) := by decide +kernel
theorem dX8_law_0 : decode cX8_law 0 = .ok (.aload_n 0, 1) := by decide +kernel
theorem dX8_law_1 : decode cX8_law 1 = .ok (.getfield 43, 3) := by decide +kernel
theorem dX8_law_4 : decode cX8_law 4 = .ok (.aload_n 0, 1) := by decide +kernel
theorem dX8_law_5 : decode cX8_law 5 = .ok (.getfield 10, 3) := by decide +kernel
theorem dX8_law_8 : decode cX8_law 8 = .ok (.invokevirtual 65, 3) := by decide +kernel
theorem dX8_law_11 : decode cX8_law 11 = .ok (.istore_n 1, 1) := by decide +kernel
theorem dX8_law_12 : decode cX8_law 12 = .ok (.iload_n 1, 1) := by decide +kernel
theorem dX8_law_13 : decode cX8_law 13 = .ok (.ifCond .ge 5, 3) := by decide +kernel
theorem dX8_law_16 : decode cX8_law 16 = .ok (.iload_n 1, 1) := by decide +kernel
theorem dX8_law_17 : decode cX8_law 17 = .ok (.ireturn, 1) := by decide +kernel
theorem dX8_law_18 : decode cX8_law 18 = .ok (.aload_n 0, 1) := by decide +kernel
theorem dX8_law_19 : decode cX8_law 19 = .ok (.getfield 39, 3) := by decide +kernel
theorem dX8_law_22 : decode cX8_law 22 = .ok (.astore_n 2, 1) := by decide +kernel
theorem dX8_law_23 : decode cX8_law 23 = .ok (.aload_n 0, 1) := by decide +kernel
theorem dX8_law_24 : decode cX8_law 24 = .ok (.aload_n 0, 1) := by decide +kernel
theorem dX8_law_25 : decode cX8_law 25 = .ok (.getfield 43, 3) := by decide +kernel
theorem dX8_law_28 : decode cX8_law 28 = .ok (.putfield 39, 3) := by decide +kernel
theorem dX8_law_31 : decode cX8_law 31 = .ok (.aload_n 0, 1) := by decide +kernel
theorem dX8_law_32 : decode cX8_law 32 = .ok (.aload_n 2, 1) := by decide +kernel
theorem dX8_law_33 : decode cX8_law 33 = .ok (.putfield 43, 3) := by decide +kernel
theorem dX8_law_36 : decode cX8_law 36 = .ok (.aload_n 0, 1) := by decide +kernel
theorem dX8_law_37 : decode cX8_law 37 = .ok (.getfield 10, 3) := by decide +kernel
theorem dX8_law_40 : decode cX8_law 40 = .ok (.iconst 0, 1) := by decide +kernel
theorem dX8_law_41 : decode cX8_law 41 = .ok (.putfield 57, 3) := by decide +kernel
theorem dX8_law_44 : decode cX8_law 44 = .ok (.aload_n 0, 1) := by decide +kernel
theorem dX8_law_45 : decode cX8_law 45 = .ok (.aload_n 0, 1) := by decide +kernel
theorem dX8_law_46 : decode cX8_law 46 = .ok (.getfield 39, 3) := by decide +kernel
theorem dX8_law_49 : decode cX8_law 49 = .ok (.invokevirtual 69, 3) := by decide +kernel
theorem dX8_law_52 : decode cX8_law 52 = .ok (.putfield 73, 3) := by decide +kernel
theorem dX8_law_55 : decode cX8_law 55 = .ok (.aload_n 0, 1) := by decide +kernel
theorem dX8_law_56 : decode cX8_law 56 = .ok (.aload_n 0, 1) := by decide +kernel
theorem dX8_law_57 : decode cX8_law 57 = .ok (.getfield 39, 3) := by decide +kernel
theorem dX8_law_60 : decode cX8_law 60 = .ok (.getfield 76, 3) := by decide +kernel
theorem dX8_law_63 : decode cX8_law 63 = .ok (.putfield 79, 3) := by decide +kernel
theorem dX8_law_66 : decode cX8_law 66 = .ok (.iconst 0, 1) := by decide +kernel
theorem dX8_law_67 : decode cX8_law 67 = .ok (.istore_n 3, 1) := by decide +kernel
theorem dX8_law_68 : decode cX8_law 68 = .ok (.iload_n 3, 1) := by decide +kernel
theorem dX8_law_69 : decode cX8_law 69 = .ok (.iconst 2, 1) := by decide +kernel
theorem dX8_law_70 : decode cX8_law 70 = .ok (.if_icmp .ge 19, 3) := by decide +kernel
theorem dX8_law_73 : decode cX8_law 73 = .ok (.aload_n 0, 1) := by decide +kernel
theorem dX8_law_74 : decode cX8_law 74 = .ok (.getfield 18, 3) := by decide +kernel
theorem dX8_law_77 : decode cX8_law 77 = .ok (.iload_n 3, 1) := by decide +kernel
theorem dX8_law_78 : decode cX8_law 78 = .ok (.aaload, 1) := by decide +kernel
theorem dX8_law_79 : decode cX8_law 79 = .ok (.iconst 0, 1) := by decide +kernel
theorem dX8_law_80 : decode cX8_law 80 = .ok (.putfield 82, 3) := by decide +kernel
theorem dX8_law_83 : decode cX8_law 83 = .ok (.iinc 3 1, 3) := by decide +kernel
theorem dX8_law_86 : decode cX8_law 86 = .ok (.goto (-18), 3) := by decide +kernel
theorem dX8_law_89 : decode cX8_law 89 = .ok (.aload_n 0, 1) := by decide +kernel
theorem dX8_law_90 : decode cX8_law 90 = .ok (.getfield 32, 3) := by decide +kernel
theorem dX8_law_93 : decode cX8_law 93 = .ok (.invokevirtual 86, 3) := by decide +kernel
theorem dX8_law_96 : decode cX8_law 96 = .ok (.iload_n 1, 1) := by decide +kernel
theorem dX8_law_97 : decode cX8_law 97 = .ok (.ireturn, 1) := by decide +kernel
theorem dX8_tree_0 : decode cX8_tree 0 = .ok (.aload_n 0, 1) := by decide +kernel
theorem dX8_tree_1 : decode cX8_tree 1 = .ok (.getfield 53, 3) := by decide +kernel
theorem dX8_tree_4 : decode cX8_tree 4 = .ok (.aload_n 0, 1) := by decide +kernel
theorem dX8_tree_5 : decode cX8_tree 5 = .ok (.getfield 10, 3) := by decide +kernel
theorem dX8_tree_8 : decode cX8_tree 8 = .ok (.invokevirtual 89, 3) := by decide +kernel
theorem dX8_tree_11 : decode cX8_tree 11 = .ok (.istore_n 1, 1) := by decide +kernel
theorem dX8_tree_12 : decode cX8_tree 12 = .ok (.iload_n 1, 1) := by decide +kernel
theorem dX8_tree_13 : decode cX8_tree 13 = .ok (.ifCond .ge 5, 3) := by decide +kernel
theorem dX8_tree_16 : decode cX8_tree 16 = .ok (.iload_n 1, 1) := by decide +kernel
theorem dX8_tree_17 : decode cX8_tree 17 = .ok (.ireturn, 1) := by decide +kernel
theorem dX8_tree_18 : decode cX8_tree 18 = .ok (.aload_n 0, 1) := by decide +kernel
theorem dX8_tree_19 : decode cX8_tree 19 = .ok (.getfield 49, 3) := by decide +kernel
theorem dX8_tree_22 : decode cX8_tree 22 = .ok (.astore_n 2, 1) := by decide +kernel
theorem dX8_tree_23 : decode cX8_tree 23 = .ok (.aload_n 0, 1) := by decide +kernel
theorem dX8_tree_24 : decode cX8_tree 24 = .ok (.aload_n 0, 1) := by decide +kernel
theorem dX8_tree_25 : decode cX8_tree 25 = .ok (.getfield 53, 3) := by decide +kernel
theorem dX8_tree_28 : decode cX8_tree 28 = .ok (.putfield 49, 3) := by decide +kernel
theorem dX8_tree_31 : decode cX8_tree 31 = .ok (.aload_n 0, 1) := by decide +kernel
theorem dX8_tree_32 : decode cX8_tree 32 = .ok (.aload_n 2, 1) := by decide +kernel
theorem dX8_tree_33 : decode cX8_tree 33 = .ok (.putfield 53, 3) := by decide +kernel
theorem dX8_tree_36 : decode cX8_tree 36 = .ok (.aload_n 0, 1) := by decide +kernel
theorem dX8_tree_37 : decode cX8_tree 37 = .ok (.getfield 10, 3) := by decide +kernel
theorem dX8_tree_40 : decode cX8_tree 40 = .ok (.iconst 0, 1) := by decide +kernel
theorem dX8_tree_41 : decode cX8_tree 41 = .ok (.putfield 57, 3) := by decide +kernel
theorem dX8_tree_44 : decode cX8_tree 44 = .ok (.iload_n 1, 1) := by decide +kernel
theorem dX8_tree_45 : decode cX8_tree 45 = .ok (.ireturn, 1) := by decide +kernel
theorem dX8_rule_0 : decode cX8_rule 0 = .ok (.aload_n 0, 1) := by decide +kernel
theorem dX8_rule_1 : decode cX8_rule 1 = .ok (.getfield 39, 3) := by decide +kernel
theorem dX8_rule_4 : decode cX8_rule 4 = .ok (.iload_n 1, 1) := by decide +kernel
theorem dX8_rule_5 : decode cX8_rule 5 = .ok (.invokevirtual 90, 3) := by decide +kernel
theorem dX8_rule_8 : decode cX8_rule 8 = .ok (.ifCond .ne 5, 3) := by decide +kernel
theorem dX8_rule_11 : decode cX8_rule 11 = .ok (.iconst (-1), 1) := by decide +kernel
theorem dX8_rule_12 : decode cX8_rule 12 = .ok (.ireturn, 1) := by decide +kernel
theorem dX8_rule_13 : decode cX8_rule 13 = .ok (.iload_n 2, 1) := by decide +kernel
theorem dX8_rule_14 : decode cX8_rule 14 = .ok (.tableswitch 83 0 4 #[34, 44, 54, 64, 74], 34) := by decide +kernel
theorem dX8_rule_48 : decode cX8_rule 48 = .ok (.aload_n 0, 1) := by decide +kernel
theorem dX8_rule_49 : decode cX8_rule 49 = .ok (.getfield 39, 3) := by decide +kernel
theorem dX8_rule_52 : decode cX8_rule 52 = .ok (.getfield 94, 3) := by decide +kernel
theorem dX8_rule_55 : decode cX8_rule 55 = .ok (.iload_n 1, 1) := by decide +kernel
theorem dX8_rule_56 : decode cX8_rule 56 = .ok (.iaload, 1) := by decide +kernel
theorem dX8_rule_57 : decode cX8_rule 57 = .ok (.ireturn, 1) := by decide +kernel
theorem dX8_rule_58 : decode cX8_rule 58 = .ok (.aload_n 0, 1) := by decide +kernel
theorem dX8_rule_59 : decode cX8_rule 59 = .ok (.getfield 39, 3) := by decide +kernel
theorem dX8_rule_62 : decode cX8_rule 62 = .ok (.getfield 98, 3) := by decide +kernel
theorem dX8_rule_65 : decode cX8_rule 65 = .ok (.iload_n 1, 1) := by decide +kernel
theorem dX8_rule_66 : decode cX8_rule 66 = .ok (.iaload, 1) := by decide +kernel
theorem dX8_rule_67 : decode cX8_rule 67 = .ok (.ireturn, 1) := by decide +kernel
theorem dX8_rule_68 : decode cX8_rule 68 = .ok (.aload_n 0, 1) := by decide +kernel
theorem dX8_rule_69 : decode cX8_rule 69 = .ok (.getfield 39, 3) := by decide +kernel
theorem dX8_rule_72 : decode cX8_rule 72 = .ok (.getfield 101, 3) := by decide +kernel
theorem dX8_rule_75 : decode cX8_rule 75 = .ok (.iload_n 1, 1) := by decide +kernel
theorem dX8_rule_76 : decode cX8_rule 76 = .ok (.iaload, 1) := by decide +kernel
theorem dX8_rule_77 : decode cX8_rule 77 = .ok (.ireturn, 1) := by decide +kernel
theorem dX8_rule_78 : decode cX8_rule 78 = .ok (.aload_n 0, 1) := by decide +kernel
theorem dX8_rule_79 : decode cX8_rule 79 = .ok (.getfield 39, 3) := by decide +kernel
theorem dX8_rule_82 : decode cX8_rule 82 = .ok (.getfield 104, 3) := by decide +kernel
theorem dX8_rule_85 : decode cX8_rule 85 = .ok (.iload_n 1, 1) := by decide +kernel
theorem dX8_rule_86 : decode cX8_rule 86 = .ok (.iaload, 1) := by decide +kernel
theorem dX8_rule_87 : decode cX8_rule 87 = .ok (.ireturn, 1) := by decide +kernel
theorem dX8_rule_88 : decode cX8_rule 88 = .ok (.aload_n 0, 1) := by decide +kernel
theorem dX8_rule_89 : decode cX8_rule 89 = .ok (.getfield 73, 3) := by decide +kernel
theorem dX8_rule_92 : decode cX8_rule 92 = .ok (.iload_n 1, 1) := by decide +kernel
theorem dX8_rule_93 : decode cX8_rule 93 = .ok (.invokestatic 107, 3) := by decide +kernel
theorem dX8_rule_96 : decode cX8_rule 96 = .ok (.ireturn, 1) := by decide +kernel
theorem dX8_rule_97 : decode cX8_rule 97 = .ok (.iconst (-1), 1) := by decide +kernel
theorem dX8_rule_98 : decode cX8_rule 98 = .ok (.ireturn, 1) := by decide +kernel
theorem dX8_turn_0 : decode cX8_turn 0 = .ok (.aload_n 0, 1) := by decide +kernel
theorem dX8_turn_1 : decode cX8_turn 1 = .ok (.getfield 39, 3) := by decide +kernel
theorem dX8_turn_4 : decode cX8_turn 4 = .ok (.iload_n 1, 1) := by decide +kernel
theorem dX8_turn_5 : decode cX8_turn 5 = .ok (.invokevirtual 90, 3) := by decide +kernel
theorem dX8_turn_8 : decode cX8_turn 8 = .ok (.ifCond .eq 10, 3) := by decide +kernel
theorem dX8_turn_11 : decode cX8_turn 11 = .ok (.iload_n 2, 1) := by decide +kernel
theorem dX8_turn_12 : decode cX8_turn 12 = .ok (.invokestatic 111, 3) := by decide +kernel
theorem dX8_turn_15 : decode cX8_turn 15 = .ok (.ifCond .ne 5, 3) := by decide +kernel
theorem dX8_turn_18 : decode cX8_turn 18 = .ok (.iconst (-1), 1) := by decide +kernel
theorem dX8_turn_19 : decode cX8_turn 19 = .ok (.ireturn, 1) := by decide +kernel
theorem dX8_turn_20 : decode cX8_turn 20 = .ok (.aload_n 0, 1) := by decide +kernel
theorem dX8_turn_21 : decode cX8_turn 21 = .ok (.getfield 73, 3) := by decide +kernel
theorem dX8_turn_24 : decode cX8_turn 24 = .ok (.iload_n 1, 1) := by decide +kernel
theorem dX8_turn_25 : decode cX8_turn 25 = .ok (.invokestatic 107, 3) := by decide +kernel
theorem dX8_turn_28 : decode cX8_turn 28 = .ok (.istore_n 3, 1) := by decide +kernel
theorem dX8_turn_29 : decode cX8_turn 29 = .ok (.aload_n 0, 1) := by decide +kernel
theorem dX8_turn_30 : decode cX8_turn 30 = .ok (.aload_n 0, 1) := by decide +kernel
theorem dX8_turn_31 : decode cX8_turn 31 = .ok (.getfield 73, 3) := by decide +kernel
theorem dX8_turn_34 : decode cX8_turn 34 = .ok (.iload_n 1, 1) := by decide +kernel
theorem dX8_turn_35 : decode cX8_turn 35 = .ok (.iload_n 2, 1) := by decide +kernel
theorem dX8_turn_36 : decode cX8_turn 36 = .ok (.invokestatic 114, 3) := by decide +kernel
theorem dX8_turn_39 : decode cX8_turn 39 = .ok (.putfield 73, 3) := by decide +kernel
theorem dX8_turn_42 : decode cX8_turn 42 = .ok (.iload_n 3, 1) := by decide +kernel
theorem dX8_turn_43 : decode cX8_turn 43 = .ok (.ireturn, 1) := by decide +kernel
theorem dX8_good_0 : decode cX8_good 0 = .ok (.iload_n 1, 1) := by decide +kernel
theorem dX8_good_1 : decode cX8_good 1 = .ok (.invokestatic 118, 3) := by decide +kernel
theorem dX8_good_4 : decode cX8_good 4 = .ok (.ifCond .eq 10, 3) := by decide +kernel
theorem dX8_good_7 : decode cX8_good 7 = .ok (.iload_n 2, 1) := by decide +kernel
theorem dX8_good_8 : decode cX8_good 8 = .ok (.invokestatic 111, 3) := by decide +kernel
theorem dX8_good_11 : decode cX8_good 11 = .ok (.ifCond .ne 5, 3) := by decide +kernel
theorem dX8_good_14 : decode cX8_good 14 = .ok (.iconst (-1), 1) := by decide +kernel
theorem dX8_good_15 : decode cX8_good 15 = .ok (.ireturn, 1) := by decide +kernel
theorem dX8_good_16 : decode cX8_good 16 = .ok (.aload_n 0, 1) := by decide +kernel
theorem dX8_good_17 : decode cX8_good 17 = .ok (.getfield 79, 3) := by decide +kernel
theorem dX8_good_20 : decode cX8_good 20 = .ok (.iload_n 1, 1) := by decide +kernel
theorem dX8_good_21 : decode cX8_good 21 = .ok (.invokestatic 107, 3) := by decide +kernel
theorem dX8_good_24 : decode cX8_good 24 = .ok (.istore_n 3, 1) := by decide +kernel
theorem dX8_good_25 : decode cX8_good 25 = .ok (.aload_n 0, 1) := by decide +kernel
theorem dX8_good_26 : decode cX8_good 26 = .ok (.aload_n 0, 1) := by decide +kernel
theorem dX8_good_27 : decode cX8_good 27 = .ok (.getfield 79, 3) := by decide +kernel
theorem dX8_good_30 : decode cX8_good 30 = .ok (.iload_n 1, 1) := by decide +kernel
theorem dX8_good_31 : decode cX8_good 31 = .ok (.iload_n 2, 1) := by decide +kernel
theorem dX8_good_32 : decode cX8_good 32 = .ok (.invokestatic 114, 3) := by decide +kernel
theorem dX8_good_35 : decode cX8_good 35 = .ok (.putfield 79, 3) := by decide +kernel
theorem dX8_good_38 : decode cX8_good 38 = .ok (.iload_n 3, 1) := by decide +kernel
theorem dX8_good_39 : decode cX8_good 39 = .ok (.ireturn, 1) := by decide +kernel
theorem dX8_node_0 : decode cX8_node 0 = .ok (.aload_n 0, 1) := by decide +kernel
theorem dX8_node_1 : decode cX8_node 1 = .ok (.getfield 49, 3) := by decide +kernel
theorem dX8_node_4 : decode cX8_node 4 = .ok (.iload_n 1, 1) := by decide +kernel
theorem dX8_node_5 : decode cX8_node 5 = .ok (.invokevirtual 121, 3) := by decide +kernel
theorem dX8_node_8 : decode cX8_node 8 = .ok (.ifCond .ne 5, 3) := by decide +kernel
theorem dX8_node_11 : decode cX8_node 11 = .ok (.iconst (-1), 1) := by decide +kernel
theorem dX8_node_12 : decode cX8_node 12 = .ok (.ireturn, 1) := by decide +kernel
theorem dX8_node_13 : decode cX8_node 13 = .ok (.iload_n 2, 1) := by decide +kernel
theorem dX8_node_14 : decode cX8_node 14 = .ok (.tableswitch 66 0 3 #[30, 40, 50, 60], 30) := by decide +kernel
theorem dX8_node_44 : decode cX8_node 44 = .ok (.aload_n 0, 1) := by decide +kernel
theorem dX8_node_45 : decode cX8_node 45 = .ok (.getfield 49, 3) := by decide +kernel
theorem dX8_node_48 : decode cX8_node 48 = .ok (.getfield 122, 3) := by decide +kernel
theorem dX8_node_51 : decode cX8_node 51 = .ok (.iload_n 1, 1) := by decide +kernel
theorem dX8_node_52 : decode cX8_node 52 = .ok (.iaload, 1) := by decide +kernel
theorem dX8_node_53 : decode cX8_node 53 = .ok (.ireturn, 1) := by decide +kernel
theorem dX8_node_54 : decode cX8_node 54 = .ok (.aload_n 0, 1) := by decide +kernel
theorem dX8_node_55 : decode cX8_node 55 = .ok (.getfield 49, 3) := by decide +kernel
theorem dX8_node_58 : decode cX8_node 58 = .ok (.getfield 123, 3) := by decide +kernel
theorem dX8_node_61 : decode cX8_node 61 = .ok (.iload_n 1, 1) := by decide +kernel
theorem dX8_node_62 : decode cX8_node 62 = .ok (.iaload, 1) := by decide +kernel
theorem dX8_node_63 : decode cX8_node 63 = .ok (.ireturn, 1) := by decide +kernel
theorem dX8_node_64 : decode cX8_node 64 = .ok (.aload_n 0, 1) := by decide +kernel
theorem dX8_node_65 : decode cX8_node 65 = .ok (.getfield 49, 3) := by decide +kernel
theorem dX8_node_68 : decode cX8_node 68 = .ok (.getfield 126, 3) := by decide +kernel
theorem dX8_node_71 : decode cX8_node 71 = .ok (.iload_n 1, 1) := by decide +kernel
theorem dX8_node_72 : decode cX8_node 72 = .ok (.iaload, 1) := by decide +kernel
theorem dX8_node_73 : decode cX8_node 73 = .ok (.ireturn, 1) := by decide +kernel
theorem dX8_node_74 : decode cX8_node 74 = .ok (.aload_n 0, 1) := by decide +kernel
theorem dX8_node_75 : decode cX8_node 75 = .ok (.iload_n 1, 1) := by decide +kernel
theorem dX8_node_76 : decode cX8_node 76 = .ok (.invokevirtual 129, 3) := by decide +kernel
theorem dX8_node_79 : decode cX8_node 79 = .ok (.ireturn, 1) := by decide +kernel
theorem dX8_node_80 : decode cX8_node 80 = .ok (.iconst (-1), 1) := by decide +kernel
theorem dX8_node_81 : decode cX8_node 81 = .ok (.ireturn, 1) := by decide +kernel
theorem dX8_sign_0 : decode cX8_sign 0 = .ok (.aload_n 0, 1) := by decide +kernel
theorem dX8_sign_1 : decode cX8_sign 1 = .ok (.getfield 49, 3) := by decide +kernel
theorem dX8_sign_4 : decode cX8_sign 4 = .ok (.iload_n 1, 1) := by decide +kernel
theorem dX8_sign_5 : decode cX8_sign 5 = .ok (.invokevirtual 121, 3) := by decide +kernel
theorem dX8_sign_8 : decode cX8_sign 8 = .ok (.ifCond .eq 32, 3) := by decide +kernel
theorem dX8_sign_11 : decode cX8_sign 11 = .ok (.iload_n 2, 1) := by decide +kernel
theorem dX8_sign_12 : decode cX8_sign 12 = .ok (.ifCond .lt 28, 3) := by decide +kernel
theorem dX8_sign_15 : decode cX8_sign 15 = .ok (.iload_n 2, 1) := by decide +kernel
theorem dX8_sign_16 : decode cX8_sign 16 = .ok (.bipush 8, 2) := by decide +kernel
theorem dX8_sign_18 : decode cX8_sign 18 = .ok (.if_icmp .ge 22, 3) := by decide +kernel
theorem dX8_sign_21 : decode cX8_sign 21 = .ok (.iload_n 2, 1) := by decide +kernel
theorem dX8_sign_22 : decode cX8_sign 22 = .ok (.invokestatic 133, 3) := by decide +kernel
theorem dX8_sign_25 : decode cX8_sign 25 = .ok (.aload_n 0, 1) := by decide +kernel
theorem dX8_sign_26 : decode cX8_sign 26 = .ok (.getfield 49, 3) := by decide +kernel
theorem dX8_sign_29 : decode cX8_sign 29 = .ok (.getfield 122, 3) := by decide +kernel
theorem dX8_sign_32 : decode cX8_sign 32 = .ok (.iload_n 1, 1) := by decide +kernel
theorem dX8_sign_33 : decode cX8_sign 33 = .ok (.iaload, 1) := by decide +kernel
theorem dX8_sign_34 : decode cX8_sign 34 = .ok (.invokestatic 133, 3) := by decide +kernel
theorem dX8_sign_37 : decode cX8_sign 37 = .ok (.if_icmp .eq 5, 3) := by decide +kernel
theorem dX8_sign_40 : decode cX8_sign 40 = .ok (.iconst (-1), 1) := by decide +kernel
theorem dX8_sign_41 : decode cX8_sign 41 = .ok (.ireturn, 1) := by decide +kernel
theorem dX8_sign_42 : decode cX8_sign 42 = .ok (.aload_n 0, 1) := by decide +kernel
theorem dX8_sign_43 : decode cX8_sign 43 = .ok (.getfield 49, 3) := by decide +kernel
theorem dX8_sign_46 : decode cX8_sign 46 = .ok (.getfield 122, 3) := by decide +kernel
theorem dX8_sign_49 : decode cX8_sign 49 = .ok (.iload_n 1, 1) := by decide +kernel
theorem dX8_sign_50 : decode cX8_sign 50 = .ok (.iaload, 1) := by decide +kernel
theorem dX8_sign_51 : decode cX8_sign 51 = .ok (.istore_n 3, 1) := by decide +kernel
theorem dX8_sign_52 : decode cX8_sign 52 = .ok (.aload_n 0, 1) := by decide +kernel
theorem dX8_sign_53 : decode cX8_sign 53 = .ok (.getfield 49, 3) := by decide +kernel
theorem dX8_sign_56 : decode cX8_sign 56 = .ok (.getfield 122, 3) := by decide +kernel
theorem dX8_sign_59 : decode cX8_sign 59 = .ok (.iload_n 1, 1) := by decide +kernel
theorem dX8_sign_60 : decode cX8_sign 60 = .ok (.iload_n 2, 1) := by decide +kernel
theorem dX8_sign_61 : decode cX8_sign 61 = .ok (.iastore, 1) := by decide +kernel
theorem dX8_sign_62 : decode cX8_sign 62 = .ok (.iload_n 3, 1) := by decide +kernel
theorem dX8_sign_63 : decode cX8_sign 63 = .ok (.ireturn, 1) := by decide +kernel
theorem dX8_exchange_0 : decode cX8_exchange 0 = .ok (.aload_n 0, 1) := by decide +kernel
theorem dX8_exchange_1 : decode cX8_exchange 1 = .ok (.getfield 49, 3) := by decide +kernel
theorem dX8_exchange_4 : decode cX8_exchange 4 = .ok (.iload_n 1, 1) := by decide +kernel
theorem dX8_exchange_5 : decode cX8_exchange 5 = .ok (.invokevirtual 121, 3) := by decide +kernel
theorem dX8_exchange_8 : decode cX8_exchange 8 = .ok (.ifCond .ne 5, 3) := by decide +kernel
theorem dX8_exchange_11 : decode cX8_exchange 11 = .ok (.iconst (-1), 1) := by decide +kernel
theorem dX8_exchange_12 : decode cX8_exchange 12 = .ok (.ireturn, 1) := by decide +kernel
theorem dX8_exchange_13 : decode cX8_exchange 13 = .ok (.aload_n 0, 1) := by decide +kernel
theorem dX8_exchange_14 : decode cX8_exchange 14 = .ok (.getfield 49, 3) := by decide +kernel
theorem dX8_exchange_17 : decode cX8_exchange 17 = .ok (.getfield 122, 3) := by decide +kernel
theorem dX8_exchange_20 : decode cX8_exchange 20 = .ok (.iload_n 1, 1) := by decide +kernel
theorem dX8_exchange_21 : decode cX8_exchange 21 = .ok (.iaload, 1) := by decide +kernel
theorem dX8_exchange_22 : decode cX8_exchange 22 = .ok (.invokestatic 133, 3) := by decide +kernel
theorem dX8_exchange_25 : decode cX8_exchange 25 = .ok (.iconst 2, 1) := by decide +kernel
theorem dX8_exchange_26 : decode cX8_exchange 26 = .ok (.if_icmp .eq 6, 3) := by decide +kernel
theorem dX8_exchange_29 : decode cX8_exchange 29 = .ok (.bipush (-2), 2) := by decide +kernel
theorem dX8_exchange_31 : decode cX8_exchange 31 = .ok (.ireturn, 1) := by decide +kernel
theorem dX8_exchange_32 : decode cX8_exchange 32 = .ok (.aload_n 0, 1) := by decide +kernel
theorem dX8_exchange_33 : decode cX8_exchange 33 = .ok (.getfield 49, 3) := by decide +kernel
theorem dX8_exchange_36 : decode cX8_exchange 36 = .ok (.iload_n 1, 1) := by decide +kernel
theorem dX8_exchange_37 : decode cX8_exchange 37 = .ok (.invokevirtual 136, 3) := by decide +kernel
theorem dX8_exchange_40 : decode cX8_exchange 40 = .ok (.iconst 1, 1) := by decide +kernel
theorem dX8_exchange_41 : decode cX8_exchange 41 = .ok (.ireturn, 1) := by decide +kernel
theorem dX8_isGood_0 : decode cX8_isGood 0 = .ok (.aload_n 0, 1) := by decide +kernel
theorem dX8_isGood_1 : decode cX8_isGood 1 = .ok (.getfield 49, 3) := by decide +kernel
theorem dX8_isGood_4 : decode cX8_isGood 4 = .ok (.getfield 139, 3) := by decide +kernel
theorem dX8_isGood_7 : decode cX8_isGood 7 = .ok (.ifCond .ne 6, 3) := by decide +kernel
theorem dX8_isGood_10 : decode cX8_isGood 10 = .ok (.bipush (-2), 2) := by decide +kernel
theorem dX8_isGood_12 : decode cX8_isGood 12 = .ok (.ireturn, 1) := by decide +kernel
theorem dX8_isGood_13 : decode cX8_isGood 13 = .ok (.aload_n 0, 1) := by decide +kernel
theorem dX8_isGood_14 : decode cX8_isGood 14 = .ok (.iconst 0, 1) := by decide +kernel
theorem dX8_isGood_15 : decode cX8_isGood 15 = .ok (.invokevirtual 129, 3) := by decide +kernel
theorem dX8_isGood_18 : decode cX8_isGood 18 = .ok (.aload_n 0, 1) := by decide +kernel
theorem dX8_isGood_19 : decode cX8_isGood 19 = .ok (.getfield 79, 3) := by decide +kernel
theorem dX8_isGood_22 : decode cX8_isGood 22 = .ok (.iand, 1) := by decide +kernel
theorem dX8_isGood_23 : decode cX8_isGood 23 = .ok (.ifCond .eq 7, 3) := by decide +kernel
theorem dX8_isGood_26 : decode cX8_isGood 26 = .ok (.iconst 1, 1) := by decide +kernel
theorem dX8_isGood_27 : decode cX8_isGood 27 = .ok (.goto 4, 3) := by decide +kernel
theorem dX8_isGood_30 : decode cX8_isGood 30 = .ok (.iconst 0, 1) := by decide +kernel
theorem dX8_isGood_31 : decode cX8_isGood 31 = .ok (.ireturn, 1) := by decide +kernel
theorem dX8_runs_0 : decode cX8_runs 0 = .ok (.aload_n 0, 1) := by decide +kernel
theorem dX8_runs_1 : decode cX8_runs 1 = .ok (.getfield 49, 3) := by decide +kernel
theorem dX8_runs_4 : decode cX8_runs 4 = .ok (.getfield 139, 3) := by decide +kernel
theorem dX8_runs_7 : decode cX8_runs 7 = .ok (.ifCond .ne 6, 3) := by decide +kernel
theorem dX8_runs_10 : decode cX8_runs 10 = .ok (.bipush (-2), 2) := by decide +kernel
theorem dX8_runs_12 : decode cX8_runs 12 = .ok (.ireturn, 1) := by decide +kernel
theorem dX8_runs_13 : decode cX8_runs 13 = .ok (.aload_n 0, 1) := by decide +kernel
theorem dX8_runs_14 : decode cX8_runs 14 = .ok (.getfield 25, 3) := by decide +kernel
theorem dX8_runs_17 : decode cX8_runs 17 = .ok (.aload_n 0, 1) := by decide +kernel
theorem dX8_runs_18 : decode cX8_runs 18 = .ok (.getfield 49, 3) := by decide +kernel
theorem dX8_runs_21 : decode cX8_runs 21 = .ok (.aload_n 0, 1) := by decide +kernel
theorem dX8_runs_22 : decode cX8_runs 22 = .ok (.getfield 39, 3) := by decide +kernel
theorem dX8_runs_25 : decode cX8_runs 25 = .ok (.aload_n 0, 1) := by decide +kernel
theorem dX8_runs_26 : decode cX8_runs 26 = .ok (.getfield 73, 3) := by decide +kernel
theorem dX8_runs_29 : decode cX8_runs 29 = .ok (.invokevirtual 142, 3) := by decide +kernel
theorem dX8_runs_32 : decode cX8_runs 32 = .ok (.aload_n 0, 1) := by decide +kernel
theorem dX8_runs_33 : decode cX8_runs 33 = .ok (.getfield 25, 3) := by decide +kernel
theorem dX8_runs_36 : decode cX8_runs 36 = .ok (.aload_n 0, 1) := by decide +kernel
theorem dX8_runs_37 : decode cX8_runs 37 = .ok (.getfield 79, 3) := by decide +kernel
theorem dX8_runs_40 : decode cX8_runs 40 = .ok (.invokevirtual 146, 3) := by decide +kernel
theorem dX8_runs_43 : decode cX8_runs 43 = .ok (.ireturn, 1) := by decide +kernel
theorem dX8_places_0 : decode cX8_places 0 = .ok (.iload_n 1, 1) := by decide +kernel
theorem dX8_places_1 : decode cX8_places 1 = .ok (.invokestatic 118, 3) := by decide +kernel
theorem dX8_places_4 : decode cX8_places 4 = .ok (.ifCond .ne 5, 3) := by decide +kernel
theorem dX8_places_7 : decode cX8_places 7 = .ok (.iconst (-1), 1) := by decide +kernel
theorem dX8_places_8 : decode cX8_places 8 = .ok (.ireturn, 1) := by decide +kernel
theorem dX8_places_9 : decode cX8_places 9 = .ok (.aload_n 0, 1) := by decide +kernel
theorem dX8_places_10 : decode cX8_places 10 = .ok (.getfield 25, 3) := by decide +kernel
theorem dX8_places_13 : decode cX8_places 13 = .ok (.aload_n 0, 1) := by decide +kernel
theorem dX8_places_14 : decode cX8_places 14 = .ok (.getfield 49, 3) := by decide +kernel
theorem dX8_places_17 : decode cX8_places 17 = .ok (.aload_n 0, 1) := by decide +kernel
theorem dX8_places_18 : decode cX8_places 18 = .ok (.getfield 39, 3) := by decide +kernel
theorem dX8_places_21 : decode cX8_places 21 = .ok (.aload_n 0, 1) := by decide +kernel
theorem dX8_places_22 : decode cX8_places 22 = .ok (.getfield 73, 3) := by decide +kernel
theorem dX8_places_25 : decode cX8_places 25 = .ok (.invokevirtual 149, 3) := by decide +kernel
theorem dX8_places_28 : decode cX8_places 28 = .ok (.iconst 0, 1) := by decide +kernel
theorem dX8_places_29 : decode cX8_places 29 = .ok (.istore_n 2, 1) := by decide +kernel
theorem dX8_places_30 : decode cX8_places 30 = .ok (.iconst 0, 1) := by decide +kernel
theorem dX8_places_31 : decode cX8_places 31 = .ok (.istore_n 3, 1) := by decide +kernel
theorem dX8_places_32 : decode cX8_places 32 = .ok (.iload_n 3, 1) := by decide +kernel
theorem dX8_places_33 : decode cX8_places 33 = .ok (.aload_n 0, 1) := by decide +kernel
theorem dX8_places_34 : decode cX8_places 34 = .ok (.getfield 49, 3) := by decide +kernel
theorem dX8_places_37 : decode cX8_places 37 = .ok (.getfield 139, 3) := by decide +kernel
theorem dX8_places_40 : decode cX8_places 40 = .ok (.if_icmp .ge 27, 3) := by decide +kernel
theorem dX8_places_43 : decode cX8_places 43 = .ok (.iload_n 2, 1) := by decide +kernel
theorem dX8_places_44 : decode cX8_places 44 = .ok (.aload_n 0, 1) := by decide +kernel
theorem dX8_places_45 : decode cX8_places 45 = .ok (.getfield 25, 3) := by decide +kernel
theorem dX8_places_48 : decode cX8_places 48 = .ok (.getfield 152, 3) := by decide +kernel
theorem dX8_places_51 : decode cX8_places 51 = .ok (.iload_n 3, 1) := by decide +kernel
theorem dX8_places_52 : decode cX8_places 52 = .ok (.iaload, 1) := by decide +kernel
theorem dX8_places_53 : decode cX8_places 53 = .ok (.iload_n 1, 1) := by decide +kernel
theorem dX8_places_54 : decode cX8_places 54 = .ok (.invokestatic 107, 3) := by decide +kernel
theorem dX8_places_57 : decode cX8_places 57 = .ok (.iload_n 3, 1) := by decide +kernel
theorem dX8_places_58 : decode cX8_places 58 = .ok (.ishl, 1) := by decide +kernel
theorem dX8_places_59 : decode cX8_places 59 = .ok (.ior, 1) := by decide +kernel
theorem dX8_places_60 : decode cX8_places 60 = .ok (.istore_n 2, 1) := by decide +kernel
theorem dX8_places_61 : decode cX8_places 61 = .ok (.iinc 3 1, 3) := by decide +kernel
theorem dX8_places_64 : decode cX8_places 64 = .ok (.goto (-32), 3) := by decide +kernel
theorem dX8_places_67 : decode cX8_places 67 = .ok (.iload_n 2, 1) := by decide +kernel
theorem dX8_places_68 : decode cX8_places 68 = .ok (.ireturn, 1) := by decide +kernel
theorem dX8_mend_0 : decode cX8_mend 0 = .ok (.iload_n 1, 1) := by decide +kernel
theorem dX8_mend_1 : decode cX8_mend 1 = .ok (.iconst (-1), 1) := by decide +kernel
theorem dX8_mend_2 : decode cX8_mend 2 = .ok (.if_icmp .eq 16, 3) := by decide +kernel
theorem dX8_mend_5 : decode cX8_mend 5 = .ok (.aload_n 0, 1) := by decide +kernel
theorem dX8_mend_6 : decode cX8_mend 6 = .ok (.getfield 49, 3) := by decide +kernel
theorem dX8_mend_9 : decode cX8_mend 9 = .ok (.iload_n 1, 1) := by decide +kernel
theorem dX8_mend_10 : decode cX8_mend 10 = .ok (.invokevirtual 121, 3) := by decide +kernel
theorem dX8_mend_13 : decode cX8_mend 13 = .ok (.ifCond .ne 5, 3) := by decide +kernel
theorem dX8_mend_16 : decode cX8_mend 16 = .ok (.iconst (-1), 1) := by decide +kernel
theorem dX8_mend_17 : decode cX8_mend 17 = .ok (.ireturn, 1) := by decide +kernel
theorem dX8_mend_18 : decode cX8_mend 18 = .ok (.aload_n 0, 1) := by decide +kernel
theorem dX8_mend_19 : decode cX8_mend 19 = .ok (.getfield 49, 3) := by decide +kernel
theorem dX8_mend_22 : decode cX8_mend 22 = .ok (.getfield 139, 3) := by decide +kernel
theorem dX8_mend_25 : decode cX8_mend 25 = .ok (.ifCond .ne 6, 3) := by decide +kernel
theorem dX8_mend_28 : decode cX8_mend 28 = .ok (.bipush (-2), 2) := by decide +kernel
theorem dX8_mend_30 : decode cX8_mend 30 = .ok (.ireturn, 1) := by decide +kernel
theorem dX8_mend_31 : decode cX8_mend 31 = .ok (.aload_n 0, 1) := by decide +kernel
theorem dX8_mend_32 : decode cX8_mend 32 = .ok (.getfield 25, 3) := by decide +kernel
theorem dX8_mend_35 : decode cX8_mend 35 = .ok (.aload_n 0, 1) := by decide +kernel
theorem dX8_mend_36 : decode cX8_mend 36 = .ok (.getfield 49, 3) := by decide +kernel
theorem dX8_mend_39 : decode cX8_mend 39 = .ok (.aload_n 0, 1) := by decide +kernel
theorem dX8_mend_40 : decode cX8_mend 40 = .ok (.getfield 39, 3) := by decide +kernel
theorem dX8_mend_43 : decode cX8_mend 43 = .ok (.aload_n 0, 1) := by decide +kernel
theorem dX8_mend_44 : decode cX8_mend 44 = .ok (.getfield 73, 3) := by decide +kernel
theorem dX8_mend_47 : decode cX8_mend 47 = .ok (.invokevirtual 155, 3) := by decide +kernel
theorem dX8_mend_50 : decode cX8_mend 50 = .ok (.aload_n 0, 1) := by decide +kernel
theorem dX8_mend_51 : decode cX8_mend 51 = .ok (.getfield 25, 3) := by decide +kernel
theorem dX8_mend_54 : decode cX8_mend 54 = .ok (.aload_n 0, 1) := by decide +kernel
theorem dX8_mend_55 : decode cX8_mend 55 = .ok (.getfield 79, 3) := by decide +kernel
theorem dX8_mend_58 : decode cX8_mend 58 = .ok (.invokevirtual 158, 3) := by decide +kernel
theorem dX8_mend_61 : decode cX8_mend 61 = .ok (.istore_n 2, 1) := by decide +kernel
theorem dX8_mend_62 : decode cX8_mend 62 = .ok (.iload_n 2, 1) := by decide +kernel
theorem dX8_mend_63 : decode cX8_mend 63 = .ok (.invokestatic 118, 3) := by decide +kernel
theorem dX8_mend_66 : decode cX8_mend 66 = .ok (.ifCond .ne 6, 3) := by decide +kernel
theorem dX8_mend_69 : decode cX8_mend 69 = .ok (.bipush (-9), 2) := by decide +kernel
theorem dX8_mend_71 : decode cX8_mend 71 = .ok (.ireturn, 1) := by decide +kernel
theorem dX8_mend_72 : decode cX8_mend 72 = .ok (.iload_n 1, 1) := by decide +kernel
theorem dX8_mend_73 : decode cX8_mend 73 = .ok (.iconst (-1), 1) := by decide +kernel
theorem dX8_mend_74 : decode cX8_mend 74 = .ok (.if_icmp .ne 13, 3) := by decide +kernel
theorem dX8_mend_77 : decode cX8_mend 77 = .ok (.aload_n 0, 1) := by decide +kernel
theorem dX8_mend_78 : decode cX8_mend 78 = .ok (.getfield 25, 3) := by decide +kernel
theorem dX8_mend_81 : decode cX8_mend 81 = .ok (.getfield 161, 3) := by decide +kernel
theorem dX8_mend_84 : decode cX8_mend 84 = .ok (.iload_n 2, 1) := by decide +kernel
theorem dX8_mend_85 : decode cX8_mend 85 = .ok (.iaload, 1) := by decide +kernel
theorem dX8_mend_86 : decode cX8_mend 86 = .ok (.ireturn, 1) := by decide +kernel
theorem dX8_mend_87 : decode cX8_mend 87 = .ok (.aload_n 0, 1) := by decide +kernel
theorem dX8_mend_88 : decode cX8_mend 88 = .ok (.getfield 49, 3) := by decide +kernel
theorem dX8_mend_91 : decode cX8_mend 91 = .ok (.getfield 122, 3) := by decide +kernel
theorem dX8_mend_94 : decode cX8_mend 94 = .ok (.iload_n 1, 1) := by decide +kernel
theorem dX8_mend_95 : decode cX8_mend 95 = .ok (.iaload, 1) := by decide +kernel
theorem dX8_mend_96 : decode cX8_mend 96 = .ok (.invokestatic 133, 3) := by decide +kernel
theorem dX8_mend_99 : decode cX8_mend 99 = .ok (.invokestatic 164, 3) := by decide +kernel
theorem dX8_mend_102 : decode cX8_mend 102 = .ok (.aload_n 0, 1) := by decide +kernel
theorem dX8_mend_103 : decode cX8_mend 103 = .ok (.getfield 25, 3) := by decide +kernel
theorem dX8_mend_106 : decode cX8_mend 106 = .ok (.getfield 167, 3) := by decide +kernel
theorem dX8_mend_109 : decode cX8_mend 109 = .ok (.iload_n 2, 1) := by decide +kernel
theorem dX8_mend_110 : decode cX8_mend 110 = .ok (.laload, 1) := by decide +kernel
theorem dX8_mend_111 : decode cX8_mend 111 = .ok (.iload_n 1, 1) := by decide +kernel
theorem dX8_mend_112 : decode cX8_mend 112 = .ok (.invokestatic 171, 3) := by decide +kernel
theorem dX8_mend_115 : decode cX8_mend 115 = .ok (.iadd, 1) := by decide +kernel
theorem dX8_mend_116 : decode cX8_mend 116 = .ok (.ireturn, 1) := by decide +kernel
theorem dX8_sets_0 : decode cX8_sets 0 = .ok (.aload_n 0, 1) := by decide +kernel
theorem dX8_sets_1 : decode cX8_sets 1 = .ok (.iconst 0, 1) := by decide +kernel
theorem dX8_sets_2 : decode cX8_sets 2 = .ok (.invokevirtual 175, 3) := by decide +kernel
theorem dX8_sets_5 : decode cX8_sets 5 = .ok (.getfield 179, 3) := by decide +kernel
theorem dX8_sets_8 : decode cX8_sets 8 = .ok (.ireturn, 1) := by decide +kernel
theorem dX8_classes_0 : decode cX8_classes 0 = .ok (.aload_n 0, 1) := by decide +kernel
theorem dX8_classes_1 : decode cX8_classes 1 = .ok (.iconst 0, 1) := by decide +kernel
theorem dX8_classes_2 : decode cX8_classes 2 = .ok (.invokevirtual 175, 3) := by decide +kernel
theorem dX8_classes_5 : decode cX8_classes 5 = .ok (.astore_n 1, 1) := by decide +kernel
theorem dX8_classes_6 : decode cX8_classes 6 = .ok (.aload_n 1, 1) := by decide +kernel
theorem dX8_classes_7 : decode cX8_classes 7 = .ok (.getfield 180, 3) := by decide +kernel
theorem dX8_classes_10 : decode cX8_classes 10 = .ok (.aload_n 1, 1) := by decide +kernel
theorem dX8_classes_11 : decode cX8_classes 11 = .ok (.aload_n 0, 1) := by decide +kernel
theorem dX8_classes_12 : decode cX8_classes 12 = .ok (.getfield 79, 3) := by decide +kernel
theorem dX8_classes_15 : decode cX8_classes 15 = .ok (.invokevirtual 184, 3) := by decide +kernel
theorem dX8_classes_18 : decode cX8_classes 18 = .ok (.ireturn, 1) := by decide +kernel
theorem dX8_useful_0 : decode cX8_useful 0 = .ok (.aload_n 0, 1) := by decide +kernel
theorem dX8_useful_1 : decode cX8_useful 1 = .ok (.getfield 39, 3) := by decide +kernel
theorem dX8_useful_4 : decode cX8_useful 4 = .ok (.aload_n 0, 1) := by decide +kernel
theorem dX8_useful_5 : decode cX8_useful 5 = .ok (.getfield 73, 3) := by decide +kernel
theorem dX8_useful_8 : decode cX8_useful 8 = .ok (.aload_n 0, 1) := by decide +kernel
theorem dX8_useful_9 : decode cX8_useful 9 = .ok (.getfield 79, 3) := by decide +kernel
theorem dX8_useful_12 : decode cX8_useful 12 = .ok (.invokevirtual 190, 3) := by decide +kernel
theorem dX8_useful_15 : decode cX8_useful 15 = .ok (.ireturn, 1) := by decide +kernel
theorem dX8_least_0 : decode cX8_least 0 = .ok (.iload_n 1, 1) := by decide +kernel
theorem dX8_least_1 : decode cX8_least 1 = .ok (.iconst (-1), 1) := by decide +kernel
theorem dX8_least_2 : decode cX8_least 2 = .ok (.if_icmp .ge 5, 3) := by decide +kernel
theorem dX8_least_5 : decode cX8_least 5 = .ok (.iconst (-1), 1) := by decide +kernel
theorem dX8_least_6 : decode cX8_least 6 = .ok (.ireturn, 1) := by decide +kernel
theorem dX8_least_7 : decode cX8_least 7 = .ok (.aload_n 0, 1) := by decide +kernel
theorem dX8_least_8 : decode cX8_least 8 = .ok (.iconst 0, 1) := by decide +kernel
theorem dX8_least_9 : decode cX8_least 9 = .ok (.invokevirtual 175, 3) := by decide +kernel
theorem dX8_least_12 : decode cX8_least 12 = .ok (.astore_n 2, 1) := by decide +kernel
theorem dX8_least_13 : decode cX8_least 13 = .ok (.aload_n 2, 1) := by decide +kernel
theorem dX8_least_14 : decode cX8_least 14 = .ok (.aload_n 2, 1) := by decide +kernel
theorem dX8_least_15 : decode cX8_least 15 = .ok (.aload_n 0, 1) := by decide +kernel
theorem dX8_least_16 : decode cX8_least 16 = .ok (.getfield 79, 3) := by decide +kernel
theorem dX8_least_19 : decode cX8_least 19 = .ok (.iconst 0, 1) := by decide +kernel
theorem dX8_least_20 : decode cX8_least 20 = .ok (.invokevirtual 193, 3) := by decide +kernel
theorem dX8_least_23 : decode cX8_least 23 = .ok (.iload_n 1, 1) := by decide +kernel
theorem dX8_least_24 : decode cX8_least 24 = .ok (.invokevirtual 196, 3) := by decide +kernel
theorem dX8_least_27 : decode cX8_least 27 = .ok (.ireturn, 1) := by decide +kernel
theorem dX8_many_0 : decode cX8_many 0 = .ok (.iload_n 1, 1) := by decide +kernel
theorem dX8_many_1 : decode cX8_many 1 = .ok (.invokestatic 199, 3) := by decide +kernel
theorem dX8_many_4 : decode cX8_many 4 = .ok (.ifCond .ne 7, 3) := by decide +kernel
theorem dX8_many_7 : decode cX8_many 7 = .ok (.ldc2_w 202, 3) := by decide +kernel
theorem dX8_many_10 : decode cX8_many 10 = .ok (.lreturn, 1) := by decide +kernel
theorem dX8_many_11 : decode cX8_many 11 = .ok (.aload_n 0, 1) := by decide +kernel
theorem dX8_many_12 : decode cX8_many 12 = .ok (.iconst 0, 1) := by decide +kernel
theorem dX8_many_13 : decode cX8_many 13 = .ok (.invokevirtual 175, 3) := by decide +kernel
theorem dX8_many_16 : decode cX8_many 16 = .ok (.astore_n 2, 1) := by decide +kernel
theorem dX8_many_17 : decode cX8_many 17 = .ok (.lconst 0, 1) := by decide +kernel
theorem dX8_many_18 : decode cX8_many 18 = .ok (.lstore_n 3, 1) := by decide +kernel
theorem dX8_many_19 : decode cX8_many 19 = .ok (.iconst 0, 1) := by decide +kernel
theorem dX8_many_20 : decode cX8_many 20 = .ok (.istore 5, 2) := by decide +kernel
theorem dX8_many_22 : decode cX8_many 22 = .ok (.iload 5, 2) := by decide +kernel
theorem dX8_many_24 : decode cX8_many 24 = .ok (.aload_n 2, 1) := by decide +kernel
theorem dX8_many_25 : decode cX8_many 25 = .ok (.getfield 179, 3) := by decide +kernel
theorem dX8_many_28 : decode cX8_many 28 = .ok (.if_icmp .ge 36, 3) := by decide +kernel
theorem dX8_many_31 : decode cX8_many 31 = .ok (.aload_n 2, 1) := by decide +kernel
theorem dX8_many_32 : decode cX8_many 32 = .ok (.iload 5, 2) := by decide +kernel
theorem dX8_many_34 : decode cX8_many 34 = .ok (.aload_n 0, 1) := by decide +kernel
theorem dX8_many_35 : decode cX8_many 35 = .ok (.getfield 79, 3) := by decide +kernel
theorem dX8_many_38 : decode cX8_many 38 = .ok (.invokevirtual 204, 3) := by decide +kernel
theorem dX8_many_41 : decode cX8_many 41 = .ok (.ifCond .eq 17, 3) := by decide +kernel
theorem dX8_many_44 : decode cX8_many 44 = .ok (.lload_n 3, 1) := by decide +kernel
theorem dX8_many_45 : decode cX8_many 45 = .ok (.aload_n 2, 1) := by decide +kernel
theorem dX8_many_46 : decode cX8_many 46 = .ok (.getfield 208, 3) := by decide +kernel
theorem dX8_many_49 : decode cX8_many 49 = .ok (.aload_n 2, 1) := by decide +kernel
theorem dX8_many_50 : decode cX8_many 50 = .ok (.iload 5, 2) := by decide +kernel
theorem dX8_many_52 : decode cX8_many 52 = .ok (.iload_n 1, 1) := by decide +kernel
theorem dX8_many_53 : decode cX8_many 53 = .ok (.invokevirtual 212, 3) := by decide +kernel
theorem dX8_many_56 : decode cX8_many 56 = .ok (.ladd, 1) := by decide +kernel
theorem dX8_many_57 : decode cX8_many 57 = .ok (.lstore_n 3, 1) := by decide +kernel
theorem dX8_many_58 : decode cX8_many 58 = .ok (.iinc 5 1, 3) := by decide +kernel
theorem dX8_many_61 : decode cX8_many 61 = .ok (.goto (-39), 3) := by decide +kernel
theorem dX8_many_64 : decode cX8_many 64 = .ok (.lload_n 3, 1) := by decide +kernel
theorem dX8_many_65 : decode cX8_many 65 = .ok (.lreturn, 1) := by decide +kernel
theorem dX8_alike_0 : decode cX8_alike 0 = .ok (.aload_n 0, 1) := by decide +kernel
theorem dX8_alike_1 : decode cX8_alike 1 = .ok (.iload_n 1, 1) := by decide +kernel
theorem dX8_alike_2 : decode cX8_alike 2 = .ok (.invokevirtual 218, 3) := by decide +kernel
theorem dX8_alike_5 : decode cX8_alike 5 = .ok (.istore_n 2, 1) := by decide +kernel
theorem dX8_alike_6 : decode cX8_alike 6 = .ok (.iload_n 2, 1) := by decide +kernel
theorem dX8_alike_7 : decode cX8_alike 7 = .ok (.ifCond .eq 5, 3) := by decide +kernel
theorem dX8_alike_10 : decode cX8_alike 10 = .ok (.iload_n 2, 1) := by decide +kernel
theorem dX8_alike_11 : decode cX8_alike 11 = .ok (.ireturn, 1) := by decide +kernel
theorem dX8_alike_12 : decode cX8_alike 12 = .ok (.aload_n 0, 1) := by decide +kernel
theorem dX8_alike_13 : decode cX8_alike 13 = .ok (.aload_n 0, 1) := by decide +kernel
theorem dX8_alike_14 : decode cX8_alike 14 = .ok (.getfield 18, 3) := by decide +kernel
theorem dX8_alike_17 : decode cX8_alike 17 = .ok (.iload_n 1, 1) := by decide +kernel
theorem dX8_alike_18 : decode cX8_alike 18 = .ok (.aaload, 1) := by decide +kernel
theorem dX8_alike_19 : decode cX8_alike 19 = .ok (.getfield 221, 3) := by decide +kernel
theorem dX8_alike_22 : decode cX8_alike 22 = .ok (.invokevirtual 175, 3) := by decide +kernel
theorem dX8_alike_25 : decode cX8_alike 25 = .ok (.astore_n 3, 1) := by decide +kernel
theorem dX8_alike_26 : decode cX8_alike 26 = .ok (.aload_n 3, 1) := by decide +kernel
theorem dX8_alike_27 : decode cX8_alike 27 = .ok (.getfield 222, 3) := by decide +kernel
theorem dX8_alike_30 : decode cX8_alike 30 = .ok (.ifCond .eq 6, 3) := by decide +kernel
theorem dX8_alike_33 : decode cX8_alike 33 = .ok (.bipush (-3), 2) := by decide +kernel
theorem dX8_alike_35 : decode cX8_alike 35 = .ok (.ireturn, 1) := by decide +kernel
theorem dX8_alike_36 : decode cX8_alike 36 = .ok (.iconst 0, 1) := by decide +kernel
theorem dX8_alike_37 : decode cX8_alike 37 = .ok (.istore 4, 2) := by decide +kernel
theorem dX8_alike_39 : decode cX8_alike 39 = .ok (.iload 4, 2) := by decide +kernel
theorem dX8_alike_41 : decode cX8_alike 41 = .ok (.aload_n 3, 1) := by decide +kernel
theorem dX8_alike_42 : decode cX8_alike 42 = .ok (.getfield 179, 3) := by decide +kernel
theorem dX8_alike_45 : decode cX8_alike 45 = .ok (.if_icmp .ge 33, 3) := by decide +kernel
theorem dX8_alike_48 : decode cX8_alike 48 = .ok (.aload_n 3, 1) := by decide +kernel
theorem dX8_alike_49 : decode cX8_alike 49 = .ok (.iload 4, 2) := by decide +kernel
theorem dX8_alike_51 : decode cX8_alike 51 = .ok (.aload_n 0, 1) := by decide +kernel
theorem dX8_alike_52 : decode cX8_alike 52 = .ok (.getfield 79, 3) := by decide +kernel
theorem dX8_alike_55 : decode cX8_alike 55 = .ok (.aload_n 0, 1) := by decide +kernel
theorem dX8_alike_56 : decode cX8_alike 56 = .ok (.getfield 18, 3) := by decide +kernel
theorem dX8_alike_59 : decode cX8_alike 59 = .ok (.iload_n 1, 1) := by decide +kernel
theorem dX8_alike_60 : decode cX8_alike 60 = .ok (.aaload, 1) := by decide +kernel
theorem dX8_alike_61 : decode cX8_alike 61 = .ok (.getfield 225, 3) := by decide +kernel
theorem dX8_alike_64 : decode cX8_alike 64 = .ok (.invokevirtual 226, 3) := by decide +kernel
theorem dX8_alike_67 : decode cX8_alike 67 = .ok (.ifCond .eq 5, 3) := by decide +kernel
theorem dX8_alike_70 : decode cX8_alike 70 = .ok (.iconst 0, 1) := by decide +kernel
theorem dX8_alike_71 : decode cX8_alike 71 = .ok (.ireturn, 1) := by decide +kernel
theorem dX8_alike_72 : decode cX8_alike 72 = .ok (.iinc 4 1, 3) := by decide +kernel
theorem dX8_alike_75 : decode cX8_alike 75 = .ok (.goto (-36), 3) := by decide +kernel
theorem dX8_alike_78 : decode cX8_alike 78 = .ok (.iconst 1, 1) := by decide +kernel
theorem dX8_alike_79 : decode cX8_alike 79 = .ok (.ireturn, 1) := by decide +kernel
theorem dX8_apart_0 : decode cX8_apart 0 = .ok (.iload_n 2, 1) := by decide +kernel
theorem dX8_apart_1 : decode cX8_apart 1 = .ok (.iconst (-1), 1) := by decide +kernel
theorem dX8_apart_2 : decode cX8_apart 2 = .ok (.if_icmp .ge 7, 3) := by decide +kernel
theorem dX8_apart_5 : decode cX8_apart 5 = .ok (.iconst (-1), 1) := by decide +kernel
theorem dX8_apart_6 : decode cX8_apart 6 = .ok (.goto 8, 3) := by decide +kernel
theorem dX8_apart_9 : decode cX8_apart 9 = .ok (.aload_n 0, 1) := by decide +kernel
theorem dX8_apart_10 : decode cX8_apart 10 = .ok (.iload_n 1, 1) := by decide +kernel
theorem dX8_apart_11 : decode cX8_apart 11 = .ok (.invokevirtual 218, 3) := by decide +kernel
theorem dX8_apart_14 : decode cX8_apart 14 = .ok (.istore_n 3, 1) := by decide +kernel
theorem dX8_apart_15 : decode cX8_apart 15 = .ok (.iload_n 3, 1) := by decide +kernel
theorem dX8_apart_16 : decode cX8_apart 16 = .ok (.ifCond .eq 5, 3) := by decide +kernel
theorem dX8_apart_19 : decode cX8_apart 19 = .ok (.iload_n 3, 1) := by decide +kernel
theorem dX8_apart_20 : decode cX8_apart 20 = .ok (.ireturn, 1) := by decide +kernel
theorem dX8_apart_21 : decode cX8_apart 21 = .ok (.aload_n 0, 1) := by decide +kernel
theorem dX8_apart_22 : decode cX8_apart 22 = .ok (.aload_n 0, 1) := by decide +kernel
theorem dX8_apart_23 : decode cX8_apart 23 = .ok (.getfield 18, 3) := by decide +kernel
theorem dX8_apart_26 : decode cX8_apart 26 = .ok (.iload_n 1, 1) := by decide +kernel
theorem dX8_apart_27 : decode cX8_apart 27 = .ok (.aaload, 1) := by decide +kernel
theorem dX8_apart_28 : decode cX8_apart 28 = .ok (.getfield 221, 3) := by decide +kernel
theorem dX8_apart_31 : decode cX8_apart 31 = .ok (.invokevirtual 175, 3) := by decide +kernel
theorem dX8_apart_34 : decode cX8_apart 34 = .ok (.astore 4, 2) := by decide +kernel
theorem dX8_apart_36 : decode cX8_apart 36 = .ok (.aload 4, 2) := by decide +kernel
theorem dX8_apart_38 : decode cX8_apart 38 = .ok (.getfield 222, 3) := by decide +kernel
theorem dX8_apart_41 : decode cX8_apart 41 = .ok (.ifCond .eq 6, 3) := by decide +kernel
theorem dX8_apart_44 : decode cX8_apart 44 = .ok (.bipush (-3), 2) := by decide +kernel
theorem dX8_apart_46 : decode cX8_apart 46 = .ok (.ireturn, 1) := by decide +kernel
theorem dX8_apart_47 : decode cX8_apart 47 = .ok (.aload 4, 2) := by decide +kernel
theorem dX8_apart_49 : decode cX8_apart 49 = .ok (.aload 4, 2) := by decide +kernel
theorem dX8_apart_51 : decode cX8_apart 51 = .ok (.aload_n 0, 1) := by decide +kernel
theorem dX8_apart_52 : decode cX8_apart 52 = .ok (.getfield 79, 3) := by decide +kernel
theorem dX8_apart_55 : decode cX8_apart 55 = .ok (.aload_n 0, 1) := by decide +kernel
theorem dX8_apart_56 : decode cX8_apart 56 = .ok (.getfield 18, 3) := by decide +kernel
theorem dX8_apart_59 : decode cX8_apart 59 = .ok (.iload_n 1, 1) := by decide +kernel
theorem dX8_apart_60 : decode cX8_apart 60 = .ok (.aaload, 1) := by decide +kernel
theorem dX8_apart_61 : decode cX8_apart 61 = .ok (.getfield 225, 3) := by decide +kernel
theorem dX8_apart_64 : decode cX8_apart 64 = .ok (.invokevirtual 193, 3) := by decide +kernel
theorem dX8_apart_67 : decode cX8_apart 67 = .ok (.iload_n 2, 1) := by decide +kernel
theorem dX8_apart_68 : decode cX8_apart 68 = .ok (.invokevirtual 196, 3) := by decide +kernel
theorem dX8_apart_71 : decode cX8_apart 71 = .ok (.ireturn, 1) := by decide +kernel
theorem dX8_both_0 : decode cX8_both 0 = .ok (.iload_n 2, 1) := by decide +kernel
theorem dX8_both_1 : decode cX8_both 1 = .ok (.invokestatic 199, 3) := by decide +kernel
theorem dX8_both_4 : decode cX8_both 4 = .ok (.ifCond .eq 11, 3) := by decide +kernel
theorem dX8_both_7 : decode cX8_both 7 = .ok (.aload_n 0, 1) := by decide +kernel
theorem dX8_both_8 : decode cX8_both 8 = .ok (.iload_n 1, 1) := by decide +kernel
theorem dX8_both_9 : decode cX8_both 9 = .ok (.invokevirtual 218, 3) := by decide +kernel
theorem dX8_both_12 : decode cX8_both 12 = .ok (.goto 4, 3) := by decide +kernel
theorem dX8_both_15 : decode cX8_both 15 = .ok (.iconst (-1), 1) := by decide +kernel
theorem dX8_both_16 : decode cX8_both 16 = .ok (.istore_n 3, 1) := by decide +kernel
theorem dX8_both_17 : decode cX8_both 17 = .ok (.iload_n 3, 1) := by decide +kernel
theorem dX8_both_18 : decode cX8_both 18 = .ok (.ifCond .eq 6, 3) := by decide +kernel
theorem dX8_both_21 : decode cX8_both 21 = .ok (.iload_n 3, 1) := by decide +kernel
theorem dX8_both_22 : decode cX8_both 22 = .ok (.i2l, 1) := by decide +kernel
theorem dX8_both_23 : decode cX8_both 23 = .ok (.lreturn, 1) := by decide +kernel
theorem dX8_both_24 : decode cX8_both 24 = .ok (.aload_n 0, 1) := by decide +kernel
theorem dX8_both_25 : decode cX8_both 25 = .ok (.aload_n 0, 1) := by decide +kernel
theorem dX8_both_26 : decode cX8_both 26 = .ok (.getfield 18, 3) := by decide +kernel
theorem dX8_both_29 : decode cX8_both 29 = .ok (.iload_n 1, 1) := by decide +kernel
theorem dX8_both_30 : decode cX8_both 30 = .ok (.aaload, 1) := by decide +kernel
theorem dX8_both_31 : decode cX8_both 31 = .ok (.getfield 221, 3) := by decide +kernel
theorem dX8_both_34 : decode cX8_both 34 = .ok (.invokevirtual 175, 3) := by decide +kernel
theorem dX8_both_37 : decode cX8_both 37 = .ok (.astore 4, 2) := by decide +kernel
theorem dX8_both_39 : decode cX8_both 39 = .ok (.aload 4, 2) := by decide +kernel
theorem dX8_both_41 : decode cX8_both 41 = .ok (.getfield 222, 3) := by decide +kernel
theorem dX8_both_44 : decode cX8_both 44 = .ok (.ifCond .eq 7, 3) := by decide +kernel
theorem dX8_both_47 : decode cX8_both 47 = .ok (.ldc2_w 230, 3) := by decide +kernel
theorem dX8_both_50 : decode cX8_both 50 = .ok (.lreturn, 1) := by decide +kernel
theorem dX8_both_51 : decode cX8_both 51 = .ok (.lconst 0, 1) := by decide +kernel
theorem dX8_both_52 : decode cX8_both 52 = .ok (.lstore 5, 2) := by decide +kernel
theorem dX8_both_54 : decode cX8_both 54 = .ok (.iconst 0, 1) := by decide +kernel
theorem dX8_both_55 : decode cX8_both 55 = .ok (.istore 7, 2) := by decide +kernel
theorem dX8_both_57 : decode cX8_both 57 = .ok (.iload 7, 2) := by decide +kernel
theorem dX8_both_59 : decode cX8_both 59 = .ok (.aload 4, 2) := by decide +kernel
theorem dX8_both_61 : decode cX8_both 61 = .ok (.getfield 179, 3) := by decide +kernel
theorem dX8_both_64 : decode cX8_both 64 = .ok (.if_icmp .ge 60, 3) := by decide +kernel
theorem dX8_both_67 : decode cX8_both 67 = .ok (.aload 4, 2) := by decide +kernel
theorem dX8_both_69 : decode cX8_both 69 = .ok (.iload 7, 2) := by decide +kernel
theorem dX8_both_71 : decode cX8_both 71 = .ok (.aload_n 0, 1) := by decide +kernel
theorem dX8_both_72 : decode cX8_both 72 = .ok (.getfield 79, 3) := by decide +kernel
theorem dX8_both_75 : decode cX8_both 75 = .ok (.invokevirtual 204, 3) := by decide +kernel
theorem dX8_both_78 : decode cX8_both 78 = .ok (.ifCond .eq 40, 3) := by decide +kernel
theorem dX8_both_81 : decode cX8_both 81 = .ok (.aload 4, 2) := by decide +kernel
theorem dX8_both_83 : decode cX8_both 83 = .ok (.iload 7, 2) := by decide +kernel
theorem dX8_both_85 : decode cX8_both 85 = .ok (.aload_n 0, 1) := by decide +kernel
theorem dX8_both_86 : decode cX8_both 86 = .ok (.getfield 18, 3) := by decide +kernel
theorem dX8_both_89 : decode cX8_both 89 = .ok (.iload_n 1, 1) := by decide +kernel
theorem dX8_both_90 : decode cX8_both 90 = .ok (.aaload, 1) := by decide +kernel
theorem dX8_both_91 : decode cX8_both 91 = .ok (.getfield 225, 3) := by decide +kernel
theorem dX8_both_94 : decode cX8_both 94 = .ok (.invokevirtual 232, 3) := by decide +kernel
theorem dX8_both_97 : decode cX8_both 97 = .ok (.ifCond .eq 21, 3) := by decide +kernel
theorem dX8_both_100 : decode cX8_both 100 = .ok (.lload 5, 2) := by decide +kernel
theorem dX8_both_102 : decode cX8_both 102 = .ok (.aload 4, 2) := by decide +kernel
theorem dX8_both_104 : decode cX8_both 104 = .ok (.getfield 208, 3) := by decide +kernel
theorem dX8_both_107 : decode cX8_both 107 = .ok (.aload 4, 2) := by decide +kernel
theorem dX8_both_109 : decode cX8_both 109 = .ok (.iload 7, 2) := by decide +kernel
theorem dX8_both_111 : decode cX8_both 111 = .ok (.iload_n 2, 1) := by decide +kernel
theorem dX8_both_112 : decode cX8_both 112 = .ok (.invokevirtual 212, 3) := by decide +kernel
theorem dX8_both_115 : decode cX8_both 115 = .ok (.ladd, 1) := by decide +kernel
theorem dX8_both_116 : decode cX8_both 116 = .ok (.lstore 5, 2) := by decide +kernel
theorem dX8_both_118 : decode cX8_both 118 = .ok (.iinc 7 1, 3) := by decide +kernel
theorem dX8_both_121 : decode cX8_both 121 = .ok (.goto (-64), 3) := by decide +kernel
theorem dX8_both_124 : decode cX8_both 124 = .ok (.lload 5, 2) := by decide +kernel
theorem dX8_both_126 : decode cX8_both 126 = .ok (.lreturn, 1) := by decide +kernel
theorem dX8_mark_0 : decode cX8_mark 0 = .ok (.iload_n 1, 1) := by decide +kernel
theorem dX8_mark_1 : decode cX8_mark 1 = .ok (.ifCond .lt 19, 3) := by decide +kernel
theorem dX8_mark_4 : decode cX8_mark 4 = .ok (.iload_n 1, 1) := by decide +kernel
theorem dX8_mark_5 : decode cX8_mark 5 = .ok (.iconst 5, 1) := by decide +kernel
theorem dX8_mark_6 : decode cX8_mark 6 = .ok (.if_icmp .gt 14, 3) := by decide +kernel
theorem dX8_mark_9 : decode cX8_mark 9 = .ok (.aload_n 0, 1) := by decide +kernel
theorem dX8_mark_10 : decode cX8_mark 10 = .ok (.getfield 49, 3) := by decide +kernel
theorem dX8_mark_13 : decode cX8_mark 13 = .ok (.iload_n 2, 1) := by decide +kernel
theorem dX8_mark_14 : decode cX8_mark 14 = .ok (.invokevirtual 121, 3) := by decide +kernel
theorem dX8_mark_17 : decode cX8_mark 17 = .ok (.ifCond .ne 6, 3) := by decide +kernel
theorem dX8_mark_20 : decode cX8_mark 20 = .ok (.ldc 235, 2) := by decide +kernel
theorem dX8_mark_22 : decode cX8_mark 22 = .ok (.ireturn, 1) := by decide +kernel
theorem dX8_mark_23 : decode cX8_mark 23 = .ok (.aload_n 0, 1) := by decide +kernel
theorem dX8_mark_24 : decode cX8_mark 24 = .ok (.iload_n 1, 1) := by decide +kernel
theorem dX8_mark_25 : decode cX8_mark 25 = .ok (.iload_n 2, 1) := by decide +kernel
theorem dX8_mark_26 : decode cX8_mark 26 = .ok (.invokevirtual 236, 3) := by decide +kernel
theorem dX8_mark_29 : decode cX8_mark 29 = .ok (.ireturn, 1) := by decide +kernel
theorem dX8_keep_0 : decode cX8_keep 0 = .ok (.iload_n 1, 1) := by decide +kernel
theorem dX8_keep_1 : decode cX8_keep 1 = .ok (.invokestatic 239, 3) := by decide +kernel
theorem dX8_keep_4 : decode cX8_keep 4 = .ok (.ifCond .ne 5, 3) := by decide +kernel
theorem dX8_keep_7 : decode cX8_keep 7 = .ok (.iconst (-1), 1) := by decide +kernel
theorem dX8_keep_8 : decode cX8_keep 8 = .ok (.ireturn, 1) := by decide +kernel
theorem dX8_keep_9 : decode cX8_keep 9 = .ok (.aload_n 0, 1) := by decide +kernel
theorem dX8_keep_10 : decode cX8_keep 10 = .ok (.getfield 18, 3) := by decide +kernel
theorem dX8_keep_13 : decode cX8_keep 13 = .ok (.iload_n 1, 1) := by decide +kernel
theorem dX8_keep_14 : decode cX8_keep 14 = .ok (.aaload, 1) := by decide +kernel
theorem dX8_keep_15 : decode cX8_keep 15 = .ok (.astore_n 2, 1) := by decide +kernel
theorem dX8_keep_16 : decode cX8_keep 16 = .ok (.aload_n 2, 1) := by decide +kernel
theorem dX8_keep_17 : decode cX8_keep 17 = .ok (.iconst 1, 1) := by decide +kernel
theorem dX8_keep_18 : decode cX8_keep 18 = .ok (.putfield 82, 3) := by decide +kernel
theorem dX8_keep_21 : decode cX8_keep 21 = .ok (.aload_n 2, 1) := by decide +kernel
theorem dX8_keep_22 : decode cX8_keep 22 = .ok (.aload_n 0, 1) := by decide +kernel
theorem dX8_keep_23 : decode cX8_keep 23 = .ok (.getfield 73, 3) := by decide +kernel
theorem dX8_keep_26 : decode cX8_keep 26 = .ok (.putfield 221, 3) := by decide +kernel
theorem dX8_keep_29 : decode cX8_keep 29 = .ok (.aload_n 2, 1) := by decide +kernel
theorem dX8_keep_30 : decode cX8_keep 30 = .ok (.aload_n 0, 1) := by decide +kernel
theorem dX8_keep_31 : decode cX8_keep 31 = .ok (.getfield 79, 3) := by decide +kernel
theorem dX8_keep_34 : decode cX8_keep 34 = .ok (.putfield 225, 3) := by decide +kernel
theorem dX8_keep_37 : decode cX8_keep 37 = .ok (.aload_n 2, 1) := by decide +kernel
theorem dX8_keep_38 : decode cX8_keep 38 = .ok (.getfield 242, 3) := by decide +kernel
theorem dX8_keep_41 : decode cX8_keep 41 = .ok (.aload_n 0, 1) := by decide +kernel
theorem dX8_keep_42 : decode cX8_keep 42 = .ok (.getfield 49, 3) := by decide +kernel
theorem dX8_keep_45 : decode cX8_keep 45 = .ok (.invokevirtual 243, 3) := by decide +kernel
theorem dX8_keep_48 : decode cX8_keep 48 = .ok (.aload_n 0, 1) := by decide +kernel
theorem dX8_keep_49 : decode cX8_keep 49 = .ok (.getfield 73, 3) := by decide +kernel
theorem dX8_keep_52 : decode cX8_keep 52 = .ok (.invokestatic 247, 3) := by decide +kernel
theorem dX8_keep_55 : decode cX8_keep 55 = .ok (.ireturn, 1) := by decide +kernel
theorem dX8_back_0 : decode cX8_back 0 = .ok (.aload_n 0, 1) := by decide +kernel
theorem dX8_back_1 : decode cX8_back 1 = .ok (.iload_n 1, 1) := by decide +kernel
theorem dX8_back_2 : decode cX8_back 2 = .ok (.invokevirtual 218, 3) := by decide +kernel
theorem dX8_back_5 : decode cX8_back 5 = .ok (.istore_n 2, 1) := by decide +kernel
theorem dX8_back_6 : decode cX8_back 6 = .ok (.iload_n 2, 1) := by decide +kernel
theorem dX8_back_7 : decode cX8_back 7 = .ok (.ifCond .eq 5, 3) := by decide +kernel
theorem dX8_back_10 : decode cX8_back 10 = .ok (.iload_n 2, 1) := by decide +kernel
theorem dX8_back_11 : decode cX8_back 11 = .ok (.ireturn, 1) := by decide +kernel
theorem dX8_back_12 : decode cX8_back 12 = .ok (.aload_n 0, 1) := by decide +kernel
theorem dX8_back_13 : decode cX8_back 13 = .ok (.getfield 18, 3) := by decide +kernel
theorem dX8_back_16 : decode cX8_back 16 = .ok (.iload_n 1, 1) := by decide +kernel
theorem dX8_back_17 : decode cX8_back 17 = .ok (.aaload, 1) := by decide +kernel
theorem dX8_back_18 : decode cX8_back 18 = .ok (.astore_n 3, 1) := by decide +kernel
theorem dX8_back_19 : decode cX8_back 19 = .ok (.aload_n 0, 1) := by decide +kernel
theorem dX8_back_20 : decode cX8_back 20 = .ok (.aload_n 3, 1) := by decide +kernel
theorem dX8_back_21 : decode cX8_back 21 = .ok (.getfield 221, 3) := by decide +kernel
theorem dX8_back_24 : decode cX8_back 24 = .ok (.putfield 73, 3) := by decide +kernel
theorem dX8_back_27 : decode cX8_back 27 = .ok (.aload_n 0, 1) := by decide +kernel
theorem dX8_back_28 : decode cX8_back 28 = .ok (.aload_n 3, 1) := by decide +kernel
theorem dX8_back_29 : decode cX8_back 29 = .ok (.getfield 225, 3) := by decide +kernel
theorem dX8_back_32 : decode cX8_back 32 = .ok (.putfield 79, 3) := by decide +kernel
theorem dX8_back_35 : decode cX8_back 35 = .ok (.aload_n 0, 1) := by decide +kernel
theorem dX8_back_36 : decode cX8_back 36 = .ok (.getfield 49, 3) := by decide +kernel
theorem dX8_back_39 : decode cX8_back 39 = .ok (.aload_n 3, 1) := by decide +kernel
theorem dX8_back_40 : decode cX8_back 40 = .ok (.getfield 242, 3) := by decide +kernel
theorem dX8_back_43 : decode cX8_back 43 = .ok (.invokevirtual 243, 3) := by decide +kernel
theorem dX8_back_46 : decode cX8_back 46 = .ok (.aload_n 0, 1) := by decide +kernel
theorem dX8_back_47 : decode cX8_back 47 = .ok (.getfield 73, 3) := by decide +kernel
theorem dX8_back_50 : decode cX8_back 50 = .ok (.invokestatic 247, 3) := by decide +kernel
theorem dX8_back_53 : decode cX8_back 53 = .ok (.ireturn, 1) := by decide +kernel
theorem dX8_count_0 : decode cX8_count 0 = .ok (.iload_n 1, 1) := by decide +kernel
theorem dX8_count_1 : decode cX8_count 1 = .ok (.tableswitch 72 0 4 #[35, 43, 51, 56, 64], 35) := by decide +kernel
theorem dX8_count_36 : decode cX8_count 36 = .ok (.aload_n 0, 1) := by decide +kernel
theorem dX8_count_37 : decode cX8_count 37 = .ok (.getfield 39, 3) := by decide +kernel
theorem dX8_count_40 : decode cX8_count 40 = .ok (.getfield 252, 3) := by decide +kernel
theorem dX8_count_43 : decode cX8_count 43 = .ok (.ireturn, 1) := by decide +kernel
theorem dX8_count_44 : decode cX8_count 44 = .ok (.aload_n 0, 1) := by decide +kernel
theorem dX8_count_45 : decode cX8_count 45 = .ok (.getfield 73, 3) := by decide +kernel
theorem dX8_count_48 : decode cX8_count 48 = .ok (.invokestatic 247, 3) := by decide +kernel
theorem dX8_count_51 : decode cX8_count 51 = .ok (.ireturn, 1) := by decide +kernel
theorem dX8_count_52 : decode cX8_count 52 = .ok (.aload_n 0, 1) := by decide +kernel
theorem dX8_count_53 : decode cX8_count 53 = .ok (.getfield 79, 3) := by decide +kernel
theorem dX8_count_56 : decode cX8_count 56 = .ok (.ireturn, 1) := by decide +kernel
theorem dX8_count_57 : decode cX8_count 57 = .ok (.aload_n 0, 1) := by decide +kernel
theorem dX8_count_58 : decode cX8_count 58 = .ok (.getfield 49, 3) := by decide +kernel
theorem dX8_count_61 : decode cX8_count 61 = .ok (.getfield 139, 3) := by decide +kernel
theorem dX8_count_64 : decode cX8_count 64 = .ok (.ireturn, 1) := by decide +kernel
theorem dX8_count_65 : decode cX8_count 65 = .ok (.aload_n 0, 1) := by decide +kernel
theorem dX8_count_66 : decode cX8_count 66 = .ok (.getfield 10, 3) := by decide +kernel
theorem dX8_count_69 : decode cX8_count 69 = .ok (.getfield 57, 3) := by decide +kernel
theorem dX8_count_72 : decode cX8_count 72 = .ok (.ireturn, 1) := by decide +kernel
theorem dX8_count_73 : decode cX8_count 73 = .ok (.iconst (-1), 1) := by decide +kernel
theorem dX8_count_74 : decode cX8_count 74 = .ok (.ireturn, 1) := by decide +kernel
theorem dX8_trace_0 : decode cX8_trace 0 = .ok (.aload_n 0, 1) := by decide +kernel
theorem dX8_trace_1 : decode cX8_trace 1 = .ok (.getfield 253, 3) := by decide +kernel
theorem dX8_trace_4 : decode cX8_trace 4 = .ok (.lreturn, 1) := by decide +kernel
theorem dX8_worthAs_0 : decode cX8_worthAs 0 = .ok (.iload_n 1, 1) := by decide +kernel
theorem dX8_worthAs_1 : decode cX8_worthAs 1 = .ok (.tableswitch 166 1 5 #[35, 56, 85, 117, 145], 35) := by decide +kernel
theorem dX8_worthAs_36 : decode cX8_worthAs 36 = .ok (.aload_n 0, 1) := by decide +kernel
theorem dX8_worthAs_37 : decode cX8_worthAs 37 = .ok (.dup, 1) := by decide +kernel
theorem dX8_worthAs_38 : decode cX8_worthAs 38 = .ok (.getfield 253, 3) := by decide +kernel
theorem dX8_worthAs_41 : decode cX8_worthAs 41 = .ok (.ldc2_w 257, 3) := by decide +kernel
theorem dX8_worthAs_44 : decode cX8_worthAs 44 = .ok (.ladd, 1) := by decide +kernel
theorem dX8_worthAs_45 : decode cX8_worthAs 45 = .ok (.putfield 253, 3) := by decide +kernel
theorem dX8_worthAs_48 : decode cX8_worthAs 48 = .ok (.aload_n 0, 1) := by decide +kernel
theorem dX8_worthAs_49 : decode cX8_worthAs 49 = .ok (.iconst 0, 1) := by decide +kernel
theorem dX8_worthAs_50 : decode cX8_worthAs 50 = .ok (.iload_n 2, 1) := by decide +kernel
theorem dX8_worthAs_51 : decode cX8_worthAs 51 = .ok (.invokevirtual 236, 3) := by decide +kernel
theorem dX8_worthAs_54 : decode cX8_worthAs 54 = .ok (.iconst 2, 1) := by decide +kernel
theorem dX8_worthAs_55 : decode cX8_worthAs 55 = .ok (.imul, 1) := by decide +kernel
theorem dX8_worthAs_56 : decode cX8_worthAs 56 = .ok (.ireturn, 1) := by decide +kernel
theorem dX8_worthAs_57 : decode cX8_worthAs 57 = .ok (.aload_n 0, 1) := by decide +kernel
theorem dX8_worthAs_58 : decode cX8_worthAs 58 = .ok (.dup, 1) := by decide +kernel
theorem dX8_worthAs_59 : decode cX8_worthAs 59 = .ok (.getfield 253, 3) := by decide +kernel
theorem dX8_worthAs_62 : decode cX8_worthAs 62 = .ok (.ldc2_w 259, 3) := by decide +kernel
theorem dX8_worthAs_65 : decode cX8_worthAs 65 = .ok (.ladd, 1) := by decide +kernel
theorem dX8_worthAs_66 : decode cX8_worthAs 66 = .ok (.putfield 253, 3) := by decide +kernel
theorem dX8_worthAs_69 : decode cX8_worthAs 69 = .ok (.aload_n 0, 1) := by decide +kernel
theorem dX8_worthAs_70 : decode cX8_worthAs 70 = .ok (.iconst 0, 1) := by decide +kernel
theorem dX8_worthAs_71 : decode cX8_worthAs 71 = .ok (.iload_n 2, 1) := by decide +kernel
theorem dX8_worthAs_72 : decode cX8_worthAs 72 = .ok (.invokevirtual 236, 3) := by decide +kernel
theorem dX8_worthAs_75 : decode cX8_worthAs 75 = .ok (.aload_n 0, 1) := by decide +kernel
theorem dX8_worthAs_76 : decode cX8_worthAs 76 = .ok (.getfield 49, 3) := by decide +kernel
theorem dX8_worthAs_79 : decode cX8_worthAs 79 = .ok (.getfield 122, 3) := by decide +kernel
theorem dX8_worthAs_82 : decode cX8_worthAs 82 = .ok (.iload_n 2, 1) := by decide +kernel
theorem dX8_worthAs_83 : decode cX8_worthAs 83 = .ok (.iaload, 1) := by decide +kernel
theorem dX8_worthAs_84 : decode cX8_worthAs 84 = .ok (.iadd, 1) := by decide +kernel
theorem dX8_worthAs_85 : decode cX8_worthAs 85 = .ok (.ireturn, 1) := by decide +kernel
theorem dX8_worthAs_86 : decode cX8_worthAs 86 = .ok (.aload_n 0, 1) := by decide +kernel
theorem dX8_worthAs_87 : decode cX8_worthAs 87 = .ok (.dup, 1) := by decide +kernel
theorem dX8_worthAs_88 : decode cX8_worthAs 88 = .ok (.getfield 253, 3) := by decide +kernel
theorem dX8_worthAs_91 : decode cX8_worthAs 91 = .ok (.ldc2_w 261, 3) := by decide +kernel
theorem dX8_worthAs_94 : decode cX8_worthAs 94 = .ok (.ladd, 1) := by decide +kernel
theorem dX8_worthAs_95 : decode cX8_worthAs 95 = .ok (.putfield 253, 3) := by decide +kernel
theorem dX8_worthAs_98 : decode cX8_worthAs 98 = .ok (.aload_n 0, 1) := by decide +kernel
theorem dX8_worthAs_99 : decode cX8_worthAs 99 = .ok (.iconst 1, 1) := by decide +kernel
theorem dX8_worthAs_100 : decode cX8_worthAs 100 = .ok (.iload_n 2, 1) := by decide +kernel
theorem dX8_worthAs_101 : decode cX8_worthAs 101 = .ok (.invokevirtual 236, 3) := by decide +kernel
theorem dX8_worthAs_104 : decode cX8_worthAs 104 = .ok (.aload_n 0, 1) := by decide +kernel
theorem dX8_worthAs_105 : decode cX8_worthAs 105 = .ok (.getfield 49, 3) := by decide +kernel
theorem dX8_worthAs_108 : decode cX8_worthAs 108 = .ok (.getfield 122, 3) := by decide +kernel
theorem dX8_worthAs_111 : decode cX8_worthAs 111 = .ok (.iload_n 2, 1) := by decide +kernel
theorem dX8_worthAs_112 : decode cX8_worthAs 112 = .ok (.iaload, 1) := by decide +kernel
theorem dX8_worthAs_113 : decode cX8_worthAs 113 = .ok (.invokestatic 133, 3) := by decide +kernel
theorem dX8_worthAs_116 : decode cX8_worthAs 116 = .ok (.iadd, 1) := by decide +kernel
theorem dX8_worthAs_117 : decode cX8_worthAs 117 = .ok (.ireturn, 1) := by decide +kernel
theorem dX8_worthAs_118 : decode cX8_worthAs 118 = .ok (.aload_n 0, 1) := by decide +kernel
theorem dX8_worthAs_119 : decode cX8_worthAs 119 = .ok (.dup, 1) := by decide +kernel
theorem dX8_worthAs_120 : decode cX8_worthAs 120 = .ok (.getfield 253, 3) := by decide +kernel
theorem dX8_worthAs_123 : decode cX8_worthAs 123 = .ok (.ldc2_w 263, 3) := by decide +kernel
theorem dX8_worthAs_126 : decode cX8_worthAs 126 = .ok (.ladd, 1) := by decide +kernel
theorem dX8_worthAs_127 : decode cX8_worthAs 127 = .ok (.putfield 253, 3) := by decide +kernel
theorem dX8_worthAs_130 : decode cX8_worthAs 130 = .ok (.aload_n 0, 1) := by decide +kernel
theorem dX8_worthAs_131 : decode cX8_worthAs 131 = .ok (.iconst 2, 1) := by decide +kernel
theorem dX8_worthAs_132 : decode cX8_worthAs 132 = .ok (.iload_n 2, 1) := by decide +kernel
theorem dX8_worthAs_133 : decode cX8_worthAs 133 = .ok (.invokevirtual 236, 3) := by decide +kernel
theorem dX8_worthAs_136 : decode cX8_worthAs 136 = .ok (.aload_n 0, 1) := by decide +kernel
theorem dX8_worthAs_137 : decode cX8_worthAs 137 = .ok (.iload_n 2, 1) := by decide +kernel
theorem dX8_worthAs_138 : decode cX8_worthAs 138 = .ok (.invokevirtual 129, 3) := by decide +kernel
theorem dX8_worthAs_141 : decode cX8_worthAs 141 = .ok (.invokestatic 247, 3) := by decide +kernel
theorem dX8_worthAs_144 : decode cX8_worthAs 144 = .ok (.isub, 1) := by decide +kernel
theorem dX8_worthAs_145 : decode cX8_worthAs 145 = .ok (.ireturn, 1) := by decide +kernel
theorem dX8_worthAs_146 : decode cX8_worthAs 146 = .ok (.aload_n 0, 1) := by decide +kernel
theorem dX8_worthAs_147 : decode cX8_worthAs 147 = .ok (.dup, 1) := by decide +kernel
theorem dX8_worthAs_148 : decode cX8_worthAs 148 = .ok (.getfield 253, 3) := by decide +kernel
theorem dX8_worthAs_151 : decode cX8_worthAs 151 = .ok (.ldc2_w 265, 3) := by decide +kernel
theorem dX8_worthAs_154 : decode cX8_worthAs 154 = .ok (.ladd, 1) := by decide +kernel
theorem dX8_worthAs_155 : decode cX8_worthAs 155 = .ok (.putfield 253, 3) := by decide +kernel
theorem dX8_worthAs_158 : decode cX8_worthAs 158 = .ok (.aload_n 0, 1) := by decide +kernel
theorem dX8_worthAs_159 : decode cX8_worthAs 159 = .ok (.iconst 0, 1) := by decide +kernel
theorem dX8_worthAs_160 : decode cX8_worthAs 160 = .ok (.iload_n 2, 1) := by decide +kernel
theorem dX8_worthAs_161 : decode cX8_worthAs 161 = .ok (.invokevirtual 236, 3) := by decide +kernel
theorem dX8_worthAs_164 : decode cX8_worthAs 164 = .ok (.iload_n 2, 1) := by decide +kernel
theorem dX8_worthAs_165 : decode cX8_worthAs 165 = .ok (.iadd, 1) := by decide +kernel
theorem dX8_worthAs_166 : decode cX8_worthAs 166 = .ok (.ireturn, 1) := by decide +kernel
theorem dX8_worthAs_167 : decode cX8_worthAs 167 = .ok (.aload_n 0, 1) := by decide +kernel
theorem dX8_worthAs_168 : decode cX8_worthAs 168 = .ok (.dup, 1) := by decide +kernel
theorem dX8_worthAs_169 : decode cX8_worthAs 169 = .ok (.getfield 253, 3) := by decide +kernel
theorem dX8_worthAs_172 : decode cX8_worthAs 172 = .ok (.lconst 1, 1) := by decide +kernel
theorem dX8_worthAs_173 : decode cX8_worthAs 173 = .ok (.ladd, 1) := by decide +kernel
theorem dX8_worthAs_174 : decode cX8_worthAs 174 = .ok (.putfield 253, 3) := by decide +kernel
theorem dX8_worthAs_177 : decode cX8_worthAs 177 = .ok (.aload_n 0, 1) := by decide +kernel
theorem dX8_worthAs_178 : decode cX8_worthAs 178 = .ok (.getfield 49, 3) := by decide +kernel
theorem dX8_worthAs_181 : decode cX8_worthAs 181 = .ok (.getfield 123, 3) := by decide +kernel
theorem dX8_worthAs_184 : decode cX8_worthAs 184 = .ok (.iload_n 2, 1) := by decide +kernel
theorem dX8_worthAs_185 : decode cX8_worthAs 185 = .ok (.iaload, 1) := by decide +kernel
theorem dX8_worthAs_186 : decode cX8_worthAs 186 = .ok (.ireturn, 1) := by decide +kernel
theorem dX8_comesTo_0 : decode cX8_comesTo 0 = .ok (.aload_n 0, 1) := by decide +kernel
theorem dX8_comesTo_1 : decode cX8_comesTo 1 = .ok (.getfield 25, 3) := by decide +kernel
theorem dX8_comesTo_4 : decode cX8_comesTo 4 = .ok (.aload_n 0, 1) := by decide +kernel
theorem dX8_comesTo_5 : decode cX8_comesTo 5 = .ok (.getfield 49, 3) := by decide +kernel
theorem dX8_comesTo_8 : decode cX8_comesTo 8 = .ok (.aload_n 0, 1) := by decide +kernel
theorem dX8_comesTo_9 : decode cX8_comesTo 9 = .ok (.getfield 39, 3) := by decide +kernel
theorem dX8_comesTo_12 : decode cX8_comesTo 12 = .ok (.aload_n 0, 1) := by decide +kernel
theorem dX8_comesTo_13 : decode cX8_comesTo 13 = .ok (.getfield 73, 3) := by decide +kernel
theorem dX8_comesTo_16 : decode cX8_comesTo 16 = .ok (.invokevirtual 149, 3) := by decide +kernel
theorem dX8_comesTo_19 : decode cX8_comesTo 19 = .ok (.aload_n 0, 1) := by decide +kernel
theorem dX8_comesTo_20 : decode cX8_comesTo 20 = .ok (.getfield 25, 3) := by decide +kernel
theorem dX8_comesTo_23 : decode cX8_comesTo 23 = .ok (.getfield 152, 3) := by decide +kernel
theorem dX8_comesTo_26 : decode cX8_comesTo 26 = .ok (.iload_n 1, 1) := by decide +kernel
theorem dX8_comesTo_27 : decode cX8_comesTo 27 = .ok (.iaload, 1) := by decide +kernel
theorem dX8_comesTo_28 : decode cX8_comesTo 28 = .ok (.ireturn, 1) := by decide +kernel
theorem dX8_pairsWith_0 : decode cX8_pairsWith 0 = .ok (.aload_n 0, 1) := by decide +kernel
theorem dX8_pairsWith_1 : decode cX8_pairsWith 1 = .ok (.getfield 32, 3) := by decide +kernel
theorem dX8_pairsWith_4 : decode cX8_pairsWith 4 = .ok (.aload_n 0, 1) := by decide +kernel
theorem dX8_pairsWith_5 : decode cX8_pairsWith 5 = .ok (.getfield 39, 3) := by decide +kernel
theorem dX8_pairsWith_8 : decode cX8_pairsWith 8 = .ok (.aload_n 0, 1) := by decide +kernel
theorem dX8_pairsWith_9 : decode cX8_pairsWith 9 = .ok (.getfield 73, 3) := by decide +kernel
theorem dX8_pairsWith_12 : decode cX8_pairsWith 12 = .ok (.iload_n 1, 1) := by decide +kernel
theorem dX8_pairsWith_13 : decode cX8_pairsWith 13 = .ok (.invokevirtual 267, 3) := by decide +kernel
theorem dX8_pairsWith_16 : decode cX8_pairsWith 16 = .ok (.aload_n 0, 1) := by decide +kernel
theorem dX8_pairsWith_17 : decode cX8_pairsWith 17 = .ok (.getfield 32, 3) := by decide +kernel
theorem dX8_pairsWith_20 : decode cX8_pairsWith 20 = .ok (.areturn, 1) := by decide +kernel
theorem dX8_refusalOf_0 : decode cX8_refusalOf 0 = .ok (.iload_n 1, 1) := by decide +kernel
theorem dX8_refusalOf_1 : decode cX8_refusalOf 1 = .ok (.invokestatic 239, 3) := by decide +kernel
theorem dX8_refusalOf_4 : decode cX8_refusalOf 4 = .ok (.ifCond .ne 5, 3) := by decide +kernel
theorem dX8_refusalOf_7 : decode cX8_refusalOf 7 = .ok (.iconst (-1), 1) := by decide +kernel
theorem dX8_refusalOf_8 : decode cX8_refusalOf 8 = .ok (.ireturn, 1) := by decide +kernel
theorem dX8_refusalOf_9 : decode cX8_refusalOf 9 = .ok (.aload_n 0, 1) := by decide +kernel
theorem dX8_refusalOf_10 : decode cX8_refusalOf 10 = .ok (.getfield 18, 3) := by decide +kernel
theorem dX8_refusalOf_13 : decode cX8_refusalOf 13 = .ok (.iload_n 1, 1) := by decide +kernel
theorem dX8_refusalOf_14 : decode cX8_refusalOf 14 = .ok (.aaload, 1) := by decide +kernel
theorem dX8_refusalOf_15 : decode cX8_refusalOf 15 = .ok (.getfield 82, 3) := by decide +kernel
theorem dX8_refusalOf_18 : decode cX8_refusalOf 18 = .ok (.ifCond .eq 7, 3) := by decide +kernel
theorem dX8_refusalOf_21 : decode cX8_refusalOf 21 = .ok (.iconst 0, 1) := by decide +kernel
theorem dX8_refusalOf_22 : decode cX8_refusalOf 22 = .ok (.goto 5, 3) := by decide +kernel
theorem dX8_refusalOf_25 : decode cX8_refusalOf 25 = .ok (.bipush (-2), 2) := by decide +kernel
theorem dX8_refusalOf_27 : decode cX8_refusalOf 27 = .ok (.ireturn, 1) := by decide +kernel
theorem dX8_isImage_0 : decode cX8_isImage 0 = .ok (.iload_n 0, 1) := by decide +kernel
theorem dX8_isImage_1 : decode cX8_isImage 1 = .ok (.ifCond .lt 12, 3) := by decide +kernel
theorem dX8_isImage_4 : decode cX8_isImage 4 = .ok (.iload_n 0, 1) := by decide +kernel
theorem dX8_isImage_5 : decode cX8_isImage 5 = .ok (.iconst 2, 1) := by decide +kernel
theorem dX8_isImage_6 : decode cX8_isImage 6 = .ok (.if_icmp .ge 7, 3) := by decide +kernel
theorem dX8_isImage_9 : decode cX8_isImage 9 = .ok (.iconst 1, 1) := by decide +kernel
theorem dX8_isImage_10 : decode cX8_isImage 10 = .ok (.goto 4, 3) := by decide +kernel
theorem dX8_isImage_13 : decode cX8_isImage 13 = .ok (.iconst 0, 1) := by decide +kernel
theorem dX8_isImage_14 : decode cX8_isImage 14 = .ok (.ireturn, 1) := by decide +kernel
theorem dX8_isCounted_0 : decode cX8_isCounted 0 = .ok (.iload_n 0, 1) := by decide +kernel
theorem dX8_isCounted_1 : decode cX8_isCounted 1 = .ok (.iconst 1, 1) := by decide +kernel
theorem dX8_isCounted_2 : decode cX8_isCounted 2 = .ok (.if_icmp .lt 13, 3) := by decide +kernel
theorem dX8_isCounted_5 : decode cX8_isCounted 5 = .ok (.iload_n 0, 1) := by decide +kernel
theorem dX8_isCounted_6 : decode cX8_isCounted 6 = .ok (.bipush 15, 2) := by decide +kernel
theorem dX8_isCounted_8 : decode cX8_isCounted 8 = .ok (.if_icmp .gt 7, 3) := by decide +kernel
theorem dX8_isCounted_11 : decode cX8_isCounted 11 = .ok (.iconst 1, 1) := by decide +kernel
theorem dX8_isCounted_12 : decode cX8_isCounted 12 = .ok (.goto 4, 3) := by decide +kernel
theorem dX8_isCounted_15 : decode cX8_isCounted 15 = .ok (.iconst 0, 1) := by decide +kernel
theorem dX8_isCounted_16 : decode cX8_isCounted 16 = .ok (.ireturn, 1) := by decide +kernel
theorem dX8_isState_0 : decode cX8_isState 0 = .ok (.iload_n 0, 1) := by decide +kernel
theorem dX8_isState_1 : decode cX8_isState 1 = .ok (.ifCond .lt 13, 3) := by decide +kernel
theorem dX8_isState_4 : decode cX8_isState 4 = .ok (.iload_n 0, 1) := by decide +kernel
theorem dX8_isState_5 : decode cX8_isState 5 = .ok (.bipush 6, 2) := by decide +kernel
theorem dX8_isState_7 : decode cX8_isState 7 = .ok (.if_icmp .ge 7, 3) := by decide +kernel
theorem dX8_isState_10 : decode cX8_isState 10 = .ok (.iconst 1, 1) := by decide +kernel
theorem dX8_isState_11 : decode cX8_isState 11 = .ok (.goto 4, 3) := by decide +kernel
theorem dX8_isState_14 : decode cX8_isState 14 = .ok (.iconst 0, 1) := by decide +kernel
theorem dX8_isState_15 : decode cX8_isState 15 = .ok (.ireturn, 1) := by decide +kernel
theorem dX8_isBit_0 : decode cX8_isBit 0 = .ok (.iload_n 0, 1) := by decide +kernel
theorem dX8_isBit_1 : decode cX8_isBit 1 = .ok (.ifCond .eq 8, 3) := by decide +kernel
theorem dX8_isBit_4 : decode cX8_isBit 4 = .ok (.iload_n 0, 1) := by decide +kernel
theorem dX8_isBit_5 : decode cX8_isBit 5 = .ok (.iconst 1, 1) := by decide +kernel
theorem dX8_isBit_6 : decode cX8_isBit 6 = .ok (.if_icmp .ne 7, 3) := by decide +kernel
theorem dX8_isBit_9 : decode cX8_isBit 9 = .ok (.iconst 1, 1) := by decide +kernel
theorem dX8_isBit_10 : decode cX8_isBit 10 = .ok (.goto 4, 3) := by decide +kernel
theorem dX8_isBit_13 : decode cX8_isBit 13 = .ok (.iconst 0, 1) := by decide +kernel
theorem dX8_isBit_14 : decode cX8_isBit 14 = .ok (.ireturn, 1) := by decide +kernel
theorem dX8_bit_0 : decode cX8_bit 0 = .ok (.iload_n 0, 1) := by decide +kernel
theorem dX8_bit_1 : decode cX8_bit 1 = .ok (.iload_n 1, 1) := by decide +kernel
theorem dX8_bit_2 : decode cX8_bit 2 = .ok (.ishr, 1) := by decide +kernel
theorem dX8_bit_3 : decode cX8_bit 3 = .ok (.iconst 1, 1) := by decide +kernel
theorem dX8_bit_4 : decode cX8_bit 4 = .ok (.iand, 1) := by decide +kernel
theorem dX8_bit_5 : decode cX8_bit 5 = .ok (.ireturn, 1) := by decide +kernel
theorem dX8_withBit_0 : decode cX8_withBit 0 = .ok (.iload_n 2, 1) := by decide +kernel
theorem dX8_withBit_1 : decode cX8_withBit 1 = .ok (.iconst 1, 1) := by decide +kernel
theorem dX8_withBit_2 : decode cX8_withBit 2 = .ok (.if_icmp .ne 11, 3) := by decide +kernel
theorem dX8_withBit_5 : decode cX8_withBit 5 = .ok (.iload_n 0, 1) := by decide +kernel
theorem dX8_withBit_6 : decode cX8_withBit 6 = .ok (.iconst 1, 1) := by decide +kernel
theorem dX8_withBit_7 : decode cX8_withBit 7 = .ok (.iload_n 1, 1) := by decide +kernel
theorem dX8_withBit_8 : decode cX8_withBit 8 = .ok (.ishl, 1) := by decide +kernel
theorem dX8_withBit_9 : decode cX8_withBit 9 = .ok (.ior, 1) := by decide +kernel
theorem dX8_withBit_10 : decode cX8_withBit 10 = .ok (.goto 10, 3) := by decide +kernel
theorem dX8_withBit_13 : decode cX8_withBit 13 = .ok (.iload_n 0, 1) := by decide +kernel
theorem dX8_withBit_14 : decode cX8_withBit 14 = .ok (.iconst 1, 1) := by decide +kernel
theorem dX8_withBit_15 : decode cX8_withBit 15 = .ok (.iload_n 1, 1) := by decide +kernel
theorem dX8_withBit_16 : decode cX8_withBit 16 = .ok (.ishl, 1) := by decide +kernel
theorem dX8_withBit_17 : decode cX8_withBit 17 = .ok (.iconst (-1), 1) := by decide +kernel
theorem dX8_withBit_18 : decode cX8_withBit 18 = .ok (.ixor, 1) := by decide +kernel
theorem dX8_withBit_19 : decode cX8_withBit 19 = .ok (.iand, 1) := by decide +kernel
theorem dX8_withBit_20 : decode cX8_withBit 20 = .ok (.ireturn, 1) := by decide +kernel
theorem dX8_armsOf_0 : decode cX8_armsOf 0 = .ok (.iload_n 0, 1) := by decide +kernel
theorem dX8_armsOf_1 : decode cX8_armsOf 1 = .ok (.iconst 4, 1) := by decide +kernel
theorem dX8_armsOf_2 : decode cX8_armsOf 2 = .ok (.if_icmp .ge 7, 3) := by decide +kernel
theorem dX8_armsOf_5 : decode cX8_armsOf 5 = .ok (.iconst 0, 1) := by decide +kernel
theorem dX8_armsOf_6 : decode cX8_armsOf 6 = .ok (.goto 14, 3) := by decide +kernel
theorem dX8_armsOf_9 : decode cX8_armsOf 9 = .ok (.iload_n 0, 1) := by decide +kernel
theorem dX8_armsOf_10 : decode cX8_armsOf 10 = .ok (.bipush 6, 2) := by decide +kernel
theorem dX8_armsOf_12 : decode cX8_armsOf 12 = .ok (.if_icmp .ge 7, 3) := by decide +kernel
theorem dX8_armsOf_15 : decode cX8_armsOf 15 = .ok (.iconst 1, 1) := by decide +kernel
theorem dX8_armsOf_16 : decode cX8_armsOf 16 = .ok (.goto 4, 3) := by decide +kernel
theorem dX8_armsOf_19 : decode cX8_armsOf 19 = .ok (.iconst 2, 1) := by decide +kernel
theorem dX8_armsOf_20 : decode cX8_armsOf 20 = .ok (.ireturn, 1) := by decide +kernel
theorem dX8_firstSignWith_0 : decode cX8_firstSignWith 0 = .ok (.iload_n 0, 1) := by decide +kernel
theorem dX8_firstSignWith_1 : decode cX8_firstSignWith 1 = .ok (.ifCond .ne 7, 3) := by decide +kernel
theorem dX8_firstSignWith_4 : decode cX8_firstSignWith 4 = .ok (.iconst 0, 1) := by decide +kernel
theorem dX8_firstSignWith_5 : decode cX8_firstSignWith 5 = .ok (.goto 14, 3) := by decide +kernel
theorem dX8_firstSignWith_8 : decode cX8_firstSignWith 8 = .ok (.iload_n 0, 1) := by decide +kernel
theorem dX8_firstSignWith_9 : decode cX8_firstSignWith 9 = .ok (.iconst 1, 1) := by decide +kernel
theorem dX8_firstSignWith_10 : decode cX8_firstSignWith 10 = .ok (.if_icmp .ne 7, 3) := by decide +kernel
theorem dX8_firstSignWith_13 : decode cX8_firstSignWith 13 = .ok (.iconst 4, 1) := by decide +kernel
theorem dX8_firstSignWith_14 : decode cX8_firstSignWith 14 = .ok (.goto 5, 3) := by decide +kernel
theorem dX8_firstSignWith_17 : decode cX8_firstSignWith 17 = .ok (.bipush 6, 2) := by decide +kernel
theorem dX8_firstSignWith_19 : decode cX8_firstSignWith 19 = .ok (.ireturn, 1) := by decide +kernel
theorem dX9_init_0 : decode cX9_init 0 = .ok (.aload_n 0, 1) := by decide +kernel
theorem dX9_init_1 : decode cX9_init 1 = .ok (.invokespecial 1, 3) := by decide +kernel
theorem dX9_init_4 : decode cX9_init 4 = .ok (.aload_n 0, 1) := by decide +kernel
theorem dX9_init_5 : decode cX9_init 5 = .ok (.sipush 300, 3) := by decide +kernel
theorem dX9_init_8 : decode cX9_init 8 = .ok (.newarray .byte, 2) := by decide +kernel
theorem dX9_init_10 : decode cX9_init 10 = .ok (.putfield 7, 3) := by decide +kernel
theorem dX9_init_13 : decode cX9_init 13 = .ok (.aload_n 0, 1) := by decide +kernel
theorem dX9_init_14 : decode cX9_init 14 = .ok (.iconst 2, 1) := by decide +kernel
theorem dX9_init_15 : decode cX9_init 15 = .ok (.newarray .int, 2) := by decide +kernel
theorem dX9_init_17 : decode cX9_init 17 = .ok (.putfield 13, 3) := by decide +kernel
theorem dX9_init_20 : decode cX9_init 20 = .ok (.aload_n 0, 1) := by decide +kernel
theorem dX9_init_21 : decode cX9_init 21 = .ok (.bipush 32, 2) := by decide +kernel
theorem dX9_init_23 : decode cX9_init 23 = .ok (.newarray .int, 2) := by decide +kernel
theorem dX9_init_25 : decode cX9_init 25 = .ok (.putfield 17, 3) := by decide +kernel
theorem dX9_init_28 : decode cX9_init 28 = .ok (.aload_n 0, 1) := by decide +kernel
theorem dX9_init_29 : decode cX9_init 29 = .ok (.bipush 32, 2) := by decide +kernel
theorem dX9_init_31 : decode cX9_init 31 = .ok (.newarray .int, 2) := by decide +kernel
theorem dX9_init_33 : decode cX9_init 33 = .ok (.putfield 20, 3) := by decide +kernel
theorem dX9_init_36 : decode cX9_init 36 = .ok (.aload_n 0, 1) := by decide +kernel
theorem dX9_init_37 : decode cX9_init 37 = .ok (.bipush 32, 2) := by decide +kernel
theorem dX9_init_39 : decode cX9_init 39 = .ok (.newarray .int, 2) := by decide +kernel
theorem dX9_init_41 : decode cX9_init 41 = .ok (.putfield 23, 3) := by decide +kernel
theorem dX9_init_44 : decode cX9_init 44 = .ok (.aload_n 0, 1) := by decide +kernel
theorem dX9_init_45 : decode cX9_init 45 = .ok (.bipush 32, 2) := by decide +kernel
theorem dX9_init_47 : decode cX9_init 47 = .ok (.newarray .int, 2) := by decide +kernel
theorem dX9_init_49 : decode cX9_init 49 = .ok (.putfield 26, 3) := by decide +kernel
theorem dX9_init_52 : decode cX9_init 52 = .ok (.aload_n 0, 1) := by decide +kernel
theorem dX9_init_53 : decode cX9_init 53 = .ok (.bipush 102, 2) := by decide +kernel
theorem dX9_init_55 : decode cX9_init 55 = .ok (.newarray .int, 2) := by decide +kernel
theorem dX9_init_57 : decode cX9_init 57 = .ok (.putfield 29, 3) := by decide +kernel
theorem dX9_init_60 : decode cX9_init 60 = .ok (.aload_n 0, 1) := by decide +kernel
theorem dX9_init_61 : decode cX9_init 61 = .ok (.iconst 2, 1) := by decide +kernel
theorem dX9_init_62 : decode cX9_init 62 = .ok (.newarray .boolean, 2) := by decide +kernel
theorem dX9_init_64 : decode cX9_init 64 = .ok (.putfield 32, 3) := by decide +kernel
theorem dX9_init_67 : decode cX9_init 67 = .ok (.aload_n 0, 1) := by decide +kernel
theorem dX9_init_68 : decode cX9_init 68 = .ok (.bipush 31, 2) := by decide +kernel
theorem dX9_init_70 : decode cX9_init 70 = .ok (.newarray .int, 2) := by decide +kernel
theorem dX9_init_72 : decode cX9_init 72 = .ok (.putfield 36, 3) := by decide +kernel
theorem dX9_init_75 : decode cX9_init 75 = .ok (.aload_n 0, 1) := by decide +kernel
theorem dX9_init_76 : decode cX9_init 76 = .ok (.bipush 32, 2) := by decide +kernel
theorem dX9_init_78 : decode cX9_init 78 = .ok (.newarray .int, 2) := by decide +kernel
theorem dX9_init_80 : decode cX9_init 80 = .ok (.putfield 39, 3) := by decide +kernel
theorem dX9_init_83 : decode cX9_init 83 = .ok (.aload_n 0, 1) := by decide +kernel
theorem dX9_init_84 : decode cX9_init 84 = .ok (.bipush 31, 2) := by decide +kernel
theorem dX9_init_86 : decode cX9_init 86 = .ok (.newarray .int, 2) := by decide +kernel
theorem dX9_init_88 : decode cX9_init 88 = .ok (.putfield 42, 3) := by decide +kernel
theorem dX9_init_91 : decode cX9_init 91 = .ok (.aload_n 0, 1) := by decide +kernel
theorem dX9_init_92 : decode cX9_init 92 = .ok (.sipush 186, 3) := by decide +kernel
theorem dX9_init_95 : decode cX9_init 95 = .ok (.newarray .long, 2) := by decide +kernel
theorem dX9_init_97 : decode cX9_init 97 = .ok (.putfield 45, 3) := by decide +kernel
theorem dX9_init_100 : decode cX9_init 100 = .ok (.aload_n 0, 1) := by decide +kernel
theorem dX9_init_101 : decode cX9_init 101 = .ok (.sipush 186, 3) := by decide +kernel
theorem dX9_init_104 : decode cX9_init 104 = .ok (.newarray .int, 2) := by decide +kernel
theorem dX9_init_106 : decode cX9_init 106 = .ok (.putfield 49, 3) := by decide +kernel
theorem dX9_init_109 : decode cX9_init 109 = .ok (.aload_n 0, 1) := by decide +kernel
theorem dX9_init_110 : decode cX9_init 110 = .ok (.bipush 31, 2) := by decide +kernel
theorem dX9_init_112 : decode cX9_init 112 = .ok (.newarray .int, 2) := by decide +kernel
theorem dX9_init_114 : decode cX9_init 114 = .ok (.putfield 52, 3) := by decide +kernel
theorem dX9_init_117 : decode cX9_init 117 = .ok (.aload_n 0, 1) := by decide +kernel
theorem dX9_init_118 : decode cX9_init 118 = .ok (.bipush 120, 2) := by decide +kernel
theorem dX9_init_120 : decode cX9_init 120 = .ok (.newarray .int, 2) := by decide +kernel
theorem dX9_init_122 : decode cX9_init 122 = .ok (.putfield 55, 3) := by decide +kernel
theorem dX9_init_125 : decode cX9_init 125 = .ok (.aload_n 0, 1) := by decide +kernel
theorem dX9_init_126 : decode cX9_init 126 = .ok (.bipush 120, 2) := by decide +kernel
theorem dX9_init_128 : decode cX9_init 128 = .ok (.newarray .int, 2) := by decide +kernel
theorem dX9_init_130 : decode cX9_init 130 = .ok (.putfield 58, 3) := by decide +kernel
theorem dX9_init_133 : decode cX9_init 133 = .ok (.aload_n 0, 1) := by decide +kernel
theorem dX9_init_134 : decode cX9_init 134 = .ok (.iconst 4, 1) := by decide +kernel
theorem dX9_init_135 : decode cX9_init 135 = .ok (.newarray .int, 2) := by decide +kernel
theorem dX9_init_137 : decode cX9_init 137 = .ok (.putfield 61, 3) := by decide +kernel
theorem dX9_init_140 : decode cX9_init 140 = .ok (.aload_n 0, 1) := by decide +kernel
theorem dX9_init_141 : decode cX9_init 141 = .ok (.sipush 240, 3) := by decide +kernel
theorem dX9_init_144 : decode cX9_init 144 = .ok (.newarray .int, 2) := by decide +kernel
theorem dX9_init_146 : decode cX9_init 146 = .ok (.putfield 64, 3) := by decide +kernel
theorem dX9_init_149 : decode cX9_init 149 = .ok (.aload_n 0, 1) := by decide +kernel
theorem dX9_init_150 : decode cX9_init 150 = .ok (.sipush 28800, 3) := by decide +kernel
theorem dX9_init_153 : decode cX9_init 153 = .ok (.newarray .int, 2) := by decide +kernel
theorem dX9_init_155 : decode cX9_init 155 = .ok (.putfield 67, 3) := by decide +kernel
theorem dX9_init_158 : decode cX9_init 158 = .ok (.aload_n 0, 1) := by decide +kernel
theorem dX9_init_159 : decode cX9_init 159 = .ok (.bipush 64, 2) := by decide +kernel
theorem dX9_init_161 : decode cX9_init 161 = .ok (.newarray .int, 2) := by decide +kernel
theorem dX9_init_163 : decode cX9_init 163 = .ok (.putfield 70, 3) := by decide +kernel
theorem dX9_init_166 : decode cX9_init 166 = .ok (.aload_n 0, 1) := by decide +kernel
theorem dX9_init_167 : decode cX9_init 167 = .ok (.bipush 64, 2) := by decide +kernel
theorem dX9_init_169 : decode cX9_init 169 = .ok (.newarray .int, 2) := by decide +kernel
theorem dX9_init_171 : decode cX9_init 171 = .ok (.putfield 73, 3) := by decide +kernel
theorem dX9_init_174 : decode cX9_init 174 = .ok (.aload_n 0, 1) := by decide +kernel
theorem dX9_init_175 : decode cX9_init 175 = .ok (.bipush 120, 2) := by decide +kernel
theorem dX9_init_177 : decode cX9_init 177 = .ok (.newarray .int, 2) := by decide +kernel
theorem dX9_init_179 : decode cX9_init 179 = .ok (.putfield 76, 3) := by decide +kernel
theorem dX9_init_182 : decode cX9_init 182 = .ok (.aload_n 0, 1) := by decide +kernel
theorem dX9_init_183 : decode cX9_init 183 = .ok (.sipush 3720, 3) := by decide +kernel
theorem dX9_init_186 : decode cX9_init 186 = .ok (.newarray .int, 2) := by decide +kernel
theorem dX9_init_188 : decode cX9_init 188 = .ok (.putfield 79, 3) := by decide +kernel
theorem dX9_init_191 : decode cX9_init 191 = .ok (.aload_n 0, 1) := by decide +kernel
theorem dX9_init_192 : decode cX9_init 192 = .ok (.bipush 31, 2) := by decide +kernel
theorem dX9_init_194 : decode cX9_init 194 = .ok (.newarray .int, 2) := by decide +kernel
theorem dX9_init_196 : decode cX9_init 196 = .ok (.putfield 82, 3) := by decide +kernel
theorem dX9_init_199 : decode cX9_init 199 = .ok (.aload_n 0, 1) := by decide +kernel
theorem dX9_init_200 : decode cX9_init 200 = .ok (.sipush 1920, 3) := by decide +kernel
theorem dX9_init_203 : decode cX9_init 203 = .ok (.newarray .long, 2) := by decide +kernel
theorem dX9_init_205 : decode cX9_init 205 = .ok (.putfield 85, 3) := by decide +kernel
theorem dX9_init_208 : decode cX9_init 208 = .ok (.return_, 1) := by decide +kernel
theorem dX9_in_0 : decode cX9_in 0 = .ok (.iload_n 0, 1) := by decide +kernel
theorem dX9_in_1 : decode cX9_in 1 = .ok (.iload_n 1, 1) := by decide +kernel
theorem dX9_in_2 : decode cX9_in 2 = .ok (.if_icmp .lt 12, 3) := by decide +kernel
theorem dX9_in_5 : decode cX9_in 5 = .ok (.iload_n 0, 1) := by decide +kernel
theorem dX9_in_6 : decode cX9_in 6 = .ok (.iload_n 2, 1) := by decide +kernel
theorem dX9_in_7 : decode cX9_in 7 = .ok (.if_icmp .gt 7, 3) := by decide +kernel
theorem dX9_in_10 : decode cX9_in 10 = .ok (.iconst 1, 1) := by decide +kernel
theorem dX9_in_11 : decode cX9_in 11 = .ok (.goto 4, 3) := by decide +kernel
theorem dX9_in_14 : decode cX9_in 14 = .ok (.iconst 0, 1) := by decide +kernel
theorem dX9_in_15 : decode cX9_in 15 = .ok (.ireturn, 1) := by decide +kernel
theorem dX9_armsOf_0 : decode cX9_armsOf 0 = .ok (.iload_n 0, 1) := by decide +kernel
theorem dX9_armsOf_1 : decode cX9_armsOf 1 = .ok (.iconst 4, 1) := by decide +kernel
theorem dX9_armsOf_2 : decode cX9_armsOf 2 = .ok (.if_icmp .ge 7, 3) := by decide +kernel
theorem dX9_armsOf_5 : decode cX9_armsOf 5 = .ok (.iconst 0, 1) := by decide +kernel
theorem dX9_armsOf_6 : decode cX9_armsOf 6 = .ok (.goto 14, 3) := by decide +kernel
theorem dX9_armsOf_9 : decode cX9_armsOf 9 = .ok (.iload_n 0, 1) := by decide +kernel
theorem dX9_armsOf_10 : decode cX9_armsOf 10 = .ok (.bipush 6, 2) := by decide +kernel
theorem dX9_armsOf_12 : decode cX9_armsOf 12 = .ok (.if_icmp .ge 7, 3) := by decide +kernel
theorem dX9_armsOf_15 : decode cX9_armsOf 15 = .ok (.iconst 1, 1) := by decide +kernel
theorem dX9_armsOf_16 : decode cX9_armsOf 16 = .ok (.goto 4, 3) := by decide +kernel
theorem dX9_armsOf_19 : decode cX9_armsOf 19 = .ok (.iconst 2, 1) := by decide +kernel
theorem dX9_armsOf_20 : decode cX9_armsOf 20 = .ok (.ireturn, 1) := by decide +kernel
theorem dX9_type_0 : decode cX9_type 0 = .ok (.iload_n 3, 1) := by decide +kernel
theorem dX9_type_1 : decode cX9_type 1 = .ok (.iconst 1, 1) := by decide +kernel
theorem dX9_type_2 : decode cX9_type 2 = .ok (.bipush 8, 2) := by decide +kernel
theorem dX9_type_4 : decode cX9_type 4 = .ok (.invokestatic 88, 3) := by decide +kernel
theorem dX9_type_7 : decode cX9_type 7 = .ok (.ifCond .ne 5, 3) := by decide +kernel
theorem dX9_type_10 : decode cX9_type 10 = .ok (.iconst (-1), 1) := by decide +kernel
theorem dX9_type_11 : decode cX9_type 11 = .ok (.ireturn, 1) := by decide +kernel
theorem dX9_type_12 : decode cX9_type 12 = .ok (.aload_n 0, 1) := by decide +kernel
theorem dX9_type_13 : decode cX9_type 13 = .ok (.getfield 92, 3) := by decide +kernel
theorem dX9_type_16 : decode cX9_type 16 = .ok (.iload_n 3, 1) := by decide +kernel
theorem dX9_type_17 : decode cX9_type 17 = .ok (.iadd, 1) := by decide +kernel
theorem dX9_type_18 : decode cX9_type 18 = .ok (.sipush 300, 3) := by decide +kernel
theorem dX9_type_21 : decode cX9_type 21 = .ok (.if_icmp .le 6, 3) := by decide +kernel
theorem dX9_type_24 : decode cX9_type 24 = .ok (.bipush (-3), 2) := by decide +kernel
theorem dX9_type_26 : decode cX9_type 26 = .ok (.ireturn, 1) := by decide +kernel
theorem dX9_type_27 : decode cX9_type 27 = .ok (.iload_n 3, 1) := by decide +kernel
theorem dX9_type_28 : decode cX9_type 28 = .ok (.iconst 1, 1) := by decide +kernel
theorem dX9_type_29 : decode cX9_type 29 = .ok (.isub, 1) := by decide +kernel
theorem dX9_type_30 : decode cX9_type 30 = .ok (.istore 4, 2) := by decide +kernel
theorem dX9_type_32 : decode cX9_type 32 = .ok (.iload 4, 2) := by decide +kernel
theorem dX9_type_34 : decode cX9_type 34 = .ok (.ifCond .lt 41, 3) := by decide +kernel
theorem dX9_type_37 : decode cX9_type 37 = .ok (.aload_n 0, 1) := by decide +kernel
theorem dX9_type_38 : decode cX9_type 38 = .ok (.getfield 7, 3) := by decide +kernel
theorem dX9_type_41 : decode cX9_type 41 = .ok (.aload_n 0, 1) := by decide +kernel
theorem dX9_type_42 : decode cX9_type 42 = .ok (.getfield 92, 3) := by decide +kernel
theorem dX9_type_45 : decode cX9_type 45 = .ok (.lload_n 1, 1) := by decide +kernel
theorem dX9_type_46 : decode cX9_type 46 = .ok (.bipush 8, 2) := by decide +kernel
theorem dX9_type_48 : decode cX9_type 48 = .ok (.iload 4, 2) := by decide +kernel
theorem dX9_type_50 : decode cX9_type 50 = .ok (.imul, 1) := by decide +kernel
theorem dX9_type_51 : decode cX9_type 51 = .ok (.lshr, 1) := by decide +kernel
theorem dX9_type_52 : decode cX9_type 52 = .ok (.ldc2_w 96, 3) := by decide +kernel
theorem dX9_type_55 : decode cX9_type 55 = .ok (.land, 1) := by decide +kernel
theorem dX9_type_56 : decode cX9_type 56 = .ok (.l2i, 1) := by decide +kernel
theorem dX9_type_57 : decode cX9_type 57 = .ok (.i2b, 1) := by decide +kernel
theorem dX9_type_58 : decode cX9_type 58 = .ok (.bastore, 1) := by decide +kernel
theorem dX9_type_59 : decode cX9_type 59 = .ok (.aload_n 0, 1) := by decide +kernel
theorem dX9_type_60 : decode cX9_type 60 = .ok (.dup, 1) := by decide +kernel
theorem dX9_type_61 : decode cX9_type 61 = .ok (.getfield 92, 3) := by decide +kernel
theorem dX9_type_64 : decode cX9_type 64 = .ok (.iconst 1, 1) := by decide +kernel
theorem dX9_type_65 : decode cX9_type 65 = .ok (.iadd, 1) := by decide +kernel
theorem dX9_type_66 : decode cX9_type 66 = .ok (.putfield 92, 3) := by decide +kernel
theorem dX9_type_69 : decode cX9_type 69 = .ok (.iinc 4 (-1), 3) := by decide +kernel
theorem dX9_type_72 : decode cX9_type 72 = .ok (.goto (-40), 3) := by decide +kernel
theorem dX9_type_75 : decode cX9_type 75 = .ok (.aload_n 0, 1) := by decide +kernel
theorem dX9_type_76 : decode cX9_type 76 = .ok (.getfield 92, 3) := by decide +kernel
theorem dX9_type_79 : decode cX9_type 79 = .ok (.ireturn, 1) := by decide +kernel
theorem dX9_clear_0 : decode cX9_clear 0 = .ok (.aload_n 0, 1) := by decide +kernel
theorem dX9_clear_1 : decode cX9_clear 1 = .ok (.getfield 92, 3) := by decide +kernel
theorem dX9_clear_4 : decode cX9_clear 4 = .ok (.istore_n 1, 1) := by decide +kernel
theorem dX9_clear_5 : decode cX9_clear 5 = .ok (.aload_n 0, 1) := by decide +kernel
theorem dX9_clear_6 : decode cX9_clear 6 = .ok (.iconst 0, 1) := by decide +kernel
theorem dX9_clear_7 : decode cX9_clear 7 = .ok (.putfield 92, 3) := by decide +kernel
theorem dX9_clear_10 : decode cX9_clear 10 = .ok (.iload_n 1, 1) := by decide +kernel
theorem dX9_clear_11 : decode cX9_clear 11 = .ok (.ireturn, 1) := by decide +kernel
theorem dX9_here_0 : decode cX9_here 0 = .ok (.aload_n 0, 1) := by decide +kernel
theorem dX9_here_1 : decode cX9_here 1 = .ok (.getfield 98, 3) := by decide +kernel
theorem dX9_here_4 : decode cX9_here 4 = .ok (.aload_n 0, 1) := by decide +kernel
theorem dX9_here_5 : decode cX9_here 5 = .ok (.getfield 92, 3) := by decide +kernel
theorem dX9_here_8 : decode cX9_here 8 = .ok (.if_icmp .ge 19, 3) := by decide +kernel
theorem dX9_here_11 : decode cX9_here 11 = .ok (.aload_n 0, 1) := by decide +kernel
theorem dX9_here_12 : decode cX9_here 12 = .ok (.getfield 7, 3) := by decide +kernel
theorem dX9_here_15 : decode cX9_here 15 = .ok (.aload_n 0, 1) := by decide +kernel
theorem dX9_here_16 : decode cX9_here 16 = .ok (.getfield 98, 3) := by decide +kernel
theorem dX9_here_19 : decode cX9_here 19 = .ok (.baload, 1) := by decide +kernel
theorem dX9_here_20 : decode cX9_here 20 = .ok (.sipush 255, 3) := by decide +kernel
theorem dX9_here_23 : decode cX9_here 23 = .ok (.iand, 1) := by decide +kernel
theorem dX9_here_24 : decode cX9_here 24 = .ok (.goto 4, 3) := by decide +kernel
theorem dX9_here_27 : decode cX9_here 27 = .ok (.iconst (-1), 1) := by decide +kernel
theorem dX9_here_28 : decode cX9_here 28 = .ok (.ireturn, 1) := by decide +kernel
theorem dX9_next_0 : decode cX9_next 0 = .ok (.aload_n 0, 1) := by decide +kernel
theorem dX9_next_1 : decode cX9_next 1 = .ok (.invokevirtual 101, 3) := by decide +kernel
theorem dX9_next_4 : decode cX9_next 4 = .ok (.bipush 32, 2) := by decide +kernel
theorem dX9_next_6 : decode cX9_next 6 = .ok (.if_icmp .ne 16, 3) := by decide +kernel
theorem dX9_next_9 : decode cX9_next 9 = .ok (.aload_n 0, 1) := by decide +kernel
theorem dX9_next_10 : decode cX9_next 10 = .ok (.dup, 1) := by decide +kernel
theorem dX9_next_11 : decode cX9_next 11 = .ok (.getfield 98, 3) := by decide +kernel
theorem dX9_next_14 : decode cX9_next 14 = .ok (.iconst 1, 1) := by decide +kernel
theorem dX9_next_15 : decode cX9_next 15 = .ok (.iadd, 1) := by decide +kernel
theorem dX9_next_16 : decode cX9_next 16 = .ok (.putfield 98, 3) := by decide +kernel
theorem dX9_next_19 : decode cX9_next 19 = .ok (.goto (-19), 3) := by decide +kernel
theorem dX9_next_22 : decode cX9_next 22 = .ok (.aload_n 0, 1) := by decide +kernel
theorem dX9_next_23 : decode cX9_next 23 = .ok (.aload_n 0, 1) := by decide +kernel
theorem dX9_next_24 : decode cX9_next 24 = .ok (.getfield 98, 3) := by decide +kernel
theorem dX9_next_27 : decode cX9_next 27 = .ok (.putfield 105, 3) := by decide +kernel
theorem dX9_next_30 : decode cX9_next 30 = .ok (.aload_n 0, 1) := by decide +kernel
theorem dX9_next_31 : decode cX9_next 31 = .ok (.iconst 0, 1) := by decide +kernel
theorem dX9_next_32 : decode cX9_next 32 = .ok (.putfield 108, 3) := by decide +kernel
theorem dX9_next_35 : decode cX9_next 35 = .ok (.aload_n 0, 1) := by decide +kernel
theorem dX9_next_36 : decode cX9_next 36 = .ok (.invokevirtual 101, 3) := by decide +kernel
theorem dX9_next_39 : decode cX9_next 39 = .ok (.istore_n 1, 1) := by decide +kernel
theorem dX9_next_40 : decode cX9_next 40 = .ok (.iload_n 1, 1) := by decide +kernel
theorem dX9_next_41 : decode cX9_next 41 = .ok (.ifCond .ge 11, 3) := by decide +kernel
theorem dX9_next_44 : decode cX9_next 44 = .ok (.aload_n 0, 1) := by decide +kernel
theorem dX9_next_45 : decode cX9_next 45 = .ok (.iconst 4, 1) := by decide +kernel
theorem dX9_next_46 : decode cX9_next 46 = .ok (.putfield 111, 3) := by decide +kernel
theorem dX9_next_49 : decode cX9_next 49 = .ok (.goto 269, 3) := by decide +kernel
theorem dX9_next_52 : decode cX9_next 52 = .ok (.iload_n 1, 1) := by decide +kernel
theorem dX9_next_53 : decode cX9_next 53 = .ok (.bipush 97, 2) := by decide +kernel
theorem dX9_next_55 : decode cX9_next 55 = .ok (.bipush 122, 2) := by decide +kernel
end
section
theorem dX9_next_57 : decode cX9_next 57 = .ok (.invokestatic 88, 3) := by decide +kernel
theorem dX9_next_60 : decode cX9_next 60 = .ok (.ifCond .eq 120, 3) := by decide +kernel
theorem dX9_next_63 : decode cX9_next 63 = .ok (.iconst 0, 1) := by decide +kernel
theorem dX9_next_64 : decode cX9_next 64 = .ok (.istore_n 2, 1) := by decide +kernel
theorem dX9_next_65 : decode cX9_next 65 = .ok (.aload_n 0, 1) := by decide +kernel
theorem dX9_next_66 : decode cX9_next 66 = .ok (.invokevirtual 101, 3) := by decide +kernel
theorem dX9_next_69 : decode cX9_next 69 = .ok (.bipush 97, 2) := by decide +kernel
theorem dX9_next_71 : decode cX9_next 71 = .ok (.bipush 122, 2) := by decide +kernel
theorem dX9_next_73 : decode cX9_next 73 = .ok (.invokestatic 88, 3) := by decide +kernel
theorem dX9_next_76 : decode cX9_next 76 = .ok (.ifCond .eq 46, 3) := by decide +kernel
theorem dX9_next_79 : decode cX9_next 79 = .ok (.aload_n 0, 1) := by decide +kernel
theorem dX9_next_80 : decode cX9_next 80 = .ok (.getfield 98, 3) := by decide +kernel
theorem dX9_next_83 : decode cX9_next 83 = .ok (.aload_n 0, 1) := by decide +kernel
theorem dX9_next_84 : decode cX9_next 84 = .ok (.getfield 105, 3) := by decide +kernel
theorem dX9_next_87 : decode cX9_next 87 = .ok (.isub, 1) := by decide +kernel
theorem dX9_next_88 : decode cX9_next 88 = .ok (.iconst 4, 1) := by decide +kernel
theorem dX9_next_89 : decode cX9_next 89 = .ok (.if_icmp .ge 18, 3) := by decide +kernel
theorem dX9_next_92 : decode cX9_next 92 = .ok (.bipush 27, 2) := by decide +kernel
theorem dX9_next_94 : decode cX9_next 94 = .ok (.iload_n 2, 1) := by decide +kernel
theorem dX9_next_95 : decode cX9_next 95 = .ok (.imul, 1) := by decide +kernel
theorem dX9_next_96 : decode cX9_next 96 = .ok (.aload_n 0, 1) := by decide +kernel
theorem dX9_next_97 : decode cX9_next 97 = .ok (.invokevirtual 101, 3) := by decide +kernel
theorem dX9_next_100 : decode cX9_next 100 = .ok (.iadd, 1) := by decide +kernel
theorem dX9_next_101 : decode cX9_next 101 = .ok (.bipush 96, 2) := by decide +kernel
theorem dX9_next_103 : decode cX9_next 103 = .ok (.isub, 1) := by decide +kernel
theorem dX9_next_104 : decode cX9_next 104 = .ok (.goto 4, 3) := by decide +kernel
theorem dX9_next_107 : decode cX9_next 107 = .ok (.iconst 0, 1) := by decide +kernel
theorem dX9_next_108 : decode cX9_next 108 = .ok (.istore_n 2, 1) := by decide +kernel
theorem dX9_next_109 : decode cX9_next 109 = .ok (.aload_n 0, 1) := by decide +kernel
theorem dX9_next_110 : decode cX9_next 110 = .ok (.dup, 1) := by decide +kernel
theorem dX9_next_111 : decode cX9_next 111 = .ok (.getfield 98, 3) := by decide +kernel
theorem dX9_next_114 : decode cX9_next 114 = .ok (.iconst 1, 1) := by decide +kernel
theorem dX9_next_115 : decode cX9_next 115 = .ok (.iadd, 1) := by decide +kernel
theorem dX9_next_116 : decode cX9_next 116 = .ok (.putfield 98, 3) := by decide +kernel
theorem dX9_next_119 : decode cX9_next 119 = .ok (.goto (-54), 3) := by decide +kernel
theorem dX9_next_122 : decode cX9_next 122 = .ok (.aload_n 0, 1) := by decide +kernel
theorem dX9_next_123 : decode cX9_next 123 = .ok (.getfield 98, 3) := by decide +kernel
theorem dX9_next_126 : decode cX9_next 126 = .ok (.aload_n 0, 1) := by decide +kernel
theorem dX9_next_127 : decode cX9_next 127 = .ok (.getfield 105, 3) := by decide +kernel
theorem dX9_next_130 : decode cX9_next 130 = .ok (.isub, 1) := by decide +kernel
theorem dX9_next_131 : decode cX9_next 131 = .ok (.iconst 4, 1) := by decide +kernel
theorem dX9_next_132 : decode cX9_next 132 = .ok (.if_icmp .le 7, 3) := by decide +kernel
theorem dX9_next_135 : decode cX9_next 135 = .ok (.iconst 0, 1) := by decide +kernel
theorem dX9_next_136 : decode cX9_next 136 = .ok (.goto 4, 3) := by decide +kernel
theorem dX9_next_139 : decode cX9_next 139 = .ok (.iload_n 2, 1) := by decide +kernel
theorem dX9_next_140 : decode cX9_next 140 = .ok (.istore_n 2, 1) := by decide +kernel
theorem dX9_next_141 : decode cX9_next 141 = .ok (.aload_n 0, 1) := by decide +kernel
theorem dX9_next_142 : decode cX9_next 142 = .ok (.iload_n 2, 1) := by decide +kernel
theorem dX9_next_143 : decode cX9_next 143 = .ok (.ldc 114, 2) := by decide +kernel
theorem dX9_next_145 : decode cX9_next 145 = .ok (.if_icmp .ne 7, 3) := by decide +kernel
theorem dX9_next_148 : decode cX9_next 148 = .ok (.iconst 1, 1) := by decide +kernel
theorem dX9_next_149 : decode cX9_next 149 = .ok (.goto 18, 3) := by decide +kernel
theorem dX9_next_152 : decode cX9_next 152 = .ok (.iload_n 2, 1) := by decide +kernel
theorem dX9_next_153 : decode cX9_next 153 = .ok (.iconst 1, 1) := by decide +kernel
theorem dX9_next_154 : decode cX9_next 154 = .ok (.bipush 8, 2) := by decide +kernel
theorem dX9_next_156 : decode cX9_next 156 = .ok (.invokestatic 88, 3) := by decide +kernel
theorem dX9_next_159 : decode cX9_next 159 = .ok (.ifCond .eq 7, 3) := by decide +kernel
theorem dX9_next_162 : decode cX9_next 162 = .ok (.iconst 0, 1) := by decide +kernel
theorem dX9_next_163 : decode cX9_next 163 = .ok (.goto 4, 3) := by decide +kernel
theorem dX9_next_166 : decode cX9_next 166 = .ok (.iconst 5, 1) := by decide +kernel
theorem dX9_next_167 : decode cX9_next 167 = .ok (.putfield 111, 3) := by decide +kernel
theorem dX9_next_170 : decode cX9_next 170 = .ok (.aload_n 0, 1) := by decide +kernel
theorem dX9_next_171 : decode cX9_next 171 = .ok (.iload_n 2, 1) := by decide +kernel
theorem dX9_next_172 : decode cX9_next 172 = .ok (.iconst 1, 1) := by decide +kernel
theorem dX9_next_173 : decode cX9_next 173 = .ok (.isub, 1) := by decide +kernel
theorem dX9_next_174 : decode cX9_next 174 = .ok (.putfield 108, 3) := by decide +kernel
theorem dX9_next_177 : decode cX9_next 177 = .ok (.goto 141, 3) := by decide +kernel
theorem dX9_next_180 : decode cX9_next 180 = .ok (.iload_n 1, 1) := by decide +kernel
theorem dX9_next_181 : decode cX9_next 181 = .ok (.bipush 48, 2) := by decide +kernel
theorem dX9_next_183 : decode cX9_next 183 = .ok (.bipush 57, 2) := by decide +kernel
theorem dX9_next_185 : decode cX9_next 185 = .ok (.invokestatic 88, 3) := by decide +kernel
theorem dX9_next_188 : decode cX9_next 188 = .ok (.ifCond .eq 105, 3) := by decide +kernel
theorem dX9_next_191 : decode cX9_next 191 = .ok (.aload_n 0, 1) := by decide +kernel
theorem dX9_next_192 : decode cX9_next 192 = .ok (.invokevirtual 101, 3) := by decide +kernel
theorem dX9_next_195 : decode cX9_next 195 = .ok (.bipush 48, 2) := by decide +kernel
theorem dX9_next_197 : decode cX9_next 197 = .ok (.bipush 57, 2) := by decide +kernel
theorem dX9_next_199 : decode cX9_next 199 = .ok (.invokestatic 88, 3) := by decide +kernel
theorem dX9_next_202 : decode cX9_next 202 = .ok (.ifCond .eq 51, 3) := by decide +kernel
theorem dX9_next_205 : decode cX9_next 205 = .ok (.aload_n 0, 1) := by decide +kernel
theorem dX9_next_206 : decode cX9_next 206 = .ok (.aload_n 0, 1) := by decide +kernel
theorem dX9_next_207 : decode cX9_next 207 = .ok (.getfield 108, 3) := by decide +kernel
theorem dX9_next_210 : decode cX9_next 210 = .ok (.bipush 99, 2) := by decide +kernel
theorem dX9_next_212 : decode cX9_next 212 = .ok (.if_icmp .le 10, 3) := by decide +kernel
theorem dX9_next_215 : decode cX9_next 215 = .ok (.aload_n 0, 1) := by decide +kernel
theorem dX9_next_216 : decode cX9_next 216 = .ok (.getfield 108, 3) := by decide +kernel
theorem dX9_next_219 : decode cX9_next 219 = .ok (.goto 18, 3) := by decide +kernel
theorem dX9_next_222 : decode cX9_next 222 = .ok (.bipush 10, 2) := by decide +kernel
theorem dX9_next_224 : decode cX9_next 224 = .ok (.aload_n 0, 1) := by decide +kernel
theorem dX9_next_225 : decode cX9_next 225 = .ok (.getfield 108, 3) := by decide +kernel
theorem dX9_next_228 : decode cX9_next 228 = .ok (.imul, 1) := by decide +kernel
theorem dX9_next_229 : decode cX9_next 229 = .ok (.aload_n 0, 1) := by decide +kernel
theorem dX9_next_230 : decode cX9_next 230 = .ok (.invokevirtual 101, 3) := by decide +kernel
theorem dX9_next_233 : decode cX9_next 233 = .ok (.iadd, 1) := by decide +kernel
theorem dX9_next_234 : decode cX9_next 234 = .ok (.bipush 48, 2) := by decide +kernel
theorem dX9_next_236 : decode cX9_next 236 = .ok (.isub, 1) := by decide +kernel
theorem dX9_next_237 : decode cX9_next 237 = .ok (.putfield 108, 3) := by decide +kernel
theorem dX9_next_240 : decode cX9_next 240 = .ok (.aload_n 0, 1) := by decide +kernel
theorem dX9_next_241 : decode cX9_next 241 = .ok (.dup, 1) := by decide +kernel
theorem dX9_next_242 : decode cX9_next 242 = .ok (.getfield 98, 3) := by decide +kernel
theorem dX9_next_245 : decode cX9_next 245 = .ok (.iconst 1, 1) := by decide +kernel
theorem dX9_next_246 : decode cX9_next 246 = .ok (.iadd, 1) := by decide +kernel
theorem dX9_next_247 : decode cX9_next 247 = .ok (.putfield 98, 3) := by decide +kernel
theorem dX9_next_250 : decode cX9_next 250 = .ok (.goto (-59), 3) := by decide +kernel
theorem dX9_next_253 : decode cX9_next 253 = .ok (.aload_n 0, 1) := by decide +kernel
theorem dX9_next_254 : decode cX9_next 254 = .ok (.aload_n 0, 1) := by decide +kernel
theorem dX9_next_255 : decode cX9_next 255 = .ok (.getfield 108, 3) := by decide +kernel
theorem dX9_next_258 : decode cX9_next 258 = .ok (.bipush 99, 2) := by decide +kernel
theorem dX9_next_260 : decode cX9_next 260 = .ok (.if_icmp .gt 22, 3) := by decide +kernel
theorem dX9_next_263 : decode cX9_next 263 = .ok (.iload_n 1, 1) := by decide +kernel
theorem dX9_next_264 : decode cX9_next 264 = .ok (.bipush 48, 2) := by decide +kernel
theorem dX9_next_266 : decode cX9_next 266 = .ok (.if_icmp .ne 20, 3) := by decide +kernel
theorem dX9_next_269 : decode cX9_next 269 = .ok (.aload_n 0, 1) := by decide +kernel
theorem dX9_next_270 : decode cX9_next 270 = .ok (.getfield 98, 3) := by decide +kernel
theorem dX9_next_273 : decode cX9_next 273 = .ok (.aload_n 0, 1) := by decide +kernel
theorem dX9_next_274 : decode cX9_next 274 = .ok (.getfield 105, 3) := by decide +kernel
theorem dX9_next_277 : decode cX9_next 277 = .ok (.isub, 1) := by decide +kernel
theorem dX9_next_278 : decode cX9_next 278 = .ok (.iconst 1, 1) := by decide +kernel
theorem dX9_next_279 : decode cX9_next 279 = .ok (.if_icmp .le 7, 3) := by decide +kernel
theorem dX9_next_282 : decode cX9_next 282 = .ok (.iconst 5, 1) := by decide +kernel
theorem dX9_next_283 : decode cX9_next 283 = .ok (.goto 4, 3) := by decide +kernel
theorem dX9_next_286 : decode cX9_next 286 = .ok (.iconst 2, 1) := by decide +kernel
theorem dX9_next_287 : decode cX9_next 287 = .ok (.putfield 111, 3) := by decide +kernel
theorem dX9_next_290 : decode cX9_next 290 = .ok (.goto 28, 3) := by decide +kernel
theorem dX9_next_293 : decode cX9_next 293 = .ok (.aload_n 0, 1) := by decide +kernel
theorem dX9_next_294 : decode cX9_next 294 = .ok (.dup, 1) := by decide +kernel
theorem dX9_next_295 : decode cX9_next 295 = .ok (.getfield 98, 3) := by decide +kernel
theorem dX9_next_298 : decode cX9_next 298 = .ok (.iconst 1, 1) := by decide +kernel
theorem dX9_next_299 : decode cX9_next 299 = .ok (.iadd, 1) := by decide +kernel
theorem dX9_next_300 : decode cX9_next 300 = .ok (.putfield 98, 3) := by decide +kernel
theorem dX9_next_303 : decode cX9_next 303 = .ok (.aload_n 0, 1) := by decide +kernel
theorem dX9_next_304 : decode cX9_next 304 = .ok (.iload_n 1, 1) := by decide +kernel
theorem dX9_next_305 : decode cX9_next 305 = .ok (.bipush 59, 2) := by decide +kernel
theorem dX9_next_307 : decode cX9_next 307 = .ok (.if_icmp .ne 7, 3) := by decide +kernel
theorem dX9_next_310 : decode cX9_next 310 = .ok (.iconst 3, 1) := by decide +kernel
theorem dX9_next_311 : decode cX9_next 311 = .ok (.goto 4, 3) := by decide +kernel
theorem dX9_next_314 : decode cX9_next 314 = .ok (.iconst 5, 1) := by decide +kernel
theorem dX9_next_315 : decode cX9_next 315 = .ok (.putfield 111, 3) := by decide +kernel
theorem dX9_next_318 : decode cX9_next 318 = .ok (.return_, 1) := by decide +kernel
theorem dX9_due_0 : decode cX9_due 0 = .ok (.aload_n 0, 1) := by decide +kernel
theorem dX9_due_1 : decode cX9_due 1 = .ok (.getfield 108, 3) := by decide +kernel
theorem dX9_due_4 : decode cX9_due 4 = .ok (.istore_n 2, 1) := by decide +kernel
theorem dX9_due_5 : decode cX9_due 5 = .ok (.aload_n 0, 1) := by decide +kernel
theorem dX9_due_6 : decode cX9_due 6 = .ok (.getfield 115, 3) := by decide +kernel
theorem dX9_due_9 : decode cX9_due 9 = .ok (.bipush (-9), 2) := by decide +kernel
theorem dX9_due_11 : decode cX9_due 11 = .ok (.if_icmp .ne 22, 3) := by decide +kernel
theorem dX9_due_14 : decode cX9_due 14 = .ok (.iload_n 1, 1) := by decide +kernel
theorem dX9_due_15 : decode cX9_due 15 = .ok (.ifCond .eq 10, 3) := by decide +kernel
theorem dX9_due_18 : decode cX9_due 18 = .ok (.aload_n 0, 1) := by decide +kernel
theorem dX9_due_19 : decode cX9_due 19 = .ok (.invokevirtual 118, 3) := by decide +kernel
theorem dX9_due_22 : decode cX9_due 22 = .ok (.goto 11, 3) := by decide +kernel
theorem dX9_due_25 : decode cX9_due 25 = .ok (.aload_n 0, 1) := by decide +kernel
theorem dX9_due_26 : decode cX9_due 26 = .ok (.aload_n 0, 1) := by decide +kernel
theorem dX9_due_27 : decode cX9_due 27 = .ok (.getfield 105, 3) := by decide +kernel
theorem dX9_due_30 : decode cX9_due 30 = .ok (.putfield 115, 3) := by decide +kernel
theorem dX9_due_33 : decode cX9_due 33 = .ok (.iload_n 2, 1) := by decide +kernel
theorem dX9_due_34 : decode cX9_due 34 = .ok (.ireturn, 1) := by decide +kernel
theorem dX9_state_0 : decode cX9_state 0 = .ok (.aload_n 0, 1) := by decide +kernel
theorem dX9_state_1 : decode cX9_state 1 = .ok (.aload_n 0, 1) := by decide +kernel
theorem dX9_state_2 : decode cX9_state 2 = .ok (.getfield 111, 3) := by decide +kernel
theorem dX9_state_5 : decode cX9_state 5 = .ok (.iconst 2, 1) := by decide +kernel
theorem dX9_state_6 : decode cX9_state 6 = .ok (.if_icmp .ne 16, 3) := by decide +kernel
theorem dX9_state_9 : decode cX9_state 9 = .ok (.aload_n 0, 1) := by decide +kernel
theorem dX9_state_10 : decode cX9_state 10 = .ok (.getfield 108, 3) := by decide +kernel
theorem dX9_state_13 : decode cX9_state 13 = .ok (.bipush 6, 2) := by decide +kernel
theorem dX9_state_15 : decode cX9_state 15 = .ok (.if_icmp .ge 7, 3) := by decide +kernel
theorem dX9_state_18 : decode cX9_state 18 = .ok (.iconst 1, 1) := by decide +kernel
theorem dX9_state_19 : decode cX9_state 19 = .ok (.goto 4, 3) := by decide +kernel
theorem dX9_state_22 : decode cX9_state 22 = .ok (.iconst 0, 1) := by decide +kernel
theorem dX9_state_23 : decode cX9_state 23 = .ok (.invokevirtual 121, 3) := by decide +kernel
theorem dX9_state_26 : decode cX9_state 26 = .ok (.ireturn, 1) := by decide +kernel
theorem dX9_readItem_0 : decode cX9_readItem 0 = .ok (.aload_n 0, 1) := by decide +kernel
theorem dX9_readItem_1 : decode cX9_readItem 1 = .ok (.getfield 111, 3) := by decide +kernel
theorem dX9_readItem_4 : decode cX9_readItem 4 = .ok (.istore_n 1, 1) := by decide +kernel
theorem dX9_readItem_5 : decode cX9_readItem 5 = .ok (.aload_n 0, 1) := by decide +kernel
theorem dX9_readItem_6 : decode cX9_readItem 6 = .ok (.getfield 108, 3) := by decide +kernel
theorem dX9_readItem_9 : decode cX9_readItem 9 = .ok (.istore_n 2, 1) := by decide +kernel
theorem dX9_readItem_10 : decode cX9_readItem 10 = .ok (.aload_n 0, 1) := by decide +kernel
theorem dX9_readItem_11 : decode cX9_readItem 11 = .ok (.iload_n 1, 1) := by decide +kernel
theorem dX9_readItem_12 : decode cX9_readItem 12 = .ok (.iconst 1, 1) := by decide +kernel
theorem dX9_readItem_13 : decode cX9_readItem 13 = .ok (.if_icmp .eq 18, 3) := by decide +kernel
theorem dX9_readItem_16 : decode cX9_readItem 16 = .ok (.iload_n 1, 1) := by decide +kernel
theorem dX9_readItem_17 : decode cX9_readItem 17 = .ok (.ifCond .ne 18, 3) := by decide +kernel
theorem dX9_readItem_20 : decode cX9_readItem 20 = .ok (.aload_n 0, 1) := by decide +kernel
theorem dX9_readItem_21 : decode cX9_readItem 21 = .ok (.getfield 13, 3) := by decide +kernel
theorem dX9_readItem_24 : decode cX9_readItem 24 = .ok (.iconst 1, 1) := by decide +kernel
theorem dX9_readItem_25 : decode cX9_readItem 25 = .ok (.iaload, 1) := by decide +kernel
theorem dX9_readItem_26 : decode cX9_readItem 26 = .ok (.bipush 16, 2) := by decide +kernel
theorem dX9_readItem_28 : decode cX9_readItem 28 = .ok (.if_icmp .ge 7, 3) := by decide +kernel
theorem dX9_readItem_31 : decode cX9_readItem 31 = .ok (.iconst 1, 1) := by decide +kernel
theorem dX9_readItem_32 : decode cX9_readItem 32 = .ok (.goto 4, 3) := by decide +kernel
theorem dX9_readItem_35 : decode cX9_readItem 35 = .ok (.iconst 0, 1) := by decide +kernel
theorem dX9_readItem_36 : decode cX9_readItem 36 = .ok (.invokevirtual 121, 3) := by decide +kernel
theorem dX9_readItem_39 : decode cX9_readItem 39 = .ok (.pop, 1) := by decide +kernel
theorem dX9_readItem_40 : decode cX9_readItem 40 = .ok (.aload_n 0, 1) := by decide +kernel
theorem dX9_readItem_41 : decode cX9_readItem 41 = .ok (.getfield 115, 3) := by decide +kernel
theorem dX9_readItem_44 : decode cX9_readItem 44 = .ok (.bipush (-9), 2) := by decide +kernel
theorem dX9_readItem_46 : decode cX9_readItem 46 = .ok (.if_icmp .eq 4, 3) := by decide +kernel
theorem dX9_readItem_49 : decode cX9_readItem 49 = .ok (.return_, 1) := by decide +kernel
theorem dX9_readItem_50 : decode cX9_readItem 50 = .ok (.iload_n 1, 1) := by decide +kernel
theorem dX9_readItem_51 : decode cX9_readItem 51 = .ok (.ifCond .ne 88, 3) := by decide +kernel
theorem dX9_readItem_54 : decode cX9_readItem 54 = .ok (.bipush 16, 2) := by decide +kernel
theorem dX9_readItem_56 : decode cX9_readItem 56 = .ok (.aload_n 0, 1) := by decide +kernel
theorem dX9_readItem_57 : decode cX9_readItem 57 = .ok (.getfield 13, 3) := by decide +kernel
theorem dX9_readItem_60 : decode cX9_readItem 60 = .ok (.iconst 1, 1) := by decide +kernel
theorem dX9_readItem_61 : decode cX9_readItem 61 = .ok (.iaload, 1) := by decide +kernel
theorem dX9_readItem_62 : decode cX9_readItem 62 = .ok (.iadd, 1) := by decide +kernel
theorem dX9_readItem_63 : decode cX9_readItem 63 = .ok (.istore_n 3, 1) := by decide +kernel
theorem dX9_readItem_64 : decode cX9_readItem 64 = .ok (.aload_n 0, 1) := by decide +kernel
theorem dX9_readItem_65 : decode cX9_readItem 65 = .ok (.getfield 17, 3) := by decide +kernel
theorem dX9_readItem_68 : decode cX9_readItem 68 = .ok (.iload_n 3, 1) := by decide +kernel
theorem dX9_readItem_69 : decode cX9_readItem 69 = .ok (.iload_n 2, 1) := by decide +kernel
theorem dX9_readItem_70 : decode cX9_readItem 70 = .ok (.iastore, 1) := by decide +kernel
theorem dX9_readItem_71 : decode cX9_readItem 71 = .ok (.aload_n 0, 1) := by decide +kernel
theorem dX9_readItem_72 : decode cX9_readItem 72 = .ok (.getfield 20, 3) := by decide +kernel
theorem dX9_readItem_75 : decode cX9_readItem 75 = .ok (.iload_n 3, 1) := by decide +kernel
theorem dX9_readItem_76 : decode cX9_readItem 76 = .ok (.iload_n 2, 1) := by decide +kernel
theorem dX9_readItem_77 : decode cX9_readItem 77 = .ok (.invokestatic 125, 3) := by decide +kernel
theorem dX9_readItem_80 : decode cX9_readItem 80 = .ok (.ifCond .le 10, 3) := by decide +kernel
theorem dX9_readItem_83 : decode cX9_readItem 83 = .ok (.aload_n 0, 1) := by decide +kernel
theorem dX9_readItem_84 : decode cX9_readItem 84 = .ok (.invokevirtual 129, 3) := by decide +kernel
theorem dX9_readItem_87 : decode cX9_readItem 87 = .ok (.goto 5, 3) := by decide +kernel
theorem dX9_readItem_90 : decode cX9_readItem 90 = .ok (.bipush (-9), 2) := by decide +kernel
theorem dX9_readItem_92 : decode cX9_readItem 92 = .ok (.iastore, 1) := by decide +kernel
theorem dX9_readItem_93 : decode cX9_readItem 93 = .ok (.aload_n 0, 1) := by decide +kernel
theorem dX9_readItem_94 : decode cX9_readItem 94 = .ok (.getfield 23, 3) := by decide +kernel
theorem dX9_readItem_97 : decode cX9_readItem 97 = .ok (.iload_n 3, 1) := by decide +kernel
theorem dX9_readItem_98 : decode cX9_readItem 98 = .ok (.iload_n 2, 1) := by decide +kernel
theorem dX9_readItem_99 : decode cX9_readItem 99 = .ok (.invokestatic 125, 3) := by decide +kernel
theorem dX9_readItem_102 : decode cX9_readItem 102 = .ok (.iconst 1, 1) := by decide +kernel
theorem dX9_readItem_103 : decode cX9_readItem 103 = .ok (.if_icmp .le 10, 3) := by decide +kernel
theorem dX9_readItem_106 : decode cX9_readItem 106 = .ok (.aload_n 0, 1) := by decide +kernel
theorem dX9_readItem_107 : decode cX9_readItem 107 = .ok (.invokevirtual 129, 3) := by decide +kernel
theorem dX9_readItem_110 : decode cX9_readItem 110 = .ok (.goto 5, 3) := by decide +kernel
theorem dX9_readItem_113 : decode cX9_readItem 113 = .ok (.bipush (-9), 2) := by decide +kernel
theorem dX9_readItem_115 : decode cX9_readItem 115 = .ok (.iastore, 1) := by decide +kernel
theorem dX9_readItem_116 : decode cX9_readItem 116 = .ok (.aload_n 0, 1) := by decide +kernel
theorem dX9_readItem_117 : decode cX9_readItem 117 = .ok (.getfield 26, 3) := by decide +kernel
theorem dX9_readItem_120 : decode cX9_readItem 120 = .ok (.iload_n 3, 1) := by decide +kernel
theorem dX9_readItem_121 : decode cX9_readItem 121 = .ok (.aload_n 0, 1) := by decide +kernel
theorem dX9_readItem_122 : decode cX9_readItem 122 = .ok (.invokevirtual 129, 3) := by decide +kernel
theorem dX9_readItem_125 : decode cX9_readItem 125 = .ok (.iastore, 1) := by decide +kernel
theorem dX9_readItem_126 : decode cX9_readItem 126 = .ok (.aload_n 0, 1) := by decide +kernel
theorem dX9_readItem_127 : decode cX9_readItem 127 = .ok (.getfield 13, 3) := by decide +kernel
theorem dX9_readItem_130 : decode cX9_readItem 130 = .ok (.iconst 1, 1) := by decide +kernel
theorem dX9_readItem_131 : decode cX9_readItem 131 = .ok (.dup2, 1) := by decide +kernel
theorem dX9_readItem_132 : decode cX9_readItem 132 = .ok (.iaload, 1) := by decide +kernel
theorem dX9_readItem_133 : decode cX9_readItem 133 = .ok (.iconst 1, 1) := by decide +kernel
theorem dX9_readItem_134 : decode cX9_readItem 134 = .ok (.iadd, 1) := by decide +kernel
theorem dX9_readItem_135 : decode cX9_readItem 135 = .ok (.iastore, 1) := by decide +kernel
theorem dX9_readItem_136 : decode cX9_readItem 136 = .ok (.goto 83, 3) := by decide +kernel
theorem dX9_readItem_139 : decode cX9_readItem 139 = .ok (.aload_n 0, 1) := by decide +kernel
theorem dX9_readItem_140 : decode cX9_readItem 140 = .ok (.invokevirtual 129, 3) := by decide +kernel
theorem dX9_readItem_143 : decode cX9_readItem 143 = .ok (.istore_n 3, 1) := by decide +kernel
theorem dX9_readItem_144 : decode cX9_readItem 144 = .ok (.aload_n 0, 1) := by decide +kernel
theorem dX9_readItem_145 : decode cX9_readItem 145 = .ok (.dup, 1) := by decide +kernel
theorem dX9_readItem_146 : decode cX9_readItem 146 = .ok (.getfield 132, 3) := by decide +kernel
theorem dX9_readItem_149 : decode cX9_readItem 149 = .ok (.aload_n 0, 1) := by decide +kernel
theorem dX9_readItem_150 : decode cX9_readItem 150 = .ok (.getfield 115, 3) := by decide +kernel
theorem dX9_readItem_153 : decode cX9_readItem 153 = .ok (.bipush (-9), 2) := by decide +kernel
theorem dX9_readItem_155 : decode cX9_readItem 155 = .ok (.if_icmp .ne 9, 3) := by decide +kernel
theorem dX9_readItem_158 : decode cX9_readItem 158 = .ok (.iconst 1, 1) := by decide +kernel
theorem dX9_readItem_159 : decode cX9_readItem 159 = .ok (.iload_n 3, 1) := by decide +kernel
theorem dX9_readItem_160 : decode cX9_readItem 160 = .ok (.ishl, 1) := by decide +kernel
theorem dX9_readItem_161 : decode cX9_readItem 161 = .ok (.goto 4, 3) := by decide +kernel
theorem dX9_readItem_164 : decode cX9_readItem 164 = .ok (.iconst 0, 1) := by decide +kernel
theorem dX9_readItem_165 : decode cX9_readItem 165 = .ok (.ior, 1) := by decide +kernel
theorem dX9_readItem_166 : decode cX9_readItem 166 = .ok (.putfield 132, 3) := by decide +kernel
theorem dX9_readItem_169 : decode cX9_readItem 169 = .ok (.aload_n 0, 1) := by decide +kernel
theorem dX9_readItem_170 : decode cX9_readItem 170 = .ok (.getfield 115, 3) := by decide +kernel
theorem dX9_readItem_173 : decode cX9_readItem 173 = .ok (.bipush (-9), 2) := by decide +kernel
theorem dX9_readItem_175 : decode cX9_readItem 175 = .ok (.if_icmp .ne 44, 3) := by decide +kernel
theorem dX9_readItem_178 : decode cX9_readItem 178 = .ok (.aload_n 0, 1) := by decide +kernel
theorem dX9_readItem_179 : decode cX9_readItem 179 = .ok (.getfield 111, 3) := by decide +kernel
theorem dX9_readItem_182 : decode cX9_readItem 182 = .ok (.iconst 2, 1) := by decide +kernel
theorem dX9_readItem_183 : decode cX9_readItem 183 = .ok (.if_icmp .ne 36, 3) := by decide +kernel
theorem dX9_readItem_186 : decode cX9_readItem 186 = .ok (.aload_n 0, 1) := by decide +kernel
theorem dX9_readItem_187 : decode cX9_readItem 187 = .ok (.invokevirtual 129, 3) := by decide +kernel
theorem dX9_readItem_190 : decode cX9_readItem 190 = .ok (.istore_n 3, 1) := by decide +kernel
theorem dX9_readItem_191 : decode cX9_readItem 191 = .ok (.aload_n 0, 1) := by decide +kernel
theorem dX9_readItem_192 : decode cX9_readItem 192 = .ok (.dup, 1) := by decide +kernel
theorem dX9_readItem_193 : decode cX9_readItem 193 = .ok (.getfield 132, 3) := by decide +kernel
theorem dX9_readItem_196 : decode cX9_readItem 196 = .ok (.aload_n 0, 1) := by decide +kernel
theorem dX9_readItem_197 : decode cX9_readItem 197 = .ok (.getfield 115, 3) := by decide +kernel
theorem dX9_readItem_200 : decode cX9_readItem 200 = .ok (.bipush (-9), 2) := by decide +kernel
theorem dX9_readItem_202 : decode cX9_readItem 202 = .ok (.if_icmp .ne 9, 3) := by decide +kernel
theorem dX9_readItem_205 : decode cX9_readItem 205 = .ok (.iconst 1, 1) := by decide +kernel
theorem dX9_readItem_206 : decode cX9_readItem 206 = .ok (.iload_n 3, 1) := by decide +kernel
theorem dX9_readItem_207 : decode cX9_readItem 207 = .ok (.ishl, 1) := by decide +kernel
theorem dX9_readItem_208 : decode cX9_readItem 208 = .ok (.goto 4, 3) := by decide +kernel
theorem dX9_readItem_211 : decode cX9_readItem 211 = .ok (.iconst 0, 1) := by decide +kernel
theorem dX9_readItem_212 : decode cX9_readItem 212 = .ok (.ior, 1) := by decide +kernel
theorem dX9_readItem_213 : decode cX9_readItem 213 = .ok (.putfield 132, 3) := by decide +kernel
theorem dX9_readItem_216 : decode cX9_readItem 216 = .ok (.goto (-47), 3) := by decide +kernel
theorem dX9_readItem_219 : decode cX9_readItem 219 = .ok (.aload_n 0, 1) := by decide +kernel
theorem dX9_readItem_220 : decode cX9_readItem 220 = .ok (.aload_n 0, 1) := by decide +kernel
theorem dX9_readItem_221 : decode cX9_readItem 221 = .ok (.getfield 111, 3) := by decide +kernel
theorem dX9_readItem_224 : decode cX9_readItem 224 = .ok (.iconst 3, 1) := by decide +kernel
theorem dX9_readItem_225 : decode cX9_readItem 225 = .ok (.if_icmp .ne 7, 3) := by decide +kernel
theorem dX9_readItem_228 : decode cX9_readItem 228 = .ok (.iconst 1, 1) := by decide +kernel
theorem dX9_readItem_229 : decode cX9_readItem 229 = .ok (.goto 4, 3) := by decide +kernel
theorem dX9_readItem_232 : decode cX9_readItem 232 = .ok (.iconst 0, 1) := by decide +kernel
theorem dX9_readItem_233 : decode cX9_readItem 233 = .ok (.invokevirtual 121, 3) := by decide +kernel
theorem dX9_readItem_236 : decode cX9_readItem 236 = .ok (.pop, 1) := by decide +kernel
theorem dX9_readItem_237 : decode cX9_readItem 237 = .ok (.return_, 1) := by decide +kernel
theorem dX9_law_0 : decode cX9_law 0 = .ok (.aload_n 0, 1) := by decide +kernel
theorem dX9_law_1 : decode cX9_law 1 = .ok (.iconst 0, 1) := by decide +kernel
theorem dX9_law_2 : decode cX9_law 2 = .ok (.putfield 98, 3) := by decide +kernel
theorem dX9_law_5 : decode cX9_law 5 = .ok (.aload_n 0, 1) := by decide +kernel
theorem dX9_law_6 : decode cX9_law 6 = .ok (.bipush (-9), 2) := by decide +kernel
theorem dX9_law_8 : decode cX9_law 8 = .ok (.putfield 115, 3) := by decide +kernel
theorem dX9_law_11 : decode cX9_law 11 = .ok (.aload_n 0, 1) := by decide +kernel
theorem dX9_law_12 : decode cX9_law 12 = .ok (.getfield 13, 3) := by decide +kernel
theorem dX9_law_15 : decode cX9_law 15 = .ok (.iconst 1, 1) := by decide +kernel
theorem dX9_law_16 : decode cX9_law 16 = .ok (.iconst 0, 1) := by decide +kernel
theorem dX9_law_17 : decode cX9_law 17 = .ok (.iastore, 1) := by decide +kernel
theorem dX9_law_18 : decode cX9_law 18 = .ok (.aload_n 0, 1) := by decide +kernel
theorem dX9_law_19 : decode cX9_law 19 = .ok (.iconst 0, 1) := by decide +kernel
theorem dX9_law_20 : decode cX9_law 20 = .ok (.putfield 132, 3) := by decide +kernel
theorem dX9_law_23 : decode cX9_law 23 = .ok (.iconst 0, 1) := by decide +kernel
theorem dX9_law_24 : decode cX9_law 24 = .ok (.istore_n 1, 1) := by decide +kernel
theorem dX9_law_25 : decode cX9_law 25 = .ok (.aload_n 0, 1) := by decide +kernel
theorem dX9_law_26 : decode cX9_law 26 = .ok (.invokevirtual 118, 3) := by decide +kernel
theorem dX9_law_29 : decode cX9_law 29 = .ok (.aload_n 0, 1) := by decide +kernel
theorem dX9_law_30 : decode cX9_law 30 = .ok (.getfield 115, 3) := by decide +kernel
theorem dX9_law_33 : decode cX9_law 33 = .ok (.bipush (-9), 2) := by decide +kernel
theorem dX9_law_35 : decode cX9_law 35 = .ok (.if_icmp .ne 21, 3) := by decide +kernel
theorem dX9_law_38 : decode cX9_law 38 = .ok (.aload_n 0, 1) := by decide +kernel
theorem dX9_law_39 : decode cX9_law 39 = .ok (.getfield 111, 3) := by decide +kernel
theorem dX9_law_42 : decode cX9_law 42 = .ok (.iconst 4, 1) := by decide +kernel
theorem dX9_law_43 : decode cX9_law 43 = .ok (.if_icmp .eq 13, 3) := by decide +kernel
theorem dX9_law_46 : decode cX9_law 46 = .ok (.aload_n 0, 1) := by decide +kernel
theorem dX9_law_47 : decode cX9_law 47 = .ok (.invokevirtual 135, 3) := by decide +kernel
theorem dX9_law_50 : decode cX9_law 50 = .ok (.iinc 1 1, 3) := by decide +kernel
theorem dX9_law_53 : decode cX9_law 53 = .ok (.goto (-24), 3) := by decide +kernel
theorem dX9_law_56 : decode cX9_law 56 = .ok (.aload_n 0, 1) := by decide +kernel
theorem dX9_law_57 : decode cX9_law 57 = .ok (.getfield 115, 3) := by decide +kernel
theorem dX9_law_60 : decode cX9_law 60 = .ok (.bipush (-9), 2) := by decide +kernel
theorem dX9_law_62 : decode cX9_law 62 = .ok (.if_icmp .eq 11, 3) := by decide +kernel
theorem dX9_law_65 : decode cX9_law 65 = .ok (.bipush (-10), 2) := by decide +kernel
theorem dX9_law_67 : decode cX9_law 67 = .ok (.aload_n 0, 1) := by decide +kernel
theorem dX9_law_68 : decode cX9_law 68 = .ok (.getfield 115, 3) := by decide +kernel
theorem dX9_law_71 : decode cX9_law 71 = .ok (.isub, 1) := by decide +kernel
theorem dX9_law_72 : decode cX9_law 72 = .ok (.ireturn, 1) := by decide +kernel
theorem dX9_law_73 : decode cX9_law 73 = .ok (.aload_n 0, 1) := by decide +kernel
theorem dX9_law_74 : decode cX9_law 74 = .ok (.getfield 13, 3) := by decide +kernel
theorem dX9_law_77 : decode cX9_law 77 = .ok (.iconst 0, 1) := by decide +kernel
theorem dX9_law_78 : decode cX9_law 78 = .ok (.aload_n 0, 1) := by decide +kernel
theorem dX9_law_79 : decode cX9_law 79 = .ok (.getfield 13, 3) := by decide +kernel
theorem dX9_law_82 : decode cX9_law 82 = .ok (.iconst 1, 1) := by decide +kernel
theorem dX9_law_83 : decode cX9_law 83 = .ok (.iaload, 1) := by decide +kernel
theorem dX9_law_84 : decode cX9_law 84 = .ok (.iastore, 1) := by decide +kernel
theorem dX9_law_85 : decode cX9_law 85 = .ok (.iconst 0, 1) := by decide +kernel
theorem dX9_law_86 : decode cX9_law 86 = .ok (.istore_n 2, 1) := by decide +kernel
theorem dX9_law_87 : decode cX9_law 87 = .ok (.iload_n 2, 1) := by decide +kernel
theorem dX9_law_88 : decode cX9_law 88 = .ok (.bipush 16, 2) := by decide +kernel
theorem dX9_law_90 : decode cX9_law 90 = .ok (.if_icmp .ge 69, 3) := by decide +kernel
theorem dX9_law_93 : decode cX9_law 93 = .ok (.aload_n 0, 1) := by decide +kernel
theorem dX9_law_94 : decode cX9_law 94 = .ok (.getfield 17, 3) := by decide +kernel
theorem dX9_law_97 : decode cX9_law 97 = .ok (.iload_n 2, 1) := by decide +kernel
theorem dX9_law_98 : decode cX9_law 98 = .ok (.aload_n 0, 1) := by decide +kernel
theorem dX9_law_99 : decode cX9_law 99 = .ok (.getfield 17, 3) := by decide +kernel
theorem dX9_law_102 : decode cX9_law 102 = .ok (.bipush 16, 2) := by decide +kernel
theorem dX9_law_104 : decode cX9_law 104 = .ok (.iload_n 2, 1) := by decide +kernel
theorem dX9_law_105 : decode cX9_law 105 = .ok (.iadd, 1) := by decide +kernel
theorem dX9_law_106 : decode cX9_law 106 = .ok (.iaload, 1) := by decide +kernel
theorem dX9_law_107 : decode cX9_law 107 = .ok (.iastore, 1) := by decide +kernel
theorem dX9_law_108 : decode cX9_law 108 = .ok (.aload_n 0, 1) := by decide +kernel
theorem dX9_law_109 : decode cX9_law 109 = .ok (.getfield 20, 3) := by decide +kernel
theorem dX9_law_112 : decode cX9_law 112 = .ok (.iload_n 2, 1) := by decide +kernel
theorem dX9_law_113 : decode cX9_law 113 = .ok (.aload_n 0, 1) := by decide +kernel
theorem dX9_law_114 : decode cX9_law 114 = .ok (.getfield 20, 3) := by decide +kernel
theorem dX9_law_117 : decode cX9_law 117 = .ok (.bipush 16, 2) := by decide +kernel
theorem dX9_law_119 : decode cX9_law 119 = .ok (.iload_n 2, 1) := by decide +kernel
theorem dX9_law_120 : decode cX9_law 120 = .ok (.iadd, 1) := by decide +kernel
theorem dX9_law_121 : decode cX9_law 121 = .ok (.iaload, 1) := by decide +kernel
theorem dX9_law_122 : decode cX9_law 122 = .ok (.iastore, 1) := by decide +kernel
theorem dX9_law_123 : decode cX9_law 123 = .ok (.aload_n 0, 1) := by decide +kernel
theorem dX9_law_124 : decode cX9_law 124 = .ok (.getfield 23, 3) := by decide +kernel
theorem dX9_law_127 : decode cX9_law 127 = .ok (.iload_n 2, 1) := by decide +kernel
theorem dX9_law_128 : decode cX9_law 128 = .ok (.aload_n 0, 1) := by decide +kernel
theorem dX9_law_129 : decode cX9_law 129 = .ok (.getfield 23, 3) := by decide +kernel
theorem dX9_law_132 : decode cX9_law 132 = .ok (.bipush 16, 2) := by decide +kernel
theorem dX9_law_134 : decode cX9_law 134 = .ok (.iload_n 2, 1) := by decide +kernel
theorem dX9_law_135 : decode cX9_law 135 = .ok (.iadd, 1) := by decide +kernel
theorem dX9_law_136 : decode cX9_law 136 = .ok (.iaload, 1) := by decide +kernel
theorem dX9_law_137 : decode cX9_law 137 = .ok (.iastore, 1) := by decide +kernel
theorem dX9_law_138 : decode cX9_law 138 = .ok (.aload_n 0, 1) := by decide +kernel
theorem dX9_law_139 : decode cX9_law 139 = .ok (.getfield 26, 3) := by decide +kernel
theorem dX9_law_142 : decode cX9_law 142 = .ok (.iload_n 2, 1) := by decide +kernel
theorem dX9_law_143 : decode cX9_law 143 = .ok (.aload_n 0, 1) := by decide +kernel
theorem dX9_law_144 : decode cX9_law 144 = .ok (.getfield 26, 3) := by decide +kernel
theorem dX9_law_147 : decode cX9_law 147 = .ok (.bipush 16, 2) := by decide +kernel
theorem dX9_law_149 : decode cX9_law 149 = .ok (.iload_n 2, 1) := by decide +kernel
theorem dX9_law_150 : decode cX9_law 150 = .ok (.iadd, 1) := by decide +kernel
theorem dX9_law_151 : decode cX9_law 151 = .ok (.iaload, 1) := by decide +kernel
theorem dX9_law_152 : decode cX9_law 152 = .ok (.iastore, 1) := by decide +kernel
theorem dX9_law_153 : decode cX9_law 153 = .ok (.iinc 2 1, 3) := by decide +kernel
theorem dX9_law_156 : decode cX9_law 156 = .ok (.goto (-69), 3) := by decide +kernel
theorem dX9_law_159 : decode cX9_law 159 = .ok (.aload_n 0, 1) := by decide +kernel
theorem dX9_law_160 : decode cX9_law 160 = .ok (.getfield 29, 3) := by decide +kernel
theorem dX9_law_163 : decode cX9_law 163 = .ok (.iconst 0, 1) := by decide +kernel
theorem dX9_law_164 : decode cX9_law 164 = .ok (.iconst 1, 1) := by decide +kernel
theorem dX9_law_165 : decode cX9_law 165 = .ok (.aload_n 0, 1) := by decide +kernel
theorem dX9_law_166 : decode cX9_law 166 = .ok (.getfield 13, 3) := by decide +kernel
theorem dX9_law_169 : decode cX9_law 169 = .ok (.iconst 0, 1) := by decide +kernel
theorem dX9_law_170 : decode cX9_law 170 = .ok (.iaload, 1) := by decide +kernel
theorem dX9_law_171 : decode cX9_law 171 = .ok (.ishl, 1) := by decide +kernel
theorem dX9_law_172 : decode cX9_law 172 = .ok (.iconst 1, 1) := by decide +kernel
theorem dX9_law_173 : decode cX9_law 173 = .ok (.isub, 1) := by decide +kernel
theorem dX9_law_174 : decode cX9_law 174 = .ok (.iastore, 1) := by decide +kernel
theorem dX9_law_175 : decode cX9_law 175 = .ok (.aload_n 0, 1) := by decide +kernel
theorem dX9_law_176 : decode cX9_law 176 = .ok (.getfield 29, 3) := by decide +kernel
theorem dX9_law_179 : decode cX9_law 179 = .ok (.iconst 1, 1) := by decide +kernel
theorem dX9_law_180 : decode cX9_law 180 = .ok (.aload_n 0, 1) := by decide +kernel
theorem dX9_law_181 : decode cX9_law 181 = .ok (.getfield 132, 3) := by decide +kernel
theorem dX9_law_184 : decode cX9_law 184 = .ok (.iastore, 1) := by decide +kernel
theorem dX9_law_185 : decode cX9_law 185 = .ok (.aload_n 0, 1) := by decide +kernel
theorem dX9_law_186 : decode cX9_law 186 = .ok (.getfield 32, 3) := by decide +kernel
theorem dX9_law_189 : decode cX9_law 189 = .ok (.iconst 0, 1) := by decide +kernel
theorem dX9_law_190 : decode cX9_law 190 = .ok (.iconst 0, 1) := by decide +kernel
theorem dX9_law_191 : decode cX9_law 191 = .ok (.bastore, 1) := by decide +kernel
theorem dX9_law_192 : decode cX9_law 192 = .ok (.aload_n 0, 1) := by decide +kernel
theorem dX9_law_193 : decode cX9_law 193 = .ok (.getfield 32, 3) := by decide +kernel
theorem dX9_law_196 : decode cX9_law 196 = .ok (.iconst 1, 1) := by decide +kernel
theorem dX9_law_197 : decode cX9_law 197 = .ok (.iconst 0, 1) := by decide +kernel
theorem dX9_law_198 : decode cX9_law 198 = .ok (.bastore, 1) := by decide +kernel
theorem dX9_law_199 : decode cX9_law 199 = .ok (.aload_n 0, 1) := by decide +kernel
theorem dX9_law_200 : decode cX9_law 200 = .ok (.iconst 0, 1) := by decide +kernel
theorem dX9_law_201 : decode cX9_law 201 = .ok (.putfield 92, 3) := by decide +kernel
theorem dX9_law_204 : decode cX9_law 204 = .ok (.iload_n 1, 1) := by decide +kernel
theorem dX9_law_205 : decode cX9_law 205 = .ok (.ireturn, 1) := by decide +kernel
theorem dX9_tree_0 : decode cX9_tree 0 = .ok (.iconst 0, 1) := by decide +kernel
theorem dX9_tree_1 : decode cX9_tree 1 = .ok (.istore_n 1, 1) := by decide +kernel
theorem dX9_tree_2 : decode cX9_tree 2 = .ok (.iconst 1, 1) := by decide +kernel
theorem dX9_tree_3 : decode cX9_tree 3 = .ok (.istore_n 2, 1) := by decide +kernel
theorem dX9_tree_4 : decode cX9_tree 4 = .ok (.iconst 0, 1) := by decide +kernel
theorem dX9_tree_5 : decode cX9_tree 5 = .ok (.istore_n 3, 1) := by decide +kernel
theorem dX9_tree_6 : decode cX9_tree 6 = .ok (.iload_n 3, 1) := by decide +kernel
theorem dX9_tree_7 : decode cX9_tree 7 = .ok (.aload_n 0, 1) := by decide +kernel
theorem dX9_tree_8 : decode cX9_tree 8 = .ok (.getfield 92, 3) := by decide +kernel
theorem dX9_tree_11 : decode cX9_tree 11 = .ok (.if_icmp .ge 82, 3) := by decide +kernel
theorem dX9_tree_14 : decode cX9_tree 14 = .ok (.aload_n 0, 1) := by decide +kernel
theorem dX9_tree_15 : decode cX9_tree 15 = .ok (.getfield 7, 3) := by decide +kernel
theorem dX9_tree_18 : decode cX9_tree 18 = .ok (.iload_n 3, 1) := by decide +kernel
theorem dX9_tree_19 : decode cX9_tree 19 = .ok (.baload, 1) := by decide +kernel
theorem dX9_tree_20 : decode cX9_tree 20 = .ok (.sipush 255, 3) := by decide +kernel
theorem dX9_tree_23 : decode cX9_tree 23 = .ok (.iand, 1) := by decide +kernel
theorem dX9_tree_24 : decode cX9_tree 24 = .ok (.istore 4, 2) := by decide +kernel
theorem dX9_tree_26 : decode cX9_tree 26 = .ok (.iload 4, 2) := by decide +kernel
theorem dX9_tree_28 : decode cX9_tree 28 = .ok (.bipush 32, 2) := by decide +kernel
theorem dX9_tree_30 : decode cX9_tree 30 = .ok (.if_icmp .eq 57, 3) := by decide +kernel
theorem dX9_tree_33 : decode cX9_tree 33 = .ok (.iload 4, 2) := by decide +kernel
theorem dX9_tree_35 : decode cX9_tree 35 = .ok (.bipush 97, 2) := by decide +kernel
theorem dX9_tree_37 : decode cX9_tree 37 = .ok (.bipush 104, 2) := by decide +kernel
theorem dX9_tree_39 : decode cX9_tree 39 = .ok (.invokestatic 88, 3) := by decide +kernel
theorem dX9_tree_42 : decode cX9_tree 42 = .ok (.ifCond .eq 13, 3) := by decide +kernel
theorem dX9_tree_45 : decode cX9_tree 45 = .ok (.iload_n 2, 1) := by decide +kernel
theorem dX9_tree_46 : decode cX9_tree 46 = .ok (.ifCond .eq 9, 3) := by decide +kernel
theorem dX9_tree_49 : decode cX9_tree 49 = .ok (.iload_n 1, 1) := by decide +kernel
theorem dX9_tree_50 : decode cX9_tree 50 = .ok (.bipush 31, 2) := by decide +kernel
theorem dX9_tree_52 : decode cX9_tree 52 = .ok (.if_icmp .ne 8, 3) := by decide +kernel
theorem dX9_tree_55 : decode cX9_tree 55 = .ok (.bipush (-10), 2) := by decide +kernel
theorem dX9_tree_57 : decode cX9_tree 57 = .ok (.iload_n 3, 1) := by decide +kernel
theorem dX9_tree_58 : decode cX9_tree 58 = .ok (.isub, 1) := by decide +kernel
theorem dX9_tree_59 : decode cX9_tree 59 = .ok (.ireturn, 1) := by decide +kernel
theorem dX9_tree_60 : decode cX9_tree 60 = .ok (.aload_n 0, 1) := by decide +kernel
theorem dX9_tree_61 : decode cX9_tree 61 = .ok (.getfield 36, 3) := by decide +kernel
theorem dX9_tree_64 : decode cX9_tree 64 = .ok (.iload_n 1, 1) := by decide +kernel
theorem dX9_tree_65 : decode cX9_tree 65 = .ok (.iload 4, 2) := by decide +kernel
theorem dX9_tree_67 : decode cX9_tree 67 = .ok (.bipush 97, 2) := by decide +kernel
theorem dX9_tree_69 : decode cX9_tree 69 = .ok (.isub, 1) := by decide +kernel
theorem dX9_tree_70 : decode cX9_tree 70 = .ok (.iastore, 1) := by decide +kernel
theorem dX9_tree_71 : decode cX9_tree 71 = .ok (.iload_n 2, 1) := by decide +kernel
theorem dX9_tree_72 : decode cX9_tree 72 = .ok (.iload 4, 2) := by decide +kernel
theorem dX9_tree_74 : decode cX9_tree 74 = .ok (.bipush 97, 2) := by decide +kernel
theorem dX9_tree_76 : decode cX9_tree 76 = .ok (.isub, 1) := by decide +kernel
theorem dX9_tree_77 : decode cX9_tree 77 = .ok (.invokestatic 125, 3) := by decide +kernel
theorem dX9_tree_80 : decode cX9_tree 80 = .ok (.iconst 1, 1) := by decide +kernel
theorem dX9_tree_81 : decode cX9_tree 81 = .ok (.isub, 1) := by decide +kernel
theorem dX9_tree_82 : decode cX9_tree 82 = .ok (.iadd, 1) := by decide +kernel
theorem dX9_tree_83 : decode cX9_tree 83 = .ok (.istore_n 2, 1) := by decide +kernel
theorem dX9_tree_84 : decode cX9_tree 84 = .ok (.iinc 1 1, 3) := by decide +kernel
theorem dX9_tree_87 : decode cX9_tree 87 = .ok (.iinc 3 1, 3) := by decide +kernel
theorem dX9_tree_90 : decode cX9_tree 90 = .ok (.goto (-84), 3) := by decide +kernel
theorem dX9_tree_93 : decode cX9_tree 93 = .ok (.iload_n 2, 1) := by decide +kernel
theorem dX9_tree_94 : decode cX9_tree 94 = .ok (.ifCond .le 11, 3) := by decide +kernel
theorem dX9_tree_97 : decode cX9_tree 97 = .ok (.bipush (-10), 2) := by decide +kernel
theorem dX9_tree_99 : decode cX9_tree 99 = .ok (.aload_n 0, 1) := by decide +kernel
theorem dX9_tree_100 : decode cX9_tree 100 = .ok (.getfield 92, 3) := by decide +kernel
theorem dX9_tree_103 : decode cX9_tree 103 = .ok (.isub, 1) := by decide +kernel
theorem dX9_tree_104 : decode cX9_tree 104 = .ok (.ireturn, 1) := by decide +kernel
theorem dX9_tree_105 : decode cX9_tree 105 = .ok (.iconst 0, 1) := by decide +kernel
theorem dX9_tree_106 : decode cX9_tree 106 = .ok (.istore_n 3, 1) := by decide +kernel
theorem dX9_tree_107 : decode cX9_tree 107 = .ok (.iload_n 3, 1) := by decide +kernel
theorem dX9_tree_108 : decode cX9_tree 108 = .ok (.iload_n 1, 1) := by decide +kernel
theorem dX9_tree_109 : decode cX9_tree 109 = .ok (.if_icmp .ge 23, 3) := by decide +kernel
theorem dX9_tree_112 : decode cX9_tree 112 = .ok (.aload_n 0, 1) := by decide +kernel
theorem dX9_tree_113 : decode cX9_tree 113 = .ok (.getfield 29, 3) := by decide +kernel
theorem dX9_tree_116 : decode cX9_tree 116 = .ok (.iconst 3, 1) := by decide +kernel
theorem dX9_tree_117 : decode cX9_tree 117 = .ok (.iload_n 3, 1) := by decide +kernel
theorem dX9_tree_118 : decode cX9_tree 118 = .ok (.iadd, 1) := by decide +kernel
theorem dX9_tree_119 : decode cX9_tree 119 = .ok (.aload_n 0, 1) := by decide +kernel
theorem dX9_tree_120 : decode cX9_tree 120 = .ok (.getfield 36, 3) := by decide +kernel
theorem dX9_tree_123 : decode cX9_tree 123 = .ok (.iload_n 3, 1) := by decide +kernel
theorem dX9_tree_124 : decode cX9_tree 124 = .ok (.iaload, 1) := by decide +kernel
theorem dX9_tree_125 : decode cX9_tree 125 = .ok (.iastore, 1) := by decide +kernel
theorem dX9_tree_126 : decode cX9_tree 126 = .ok (.iinc 3 1, 3) := by decide +kernel
theorem dX9_tree_129 : decode cX9_tree 129 = .ok (.goto (-22), 3) := by decide +kernel
theorem dX9_tree_132 : decode cX9_tree 132 = .ok (.aload_n 0, 1) := by decide +kernel
theorem dX9_tree_133 : decode cX9_tree 133 = .ok (.getfield 29, 3) := by decide +kernel
theorem dX9_tree_136 : decode cX9_tree 136 = .ok (.iconst 2, 1) := by decide +kernel
theorem dX9_tree_137 : decode cX9_tree 137 = .ok (.iload_n 1, 1) := by decide +kernel
theorem dX9_tree_138 : decode cX9_tree 138 = .ok (.iastore, 1) := by decide +kernel
theorem dX9_tree_139 : decode cX9_tree 139 = .ok (.aload_n 0, 1) := by decide +kernel
theorem dX9_tree_140 : decode cX9_tree 140 = .ok (.iconst 0, 1) := by decide +kernel
theorem dX9_tree_141 : decode cX9_tree 141 = .ok (.putfield 92, 3) := by decide +kernel
theorem dX9_tree_144 : decode cX9_tree 144 = .ok (.iload_n 1, 1) := by decide +kernel
theorem dX9_tree_145 : decode cX9_tree 145 = .ok (.ireturn, 1) := by decide +kernel
theorem dX9_isRule_0 : decode cX9_isRule 0 = .ok (.iload_n 1, 1) := by decide +kernel
theorem dX9_isRule_1 : decode cX9_isRule 1 = .ok (.iconst 0, 1) := by decide +kernel
theorem dX9_isRule_2 : decode cX9_isRule 2 = .ok (.aload_n 0, 1) := by decide +kernel
theorem dX9_isRule_3 : decode cX9_isRule 3 = .ok (.getfield 13, 3) := by decide +kernel
theorem dX9_isRule_6 : decode cX9_isRule 6 = .ok (.iconst 0, 1) := by decide +kernel
theorem dX9_isRule_7 : decode cX9_isRule 7 = .ok (.iaload, 1) := by decide +kernel
theorem dX9_isRule_8 : decode cX9_isRule 8 = .ok (.iconst 1, 1) := by decide +kernel
theorem dX9_isRule_9 : decode cX9_isRule 9 = .ok (.isub, 1) := by decide +kernel
theorem dX9_isRule_10 : decode cX9_isRule 10 = .ok (.invokestatic 88, 3) := by decide +kernel
theorem dX9_isRule_13 : decode cX9_isRule 13 = .ok (.ireturn, 1) := by decide +kernel
theorem dX9_rule_0 : decode cX9_rule 0 = .ok (.aload_n 0, 1) := by decide +kernel
theorem dX9_rule_1 : decode cX9_rule 1 = .ok (.iload_n 1, 1) := by decide +kernel
theorem dX9_rule_2 : decode cX9_rule 2 = .ok (.invokevirtual 138, 3) := by decide +kernel
theorem dX9_rule_5 : decode cX9_rule 5 = .ok (.ifCond .eq 12, 3) := by decide +kernel
theorem dX9_rule_8 : decode cX9_rule 8 = .ok (.iload_n 2, 1) := by decide +kernel
theorem dX9_rule_9 : decode cX9_rule 9 = .ok (.iconst 0, 1) := by decide +kernel
theorem dX9_rule_10 : decode cX9_rule 10 = .ok (.iconst 4, 1) := by decide +kernel
theorem dX9_rule_11 : decode cX9_rule 11 = .ok (.invokestatic 88, 3) := by decide +kernel
theorem dX9_rule_14 : decode cX9_rule 14 = .ok (.ifCond .ne 5, 3) := by decide +kernel
theorem dX9_rule_17 : decode cX9_rule 17 = .ok (.iconst (-1), 1) := by decide +kernel
theorem dX9_rule_18 : decode cX9_rule 18 = .ok (.ireturn, 1) := by decide +kernel
theorem dX9_rule_19 : decode cX9_rule 19 = .ok (.iload_n 2, 1) := by decide +kernel
theorem dX9_rule_20 : decode cX9_rule 20 = .ok (.ifCond .ne 12, 3) := by decide +kernel
theorem dX9_rule_23 : decode cX9_rule 23 = .ok (.aload_n 0, 1) := by decide +kernel
theorem dX9_rule_24 : decode cX9_rule 24 = .ok (.getfield 17, 3) := by decide +kernel
theorem dX9_rule_27 : decode cX9_rule 27 = .ok (.iload_n 1, 1) := by decide +kernel
theorem dX9_rule_28 : decode cX9_rule 28 = .ok (.iaload, 1) := by decide +kernel
theorem dX9_rule_29 : decode cX9_rule 29 = .ok (.goto 55, 3) := by decide +kernel
theorem dX9_rule_32 : decode cX9_rule 32 = .ok (.iload_n 2, 1) := by decide +kernel
theorem dX9_rule_33 : decode cX9_rule 33 = .ok (.iconst 1, 1) := by decide +kernel
theorem dX9_rule_34 : decode cX9_rule 34 = .ok (.if_icmp .ne 12, 3) := by decide +kernel
theorem dX9_rule_37 : decode cX9_rule 37 = .ok (.aload_n 0, 1) := by decide +kernel
theorem dX9_rule_38 : decode cX9_rule 38 = .ok (.getfield 20, 3) := by decide +kernel
theorem dX9_rule_41 : decode cX9_rule 41 = .ok (.iload_n 1, 1) := by decide +kernel
theorem dX9_rule_42 : decode cX9_rule 42 = .ok (.iaload, 1) := by decide +kernel
theorem dX9_rule_43 : decode cX9_rule 43 = .ok (.goto 41, 3) := by decide +kernel
theorem dX9_rule_46 : decode cX9_rule 46 = .ok (.iload_n 2, 1) := by decide +kernel
theorem dX9_rule_47 : decode cX9_rule 47 = .ok (.iconst 2, 1) := by decide +kernel
theorem dX9_rule_48 : decode cX9_rule 48 = .ok (.if_icmp .ne 12, 3) := by decide +kernel
theorem dX9_rule_51 : decode cX9_rule 51 = .ok (.aload_n 0, 1) := by decide +kernel
theorem dX9_rule_52 : decode cX9_rule 52 = .ok (.getfield 23, 3) := by decide +kernel
theorem dX9_rule_55 : decode cX9_rule 55 = .ok (.iload_n 1, 1) := by decide +kernel
theorem dX9_rule_56 : decode cX9_rule 56 = .ok (.iaload, 1) := by decide +kernel
theorem dX9_rule_57 : decode cX9_rule 57 = .ok (.goto 27, 3) := by decide +kernel
theorem dX9_rule_60 : decode cX9_rule 60 = .ok (.iload_n 2, 1) := by decide +kernel
theorem dX9_rule_61 : decode cX9_rule 61 = .ok (.iconst 3, 1) := by decide +kernel
theorem dX9_rule_62 : decode cX9_rule 62 = .ok (.if_icmp .ne 12, 3) := by decide +kernel
theorem dX9_rule_65 : decode cX9_rule 65 = .ok (.aload_n 0, 1) := by decide +kernel
theorem dX9_rule_66 : decode cX9_rule 66 = .ok (.getfield 26, 3) := by decide +kernel
theorem dX9_rule_69 : decode cX9_rule 69 = .ok (.iload_n 1, 1) := by decide +kernel
theorem dX9_rule_70 : decode cX9_rule 70 = .ok (.iaload, 1) := by decide +kernel
theorem dX9_rule_71 : decode cX9_rule 71 = .ok (.goto 13, 3) := by decide +kernel
theorem dX9_rule_74 : decode cX9_rule 74 = .ok (.aload_n 0, 1) := by decide +kernel
theorem dX9_rule_75 : decode cX9_rule 75 = .ok (.getfield 29, 3) := by decide +kernel
theorem dX9_rule_78 : decode cX9_rule 78 = .ok (.iconst 0, 1) := by decide +kernel
theorem dX9_rule_79 : decode cX9_rule 79 = .ok (.iaload, 1) := by decide +kernel
theorem dX9_rule_80 : decode cX9_rule 80 = .ok (.iload_n 1, 1) := by decide +kernel
theorem dX9_rule_81 : decode cX9_rule 81 = .ok (.ishr, 1) := by decide +kernel
theorem dX9_rule_82 : decode cX9_rule 82 = .ok (.iconst 1, 1) := by decide +kernel
theorem dX9_rule_83 : decode cX9_rule 83 = .ok (.iand, 1) := by decide +kernel
theorem dX9_rule_84 : decode cX9_rule 84 = .ok (.ireturn, 1) := by decide +kernel
theorem dX9_turn_0 : decode cX9_turn 0 = .ok (.aload_n 0, 1) := by decide +kernel
theorem dX9_turn_1 : decode cX9_turn 1 = .ok (.iload_n 1, 1) := by decide +kernel
theorem dX9_turn_2 : decode cX9_turn 2 = .ok (.invokevirtual 138, 3) := by decide +kernel
theorem dX9_turn_5 : decode cX9_turn 5 = .ok (.ifCond .eq 12, 3) := by decide +kernel
theorem dX9_turn_8 : decode cX9_turn 8 = .ok (.iload_n 2, 1) := by decide +kernel
theorem dX9_turn_9 : decode cX9_turn 9 = .ok (.iconst 0, 1) := by decide +kernel
theorem dX9_turn_10 : decode cX9_turn 10 = .ok (.iconst 1, 1) := by decide +kernel
theorem dX9_turn_11 : decode cX9_turn 11 = .ok (.invokestatic 88, 3) := by decide +kernel
theorem dX9_turn_14 : decode cX9_turn 14 = .ok (.ifCond .ne 5, 3) := by decide +kernel
theorem dX9_turn_17 : decode cX9_turn 17 = .ok (.iconst (-1), 1) := by decide +kernel
theorem dX9_turn_18 : decode cX9_turn 18 = .ok (.ireturn, 1) := by decide +kernel
theorem dX9_turn_19 : decode cX9_turn 19 = .ok (.aload_n 0, 1) := by decide +kernel
theorem dX9_turn_20 : decode cX9_turn 20 = .ok (.getfield 29, 3) := by decide +kernel
theorem dX9_turn_23 : decode cX9_turn 23 = .ok (.iconst 0, 1) := by decide +kernel
theorem dX9_turn_24 : decode cX9_turn 24 = .ok (.iaload, 1) := by decide +kernel
theorem dX9_turn_25 : decode cX9_turn 25 = .ok (.iload_n 1, 1) := by decide +kernel
theorem dX9_turn_26 : decode cX9_turn 26 = .ok (.ishr, 1) := by decide +kernel
theorem dX9_turn_27 : decode cX9_turn 27 = .ok (.iconst 1, 1) := by decide +kernel
theorem dX9_turn_28 : decode cX9_turn 28 = .ok (.iand, 1) := by decide +kernel
theorem dX9_turn_29 : decode cX9_turn 29 = .ok (.istore_n 3, 1) := by decide +kernel
theorem dX9_turn_30 : decode cX9_turn 30 = .ok (.aload_n 0, 1) := by decide +kernel
theorem dX9_turn_31 : decode cX9_turn 31 = .ok (.getfield 29, 3) := by decide +kernel
theorem dX9_turn_34 : decode cX9_turn 34 = .ok (.iconst 0, 1) := by decide +kernel
theorem dX9_turn_35 : decode cX9_turn 35 = .ok (.aload_n 0, 1) := by decide +kernel
theorem dX9_turn_36 : decode cX9_turn 36 = .ok (.getfield 29, 3) := by decide +kernel
theorem dX9_turn_39 : decode cX9_turn 39 = .ok (.iconst 0, 1) := by decide +kernel
theorem dX9_turn_40 : decode cX9_turn 40 = .ok (.iaload, 1) := by decide +kernel
theorem dX9_turn_41 : decode cX9_turn 41 = .ok (.iconst 1, 1) := by decide +kernel
theorem dX9_turn_42 : decode cX9_turn 42 = .ok (.iload_n 1, 1) := by decide +kernel
theorem dX9_turn_43 : decode cX9_turn 43 = .ok (.ishl, 1) := by decide +kernel
theorem dX9_turn_44 : decode cX9_turn 44 = .ok (.iconst (-1), 1) := by decide +kernel
theorem dX9_turn_45 : decode cX9_turn 45 = .ok (.ixor, 1) := by decide +kernel
theorem dX9_turn_46 : decode cX9_turn 46 = .ok (.iand, 1) := by decide +kernel
theorem dX9_turn_47 : decode cX9_turn 47 = .ok (.iload_n 2, 1) := by decide +kernel
theorem dX9_turn_48 : decode cX9_turn 48 = .ok (.iload_n 1, 1) := by decide +kernel
theorem dX9_turn_49 : decode cX9_turn 49 = .ok (.ishl, 1) := by decide +kernel
theorem dX9_turn_50 : decode cX9_turn 50 = .ok (.ior, 1) := by decide +kernel
theorem dX9_turn_51 : decode cX9_turn 51 = .ok (.iastore, 1) := by decide +kernel
theorem dX9_turn_52 : decode cX9_turn 52 = .ok (.iload_n 3, 1) := by decide +kernel
theorem dX9_turn_53 : decode cX9_turn 53 = .ok (.ireturn, 1) := by decide +kernel
theorem dX9_good_0 : decode cX9_good 0 = .ok (.iload_n 1, 1) := by decide +kernel
theorem dX9_good_1 : decode cX9_good 1 = .ok (.iconst 0, 1) := by decide +kernel
theorem dX9_good_2 : decode cX9_good 2 = .ok (.iconst 5, 1) := by decide +kernel
theorem dX9_good_3 : decode cX9_good 3 = .ok (.invokestatic 88, 3) := by decide +kernel
theorem dX9_good_6 : decode cX9_good 6 = .ok (.ifCond .eq 12, 3) := by decide +kernel
theorem dX9_good_9 : decode cX9_good 9 = .ok (.iload_n 2, 1) := by decide +kernel
theorem dX9_good_10 : decode cX9_good 10 = .ok (.iconst 0, 1) := by decide +kernel
theorem dX9_good_11 : decode cX9_good 11 = .ok (.iconst 1, 1) := by decide +kernel
theorem dX9_good_12 : decode cX9_good 12 = .ok (.invokestatic 88, 3) := by decide +kernel
theorem dX9_good_15 : decode cX9_good 15 = .ok (.ifCond .ne 5, 3) := by decide +kernel
theorem dX9_good_18 : decode cX9_good 18 = .ok (.iconst (-1), 1) := by decide +kernel
theorem dX9_good_19 : decode cX9_good 19 = .ok (.ireturn, 1) := by decide +kernel
theorem dX9_good_20 : decode cX9_good 20 = .ok (.aload_n 0, 1) := by decide +kernel
theorem dX9_good_21 : decode cX9_good 21 = .ok (.getfield 29, 3) := by decide +kernel
theorem dX9_good_24 : decode cX9_good 24 = .ok (.iconst 1, 1) := by decide +kernel
theorem dX9_good_25 : decode cX9_good 25 = .ok (.iaload, 1) := by decide +kernel
theorem dX9_good_26 : decode cX9_good 26 = .ok (.iload_n 1, 1) := by decide +kernel
theorem dX9_good_27 : decode cX9_good 27 = .ok (.ishr, 1) := by decide +kernel
theorem dX9_good_28 : decode cX9_good 28 = .ok (.iconst 1, 1) := by decide +kernel
theorem dX9_good_29 : decode cX9_good 29 = .ok (.iand, 1) := by decide +kernel
theorem dX9_good_30 : decode cX9_good 30 = .ok (.istore_n 3, 1) := by decide +kernel
theorem dX9_good_31 : decode cX9_good 31 = .ok (.aload_n 0, 1) := by decide +kernel
theorem dX9_good_32 : decode cX9_good 32 = .ok (.getfield 29, 3) := by decide +kernel
theorem dX9_good_35 : decode cX9_good 35 = .ok (.iconst 1, 1) := by decide +kernel
theorem dX9_good_36 : decode cX9_good 36 = .ok (.aload_n 0, 1) := by decide +kernel
theorem dX9_good_37 : decode cX9_good 37 = .ok (.getfield 29, 3) := by decide +kernel
theorem dX9_good_40 : decode cX9_good 40 = .ok (.iconst 1, 1) := by decide +kernel
theorem dX9_good_41 : decode cX9_good 41 = .ok (.iaload, 1) := by decide +kernel
theorem dX9_good_42 : decode cX9_good 42 = .ok (.iconst 1, 1) := by decide +kernel
theorem dX9_good_43 : decode cX9_good 43 = .ok (.iload_n 1, 1) := by decide +kernel
theorem dX9_good_44 : decode cX9_good 44 = .ok (.ishl, 1) := by decide +kernel
theorem dX9_good_45 : decode cX9_good 45 = .ok (.iconst (-1), 1) := by decide +kernel
theorem dX9_good_46 : decode cX9_good 46 = .ok (.ixor, 1) := by decide +kernel
theorem dX9_good_47 : decode cX9_good 47 = .ok (.iand, 1) := by decide +kernel
theorem dX9_good_48 : decode cX9_good 48 = .ok (.iload_n 2, 1) := by decide +kernel
theorem dX9_good_49 : decode cX9_good 49 = .ok (.iload_n 1, 1) := by decide +kernel
theorem dX9_good_50 : decode cX9_good 50 = .ok (.ishl, 1) := by decide +kernel
theorem dX9_good_51 : decode cX9_good 51 = .ok (.ior, 1) := by decide +kernel
theorem dX9_good_52 : decode cX9_good 52 = .ok (.iastore, 1) := by decide +kernel
theorem dX9_good_53 : decode cX9_good 53 = .ok (.iload_n 3, 1) := by decide +kernel
theorem dX9_good_54 : decode cX9_good 54 = .ok (.ireturn, 1) := by decide +kernel
theorem dX9_second_0 : decode cX9_second 0 = .ok (.iload_n 1, 1) := by decide +kernel
theorem dX9_second_1 : decode cX9_second 1 = .ok (.iconst 1, 1) := by decide +kernel
theorem dX9_second_2 : decode cX9_second 2 = .ok (.iadd, 1) := by decide +kernel
theorem dX9_second_3 : decode cX9_second 3 = .ok (.aload_n 0, 1) := by decide +kernel
theorem dX9_second_4 : decode cX9_second 4 = .ok (.getfield 39, 3) := by decide +kernel
theorem dX9_second_7 : decode cX9_second 7 = .ok (.iload_n 1, 1) := by decide +kernel
theorem dX9_second_8 : decode cX9_second 8 = .ok (.iconst 1, 1) := by decide +kernel
theorem dX9_second_9 : decode cX9_second 9 = .ok (.iadd, 1) := by decide +kernel
theorem dX9_second_10 : decode cX9_second 10 = .ok (.iaload, 1) := by decide +kernel
theorem dX9_second_11 : decode cX9_second 11 = .ok (.iadd, 1) := by decide +kernel
theorem dX9_second_12 : decode cX9_second 12 = .ok (.ireturn, 1) := by decide +kernel
theorem dX9_findParts_0 : decode cX9_findParts 0 = .ok (.aload_n 0, 1) := by decide +kernel
theorem dX9_findParts_1 : decode cX9_findParts 1 = .ok (.getfield 29, 3) := by decide +kernel
theorem dX9_findParts_4 : decode cX9_findParts 4 = .ok (.iconst 2, 1) := by decide +kernel
theorem dX9_findParts_5 : decode cX9_findParts 5 = .ok (.iaload, 1) := by decide +kernel
theorem dX9_findParts_6 : decode cX9_findParts 6 = .ok (.iconst 1, 1) := by decide +kernel
theorem dX9_findParts_7 : decode cX9_findParts 7 = .ok (.isub, 1) := by decide +kernel
theorem dX9_findParts_8 : decode cX9_findParts 8 = .ok (.istore_n 1, 1) := by decide +kernel
theorem dX9_findParts_9 : decode cX9_findParts 9 = .ok (.iload_n 1, 1) := by decide +kernel
theorem dX9_findParts_10 : decode cX9_findParts 10 = .ok (.ifCond .lt 81, 3) := by decide +kernel
theorem dX9_findParts_13 : decode cX9_findParts 13 = .ok (.aload_n 0, 1) := by decide +kernel
theorem dX9_findParts_14 : decode cX9_findParts 14 = .ok (.getfield 29, 3) := by decide +kernel
theorem dX9_findParts_17 : decode cX9_findParts 17 = .ok (.iconst 3, 1) := by decide +kernel
theorem dX9_findParts_18 : decode cX9_findParts 18 = .ok (.iload_n 1, 1) := by decide +kernel
theorem dX9_findParts_19 : decode cX9_findParts 19 = .ok (.iadd, 1) := by decide +kernel
theorem dX9_findParts_20 : decode cX9_findParts 20 = .ok (.iaload, 1) := by decide +kernel
theorem dX9_findParts_21 : decode cX9_findParts 21 = .ok (.invokestatic 125, 3) := by decide +kernel
theorem dX9_findParts_24 : decode cX9_findParts 24 = .ok (.istore_n 2, 1) := by decide +kernel
theorem dX9_findParts_25 : decode cX9_findParts 25 = .ok (.aload_n 0, 1) := by decide +kernel
theorem dX9_findParts_26 : decode cX9_findParts 26 = .ok (.getfield 39, 3) := by decide +kernel
theorem dX9_findParts_29 : decode cX9_findParts 29 = .ok (.iload_n 1, 1) := by decide +kernel
theorem dX9_findParts_30 : decode cX9_findParts 30 = .ok (.iconst 1, 1) := by decide +kernel
theorem dX9_findParts_31 : decode cX9_findParts 31 = .ok (.iastore, 1) := by decide +kernel
theorem dX9_findParts_32 : decode cX9_findParts 32 = .ok (.aload_n 0, 1) := by decide +kernel
theorem dX9_findParts_33 : decode cX9_findParts 33 = .ok (.getfield 39, 3) := by decide +kernel
theorem dX9_findParts_36 : decode cX9_findParts 36 = .ok (.iload_n 1, 1) := by decide +kernel
theorem dX9_findParts_37 : decode cX9_findParts 37 = .ok (.iload_n 2, 1) := by decide +kernel
theorem dX9_findParts_38 : decode cX9_findParts 38 = .ok (.ifCond .ne 7, 3) := by decide +kernel
theorem dX9_findParts_41 : decode cX9_findParts 41 = .ok (.iconst 1, 1) := by decide +kernel
theorem dX9_findParts_42 : decode cX9_findParts 42 = .ok (.goto 42, 3) := by decide +kernel
theorem dX9_findParts_45 : decode cX9_findParts 45 = .ok (.iload_n 2, 1) := by decide +kernel
theorem dX9_findParts_46 : decode cX9_findParts 46 = .ok (.iconst 1, 1) := by decide +kernel
theorem dX9_findParts_47 : decode cX9_findParts 47 = .ok (.if_icmp .ne 16, 3) := by decide +kernel
theorem dX9_findParts_50 : decode cX9_findParts 50 = .ok (.iconst 1, 1) := by decide +kernel
theorem dX9_findParts_51 : decode cX9_findParts 51 = .ok (.aload_n 0, 1) := by decide +kernel
theorem dX9_findParts_52 : decode cX9_findParts 52 = .ok (.getfield 39, 3) := by decide +kernel
theorem dX9_findParts_55 : decode cX9_findParts 55 = .ok (.iload_n 1, 1) := by decide +kernel
theorem dX9_findParts_56 : decode cX9_findParts 56 = .ok (.iconst 1, 1) := by decide +kernel
theorem dX9_findParts_57 : decode cX9_findParts 57 = .ok (.iadd, 1) := by decide +kernel
theorem dX9_findParts_58 : decode cX9_findParts 58 = .ok (.iaload, 1) := by decide +kernel
theorem dX9_findParts_59 : decode cX9_findParts 59 = .ok (.iadd, 1) := by decide +kernel
theorem dX9_findParts_60 : decode cX9_findParts 60 = .ok (.goto 24, 3) := by decide +kernel
theorem dX9_findParts_63 : decode cX9_findParts 63 = .ok (.iconst 1, 1) := by decide +kernel
theorem dX9_findParts_64 : decode cX9_findParts 64 = .ok (.aload_n 0, 1) := by decide +kernel
theorem dX9_findParts_65 : decode cX9_findParts 65 = .ok (.getfield 39, 3) := by decide +kernel
theorem dX9_findParts_68 : decode cX9_findParts 68 = .ok (.iload_n 1, 1) := by decide +kernel
theorem dX9_findParts_69 : decode cX9_findParts 69 = .ok (.iconst 1, 1) := by decide +kernel
theorem dX9_findParts_70 : decode cX9_findParts 70 = .ok (.iadd, 1) := by decide +kernel
theorem dX9_findParts_71 : decode cX9_findParts 71 = .ok (.iaload, 1) := by decide +kernel
theorem dX9_findParts_72 : decode cX9_findParts 72 = .ok (.iadd, 1) := by decide +kernel
theorem dX9_findParts_73 : decode cX9_findParts 73 = .ok (.aload_n 0, 1) := by decide +kernel
theorem dX9_findParts_74 : decode cX9_findParts 74 = .ok (.getfield 39, 3) := by decide +kernel
theorem dX9_findParts_77 : decode cX9_findParts 77 = .ok (.aload_n 0, 1) := by decide +kernel
theorem dX9_findParts_78 : decode cX9_findParts 78 = .ok (.iload_n 1, 1) := by decide +kernel
theorem dX9_findParts_79 : decode cX9_findParts 79 = .ok (.invokevirtual 142, 3) := by decide +kernel
theorem dX9_findParts_82 : decode cX9_findParts 82 = .ok (.iaload, 1) := by decide +kernel
theorem dX9_findParts_83 : decode cX9_findParts 83 = .ok (.iadd, 1) := by decide +kernel
theorem dX9_findParts_84 : decode cX9_findParts 84 = .ok (.iastore, 1) := by decide +kernel
theorem dX9_findParts_85 : decode cX9_findParts 85 = .ok (.iinc 1 (-1), 3) := by decide +kernel
theorem dX9_findParts_88 : decode cX9_findParts 88 = .ok (.goto (-79), 3) := by decide +kernel
theorem dX9_findParts_91 : decode cX9_findParts 91 = .ok (.return_, 1) := by decide +kernel
theorem dX9_has_0 : decode cX9_has 0 = .ok (.iload_n 0, 1) := by decide +kernel
theorem dX9_has_1 : decode cX9_has 1 = .ok (.iload_n 1, 1) := by decide +kernel
theorem dX9_has_2 : decode cX9_has 2 = .ok (.ishr, 1) := by decide +kernel
theorem dX9_has_3 : decode cX9_has 3 = .ok (.iconst 1, 1) := by decide +kernel
theorem dX9_has_4 : decode cX9_has 4 = .ok (.iand, 1) := by decide +kernel
theorem dX9_has_5 : decode cX9_has 5 = .ok (.iconst 1, 1) := by decide +kernel
theorem dX9_has_6 : decode cX9_has 6 = .ok (.if_icmp .ne 7, 3) := by decide +kernel
theorem dX9_has_9 : decode cX9_has 9 = .ok (.iconst 1, 1) := by decide +kernel
theorem dX9_has_10 : decode cX9_has 10 = .ok (.goto 4, 3) := by decide +kernel
theorem dX9_has_13 : decode cX9_has 13 = .ok (.iconst 0, 1) := by decide +kernel
theorem dX9_has_14 : decode cX9_has 14 = .ok (.ireturn, 1) := by decide +kernel
theorem dX9_makesOf_0 : decode cX9_makesOf 0 = .ok (.iconst 0, 1) := by decide +kernel
theorem dX9_makesOf_1 : decode cX9_makesOf 1 = .ok (.istore 5, 2) := by decide +kernel
theorem dX9_makesOf_3 : decode cX9_makesOf 3 = .ok (.iload_n 2, 1) := by decide +kernel
theorem dX9_makesOf_4 : decode cX9_makesOf 4 = .ok (.invokestatic 125, 3) := by decide +kernel
theorem dX9_makesOf_7 : decode cX9_makesOf 7 = .ok (.istore 6, 2) := by decide +kernel
theorem dX9_makesOf_9 : decode cX9_makesOf 9 = .ok (.iconst 0, 1) := by decide +kernel
theorem dX9_makesOf_10 : decode cX9_makesOf 10 = .ok (.istore 7, 2) := by decide +kernel
theorem dX9_makesOf_12 : decode cX9_makesOf 12 = .ok (.iload 7, 2) := by decide +kernel
theorem dX9_makesOf_14 : decode cX9_makesOf 14 = .ok (.aload_n 0, 1) := by decide +kernel
theorem dX9_makesOf_15 : decode cX9_makesOf 15 = .ok (.getfield 13, 3) := by decide +kernel
theorem dX9_makesOf_18 : decode cX9_makesOf 18 = .ok (.iconst 0, 1) := by decide +kernel
theorem dX9_makesOf_19 : decode cX9_makesOf 19 = .ok (.iaload, 1) := by decide +kernel
theorem dX9_makesOf_20 : decode cX9_makesOf 20 = .ok (.if_icmp .ge 112, 3) := by decide +kernel
theorem dX9_makesOf_23 : decode cX9_makesOf 23 = .ok (.iload_n 1, 1) := by decide +kernel
theorem dX9_makesOf_24 : decode cX9_makesOf 24 = .ok (.iload 7, 2) := by decide +kernel
theorem dX9_makesOf_26 : decode cX9_makesOf 26 = .ok (.invokestatic 145, 3) := by decide +kernel
theorem dX9_makesOf_29 : decode cX9_makesOf 29 = .ok (.ifCond .eq 18, 3) := by decide +kernel
theorem dX9_makesOf_32 : decode cX9_makesOf 32 = .ok (.aload_n 0, 1) := by decide +kernel
theorem dX9_makesOf_33 : decode cX9_makesOf 33 = .ok (.getfield 17, 3) := by decide +kernel
theorem dX9_makesOf_36 : decode cX9_makesOf 36 = .ok (.iload 7, 2) := by decide +kernel
theorem dX9_makesOf_38 : decode cX9_makesOf 38 = .ok (.iaload, 1) := by decide +kernel
theorem dX9_makesOf_39 : decode cX9_makesOf 39 = .ok (.iload_n 2, 1) := by decide +kernel
theorem dX9_makesOf_40 : decode cX9_makesOf 40 = .ok (.if_icmp .ne 7, 3) := by decide +kernel
theorem dX9_makesOf_43 : decode cX9_makesOf 43 = .ok (.iconst 1, 1) := by decide +kernel
theorem dX9_makesOf_44 : decode cX9_makesOf 44 = .ok (.goto 4, 3) := by decide +kernel
theorem dX9_makesOf_47 : decode cX9_makesOf 47 = .ok (.iconst 0, 1) := by decide +kernel
theorem dX9_makesOf_48 : decode cX9_makesOf 48 = .ok (.istore 8, 2) := by decide +kernel
theorem dX9_makesOf_50 : decode cX9_makesOf 50 = .ok (.iload 8, 2) := by decide +kernel
theorem dX9_makesOf_52 : decode cX9_makesOf 52 = .ok (.ifCond .eq 48, 3) := by decide +kernel
theorem dX9_makesOf_55 : decode cX9_makesOf 55 = .ok (.iload 6, 2) := by decide +kernel
theorem dX9_makesOf_57 : decode cX9_makesOf 57 = .ok (.iconst 1, 1) := by decide +kernel
theorem dX9_makesOf_58 : decode cX9_makesOf 58 = .ok (.if_icmp .lt 17, 3) := by decide +kernel
theorem dX9_makesOf_61 : decode cX9_makesOf 61 = .ok (.iload_n 3, 1) := by decide +kernel
theorem dX9_makesOf_62 : decode cX9_makesOf 62 = .ok (.aload_n 0, 1) := by decide +kernel
theorem dX9_makesOf_63 : decode cX9_makesOf 63 = .ok (.getfield 20, 3) := by decide +kernel
theorem dX9_makesOf_66 : decode cX9_makesOf 66 = .ok (.iload 7, 2) := by decide +kernel
theorem dX9_makesOf_68 : decode cX9_makesOf 68 = .ok (.iaload, 1) := by decide +kernel
theorem dX9_makesOf_69 : decode cX9_makesOf 69 = .ok (.invokestatic 145, 3) := by decide +kernel
theorem dX9_makesOf_72 : decode cX9_makesOf 72 = .ok (.ifCond .eq 28, 3) := by decide +kernel
theorem dX9_makesOf_75 : decode cX9_makesOf 75 = .ok (.iload 6, 2) := by decide +kernel
theorem dX9_makesOf_77 : decode cX9_makesOf 77 = .ok (.iconst 2, 1) := by decide +kernel
theorem dX9_makesOf_78 : decode cX9_makesOf 78 = .ok (.if_icmp .lt 18, 3) := by decide +kernel
theorem dX9_makesOf_81 : decode cX9_makesOf 81 = .ok (.iload 4, 2) := by decide +kernel
theorem dX9_makesOf_83 : decode cX9_makesOf 83 = .ok (.aload_n 0, 1) := by decide +kernel
theorem dX9_makesOf_84 : decode cX9_makesOf 84 = .ok (.getfield 23, 3) := by decide +kernel
theorem dX9_makesOf_87 : decode cX9_makesOf 87 = .ok (.iload 7, 2) := by decide +kernel
theorem dX9_makesOf_89 : decode cX9_makesOf 89 = .ok (.iaload, 1) := by decide +kernel
theorem dX9_makesOf_90 : decode cX9_makesOf 90 = .ok (.invokestatic 145, 3) := by decide +kernel
theorem dX9_makesOf_93 : decode cX9_makesOf 93 = .ok (.ifCond .eq 7, 3) := by decide +kernel
theorem dX9_makesOf_96 : decode cX9_makesOf 96 = .ok (.iconst 1, 1) := by decide +kernel
theorem dX9_makesOf_97 : decode cX9_makesOf 97 = .ok (.goto 4, 3) := by decide +kernel
theorem dX9_makesOf_100 : decode cX9_makesOf 100 = .ok (.iconst 0, 1) := by decide +kernel
theorem dX9_makesOf_101 : decode cX9_makesOf 101 = .ok (.istore 8, 2) := by decide +kernel
theorem dX9_makesOf_103 : decode cX9_makesOf 103 = .ok (.iload 5, 2) := by decide +kernel
theorem dX9_makesOf_105 : decode cX9_makesOf 105 = .ok (.iload 8, 2) := by decide +kernel
theorem dX9_makesOf_107 : decode cX9_makesOf 107 = .ok (.ifCond .eq 15, 3) := by decide +kernel
theorem dX9_makesOf_110 : decode cX9_makesOf 110 = .ok (.iconst 1, 1) := by decide +kernel
theorem dX9_makesOf_111 : decode cX9_makesOf 111 = .ok (.aload_n 0, 1) := by decide +kernel
theorem dX9_makesOf_112 : decode cX9_makesOf 112 = .ok (.getfield 26, 3) := by decide +kernel
theorem dX9_makesOf_115 : decode cX9_makesOf 115 = .ok (.iload 7, 2) := by decide +kernel
theorem dX9_makesOf_117 : decode cX9_makesOf 117 = .ok (.iaload, 1) := by decide +kernel
theorem dX9_makesOf_118 : decode cX9_makesOf 118 = .ok (.ishl, 1) := by decide +kernel
theorem dX9_makesOf_119 : decode cX9_makesOf 119 = .ok (.goto 4, 3) := by decide +kernel
theorem dX9_makesOf_122 : decode cX9_makesOf 122 = .ok (.iconst 0, 1) := by decide +kernel
theorem dX9_makesOf_123 : decode cX9_makesOf 123 = .ok (.ior, 1) := by decide +kernel
theorem dX9_makesOf_124 : decode cX9_makesOf 124 = .ok (.istore 5, 2) := by decide +kernel
theorem dX9_makesOf_126 : decode cX9_makesOf 126 = .ok (.iinc 7 1, 3) := by decide +kernel
theorem dX9_makesOf_129 : decode cX9_makesOf 129 = .ok (.goto (-117), 3) := by decide +kernel
theorem dX9_makesOf_132 : decode cX9_makesOf 132 = .ok (.iload 5, 2) := by decide +kernel
theorem dX9_makesOf_134 : decode cX9_makesOf 134 = .ok (.ireturn, 1) := by decide +kernel
theorem dX9_findComes_0 : decode cX9_findComes 0 = .ok (.aload_n 0, 1) := by decide +kernel
theorem dX9_findComes_1 : decode cX9_findComes 1 = .ok (.invokevirtual 149, 3) := by decide +kernel
theorem dX9_findComes_4 : decode cX9_findComes 4 = .ok (.aload_n 0, 1) := by decide +kernel
theorem dX9_findComes_5 : decode cX9_findComes 5 = .ok (.getfield 29, 3) := by decide +kernel
theorem dX9_findComes_8 : decode cX9_findComes 8 = .ok (.iconst 2, 1) := by decide +kernel
theorem dX9_findComes_9 : decode cX9_findComes 9 = .ok (.iaload, 1) := by decide +kernel
theorem dX9_findComes_10 : decode cX9_findComes 10 = .ok (.iconst 1, 1) := by decide +kernel
theorem dX9_findComes_11 : decode cX9_findComes 11 = .ok (.isub, 1) := by decide +kernel
theorem dX9_findComes_12 : decode cX9_findComes 12 = .ok (.istore_n 1, 1) := by decide +kernel
theorem dX9_findComes_13 : decode cX9_findComes 13 = .ok (.iload_n 1, 1) := by decide +kernel
theorem dX9_findComes_14 : decode cX9_findComes 14 = .ok (.ifCond .lt 80, 3) := by decide +kernel
theorem dX9_findComes_17 : decode cX9_findComes 17 = .ok (.aload_n 0, 1) := by decide +kernel
theorem dX9_findComes_18 : decode cX9_findComes 18 = .ok (.getfield 29, 3) := by decide +kernel
theorem dX9_findComes_21 : decode cX9_findComes 21 = .ok (.iconst 3, 1) := by decide +kernel
theorem dX9_findComes_22 : decode cX9_findComes 22 = .ok (.iload_n 1, 1) := by decide +kernel
theorem dX9_findComes_23 : decode cX9_findComes 23 = .ok (.iadd, 1) := by decide +kernel
theorem dX9_findComes_24 : decode cX9_findComes 24 = .ok (.iaload, 1) := by decide +kernel
theorem dX9_findComes_25 : decode cX9_findComes 25 = .ok (.invokestatic 125, 3) := by decide +kernel
theorem dX9_findComes_28 : decode cX9_findComes 28 = .ok (.istore_n 2, 1) := by decide +kernel
theorem dX9_findComes_29 : decode cX9_findComes 29 = .ok (.aload_n 0, 1) := by decide +kernel
theorem dX9_findComes_30 : decode cX9_findComes 30 = .ok (.getfield 42, 3) := by decide +kernel
theorem dX9_findComes_33 : decode cX9_findComes 33 = .ok (.iload_n 1, 1) := by decide +kernel
theorem dX9_findComes_34 : decode cX9_findComes 34 = .ok (.aload_n 0, 1) := by decide +kernel
theorem dX9_findComes_35 : decode cX9_findComes 35 = .ok (.aload_n 0, 1) := by decide +kernel
theorem dX9_findComes_36 : decode cX9_findComes 36 = .ok (.getfield 29, 3) := by decide +kernel
theorem dX9_findComes_39 : decode cX9_findComes 39 = .ok (.iconst 0, 1) := by decide +kernel
theorem dX9_findComes_40 : decode cX9_findComes 40 = .ok (.iaload, 1) := by decide +kernel
theorem dX9_findComes_41 : decode cX9_findComes 41 = .ok (.aload_n 0, 1) := by decide +kernel
theorem dX9_findComes_42 : decode cX9_findComes 42 = .ok (.getfield 29, 3) := by decide +kernel
theorem dX9_findComes_45 : decode cX9_findComes 45 = .ok (.iconst 3, 1) := by decide +kernel
theorem dX9_findComes_46 : decode cX9_findComes 46 = .ok (.iload_n 1, 1) := by decide +kernel
theorem dX9_findComes_47 : decode cX9_findComes 47 = .ok (.iadd, 1) := by decide +kernel
theorem dX9_findComes_48 : decode cX9_findComes 48 = .ok (.iaload, 1) := by decide +kernel
theorem dX9_findComes_49 : decode cX9_findComes 49 = .ok (.iload_n 2, 1) := by decide +kernel
theorem dX9_findComes_50 : decode cX9_findComes 50 = .ok (.ifCond .le 14, 3) := by decide +kernel
theorem dX9_findComes_53 : decode cX9_findComes 53 = .ok (.aload_n 0, 1) := by decide +kernel
theorem dX9_findComes_54 : decode cX9_findComes 54 = .ok (.getfield 42, 3) := by decide +kernel
theorem dX9_findComes_57 : decode cX9_findComes 57 = .ok (.iload_n 1, 1) := by decide +kernel
theorem dX9_findComes_58 : decode cX9_findComes 58 = .ok (.iconst 1, 1) := by decide +kernel
theorem dX9_findComes_59 : decode cX9_findComes 59 = .ok (.iadd, 1) := by decide +kernel
theorem dX9_findComes_60 : decode cX9_findComes 60 = .ok (.iaload, 1) := by decide +kernel
theorem dX9_findComes_61 : decode cX9_findComes 61 = .ok (.goto 4, 3) := by decide +kernel
theorem dX9_findComes_64 : decode cX9_findComes 64 = .ok (.iconst 0, 1) := by decide +kernel
theorem dX9_findComes_65 : decode cX9_findComes 65 = .ok (.iload_n 2, 1) := by decide +kernel
theorem dX9_findComes_66 : decode cX9_findComes 66 = .ok (.iconst 1, 1) := by decide +kernel
theorem dX9_findComes_67 : decode cX9_findComes 67 = .ok (.if_icmp .le 16, 3) := by decide +kernel
theorem dX9_findComes_70 : decode cX9_findComes 70 = .ok (.aload_n 0, 1) := by decide +kernel
theorem dX9_findComes_71 : decode cX9_findComes 71 = .ok (.getfield 42, 3) := by decide +kernel
theorem dX9_findComes_74 : decode cX9_findComes 74 = .ok (.aload_n 0, 1) := by decide +kernel
theorem dX9_findComes_75 : decode cX9_findComes 75 = .ok (.iload_n 1, 1) := by decide +kernel
theorem dX9_findComes_76 : decode cX9_findComes 76 = .ok (.invokevirtual 142, 3) := by decide +kernel
theorem dX9_findComes_79 : decode cX9_findComes 79 = .ok (.iaload, 1) := by decide +kernel
theorem dX9_findComes_80 : decode cX9_findComes 80 = .ok (.goto 4, 3) := by decide +kernel
theorem dX9_findComes_83 : decode cX9_findComes 83 = .ok (.iconst 0, 1) := by decide +kernel
theorem dX9_findComes_84 : decode cX9_findComes 84 = .ok (.invokevirtual 152, 3) := by decide +kernel
theorem dX9_findComes_87 : decode cX9_findComes 87 = .ok (.iastore, 1) := by decide +kernel
theorem dX9_findComes_88 : decode cX9_findComes 88 = .ok (.iinc 1 (-1), 3) := by decide +kernel
theorem dX9_findComes_91 : decode cX9_findComes 91 = .ok (.goto (-78), 3) := by decide +kernel
theorem dX9_findComes_94 : decode cX9_findComes 94 = .ok (.return_, 1) := by decide +kernel
theorem dX9_isNode_0 : decode cX9_isNode 0 = .ok (.iload_n 1, 1) := by decide +kernel
theorem dX9_isNode_1 : decode cX9_isNode 1 = .ok (.iconst 0, 1) := by decide +kernel
theorem dX9_isNode_2 : decode cX9_isNode 2 = .ok (.aload_n 0, 1) := by decide +kernel
theorem dX9_isNode_3 : decode cX9_isNode 3 = .ok (.getfield 29, 3) := by decide +kernel
theorem dX9_isNode_6 : decode cX9_isNode 6 = .ok (.iconst 2, 1) := by decide +kernel
theorem dX9_isNode_7 : decode cX9_isNode 7 = .ok (.iaload, 1) := by decide +kernel
theorem dX9_isNode_8 : decode cX9_isNode 8 = .ok (.iconst 1, 1) := by decide +kernel
theorem dX9_isNode_9 : decode cX9_isNode 9 = .ok (.isub, 1) := by decide +kernel
theorem dX9_isNode_10 : decode cX9_isNode 10 = .ok (.invokestatic 88, 3) := by decide +kernel
theorem dX9_isNode_13 : decode cX9_isNode 13 = .ok (.ireturn, 1) := by decide +kernel
theorem dX9_over_0 : decode cX9_over 0 = .ok (.bipush (-9), 2) := by decide +kernel
theorem dX9_over_2 : decode cX9_over 2 = .ok (.istore_n 2, 1) := by decide +kernel
theorem dX9_over_3 : decode cX9_over 3 = .ok (.iconst 0, 1) := by decide +kernel
theorem dX9_over_4 : decode cX9_over 4 = .ok (.istore_n 3, 1) := by decide +kernel
theorem dX9_over_5 : decode cX9_over 5 = .ok (.iload_n 3, 1) := by decide +kernel
theorem dX9_over_6 : decode cX9_over 6 = .ok (.iload_n 1, 1) := by decide +kernel
theorem dX9_over_7 : decode cX9_over 7 = .ok (.if_icmp .ge 55, 3) := by decide +kernel
theorem dX9_over_10 : decode cX9_over 10 = .ok (.aload_n 0, 1) := by decide +kernel
theorem dX9_over_11 : decode cX9_over 11 = .ok (.getfield 29, 3) := by decide +kernel
theorem dX9_over_14 : decode cX9_over 14 = .ok (.iconst 3, 1) := by decide +kernel
theorem dX9_over_15 : decode cX9_over 15 = .ok (.iload_n 3, 1) := by decide +kernel
theorem dX9_over_16 : decode cX9_over 16 = .ok (.iadd, 1) := by decide +kernel
theorem dX9_over_17 : decode cX9_over 17 = .ok (.iaload, 1) := by decide +kernel
theorem dX9_over_18 : decode cX9_over 18 = .ok (.invokestatic 125, 3) := by decide +kernel
theorem dX9_over_21 : decode cX9_over 21 = .ok (.istore 4, 2) := by decide +kernel
theorem dX9_over_23 : decode cX9_over 23 = .ok (.iload 4, 2) := by decide +kernel
theorem dX9_over_25 : decode cX9_over 25 = .ok (.ifCond .le 10, 3) := by decide +kernel
theorem dX9_over_28 : decode cX9_over 28 = .ok (.iload_n 3, 1) := by decide +kernel
theorem dX9_over_29 : decode cX9_over 29 = .ok (.iconst 1, 1) := by decide +kernel
theorem dX9_over_30 : decode cX9_over 30 = .ok (.iadd, 1) := by decide +kernel
theorem dX9_over_31 : decode cX9_over 31 = .ok (.iload_n 1, 1) := by decide +kernel
theorem dX9_over_32 : decode cX9_over 32 = .ok (.if_icmp .eq 18, 3) := by decide +kernel
theorem dX9_over_35 : decode cX9_over 35 = .ok (.iload 4, 2) := by decide +kernel
theorem dX9_over_37 : decode cX9_over 37 = .ok (.iconst 1, 1) := by decide +kernel
theorem dX9_over_38 : decode cX9_over 38 = .ok (.if_icmp .le 16, 3) := by decide +kernel
theorem dX9_over_41 : decode cX9_over 41 = .ok (.aload_n 0, 1) := by decide +kernel
theorem dX9_over_42 : decode cX9_over 42 = .ok (.iload_n 3, 1) := by decide +kernel
theorem dX9_over_43 : decode cX9_over 43 = .ok (.invokevirtual 142, 3) := by decide +kernel
theorem dX9_over_46 : decode cX9_over 46 = .ok (.iload_n 1, 1) := by decide +kernel
theorem dX9_over_47 : decode cX9_over 47 = .ok (.if_icmp .ne 7, 3) := by decide +kernel
theorem dX9_over_50 : decode cX9_over 50 = .ok (.iload_n 3, 1) := by decide +kernel
theorem dX9_over_51 : decode cX9_over 51 = .ok (.goto 4, 3) := by decide +kernel
theorem dX9_over_54 : decode cX9_over 54 = .ok (.iload_n 2, 1) := by decide +kernel
theorem dX9_over_55 : decode cX9_over 55 = .ok (.istore_n 2, 1) := by decide +kernel
theorem dX9_over_56 : decode cX9_over 56 = .ok (.iinc 3 1, 3) := by decide +kernel
theorem dX9_over_59 : decode cX9_over 59 = .ok (.goto (-54), 3) := by decide +kernel
theorem dX9_over_62 : decode cX9_over 62 = .ok (.iload_n 2, 1) := by decide +kernel
theorem dX9_over_63 : decode cX9_over 63 = .ok (.ireturn, 1) := by decide +kernel
theorem dX9_node_0 : decode cX9_node 0 = .ok (.aload_n 0, 1) := by decide +kernel
theorem dX9_node_1 : decode cX9_node 1 = .ok (.iload_n 1, 1) := by decide +kernel
theorem dX9_node_2 : decode cX9_node 2 = .ok (.invokevirtual 156, 3) := by decide +kernel
theorem dX9_node_5 : decode cX9_node 5 = .ok (.ifCond .eq 12, 3) := by decide +kernel
theorem dX9_node_8 : decode cX9_node 8 = .ok (.iload_n 2, 1) := by decide +kernel
theorem dX9_node_9 : decode cX9_node 9 = .ok (.iconst 0, 1) := by decide +kernel
theorem dX9_node_10 : decode cX9_node 10 = .ok (.iconst 3, 1) := by decide +kernel
theorem dX9_node_11 : decode cX9_node 11 = .ok (.invokestatic 88, 3) := by decide +kernel
theorem dX9_node_14 : decode cX9_node 14 = .ok (.ifCond .ne 5, 3) := by decide +kernel
theorem dX9_node_17 : decode cX9_node 17 = .ok (.iconst (-1), 1) := by decide +kernel
theorem dX9_node_18 : decode cX9_node 18 = .ok (.ireturn, 1) := by decide +kernel
theorem dX9_node_19 : decode cX9_node 19 = .ok (.aload_n 0, 1) := by decide +kernel
theorem dX9_node_20 : decode cX9_node 20 = .ok (.invokevirtual 159, 3) := by decide +kernel
theorem dX9_node_23 : decode cX9_node 23 = .ok (.iload_n 2, 1) := by decide +kernel
theorem dX9_node_24 : decode cX9_node 24 = .ok (.ifCond .ne 14, 3) := by decide +kernel
theorem dX9_node_27 : decode cX9_node 27 = .ok (.aload_n 0, 1) := by decide +kernel
theorem dX9_node_28 : decode cX9_node 28 = .ok (.getfield 29, 3) := by decide +kernel
theorem dX9_node_31 : decode cX9_node 31 = .ok (.iconst 3, 1) := by decide +kernel
theorem dX9_node_32 : decode cX9_node 32 = .ok (.iload_n 1, 1) := by decide +kernel
theorem dX9_node_33 : decode cX9_node 33 = .ok (.iadd, 1) := by decide +kernel
theorem dX9_node_34 : decode cX9_node 34 = .ok (.iaload, 1) := by decide +kernel
theorem dX9_node_35 : decode cX9_node 35 = .ok (.goto 36, 3) := by decide +kernel
theorem dX9_node_38 : decode cX9_node 38 = .ok (.iload_n 2, 1) := by decide +kernel
theorem dX9_node_39 : decode cX9_node 39 = .ok (.iconst 1, 1) := by decide +kernel
theorem dX9_node_40 : decode cX9_node 40 = .ok (.if_icmp .ne 12, 3) := by decide +kernel
theorem dX9_node_43 : decode cX9_node 43 = .ok (.aload_n 0, 1) := by decide +kernel
theorem dX9_node_44 : decode cX9_node 44 = .ok (.getfield 39, 3) := by decide +kernel
theorem dX9_node_47 : decode cX9_node 47 = .ok (.iload_n 1, 1) := by decide +kernel
theorem dX9_node_48 : decode cX9_node 48 = .ok (.iaload, 1) := by decide +kernel
theorem dX9_node_49 : decode cX9_node 49 = .ok (.goto 22, 3) := by decide +kernel
theorem dX9_node_52 : decode cX9_node 52 = .ok (.iload_n 2, 1) := by decide +kernel
theorem dX9_node_53 : decode cX9_node 53 = .ok (.iconst 2, 1) := by decide +kernel
theorem dX9_node_54 : decode cX9_node 54 = .ok (.if_icmp .ne 11, 3) := by decide +kernel
theorem dX9_node_57 : decode cX9_node 57 = .ok (.aload_n 0, 1) := by decide +kernel
theorem dX9_node_58 : decode cX9_node 58 = .ok (.iload_n 1, 1) := by decide +kernel
theorem dX9_node_59 : decode cX9_node 59 = .ok (.invokevirtual 162, 3) := by decide +kernel
theorem dX9_node_62 : decode cX9_node 62 = .ok (.goto 9, 3) := by decide +kernel
theorem dX9_node_65 : decode cX9_node 65 = .ok (.aload_n 0, 1) := by decide +kernel
theorem dX9_node_66 : decode cX9_node 66 = .ok (.getfield 42, 3) := by decide +kernel
theorem dX9_node_69 : decode cX9_node 69 = .ok (.iload_n 1, 1) := by decide +kernel
theorem dX9_node_70 : decode cX9_node 70 = .ok (.iaload, 1) := by decide +kernel
theorem dX9_node_71 : decode cX9_node 71 = .ok (.ireturn, 1) := by decide +kernel
theorem dX9_sign_0 : decode cX9_sign 0 = .ok (.aload_n 0, 1) := by decide +kernel
theorem dX9_sign_1 : decode cX9_sign 1 = .ok (.iload_n 1, 1) := by decide +kernel
theorem dX9_sign_2 : decode cX9_sign 2 = .ok (.invokevirtual 156, 3) := by decide +kernel
theorem dX9_sign_5 : decode cX9_sign 5 = .ok (.ifCond .eq 31, 3) := by decide +kernel
theorem dX9_sign_8 : decode cX9_sign 8 = .ok (.iload_n 2, 1) := by decide +kernel
theorem dX9_sign_9 : decode cX9_sign 9 = .ok (.iconst 0, 1) := by decide +kernel
theorem dX9_sign_10 : decode cX9_sign 10 = .ok (.bipush 7, 2) := by decide +kernel
theorem dX9_sign_12 : decode cX9_sign 12 = .ok (.invokestatic 88, 3) := by decide +kernel
theorem dX9_sign_15 : decode cX9_sign 15 = .ok (.ifCond .eq 21, 3) := by decide +kernel
theorem dX9_sign_18 : decode cX9_sign 18 = .ok (.iload_n 2, 1) := by decide +kernel
theorem dX9_sign_19 : decode cX9_sign 19 = .ok (.invokestatic 125, 3) := by decide +kernel
theorem dX9_sign_22 : decode cX9_sign 22 = .ok (.aload_n 0, 1) := by decide +kernel
theorem dX9_sign_23 : decode cX9_sign 23 = .ok (.getfield 29, 3) := by decide +kernel
theorem dX9_sign_26 : decode cX9_sign 26 = .ok (.iconst 3, 1) := by decide +kernel
theorem dX9_sign_27 : decode cX9_sign 27 = .ok (.iload_n 1, 1) := by decide +kernel
theorem dX9_sign_28 : decode cX9_sign 28 = .ok (.iadd, 1) := by decide +kernel
theorem dX9_sign_29 : decode cX9_sign 29 = .ok (.iaload, 1) := by decide +kernel
theorem dX9_sign_30 : decode cX9_sign 30 = .ok (.invokestatic 125, 3) := by decide +kernel
theorem dX9_sign_33 : decode cX9_sign 33 = .ok (.if_icmp .eq 5, 3) := by decide +kernel
theorem dX9_sign_36 : decode cX9_sign 36 = .ok (.iconst (-1), 1) := by decide +kernel
theorem dX9_sign_37 : decode cX9_sign 37 = .ok (.ireturn, 1) := by decide +kernel
theorem dX9_sign_38 : decode cX9_sign 38 = .ok (.aload_n 0, 1) := by decide +kernel
theorem dX9_sign_39 : decode cX9_sign 39 = .ok (.getfield 29, 3) := by decide +kernel
theorem dX9_sign_42 : decode cX9_sign 42 = .ok (.iconst 3, 1) := by decide +kernel
theorem dX9_sign_43 : decode cX9_sign 43 = .ok (.iload_n 1, 1) := by decide +kernel
theorem dX9_sign_44 : decode cX9_sign 44 = .ok (.iadd, 1) := by decide +kernel
theorem dX9_sign_45 : decode cX9_sign 45 = .ok (.iaload, 1) := by decide +kernel
theorem dX9_sign_46 : decode cX9_sign 46 = .ok (.istore_n 3, 1) := by decide +kernel
theorem dX9_sign_47 : decode cX9_sign 47 = .ok (.aload_n 0, 1) := by decide +kernel
theorem dX9_sign_48 : decode cX9_sign 48 = .ok (.getfield 29, 3) := by decide +kernel
theorem dX9_sign_51 : decode cX9_sign 51 = .ok (.iconst 3, 1) := by decide +kernel
theorem dX9_sign_52 : decode cX9_sign 52 = .ok (.iload_n 1, 1) := by decide +kernel
theorem dX9_sign_53 : decode cX9_sign 53 = .ok (.iadd, 1) := by decide +kernel
theorem dX9_sign_54 : decode cX9_sign 54 = .ok (.iload_n 2, 1) := by decide +kernel
theorem dX9_sign_55 : decode cX9_sign 55 = .ok (.iastore, 1) := by decide +kernel
theorem dX9_sign_56 : decode cX9_sign 56 = .ok (.iload_n 3, 1) := by decide +kernel
theorem dX9_sign_57 : decode cX9_sign 57 = .ok (.ireturn, 1) := by decide +kernel
theorem dX9_exchange_0 : decode cX9_exchange 0 = .ok (.aload_n 0, 1) := by decide +kernel
theorem dX9_exchange_1 : decode cX9_exchange 1 = .ok (.iload_n 1, 1) := by decide +kernel
theorem dX9_exchange_2 : decode cX9_exchange 2 = .ok (.invokevirtual 156, 3) := by decide +kernel
theorem dX9_exchange_5 : decode cX9_exchange 5 = .ok (.ifCond .ne 5, 3) := by decide +kernel
theorem dX9_exchange_8 : decode cX9_exchange 8 = .ok (.iconst (-1), 1) := by decide +kernel
theorem dX9_exchange_9 : decode cX9_exchange 9 = .ok (.ireturn, 1) := by decide +kernel
theorem dX9_exchange_10 : decode cX9_exchange 10 = .ok (.aload_n 0, 1) := by decide +kernel
theorem dX9_exchange_11 : decode cX9_exchange 11 = .ok (.getfield 29, 3) := by decide +kernel
theorem dX9_exchange_14 : decode cX9_exchange 14 = .ok (.iconst 3, 1) := by decide +kernel
theorem dX9_exchange_15 : decode cX9_exchange 15 = .ok (.iload_n 1, 1) := by decide +kernel
theorem dX9_exchange_16 : decode cX9_exchange 16 = .ok (.iadd, 1) := by decide +kernel
theorem dX9_exchange_17 : decode cX9_exchange 17 = .ok (.iaload, 1) := by decide +kernel
theorem dX9_exchange_18 : decode cX9_exchange 18 = .ok (.invokestatic 125, 3) := by decide +kernel
theorem dX9_exchange_21 : decode cX9_exchange 21 = .ok (.iconst 2, 1) := by decide +kernel
theorem dX9_exchange_22 : decode cX9_exchange 22 = .ok (.if_icmp .eq 6, 3) := by decide +kernel
theorem dX9_exchange_25 : decode cX9_exchange 25 = .ok (.bipush (-2), 2) := by decide +kernel
theorem dX9_exchange_27 : decode cX9_exchange 27 = .ok (.ireturn, 1) := by decide +kernel
theorem dX9_exchange_28 : decode cX9_exchange 28 = .ok (.aload_n 0, 1) := by decide +kernel
theorem dX9_exchange_29 : decode cX9_exchange 29 = .ok (.invokevirtual 149, 3) := by decide +kernel
theorem dX9_exchange_32 : decode cX9_exchange 32 = .ok (.iload_n 1, 1) := by decide +kernel
theorem dX9_exchange_33 : decode cX9_exchange 33 = .ok (.iconst 1, 1) := by decide +kernel
theorem dX9_exchange_34 : decode cX9_exchange 34 = .ok (.iadd, 1) := by decide +kernel
theorem dX9_exchange_35 : decode cX9_exchange 35 = .ok (.istore_n 2, 1) := by decide +kernel
theorem dX9_exchange_36 : decode cX9_exchange 36 = .ok (.aload_n 0, 1) := by decide +kernel
theorem dX9_exchange_37 : decode cX9_exchange 37 = .ok (.iload_n 1, 1) := by decide +kernel
theorem dX9_exchange_38 : decode cX9_exchange 38 = .ok (.invokevirtual 142, 3) := by decide +kernel
theorem dX9_exchange_41 : decode cX9_exchange 41 = .ok (.istore_n 3, 1) := by decide +kernel
theorem dX9_exchange_42 : decode cX9_exchange 42 = .ok (.iconst 0, 1) := by decide +kernel
theorem dX9_exchange_43 : decode cX9_exchange 43 = .ok (.istore 4, 2) := by decide +kernel
theorem dX9_exchange_45 : decode cX9_exchange 45 = .ok (.iload_n 3, 1) := by decide +kernel
theorem dX9_exchange_46 : decode cX9_exchange 46 = .ok (.istore 5, 2) := by decide +kernel
theorem dX9_exchange_48 : decode cX9_exchange 48 = .ok (.iload 5, 2) := by decide +kernel
theorem dX9_exchange_50 : decode cX9_exchange 50 = .ok (.iload_n 3, 1) := by decide +kernel
theorem dX9_exchange_51 : decode cX9_exchange 51 = .ok (.aload_n 0, 1) := by decide +kernel
theorem dX9_exchange_52 : decode cX9_exchange 52 = .ok (.getfield 39, 3) := by decide +kernel
theorem dX9_exchange_55 : decode cX9_exchange 55 = .ok (.iload_n 3, 1) := by decide +kernel
theorem dX9_exchange_56 : decode cX9_exchange 56 = .ok (.iaload, 1) := by decide +kernel
theorem dX9_exchange_57 : decode cX9_exchange 57 = .ok (.iadd, 1) := by decide +kernel
theorem dX9_exchange_58 : decode cX9_exchange 58 = .ok (.if_icmp .ge 28, 3) := by decide +kernel
theorem dX9_exchange_61 : decode cX9_exchange 61 = .ok (.aload_n 0, 1) := by decide +kernel
theorem dX9_exchange_62 : decode cX9_exchange 62 = .ok (.getfield 36, 3) := by decide +kernel
theorem dX9_exchange_65 : decode cX9_exchange 65 = .ok (.iload 4, 2) := by decide +kernel
theorem dX9_exchange_67 : decode cX9_exchange 67 = .ok (.aload_n 0, 1) := by decide +kernel
theorem dX9_exchange_68 : decode cX9_exchange 68 = .ok (.getfield 29, 3) := by decide +kernel
theorem dX9_exchange_71 : decode cX9_exchange 71 = .ok (.iconst 3, 1) := by decide +kernel
theorem dX9_exchange_72 : decode cX9_exchange 72 = .ok (.iload 5, 2) := by decide +kernel
theorem dX9_exchange_74 : decode cX9_exchange 74 = .ok (.iadd, 1) := by decide +kernel
theorem dX9_exchange_75 : decode cX9_exchange 75 = .ok (.iaload, 1) := by decide +kernel
theorem dX9_exchange_76 : decode cX9_exchange 76 = .ok (.iastore, 1) := by decide +kernel
theorem dX9_exchange_77 : decode cX9_exchange 77 = .ok (.iinc 4 1, 3) := by decide +kernel
theorem dX9_exchange_80 : decode cX9_exchange 80 = .ok (.iinc 5 1, 3) := by decide +kernel
theorem dX9_exchange_83 : decode cX9_exchange 83 = .ok (.goto (-35), 3) := by decide +kernel
theorem dX9_exchange_86 : decode cX9_exchange 86 = .ok (.iload_n 2, 1) := by decide +kernel
theorem dX9_exchange_87 : decode cX9_exchange 87 = .ok (.istore 5, 2) := by decide +kernel
theorem dX9_exchange_89 : decode cX9_exchange 89 = .ok (.iload 5, 2) := by decide +kernel
theorem dX9_exchange_91 : decode cX9_exchange 91 = .ok (.iload_n 3, 1) := by decide +kernel
theorem dX9_exchange_92 : decode cX9_exchange 92 = .ok (.if_icmp .ge 28, 3) := by decide +kernel
theorem dX9_exchange_95 : decode cX9_exchange 95 = .ok (.aload_n 0, 1) := by decide +kernel
theorem dX9_exchange_96 : decode cX9_exchange 96 = .ok (.getfield 36, 3) := by decide +kernel
theorem dX9_exchange_99 : decode cX9_exchange 99 = .ok (.iload 4, 2) := by decide +kernel
theorem dX9_exchange_101 : decode cX9_exchange 101 = .ok (.aload_n 0, 1) := by decide +kernel
theorem dX9_exchange_102 : decode cX9_exchange 102 = .ok (.getfield 29, 3) := by decide +kernel
theorem dX9_exchange_105 : decode cX9_exchange 105 = .ok (.iconst 3, 1) := by decide +kernel
theorem dX9_exchange_106 : decode cX9_exchange 106 = .ok (.iload 5, 2) := by decide +kernel
theorem dX9_exchange_108 : decode cX9_exchange 108 = .ok (.iadd, 1) := by decide +kernel
theorem dX9_exchange_109 : decode cX9_exchange 109 = .ok (.iaload, 1) := by decide +kernel
theorem dX9_exchange_110 : decode cX9_exchange 110 = .ok (.iastore, 1) := by decide +kernel
theorem dX9_exchange_111 : decode cX9_exchange 111 = .ok (.iinc 4 1, 3) := by decide +kernel
theorem dX9_exchange_114 : decode cX9_exchange 114 = .ok (.iinc 5 1, 3) := by decide +kernel
theorem dX9_exchange_117 : decode cX9_exchange 117 = .ok (.goto (-28), 3) := by decide +kernel
theorem dX9_exchange_120 : decode cX9_exchange 120 = .ok (.iconst 0, 1) := by decide +kernel
theorem dX9_exchange_121 : decode cX9_exchange 121 = .ok (.istore 5, 2) := by decide +kernel
theorem dX9_exchange_123 : decode cX9_exchange 123 = .ok (.iload 5, 2) := by decide +kernel
theorem dX9_exchange_125 : decode cX9_exchange 125 = .ok (.iload 4, 2) := by decide +kernel
theorem dX9_exchange_127 : decode cX9_exchange 127 = .ok (.if_icmp .ge 27, 3) := by decide +kernel
theorem dX9_exchange_130 : decode cX9_exchange 130 = .ok (.aload_n 0, 1) := by decide +kernel
theorem dX9_exchange_131 : decode cX9_exchange 131 = .ok (.getfield 29, 3) := by decide +kernel
theorem dX9_exchange_134 : decode cX9_exchange 134 = .ok (.iconst 3, 1) := by decide +kernel
theorem dX9_exchange_135 : decode cX9_exchange 135 = .ok (.iload_n 2, 1) := by decide +kernel
theorem dX9_exchange_136 : decode cX9_exchange 136 = .ok (.iadd, 1) := by decide +kernel
theorem dX9_exchange_137 : decode cX9_exchange 137 = .ok (.iload 5, 2) := by decide +kernel
theorem dX9_exchange_139 : decode cX9_exchange 139 = .ok (.iadd, 1) := by decide +kernel
theorem dX9_exchange_140 : decode cX9_exchange 140 = .ok (.aload_n 0, 1) := by decide +kernel
theorem dX9_exchange_141 : decode cX9_exchange 141 = .ok (.getfield 36, 3) := by decide +kernel
theorem dX9_exchange_144 : decode cX9_exchange 144 = .ok (.iload 5, 2) := by decide +kernel
theorem dX9_exchange_146 : decode cX9_exchange 146 = .ok (.iaload, 1) := by decide +kernel
theorem dX9_exchange_147 : decode cX9_exchange 147 = .ok (.iastore, 1) := by decide +kernel
theorem dX9_exchange_148 : decode cX9_exchange 148 = .ok (.iinc 5 1, 3) := by decide +kernel
theorem dX9_exchange_151 : decode cX9_exchange 151 = .ok (.goto (-28), 3) := by decide +kernel
theorem dX9_exchange_154 : decode cX9_exchange 154 = .ok (.iconst 1, 1) := by decide +kernel
theorem dX9_exchange_155 : decode cX9_exchange 155 = .ok (.ireturn, 1) := by decide +kernel
theorem dX9_isGood_0 : decode cX9_isGood 0 = .ok (.aload_n 0, 1) := by decide +kernel
theorem dX9_isGood_1 : decode cX9_isGood 1 = .ok (.getfield 29, 3) := by decide +kernel
theorem dX9_isGood_4 : decode cX9_isGood 4 = .ok (.iconst 2, 1) := by decide +kernel
theorem dX9_isGood_5 : decode cX9_isGood 5 = .ok (.iaload, 1) := by decide +kernel
theorem dX9_isGood_6 : decode cX9_isGood 6 = .ok (.ifCond .ne 6, 3) := by decide +kernel
theorem dX9_isGood_9 : decode cX9_isGood 9 = .ok (.bipush (-2), 2) := by decide +kernel
theorem dX9_isGood_11 : decode cX9_isGood 11 = .ok (.ireturn, 1) := by decide +kernel
theorem dX9_isGood_12 : decode cX9_isGood 12 = .ok (.aload_n 0, 1) := by decide +kernel
theorem dX9_isGood_13 : decode cX9_isGood 13 = .ok (.invokevirtual 159, 3) := by decide +kernel
theorem dX9_isGood_16 : decode cX9_isGood 16 = .ok (.aload_n 0, 1) := by decide +kernel
theorem dX9_isGood_17 : decode cX9_isGood 17 = .ok (.getfield 42, 3) := by decide +kernel
theorem dX9_isGood_20 : decode cX9_isGood 20 = .ok (.iconst 0, 1) := by decide +kernel
theorem dX9_isGood_21 : decode cX9_isGood 21 = .ok (.iaload, 1) := by decide +kernel
theorem dX9_isGood_22 : decode cX9_isGood 22 = .ok (.aload_n 0, 1) := by decide +kernel
theorem dX9_isGood_23 : decode cX9_isGood 23 = .ok (.getfield 29, 3) := by decide +kernel
theorem dX9_isGood_26 : decode cX9_isGood 26 = .ok (.iconst 1, 1) := by decide +kernel
theorem dX9_isGood_27 : decode cX9_isGood 27 = .ok (.iaload, 1) := by decide +kernel
theorem dX9_isGood_28 : decode cX9_isGood 28 = .ok (.iand, 1) := by decide +kernel
theorem dX9_isGood_29 : decode cX9_isGood 29 = .ok (.ifCond .eq 7, 3) := by decide +kernel
theorem dX9_isGood_32 : decode cX9_isGood 32 = .ok (.iconst 1, 1) := by decide +kernel
theorem dX9_isGood_33 : decode cX9_isGood 33 = .ok (.goto 4, 3) := by decide +kernel
theorem dX9_isGood_36 : decode cX9_isGood 36 = .ok (.iconst 0, 1) := by decide +kernel
theorem dX9_isGood_37 : decode cX9_isGood 37 = .ok (.ireturn, 1) := by decide +kernel
theorem dX9_runs_0 : decode cX9_runs 0 = .ok (.aload_n 0, 1) := by decide +kernel
theorem dX9_runs_1 : decode cX9_runs 1 = .ok (.getfield 29, 3) := by decide +kernel
theorem dX9_runs_4 : decode cX9_runs 4 = .ok (.iconst 2, 1) := by decide +kernel
theorem dX9_runs_5 : decode cX9_runs 5 = .ok (.iaload, 1) := by decide +kernel
theorem dX9_runs_6 : decode cX9_runs 6 = .ok (.ifCond .ne 6, 3) := by decide +kernel
theorem dX9_runs_9 : decode cX9_runs 9 = .ok (.bipush (-2), 2) := by decide +kernel
theorem dX9_runs_11 : decode cX9_runs 11 = .ok (.ireturn, 1) := by decide +kernel
theorem dX9_runs_12 : decode cX9_runs 12 = .ok (.aload_n 0, 1) := by decide +kernel
theorem dX9_runs_13 : decode cX9_runs 13 = .ok (.invokevirtual 149, 3) := by decide +kernel
theorem dX9_runs_16 : decode cX9_runs 16 = .ok (.aload_n 0, 1) := by decide +kernel
theorem dX9_runs_17 : decode cX9_runs 17 = .ok (.getfield 29, 3) := by decide +kernel
theorem dX9_runs_20 : decode cX9_runs 20 = .ok (.iconst 2, 1) := by decide +kernel
theorem dX9_runs_21 : decode cX9_runs 21 = .ok (.iaload, 1) := by decide +kernel
theorem dX9_runs_22 : decode cX9_runs 22 = .ok (.iconst 1, 1) := by decide +kernel
theorem dX9_runs_23 : decode cX9_runs 23 = .ok (.isub, 1) := by decide +kernel
theorem dX9_runs_24 : decode cX9_runs 24 = .ok (.istore_n 1, 1) := by decide +kernel
theorem dX9_runs_25 : decode cX9_runs 25 = .ok (.iload_n 1, 1) := by decide +kernel
theorem dX9_runs_26 : decode cX9_runs 26 = .ok (.ifCond .lt 207, 3) := by decide +kernel
theorem dX9_runs_29 : decode cX9_runs 29 = .ok (.aload_n 0, 1) := by decide +kernel
theorem dX9_runs_30 : decode cX9_runs 30 = .ok (.getfield 29, 3) := by decide +kernel
theorem dX9_runs_33 : decode cX9_runs 33 = .ok (.iconst 3, 1) := by decide +kernel
theorem dX9_runs_34 : decode cX9_runs 34 = .ok (.iload_n 1, 1) := by decide +kernel
theorem dX9_runs_35 : decode cX9_runs 35 = .ok (.iadd, 1) := by decide +kernel
theorem dX9_runs_36 : decode cX9_runs 36 = .ok (.iaload, 1) := by decide +kernel
theorem dX9_runs_37 : decode cX9_runs 37 = .ok (.istore_n 2, 1) := by decide +kernel
theorem dX9_runs_38 : decode cX9_runs 38 = .ok (.iload_n 2, 1) := by decide +kernel
theorem dX9_runs_39 : decode cX9_runs 39 = .ok (.invokestatic 125, 3) := by decide +kernel
theorem dX9_runs_42 : decode cX9_runs 42 = .ok (.istore_n 3, 1) := by decide +kernel
theorem dX9_runs_43 : decode cX9_runs 43 = .ok (.iconst 0, 1) := by decide +kernel
theorem dX9_runs_44 : decode cX9_runs 44 = .ok (.istore 4, 2) := by decide +kernel
theorem dX9_runs_46 : decode cX9_runs 46 = .ok (.iload 4, 2) := by decide +kernel
theorem dX9_runs_48 : decode cX9_runs 48 = .ok (.bipush 6, 2) := by decide +kernel
theorem dX9_runs_50 : decode cX9_runs 50 = .ok (.if_icmp .ge 22, 3) := by decide +kernel
theorem dX9_runs_53 : decode cX9_runs 53 = .ok (.aload_n 0, 1) := by decide +kernel
theorem dX9_runs_54 : decode cX9_runs 54 = .ok (.getfield 45, 3) := by decide +kernel
theorem dX9_runs_57 : decode cX9_runs 57 = .ok (.bipush 6, 2) := by decide +kernel
theorem dX9_runs_59 : decode cX9_runs 59 = .ok (.iload_n 1, 1) := by decide +kernel
theorem dX9_runs_60 : decode cX9_runs 60 = .ok (.imul, 1) := by decide +kernel
theorem dX9_runs_61 : decode cX9_runs 61 = .ok (.iload 4, 2) := by decide +kernel
theorem dX9_runs_63 : decode cX9_runs 63 = .ok (.iadd, 1) := by decide +kernel
theorem dX9_runs_64 : decode cX9_runs 64 = .ok (.lconst 0, 1) := by decide +kernel
theorem dX9_runs_65 : decode cX9_runs 65 = .ok (.lastore, 1) := by decide +kernel
theorem dX9_runs_66 : decode cX9_runs 66 = .ok (.iinc 4 1, 3) := by decide +kernel
theorem dX9_runs_69 : decode cX9_runs 69 = .ok (.goto (-23), 3) := by decide +kernel
theorem dX9_runs_72 : decode cX9_runs 72 = .ok (.iconst 0, 1) := by decide +kernel
theorem dX9_runs_73 : decode cX9_runs 73 = .ok (.istore 4, 2) := by decide +kernel
theorem dX9_runs_75 : decode cX9_runs 75 = .ok (.iload 4, 2) := by decide +kernel
theorem dX9_runs_77 : decode cX9_runs 77 = .ok (.aload_n 0, 1) := by decide +kernel
theorem dX9_runs_78 : decode cX9_runs 78 = .ok (.getfield 13, 3) := by decide +kernel
theorem dX9_runs_81 : decode cX9_runs 81 = .ok (.iconst 0, 1) := by decide +kernel
theorem dX9_runs_82 : decode cX9_runs 82 = .ok (.iaload, 1) := by decide +kernel
theorem dX9_runs_83 : decode cX9_runs 83 = .ok (.if_icmp .ge 144, 3) := by decide +kernel
theorem dX9_runs_86 : decode cX9_runs 86 = .ok (.aload_n 0, 1) := by decide +kernel
theorem dX9_runs_87 : decode cX9_runs 87 = .ok (.getfield 29, 3) := by decide +kernel
theorem dX9_runs_90 : decode cX9_runs 90 = .ok (.iconst 0, 1) := by decide +kernel
theorem dX9_runs_91 : decode cX9_runs 91 = .ok (.iaload, 1) := by decide +kernel
theorem dX9_runs_92 : decode cX9_runs 92 = .ok (.iload 4, 2) := by decide +kernel
theorem dX9_runs_94 : decode cX9_runs 94 = .ok (.invokestatic 145, 3) := by decide +kernel
theorem dX9_runs_97 : decode cX9_runs 97 = .ok (.ifCond .eq 124, 3) := by decide +kernel
theorem dX9_runs_100 : decode cX9_runs 100 = .ok (.aload_n 0, 1) := by decide +kernel
theorem dX9_runs_101 : decode cX9_runs 101 = .ok (.getfield 17, 3) := by decide +kernel
theorem dX9_runs_104 : decode cX9_runs 104 = .ok (.iload 4, 2) := by decide +kernel
theorem dX9_runs_106 : decode cX9_runs 106 = .ok (.iaload, 1) := by decide +kernel
theorem dX9_runs_107 : decode cX9_runs 107 = .ok (.iload_n 2, 1) := by decide +kernel
theorem dX9_runs_108 : decode cX9_runs 108 = .ok (.if_icmp .ne 113, 3) := by decide +kernel
theorem dX9_runs_111 : decode cX9_runs 111 = .ok (.iload_n 3, 1) := by decide +kernel
theorem dX9_runs_112 : decode cX9_runs 112 = .ok (.ifCond .le 25, 3) := by decide +kernel
theorem dX9_runs_115 : decode cX9_runs 115 = .ok (.aload_n 0, 1) := by decide +kernel
theorem dX9_runs_116 : decode cX9_runs 116 = .ok (.getfield 45, 3) := by decide +kernel
theorem dX9_runs_119 : decode cX9_runs 119 = .ok (.bipush 6, 2) := by decide +kernel
theorem dX9_runs_121 : decode cX9_runs 121 = .ok (.iload_n 1, 1) := by decide +kernel
theorem dX9_runs_122 : decode cX9_runs 122 = .ok (.iconst 1, 1) := by decide +kernel
theorem dX9_runs_123 : decode cX9_runs 123 = .ok (.iadd, 1) := by decide +kernel
theorem dX9_runs_124 : decode cX9_runs 124 = .ok (.imul, 1) := by decide +kernel
theorem dX9_runs_125 : decode cX9_runs 125 = .ok (.aload_n 0, 1) := by decide +kernel
theorem dX9_runs_126 : decode cX9_runs 126 = .ok (.getfield 20, 3) := by decide +kernel
theorem dX9_runs_129 : decode cX9_runs 129 = .ok (.iload 4, 2) := by decide +kernel
theorem dX9_runs_131 : decode cX9_runs 131 = .ok (.iaload, 1) := by decide +kernel
theorem dX9_runs_132 : decode cX9_runs 132 = .ok (.iadd, 1) := by decide +kernel
theorem dX9_runs_133 : decode cX9_runs 133 = .ok (.laload, 1) := by decide +kernel
theorem dX9_runs_134 : decode cX9_runs 134 = .ok (.goto 4, 3) := by decide +kernel
theorem dX9_runs_137 : decode cX9_runs 137 = .ok (.lconst 1, 1) := by decide +kernel
theorem dX9_runs_138 : decode cX9_runs 138 = .ok (.lstore 5, 2) := by decide +kernel
theorem dX9_runs_140 : decode cX9_runs 140 = .ok (.iload_n 3, 1) := by decide +kernel
theorem dX9_runs_141 : decode cX9_runs 141 = .ok (.iconst 1, 1) := by decide +kernel
theorem dX9_runs_142 : decode cX9_runs 142 = .ok (.if_icmp .le 34, 3) := by decide +kernel
theorem dX9_runs_145 : decode cX9_runs 145 = .ok (.lload 5, 2) := by decide +kernel
theorem dX9_runs_147 : decode cX9_runs 147 = .ok (.aload_n 0, 1) := by decide +kernel
theorem dX9_runs_148 : decode cX9_runs 148 = .ok (.getfield 45, 3) := by decide +kernel
theorem dX9_runs_151 : decode cX9_runs 151 = .ok (.bipush 6, 2) := by decide +kernel
theorem dX9_runs_153 : decode cX9_runs 153 = .ok (.aload_n 0, 1) := by decide +kernel
theorem dX9_runs_154 : decode cX9_runs 154 = .ok (.iload_n 1, 1) := by decide +kernel
theorem dX9_runs_155 : decode cX9_runs 155 = .ok (.invokevirtual 142, 3) := by decide +kernel
theorem dX9_runs_158 : decode cX9_runs 158 = .ok (.imul, 1) := by decide +kernel
theorem dX9_runs_159 : decode cX9_runs 159 = .ok (.aload_n 0, 1) := by decide +kernel
theorem dX9_runs_160 : decode cX9_runs 160 = .ok (.getfield 23, 3) := by decide +kernel
theorem dX9_runs_163 : decode cX9_runs 163 = .ok (.iload 4, 2) := by decide +kernel
theorem dX9_runs_165 : decode cX9_runs 165 = .ok (.iaload, 1) := by decide +kernel
theorem dX9_runs_166 : decode cX9_runs 166 = .ok (.iadd, 1) := by decide +kernel
theorem dX9_runs_167 : decode cX9_runs 167 = .ok (.laload, 1) := by decide +kernel
theorem dX9_runs_168 : decode cX9_runs 168 = .ok (.lmul, 1) := by decide +kernel
theorem dX9_runs_169 : decode cX9_runs 169 = .ok (.ldc2_w 165, 3) := by decide +kernel
theorem dX9_runs_172 : decode cX9_runs 172 = .ok (.lrem, 1) := by decide +kernel
theorem dX9_runs_173 : decode cX9_runs 173 = .ok (.goto 5, 3) := by decide +kernel
theorem dX9_runs_176 : decode cX9_runs 176 = .ok (.lload 5, 2) := by decide +kernel
theorem dX9_runs_178 : decode cX9_runs 178 = .ok (.lstore 5, 2) := by decide +kernel
theorem dX9_runs_180 : decode cX9_runs 180 = .ok (.aload_n 0, 1) := by decide +kernel
theorem dX9_runs_181 : decode cX9_runs 181 = .ok (.getfield 45, 3) := by decide +kernel
theorem dX9_runs_184 : decode cX9_runs 184 = .ok (.bipush 6, 2) := by decide +kernel
theorem dX9_runs_186 : decode cX9_runs 186 = .ok (.iload_n 1, 1) := by decide +kernel
theorem dX9_runs_187 : decode cX9_runs 187 = .ok (.imul, 1) := by decide +kernel
theorem dX9_runs_188 : decode cX9_runs 188 = .ok (.aload_n 0, 1) := by decide +kernel
theorem dX9_runs_189 : decode cX9_runs 189 = .ok (.getfield 26, 3) := by decide +kernel
theorem dX9_runs_192 : decode cX9_runs 192 = .ok (.iload 4, 2) := by decide +kernel
theorem dX9_runs_194 : decode cX9_runs 194 = .ok (.iaload, 1) := by decide +kernel
theorem dX9_runs_195 : decode cX9_runs 195 = .ok (.iadd, 1) := by decide +kernel
theorem dX9_runs_196 : decode cX9_runs 196 = .ok (.aload_n 0, 1) := by decide +kernel
theorem dX9_runs_197 : decode cX9_runs 197 = .ok (.getfield 45, 3) := by decide +kernel
theorem dX9_runs_200 : decode cX9_runs 200 = .ok (.bipush 6, 2) := by decide +kernel
theorem dX9_runs_202 : decode cX9_runs 202 = .ok (.iload_n 1, 1) := by decide +kernel
theorem dX9_runs_203 : decode cX9_runs 203 = .ok (.imul, 1) := by decide +kernel
theorem dX9_runs_204 : decode cX9_runs 204 = .ok (.aload_n 0, 1) := by decide +kernel
theorem dX9_runs_205 : decode cX9_runs 205 = .ok (.getfield 26, 3) := by decide +kernel
theorem dX9_runs_208 : decode cX9_runs 208 = .ok (.iload 4, 2) := by decide +kernel
theorem dX9_runs_210 : decode cX9_runs 210 = .ok (.iaload, 1) := by decide +kernel
theorem dX9_runs_211 : decode cX9_runs 211 = .ok (.iadd, 1) := by decide +kernel
theorem dX9_runs_212 : decode cX9_runs 212 = .ok (.laload, 1) := by decide +kernel
theorem dX9_runs_213 : decode cX9_runs 213 = .ok (.lload 5, 2) := by decide +kernel
theorem dX9_runs_215 : decode cX9_runs 215 = .ok (.ladd, 1) := by decide +kernel
theorem dX9_runs_216 : decode cX9_runs 216 = .ok (.ldc2_w 165, 3) := by decide +kernel
theorem dX9_runs_219 : decode cX9_runs 219 = .ok (.lrem, 1) := by decide +kernel
theorem dX9_runs_220 : decode cX9_runs 220 = .ok (.lastore, 1) := by decide +kernel
theorem dX9_runs_221 : decode cX9_runs 221 = .ok (.iinc 4 1, 3) := by decide +kernel
theorem dX9_runs_224 : decode cX9_runs 224 = .ok (.goto (-149), 3) := by decide +kernel
theorem dX9_runs_227 : decode cX9_runs 227 = .ok (.iinc 1 (-1), 3) := by decide +kernel
theorem dX9_runs_230 : decode cX9_runs 230 = .ok (.goto (-205), 3) := by decide +kernel
theorem dX9_runs_233 : decode cX9_runs 233 = .ok (.lconst 0, 1) := by decide +kernel
theorem dX9_runs_234 : decode cX9_runs 234 = .ok (.lstore_n 1, 1) := by decide +kernel
theorem dX9_runs_235 : decode cX9_runs 235 = .ok (.iconst 0, 1) := by decide +kernel
theorem dX9_runs_236 : decode cX9_runs 236 = .ok (.istore_n 3, 1) := by decide +kernel
theorem dX9_runs_237 : decode cX9_runs 237 = .ok (.iload_n 3, 1) := by decide +kernel
theorem dX9_runs_238 : decode cX9_runs 238 = .ok (.bipush 6, 2) := by decide +kernel
theorem dX9_runs_240 : decode cX9_runs 240 = .ok (.if_icmp .ge 35, 3) := by decide +kernel
theorem dX9_runs_243 : decode cX9_runs 243 = .ok (.lload_n 1, 1) := by decide +kernel
theorem dX9_runs_244 : decode cX9_runs 244 = .ok (.aload_n 0, 1) := by decide +kernel
theorem dX9_runs_245 : decode cX9_runs 245 = .ok (.getfield 29, 3) := by decide +kernel
theorem dX9_runs_248 : decode cX9_runs 248 = .ok (.iconst 1, 1) := by decide +kernel
theorem dX9_runs_249 : decode cX9_runs 249 = .ok (.iaload, 1) := by decide +kernel
theorem dX9_runs_250 : decode cX9_runs 250 = .ok (.iload_n 3, 1) := by decide +kernel
theorem dX9_runs_251 : decode cX9_runs 251 = .ok (.invokestatic 145, 3) := by decide +kernel
theorem dX9_runs_254 : decode cX9_runs 254 = .ok (.ifCond .eq 12, 3) := by decide +kernel
theorem dX9_runs_257 : decode cX9_runs 257 = .ok (.aload_n 0, 1) := by decide +kernel
theorem dX9_runs_258 : decode cX9_runs 258 = .ok (.getfield 45, 3) := by decide +kernel
theorem dX9_runs_261 : decode cX9_runs 261 = .ok (.iload_n 3, 1) := by decide +kernel
theorem dX9_runs_262 : decode cX9_runs 262 = .ok (.laload, 1) := by decide +kernel
theorem dX9_runs_263 : decode cX9_runs 263 = .ok (.goto 4, 3) := by decide +kernel
theorem dX9_runs_266 : decode cX9_runs 266 = .ok (.lconst 0, 1) := by decide +kernel
theorem dX9_runs_267 : decode cX9_runs 267 = .ok (.ladd, 1) := by decide +kernel
theorem dX9_runs_268 : decode cX9_runs 268 = .ok (.lstore_n 1, 1) := by decide +kernel
theorem dX9_runs_269 : decode cX9_runs 269 = .ok (.iinc 3 1, 3) := by decide +kernel
theorem dX9_runs_272 : decode cX9_runs 272 = .ok (.goto (-35), 3) := by decide +kernel
theorem dX9_runs_275 : decode cX9_runs 275 = .ok (.lload_n 1, 1) := by decide +kernel
theorem dX9_runs_276 : decode cX9_runs 276 = .ok (.ldc2_w 165, 3) := by decide +kernel
theorem dX9_runs_279 : decode cX9_runs 279 = .ok (.lrem, 1) := by decide +kernel
theorem dX9_runs_280 : decode cX9_runs 280 = .ok (.l2i, 1) := by decide +kernel
theorem dX9_runs_281 : decode cX9_runs 281 = .ok (.ireturn, 1) := by decide +kernel
theorem dX9_places_0 : decode cX9_places 0 = .ok (.iload_n 1, 1) := by decide +kernel
theorem dX9_places_1 : decode cX9_places 1 = .ok (.iconst 0, 1) := by decide +kernel
theorem dX9_places_2 : decode cX9_places 2 = .ok (.iconst 5, 1) := by decide +kernel
theorem dX9_places_3 : decode cX9_places 3 = .ok (.invokestatic 88, 3) := by decide +kernel
theorem dX9_places_6 : decode cX9_places 6 = .ok (.ifCond .ne 5, 3) := by decide +kernel
theorem dX9_places_9 : decode cX9_places 9 = .ok (.iconst (-1), 1) := by decide +kernel
theorem dX9_places_10 : decode cX9_places 10 = .ok (.ireturn, 1) := by decide +kernel
theorem dX9_places_11 : decode cX9_places 11 = .ok (.aload_n 0, 1) := by decide +kernel
theorem dX9_places_12 : decode cX9_places 12 = .ok (.invokevirtual 159, 3) := by decide +kernel
theorem dX9_places_15 : decode cX9_places 15 = .ok (.iconst 0, 1) := by decide +kernel
theorem dX9_places_16 : decode cX9_places 16 = .ok (.istore_n 2, 1) := by decide +kernel
theorem dX9_places_17 : decode cX9_places 17 = .ok (.iconst 0, 1) := by decide +kernel
theorem dX9_places_18 : decode cX9_places 18 = .ok (.istore_n 3, 1) := by decide +kernel
theorem dX9_places_19 : decode cX9_places 19 = .ok (.iload_n 3, 1) := by decide +kernel
theorem dX9_places_20 : decode cX9_places 20 = .ok (.aload_n 0, 1) := by decide +kernel
theorem dX9_places_21 : decode cX9_places 21 = .ok (.getfield 29, 3) := by decide +kernel
theorem dX9_places_24 : decode cX9_places 24 = .ok (.iconst 2, 1) := by decide +kernel
theorem dX9_places_25 : decode cX9_places 25 = .ok (.iaload, 1) := by decide +kernel
theorem dX9_places_26 : decode cX9_places 26 = .ok (.if_icmp .ge 32, 3) := by decide +kernel
theorem dX9_places_29 : decode cX9_places 29 = .ok (.iload_n 2, 1) := by decide +kernel
theorem dX9_places_30 : decode cX9_places 30 = .ok (.aload_n 0, 1) := by decide +kernel
theorem dX9_places_31 : decode cX9_places 31 = .ok (.getfield 42, 3) := by decide +kernel
theorem dX9_places_34 : decode cX9_places 34 = .ok (.iload_n 3, 1) := by decide +kernel
theorem dX9_places_35 : decode cX9_places 35 = .ok (.iaload, 1) := by decide +kernel
theorem dX9_places_36 : decode cX9_places 36 = .ok (.iload_n 1, 1) := by decide +kernel
theorem dX9_places_37 : decode cX9_places 37 = .ok (.invokestatic 145, 3) := by decide +kernel
theorem dX9_places_40 : decode cX9_places 40 = .ok (.ifCond .eq 9, 3) := by decide +kernel
theorem dX9_places_43 : decode cX9_places 43 = .ok (.iconst 1, 1) := by decide +kernel
theorem dX9_places_44 : decode cX9_places 44 = .ok (.iload_n 3, 1) := by decide +kernel
theorem dX9_places_45 : decode cX9_places 45 = .ok (.ishl, 1) := by decide +kernel
theorem dX9_places_46 : decode cX9_places 46 = .ok (.goto 4, 3) := by decide +kernel
theorem dX9_places_49 : decode cX9_places 49 = .ok (.iconst 0, 1) := by decide +kernel
theorem dX9_places_50 : decode cX9_places 50 = .ok (.ior, 1) := by decide +kernel
theorem dX9_places_51 : decode cX9_places 51 = .ok (.istore_n 2, 1) := by decide +kernel
theorem dX9_places_52 : decode cX9_places 52 = .ok (.iinc 3 1, 3) := by decide +kernel
theorem dX9_places_55 : decode cX9_places 55 = .ok (.goto (-36), 3) := by decide +kernel
theorem dX9_places_58 : decode cX9_places 58 = .ok (.iload_n 2, 1) := by decide +kernel
theorem dX9_places_59 : decode cX9_places 59 = .ok (.ireturn, 1) := by decide +kernel
theorem dX9_costAll_0 : decode cX9_costAll 0 = .ok (.aload_n 0, 1) := by decide +kernel
theorem dX9_costAll_1 : decode cX9_costAll 1 = .ok (.getfield 29, 3) := by decide +kernel
theorem dX9_costAll_4 : decode cX9_costAll 4 = .ok (.iconst 2, 1) := by decide +kernel
theorem dX9_costAll_5 : decode cX9_costAll 5 = .ok (.iaload, 1) := by decide +kernel
theorem dX9_costAll_6 : decode cX9_costAll 6 = .ok (.iconst 1, 1) := by decide +kernel
theorem dX9_costAll_7 : decode cX9_costAll 7 = .ok (.isub, 1) := by decide +kernel
theorem dX9_costAll_8 : decode cX9_costAll 8 = .ok (.istore_n 1, 1) := by decide +kernel
theorem dX9_costAll_9 : decode cX9_costAll 9 = .ok (.iload_n 1, 1) := by decide +kernel
theorem dX9_costAll_10 : decode cX9_costAll 10 = .ok (.ifCond .lt 264, 3) := by decide +kernel
theorem dX9_costAll_13 : decode cX9_costAll 13 = .ok (.aload_n 0, 1) := by decide +kernel
theorem dX9_costAll_14 : decode cX9_costAll 14 = .ok (.getfield 29, 3) := by decide +kernel
theorem dX9_costAll_17 : decode cX9_costAll 17 = .ok (.iconst 3, 1) := by decide +kernel
theorem dX9_costAll_18 : decode cX9_costAll 18 = .ok (.iload_n 1, 1) := by decide +kernel
theorem dX9_costAll_19 : decode cX9_costAll 19 = .ok (.iadd, 1) := by decide +kernel
theorem dX9_costAll_20 : decode cX9_costAll 20 = .ok (.iaload, 1) := by decide +kernel
theorem dX9_costAll_21 : decode cX9_costAll 21 = .ok (.invokestatic 125, 3) := by decide +kernel
theorem dX9_costAll_24 : decode cX9_costAll 24 = .ok (.istore_n 2, 1) := by decide +kernel
theorem dX9_costAll_25 : decode cX9_costAll 25 = .ok (.iconst 0, 1) := by decide +kernel
theorem dX9_costAll_26 : decode cX9_costAll 26 = .ok (.istore_n 3, 1) := by decide +kernel
theorem dX9_costAll_27 : decode cX9_costAll 27 = .ok (.iload_n 3, 1) := by decide +kernel
theorem dX9_costAll_28 : decode cX9_costAll 28 = .ok (.bipush 6, 2) := by decide +kernel
theorem dX9_costAll_30 : decode cX9_costAll 30 = .ok (.if_icmp .ge 23, 3) := by decide +kernel
theorem dX9_costAll_33 : decode cX9_costAll 33 = .ok (.aload_n 0, 1) := by decide +kernel
theorem dX9_costAll_34 : decode cX9_costAll 34 = .ok (.getfield 49, 3) := by decide +kernel
theorem dX9_costAll_37 : decode cX9_costAll 37 = .ok (.bipush 6, 2) := by decide +kernel
theorem dX9_costAll_39 : decode cX9_costAll 39 = .ok (.iload_n 1, 1) := by decide +kernel
theorem dX9_costAll_40 : decode cX9_costAll 40 = .ok (.imul, 1) := by decide +kernel
theorem dX9_costAll_41 : decode cX9_costAll 41 = .ok (.iload_n 3, 1) := by decide +kernel
theorem dX9_costAll_42 : decode cX9_costAll 42 = .ok (.iadd, 1) := by decide +kernel
theorem dX9_costAll_43 : decode cX9_costAll 43 = .ok (.sipush 999, 3) := by decide +kernel
theorem dX9_costAll_46 : decode cX9_costAll 46 = .ok (.iastore, 1) := by decide +kernel
theorem dX9_costAll_47 : decode cX9_costAll 47 = .ok (.iinc 3 1, 3) := by decide +kernel
theorem dX9_costAll_50 : decode cX9_costAll 50 = .ok (.goto (-23), 3) := by decide +kernel
theorem dX9_costAll_53 : decode cX9_costAll 53 = .ok (.iconst 0, 1) := by decide +kernel
theorem dX9_costAll_54 : decode cX9_costAll 54 = .ok (.istore_n 3, 1) := by decide +kernel
theorem dX9_costAll_55 : decode cX9_costAll 55 = .ok (.iload_n 3, 1) := by decide +kernel
theorem dX9_costAll_56 : decode cX9_costAll 56 = .ok (.aload_n 0, 1) := by decide +kernel
theorem dX9_costAll_57 : decode cX9_costAll 57 = .ok (.getfield 13, 3) := by decide +kernel
theorem dX9_costAll_60 : decode cX9_costAll 60 = .ok (.iconst 0, 1) := by decide +kernel
theorem dX9_costAll_61 : decode cX9_costAll 61 = .ok (.iaload, 1) := by decide +kernel
theorem dX9_costAll_62 : decode cX9_costAll 62 = .ok (.if_icmp .ge 206, 3) := by decide +kernel
theorem dX9_costAll_65 : decode cX9_costAll 65 = .ok (.aload_n 0, 1) := by decide +kernel
theorem dX9_costAll_66 : decode cX9_costAll 66 = .ok (.getfield 29, 3) := by decide +kernel
theorem dX9_costAll_69 : decode cX9_costAll 69 = .ok (.iconst 0, 1) := by decide +kernel
theorem dX9_costAll_70 : decode cX9_costAll 70 = .ok (.iaload, 1) := by decide +kernel
theorem dX9_costAll_71 : decode cX9_costAll 71 = .ok (.iload_n 3, 1) := by decide +kernel
theorem dX9_costAll_72 : decode cX9_costAll 72 = .ok (.invokestatic 145, 3) := by decide +kernel
theorem dX9_costAll_75 : decode cX9_costAll 75 = .ok (.ifCond .eq 46, 3) := by decide +kernel
theorem dX9_costAll_78 : decode cX9_costAll 78 = .ok (.aload_n 0, 1) := by decide +kernel
theorem dX9_costAll_79 : decode cX9_costAll 79 = .ok (.getfield 17, 3) := by decide +kernel
theorem dX9_costAll_82 : decode cX9_costAll 82 = .ok (.iload_n 3, 1) := by decide +kernel
theorem dX9_costAll_83 : decode cX9_costAll 83 = .ok (.iaload, 1) := by decide +kernel
theorem dX9_costAll_84 : decode cX9_costAll 84 = .ok (.invokestatic 125, 3) := by decide +kernel
theorem dX9_costAll_87 : decode cX9_costAll 87 = .ok (.iload_n 2, 1) := by decide +kernel
theorem dX9_costAll_88 : decode cX9_costAll 88 = .ok (.if_icmp .ne 33, 3) := by decide +kernel
theorem dX9_costAll_91 : decode cX9_costAll 91 = .ok (.aload_n 0, 1) := by decide +kernel
theorem dX9_costAll_92 : decode cX9_costAll 92 = .ok (.getfield 52, 3) := by decide +kernel
theorem dX9_costAll_95 : decode cX9_costAll 95 = .ok (.iload_n 1, 1) := by decide +kernel
theorem dX9_costAll_96 : decode cX9_costAll 96 = .ok (.iaload, 1) := by decide +kernel
theorem dX9_costAll_97 : decode cX9_costAll 97 = .ok (.bipush (-9), 2) := by decide +kernel
theorem dX9_costAll_99 : decode cX9_costAll 99 = .ok (.if_icmp .eq 18, 3) := by decide +kernel
theorem dX9_costAll_102 : decode cX9_costAll 102 = .ok (.aload_n 0, 1) := by decide +kernel
theorem dX9_costAll_103 : decode cX9_costAll 103 = .ok (.getfield 52, 3) := by decide +kernel
theorem dX9_costAll_106 : decode cX9_costAll 106 = .ok (.iload_n 1, 1) := by decide +kernel
theorem dX9_costAll_107 : decode cX9_costAll 107 = .ok (.iaload, 1) := by decide +kernel
theorem dX9_costAll_108 : decode cX9_costAll 108 = .ok (.aload_n 0, 1) := by decide +kernel
theorem dX9_costAll_109 : decode cX9_costAll 109 = .ok (.getfield 17, 3) := by decide +kernel
theorem dX9_costAll_112 : decode cX9_costAll 112 = .ok (.iload_n 3, 1) := by decide +kernel
theorem dX9_costAll_113 : decode cX9_costAll 113 = .ok (.iaload, 1) := by decide +kernel
theorem dX9_costAll_114 : decode cX9_costAll 114 = .ok (.if_icmp .ne 7, 3) := by decide +kernel
theorem dX9_costAll_117 : decode cX9_costAll 117 = .ok (.iconst 1, 1) := by decide +kernel
theorem dX9_costAll_118 : decode cX9_costAll 118 = .ok (.goto 4, 3) := by decide +kernel
theorem dX9_costAll_121 : decode cX9_costAll 121 = .ok (.iconst 0, 1) := by decide +kernel
theorem dX9_costAll_122 : decode cX9_costAll 122 = .ok (.istore 4, 2) := by decide +kernel
theorem dX9_costAll_124 : decode cX9_costAll 124 = .ok (.iload 4, 2) := by decide +kernel
theorem dX9_costAll_126 : decode cX9_costAll 126 = .ok (.ifCond .eq 136, 3) := by decide +kernel
theorem dX9_costAll_129 : decode cX9_costAll 129 = .ok (.aload_n 0, 1) := by decide +kernel
theorem dX9_costAll_130 : decode cX9_costAll 130 = .ok (.getfield 17, 3) := by decide +kernel
theorem dX9_costAll_133 : decode cX9_costAll 133 = .ok (.iload_n 3, 1) := by decide +kernel
theorem dX9_costAll_134 : decode cX9_costAll 134 = .ok (.iaload, 1) := by decide +kernel
theorem dX9_costAll_135 : decode cX9_costAll 135 = .ok (.aload_n 0, 1) := by decide +kernel
theorem dX9_costAll_136 : decode cX9_costAll 136 = .ok (.getfield 29, 3) := by decide +kernel
theorem dX9_costAll_139 : decode cX9_costAll 139 = .ok (.iconst 3, 1) := by decide +kernel
theorem dX9_costAll_140 : decode cX9_costAll 140 = .ok (.iload_n 1, 1) := by decide +kernel
end
section
theorem dX9_costAll_141 : decode cX9_costAll 141 = .ok (.iadd, 1) := by decide +kernel
theorem dX9_costAll_142 : decode cX9_costAll 142 = .ok (.iaload, 1) := by decide +kernel
theorem dX9_costAll_143 : decode cX9_costAll 143 = .ok (.if_icmp .ne 7, 3) := by decide +kernel
theorem dX9_costAll_146 : decode cX9_costAll 146 = .ok (.iconst 0, 1) := by decide +kernel
theorem dX9_costAll_147 : decode cX9_costAll 147 = .ok (.goto 4, 3) := by decide +kernel
theorem dX9_costAll_150 : decode cX9_costAll 150 = .ok (.iconst 1, 1) := by decide +kernel
theorem dX9_costAll_151 : decode cX9_costAll 151 = .ok (.istore 5, 2) := by decide +kernel
theorem dX9_costAll_153 : decode cX9_costAll 153 = .ok (.iload 5, 2) := by decide +kernel
theorem dX9_costAll_155 : decode cX9_costAll 155 = .ok (.iload_n 2, 1) := by decide +kernel
theorem dX9_costAll_156 : decode cX9_costAll 156 = .ok (.ifCond .le 24, 3) := by decide +kernel
theorem dX9_costAll_159 : decode cX9_costAll 159 = .ok (.aload_n 0, 1) := by decide +kernel
theorem dX9_costAll_160 : decode cX9_costAll 160 = .ok (.getfield 49, 3) := by decide +kernel
theorem dX9_costAll_163 : decode cX9_costAll 163 = .ok (.bipush 6, 2) := by decide +kernel
theorem dX9_costAll_165 : decode cX9_costAll 165 = .ok (.iload_n 1, 1) := by decide +kernel
theorem dX9_costAll_166 : decode cX9_costAll 166 = .ok (.iconst 1, 1) := by decide +kernel
theorem dX9_costAll_167 : decode cX9_costAll 167 = .ok (.iadd, 1) := by decide +kernel
theorem dX9_costAll_168 : decode cX9_costAll 168 = .ok (.imul, 1) := by decide +kernel
theorem dX9_costAll_169 : decode cX9_costAll 169 = .ok (.aload_n 0, 1) := by decide +kernel
theorem dX9_costAll_170 : decode cX9_costAll 170 = .ok (.getfield 20, 3) := by decide +kernel
theorem dX9_costAll_173 : decode cX9_costAll 173 = .ok (.iload_n 3, 1) := by decide +kernel
theorem dX9_costAll_174 : decode cX9_costAll 174 = .ok (.iaload, 1) := by decide +kernel
theorem dX9_costAll_175 : decode cX9_costAll 175 = .ok (.iadd, 1) := by decide +kernel
theorem dX9_costAll_176 : decode cX9_costAll 176 = .ok (.iaload, 1) := by decide +kernel
theorem dX9_costAll_177 : decode cX9_costAll 177 = .ok (.goto 4, 3) := by decide +kernel
theorem dX9_costAll_180 : decode cX9_costAll 180 = .ok (.iconst 0, 1) := by decide +kernel
theorem dX9_costAll_181 : decode cX9_costAll 181 = .ok (.iadd, 1) := by decide +kernel
theorem dX9_costAll_182 : decode cX9_costAll 182 = .ok (.istore 5, 2) := by decide +kernel
theorem dX9_costAll_184 : decode cX9_costAll 184 = .ok (.iload 5, 2) := by decide +kernel
theorem dX9_costAll_186 : decode cX9_costAll 186 = .ok (.iload_n 2, 1) := by decide +kernel
theorem dX9_costAll_187 : decode cX9_costAll 187 = .ok (.iconst 1, 1) := by decide +kernel
theorem dX9_costAll_188 : decode cX9_costAll 188 = .ok (.if_icmp .le 26, 3) := by decide +kernel
theorem dX9_costAll_191 : decode cX9_costAll 191 = .ok (.aload_n 0, 1) := by decide +kernel
theorem dX9_costAll_192 : decode cX9_costAll 192 = .ok (.getfield 49, 3) := by decide +kernel
theorem dX9_costAll_195 : decode cX9_costAll 195 = .ok (.bipush 6, 2) := by decide +kernel
theorem dX9_costAll_197 : decode cX9_costAll 197 = .ok (.aload_n 0, 1) := by decide +kernel
theorem dX9_costAll_198 : decode cX9_costAll 198 = .ok (.iload_n 1, 1) := by decide +kernel
theorem dX9_costAll_199 : decode cX9_costAll 199 = .ok (.invokevirtual 142, 3) := by decide +kernel
theorem dX9_costAll_202 : decode cX9_costAll 202 = .ok (.imul, 1) := by decide +kernel
theorem dX9_costAll_203 : decode cX9_costAll 203 = .ok (.aload_n 0, 1) := by decide +kernel
theorem dX9_costAll_204 : decode cX9_costAll 204 = .ok (.getfield 23, 3) := by decide +kernel
theorem dX9_costAll_207 : decode cX9_costAll 207 = .ok (.iload_n 3, 1) := by decide +kernel
theorem dX9_costAll_208 : decode cX9_costAll 208 = .ok (.iaload, 1) := by decide +kernel
theorem dX9_costAll_209 : decode cX9_costAll 209 = .ok (.iadd, 1) := by decide +kernel
theorem dX9_costAll_210 : decode cX9_costAll 210 = .ok (.iaload, 1) := by decide +kernel
theorem dX9_costAll_211 : decode cX9_costAll 211 = .ok (.goto 4, 3) := by decide +kernel
theorem dX9_costAll_214 : decode cX9_costAll 214 = .ok (.iconst 0, 1) := by decide +kernel
theorem dX9_costAll_215 : decode cX9_costAll 215 = .ok (.iadd, 1) := by decide +kernel
theorem dX9_costAll_216 : decode cX9_costAll 216 = .ok (.istore 5, 2) := by decide +kernel
theorem dX9_costAll_218 : decode cX9_costAll 218 = .ok (.bipush 6, 2) := by decide +kernel
theorem dX9_costAll_220 : decode cX9_costAll 220 = .ok (.iload_n 1, 1) := by decide +kernel
theorem dX9_costAll_221 : decode cX9_costAll 221 = .ok (.imul, 1) := by decide +kernel
theorem dX9_costAll_222 : decode cX9_costAll 222 = .ok (.aload_n 0, 1) := by decide +kernel
theorem dX9_costAll_223 : decode cX9_costAll 223 = .ok (.getfield 26, 3) := by decide +kernel
theorem dX9_costAll_226 : decode cX9_costAll 226 = .ok (.iload_n 3, 1) := by decide +kernel
theorem dX9_costAll_227 : decode cX9_costAll 227 = .ok (.iaload, 1) := by decide +kernel
theorem dX9_costAll_228 : decode cX9_costAll 228 = .ok (.iadd, 1) := by decide +kernel
theorem dX9_costAll_229 : decode cX9_costAll 229 = .ok (.istore 6, 2) := by decide +kernel
theorem dX9_costAll_231 : decode cX9_costAll 231 = .ok (.aload_n 0, 1) := by decide +kernel
theorem dX9_costAll_232 : decode cX9_costAll 232 = .ok (.getfield 49, 3) := by decide +kernel
theorem dX9_costAll_235 : decode cX9_costAll 235 = .ok (.iload 6, 2) := by decide +kernel
theorem dX9_costAll_237 : decode cX9_costAll 237 = .ok (.iload 5, 2) := by decide +kernel
theorem dX9_costAll_239 : decode cX9_costAll 239 = .ok (.aload_n 0, 1) := by decide +kernel
theorem dX9_costAll_240 : decode cX9_costAll 240 = .ok (.getfield 49, 3) := by decide +kernel
theorem dX9_costAll_243 : decode cX9_costAll 243 = .ok (.iload 6, 2) := by decide +kernel
theorem dX9_costAll_245 : decode cX9_costAll 245 = .ok (.iaload, 1) := by decide +kernel
theorem dX9_costAll_246 : decode cX9_costAll 246 = .ok (.if_icmp .ge 8, 3) := by decide +kernel
theorem dX9_costAll_249 : decode cX9_costAll 249 = .ok (.iload 5, 2) := by decide +kernel
theorem dX9_costAll_251 : decode cX9_costAll 251 = .ok (.goto 10, 3) := by decide +kernel
theorem dX9_costAll_254 : decode cX9_costAll 254 = .ok (.aload_n 0, 1) := by decide +kernel
theorem dX9_costAll_255 : decode cX9_costAll 255 = .ok (.getfield 49, 3) := by decide +kernel
theorem dX9_costAll_258 : decode cX9_costAll 258 = .ok (.iload 6, 2) := by decide +kernel
theorem dX9_costAll_260 : decode cX9_costAll 260 = .ok (.iaload, 1) := by decide +kernel
theorem dX9_costAll_261 : decode cX9_costAll 261 = .ok (.iastore, 1) := by decide +kernel
theorem dX9_costAll_262 : decode cX9_costAll 262 = .ok (.iinc 3 1, 3) := by decide +kernel
theorem dX9_costAll_265 : decode cX9_costAll 265 = .ok (.goto (-210), 3) := by decide +kernel
theorem dX9_costAll_268 : decode cX9_costAll 268 = .ok (.iinc 1 (-1), 3) := by decide +kernel
theorem dX9_costAll_271 : decode cX9_costAll 271 = .ok (.goto (-262), 3) := by decide +kernel
theorem dX9_costAll_274 : decode cX9_costAll 274 = .ok (.sipush 999, 3) := by decide +kernel
theorem dX9_costAll_277 : decode cX9_costAll 277 = .ok (.istore_n 1, 1) := by decide +kernel
theorem dX9_costAll_278 : decode cX9_costAll 278 = .ok (.iconst 0, 1) := by decide +kernel
theorem dX9_costAll_279 : decode cX9_costAll 279 = .ok (.istore_n 2, 1) := by decide +kernel
theorem dX9_costAll_280 : decode cX9_costAll 280 = .ok (.iload_n 2, 1) := by decide +kernel
theorem dX9_costAll_281 : decode cX9_costAll 281 = .ok (.bipush 6, 2) := by decide +kernel
theorem dX9_costAll_283 : decode cX9_costAll 283 = .ok (.if_icmp .ge 43, 3) := by decide +kernel
theorem dX9_costAll_286 : decode cX9_costAll 286 = .ok (.aload_n 0, 1) := by decide +kernel
theorem dX9_costAll_287 : decode cX9_costAll 287 = .ok (.getfield 29, 3) := by decide +kernel
theorem dX9_costAll_290 : decode cX9_costAll 290 = .ok (.iconst 1, 1) := by decide +kernel
theorem dX9_costAll_291 : decode cX9_costAll 291 = .ok (.iaload, 1) := by decide +kernel
theorem dX9_costAll_292 : decode cX9_costAll 292 = .ok (.iload_n 2, 1) := by decide +kernel
theorem dX9_costAll_293 : decode cX9_costAll 293 = .ok (.invokestatic 145, 3) := by decide +kernel
theorem dX9_costAll_296 : decode cX9_costAll 296 = .ok (.ifCond .eq 22, 3) := by decide +kernel
theorem dX9_costAll_299 : decode cX9_costAll 299 = .ok (.aload_n 0, 1) := by decide +kernel
theorem dX9_costAll_300 : decode cX9_costAll 300 = .ok (.getfield 49, 3) := by decide +kernel
theorem dX9_costAll_303 : decode cX9_costAll 303 = .ok (.iload_n 2, 1) := by decide +kernel
theorem dX9_costAll_304 : decode cX9_costAll 304 = .ok (.iaload, 1) := by decide +kernel
theorem dX9_costAll_305 : decode cX9_costAll 305 = .ok (.iload_n 1, 1) := by decide +kernel
theorem dX9_costAll_306 : decode cX9_costAll 306 = .ok (.if_icmp .ge 12, 3) := by decide +kernel
theorem dX9_costAll_309 : decode cX9_costAll 309 = .ok (.aload_n 0, 1) := by decide +kernel
theorem dX9_costAll_310 : decode cX9_costAll 310 = .ok (.getfield 49, 3) := by decide +kernel
theorem dX9_costAll_313 : decode cX9_costAll 313 = .ok (.iload_n 2, 1) := by decide +kernel
theorem dX9_costAll_314 : decode cX9_costAll 314 = .ok (.iaload, 1) := by decide +kernel
theorem dX9_costAll_315 : decode cX9_costAll 315 = .ok (.goto 4, 3) := by decide +kernel
theorem dX9_costAll_318 : decode cX9_costAll 318 = .ok (.iload_n 1, 1) := by decide +kernel
theorem dX9_costAll_319 : decode cX9_costAll 319 = .ok (.istore_n 1, 1) := by decide +kernel
theorem dX9_costAll_320 : decode cX9_costAll 320 = .ok (.iinc 2 1, 3) := by decide +kernel
theorem dX9_costAll_323 : decode cX9_costAll 323 = .ok (.goto (-43), 3) := by decide +kernel
theorem dX9_costAll_326 : decode cX9_costAll 326 = .ok (.iload_n 1, 1) := by decide +kernel
theorem dX9_costAll_327 : decode cX9_costAll 327 = .ok (.ireturn, 1) := by decide +kernel
theorem dX9_mend_0 : decode cX9_mend 0 = .ok (.iload_n 1, 1) := by decide +kernel
theorem dX9_mend_1 : decode cX9_mend 1 = .ok (.iconst (-1), 1) := by decide +kernel
theorem dX9_mend_2 : decode cX9_mend 2 = .ok (.aload_n 0, 1) := by decide +kernel
theorem dX9_mend_3 : decode cX9_mend 3 = .ok (.getfield 29, 3) := by decide +kernel
theorem dX9_mend_6 : decode cX9_mend 6 = .ok (.iconst 2, 1) := by decide +kernel
theorem dX9_mend_7 : decode cX9_mend 7 = .ok (.iaload, 1) := by decide +kernel
theorem dX9_mend_8 : decode cX9_mend 8 = .ok (.iconst 1, 1) := by decide +kernel
theorem dX9_mend_9 : decode cX9_mend 9 = .ok (.isub, 1) := by decide +kernel
theorem dX9_mend_10 : decode cX9_mend 10 = .ok (.invokestatic 88, 3) := by decide +kernel
theorem dX9_mend_13 : decode cX9_mend 13 = .ok (.ifCond .ne 5, 3) := by decide +kernel
theorem dX9_mend_16 : decode cX9_mend 16 = .ok (.iconst (-1), 1) := by decide +kernel
theorem dX9_mend_17 : decode cX9_mend 17 = .ok (.ireturn, 1) := by decide +kernel
theorem dX9_mend_18 : decode cX9_mend 18 = .ok (.aload_n 0, 1) := by decide +kernel
theorem dX9_mend_19 : decode cX9_mend 19 = .ok (.getfield 29, 3) := by decide +kernel
theorem dX9_mend_22 : decode cX9_mend 22 = .ok (.iconst 2, 1) := by decide +kernel
theorem dX9_mend_23 : decode cX9_mend 23 = .ok (.iaload, 1) := by decide +kernel
theorem dX9_mend_24 : decode cX9_mend 24 = .ok (.ifCond .ne 6, 3) := by decide +kernel
theorem dX9_mend_27 : decode cX9_mend 27 = .ok (.bipush (-2), 2) := by decide +kernel
theorem dX9_mend_29 : decode cX9_mend 29 = .ok (.ireturn, 1) := by decide +kernel
theorem dX9_mend_30 : decode cX9_mend 30 = .ok (.aload_n 0, 1) := by decide +kernel
theorem dX9_mend_31 : decode cX9_mend 31 = .ok (.invokevirtual 149, 3) := by decide +kernel
theorem dX9_mend_34 : decode cX9_mend 34 = .ok (.iconst 0, 1) := by decide +kernel
theorem dX9_mend_35 : decode cX9_mend 35 = .ok (.istore_n 2, 1) := by decide +kernel
theorem dX9_mend_36 : decode cX9_mend 36 = .ok (.iload_n 2, 1) := by decide +kernel
theorem dX9_mend_37 : decode cX9_mend 37 = .ok (.bipush 31, 2) := by decide +kernel
theorem dX9_mend_39 : decode cX9_mend 39 = .ok (.if_icmp .ge 17, 3) := by decide +kernel
theorem dX9_mend_42 : decode cX9_mend 42 = .ok (.aload_n 0, 1) := by decide +kernel
theorem dX9_mend_43 : decode cX9_mend 43 = .ok (.getfield 52, 3) := by decide +kernel
theorem dX9_mend_46 : decode cX9_mend 46 = .ok (.iload_n 2, 1) := by decide +kernel
theorem dX9_mend_47 : decode cX9_mend 47 = .ok (.bipush (-9), 2) := by decide +kernel
theorem dX9_mend_49 : decode cX9_mend 49 = .ok (.iastore, 1) := by decide +kernel
theorem dX9_mend_50 : decode cX9_mend 50 = .ok (.iinc 2 1, 3) := by decide +kernel
theorem dX9_mend_53 : decode cX9_mend 53 = .ok (.goto (-17), 3) := by decide +kernel
theorem dX9_mend_56 : decode cX9_mend 56 = .ok (.aload_n 0, 1) := by decide +kernel
theorem dX9_mend_57 : decode cX9_mend 57 = .ok (.invokevirtual 167, 3) := by decide +kernel
theorem dX9_mend_60 : decode cX9_mend 60 = .ok (.istore_n 2, 1) := by decide +kernel
theorem dX9_mend_61 : decode cX9_mend 61 = .ok (.iload_n 2, 1) := by decide +kernel
theorem dX9_mend_62 : decode cX9_mend 62 = .ok (.sipush 999, 3) := by decide +kernel
theorem dX9_mend_65 : decode cX9_mend 65 = .ok (.if_icmp .lt 6, 3) := by decide +kernel
theorem dX9_mend_68 : decode cX9_mend 68 = .ok (.bipush (-9), 2) := by decide +kernel
theorem dX9_mend_70 : decode cX9_mend 70 = .ok (.ireturn, 1) := by decide +kernel
theorem dX9_mend_71 : decode cX9_mend 71 = .ok (.iconst 0, 1) := by decide +kernel
theorem dX9_mend_72 : decode cX9_mend 72 = .ok (.istore_n 3, 1) := by decide +kernel
theorem dX9_mend_73 : decode cX9_mend 73 = .ok (.iload_n 3, 1) := by decide +kernel
theorem dX9_mend_74 : decode cX9_mend 74 = .ok (.iload_n 1, 1) := by decide +kernel
theorem dX9_mend_75 : decode cX9_mend 75 = .ok (.if_icmp .gt 60, 3) := by decide +kernel
theorem dX9_mend_78 : decode cX9_mend 78 = .ok (.aload_n 0, 1) := by decide +kernel
theorem dX9_mend_79 : decode cX9_mend 79 = .ok (.getfield 52, 3) := by decide +kernel
theorem dX9_mend_82 : decode cX9_mend 82 = .ok (.iload_n 3, 1) := by decide +kernel
theorem dX9_mend_83 : decode cX9_mend 83 = .ok (.iconst 0, 1) := by decide +kernel
theorem dX9_mend_84 : decode cX9_mend 84 = .ok (.iastore, 1) := by decide +kernel
theorem dX9_mend_85 : decode cX9_mend 85 = .ok (.aload_n 0, 1) := by decide +kernel
theorem dX9_mend_86 : decode cX9_mend 86 = .ok (.getfield 52, 3) := by decide +kernel
theorem dX9_mend_89 : decode cX9_mend 89 = .ok (.iload_n 3, 1) := by decide +kernel
theorem dX9_mend_90 : decode cX9_mend 90 = .ok (.iaload, 1) := by decide +kernel
theorem dX9_mend_91 : decode cX9_mend 91 = .ok (.invokestatic 125, 3) := by decide +kernel
theorem dX9_mend_94 : decode cX9_mend 94 = .ok (.aload_n 0, 1) := by decide +kernel
theorem dX9_mend_95 : decode cX9_mend 95 = .ok (.getfield 29, 3) := by decide +kernel
theorem dX9_mend_98 : decode cX9_mend 98 = .ok (.iconst 3, 1) := by decide +kernel
theorem dX9_mend_99 : decode cX9_mend 99 = .ok (.iload_n 3, 1) := by decide +kernel
theorem dX9_mend_100 : decode cX9_mend 100 = .ok (.iadd, 1) := by decide +kernel
theorem dX9_mend_101 : decode cX9_mend 101 = .ok (.iaload, 1) := by decide +kernel
theorem dX9_mend_102 : decode cX9_mend 102 = .ok (.invokestatic 125, 3) := by decide +kernel
theorem dX9_mend_105 : decode cX9_mend 105 = .ok (.if_icmp .ne 11, 3) := by decide +kernel
theorem dX9_mend_108 : decode cX9_mend 108 = .ok (.aload_n 0, 1) := by decide +kernel
theorem dX9_mend_109 : decode cX9_mend 109 = .ok (.invokevirtual 167, 3) := by decide +kernel
theorem dX9_mend_112 : decode cX9_mend 112 = .ok (.iload_n 2, 1) := by decide +kernel
theorem dX9_mend_113 : decode cX9_mend 113 = .ok (.if_icmp .eq 16, 3) := by decide +kernel
theorem dX9_mend_116 : decode cX9_mend 116 = .ok (.aload_n 0, 1) := by decide +kernel
theorem dX9_mend_117 : decode cX9_mend 117 = .ok (.getfield 52, 3) := by decide +kernel
theorem dX9_mend_120 : decode cX9_mend 120 = .ok (.iload_n 3, 1) := by decide +kernel
theorem dX9_mend_121 : decode cX9_mend 121 = .ok (.dup2, 1) := by decide +kernel
theorem dX9_mend_122 : decode cX9_mend 122 = .ok (.iaload, 1) := by decide +kernel
theorem dX9_mend_123 : decode cX9_mend 123 = .ok (.iconst 1, 1) := by decide +kernel
theorem dX9_mend_124 : decode cX9_mend 124 = .ok (.iadd, 1) := by decide +kernel
theorem dX9_mend_125 : decode cX9_mend 125 = .ok (.iastore, 1) := by decide +kernel
theorem dX9_mend_126 : decode cX9_mend 126 = .ok (.goto (-41), 3) := by decide +kernel
theorem dX9_mend_129 : decode cX9_mend 129 = .ok (.iinc 3 1, 3) := by decide +kernel
theorem dX9_mend_132 : decode cX9_mend 132 = .ok (.goto (-59), 3) := by decide +kernel
theorem dX9_mend_135 : decode cX9_mend 135 = .ok (.iload_n 1, 1) := by decide +kernel
theorem dX9_mend_136 : decode cX9_mend 136 = .ok (.ifCond .ge 7, 3) := by decide +kernel
theorem dX9_mend_139 : decode cX9_mend 139 = .ok (.iload_n 2, 1) := by decide +kernel
theorem dX9_mend_140 : decode cX9_mend 140 = .ok (.goto 9, 3) := by decide +kernel
theorem dX9_mend_143 : decode cX9_mend 143 = .ok (.aload_n 0, 1) := by decide +kernel
theorem dX9_mend_144 : decode cX9_mend 144 = .ok (.getfield 52, 3) := by decide +kernel
theorem dX9_mend_147 : decode cX9_mend 147 = .ok (.iload_n 1, 1) := by decide +kernel
theorem dX9_mend_148 : decode cX9_mend 148 = .ok (.iaload, 1) := by decide +kernel
theorem dX9_mend_149 : decode cX9_mend 149 = .ok (.ireturn, 1) := by decide +kernel
theorem dX9_pairOf_0 : decode cX9_pairOf 0 = .ok (.aload_n 0, 1) := by decide +kernel
theorem dX9_pairOf_1 : decode cX9_pairOf 1 = .ok (.aload_n 0, 1) := by decide +kernel
theorem dX9_pairOf_2 : decode cX9_pairOf 2 = .ok (.getfield 29, 3) := by decide +kernel
theorem dX9_pairOf_5 : decode cX9_pairOf 5 = .ok (.iconst 0, 1) := by decide +kernel
theorem dX9_pairOf_6 : decode cX9_pairOf 6 = .ok (.iaload, 1) := by decide +kernel
theorem dX9_pairOf_7 : decode cX9_pairOf 7 = .ok (.iload_n 1, 1) := by decide +kernel
theorem dX9_pairOf_8 : decode cX9_pairOf 8 = .ok (.iload_n 2, 1) := by decide +kernel
theorem dX9_pairOf_9 : decode cX9_pairOf 9 = .ok (.ifCond .ge 7, 3) := by decide +kernel
theorem dX9_pairOf_12 : decode cX9_pairOf 12 = .ok (.iconst 0, 1) := by decide +kernel
theorem dX9_pairOf_13 : decode cX9_pairOf 13 = .ok (.goto 9, 3) := by decide +kernel
theorem dX9_pairOf_16 : decode cX9_pairOf 16 = .ok (.aload_n 0, 1) := by decide +kernel
theorem dX9_pairOf_17 : decode cX9_pairOf 17 = .ok (.getfield 55, 3) := by decide +kernel
theorem dX9_pairOf_20 : decode cX9_pairOf 20 = .ok (.iload_n 2, 1) := by decide +kernel
theorem dX9_pairOf_21 : decode cX9_pairOf 21 = .ok (.iaload, 1) := by decide +kernel
theorem dX9_pairOf_22 : decode cX9_pairOf 22 = .ok (.iload_n 3, 1) := by decide +kernel
theorem dX9_pairOf_23 : decode cX9_pairOf 23 = .ok (.ifCond .ge 7, 3) := by decide +kernel
theorem dX9_pairOf_26 : decode cX9_pairOf 26 = .ok (.iconst 0, 1) := by decide +kernel
theorem dX9_pairOf_27 : decode cX9_pairOf 27 = .ok (.goto 9, 3) := by decide +kernel
theorem dX9_pairOf_30 : decode cX9_pairOf 30 = .ok (.aload_n 0, 1) := by decide +kernel
theorem dX9_pairOf_31 : decode cX9_pairOf 31 = .ok (.getfield 55, 3) := by decide +kernel
theorem dX9_pairOf_34 : decode cX9_pairOf 34 = .ok (.iload_n 3, 1) := by decide +kernel
theorem dX9_pairOf_35 : decode cX9_pairOf 35 = .ok (.iaload, 1) := by decide +kernel
theorem dX9_pairOf_36 : decode cX9_pairOf 36 = .ok (.invokevirtual 152, 3) := by decide +kernel
theorem dX9_pairOf_39 : decode cX9_pairOf 39 = .ok (.istore 4, 2) := by decide +kernel
theorem dX9_pairOf_41 : decode cX9_pairOf 41 = .ok (.aload_n 0, 1) := by decide +kernel
theorem dX9_pairOf_42 : decode cX9_pairOf 42 = .ok (.aload_n 0, 1) := by decide +kernel
theorem dX9_pairOf_43 : decode cX9_pairOf 43 = .ok (.getfield 170, 3) := by decide +kernel
theorem dX9_pairOf_46 : decode cX9_pairOf 46 = .ok (.iload_n 1, 1) := by decide +kernel
theorem dX9_pairOf_47 : decode cX9_pairOf 47 = .ok (.iload_n 2, 1) := by decide +kernel
theorem dX9_pairOf_48 : decode cX9_pairOf 48 = .ok (.ifCond .ge 7, 3) := by decide +kernel
theorem dX9_pairOf_51 : decode cX9_pairOf 51 = .ok (.iconst 0, 1) := by decide +kernel
theorem dX9_pairOf_52 : decode cX9_pairOf 52 = .ok (.goto 9, 3) := by decide +kernel
theorem dX9_pairOf_55 : decode cX9_pairOf 55 = .ok (.aload_n 0, 1) := by decide +kernel
theorem dX9_pairOf_56 : decode cX9_pairOf 56 = .ok (.getfield 58, 3) := by decide +kernel
theorem dX9_pairOf_59 : decode cX9_pairOf 59 = .ok (.iload_n 2, 1) := by decide +kernel
theorem dX9_pairOf_60 : decode cX9_pairOf 60 = .ok (.iaload, 1) := by decide +kernel
theorem dX9_pairOf_61 : decode cX9_pairOf 61 = .ok (.iload_n 3, 1) := by decide +kernel
theorem dX9_pairOf_62 : decode cX9_pairOf 62 = .ok (.ifCond .ge 7, 3) := by decide +kernel
theorem dX9_pairOf_65 : decode cX9_pairOf 65 = .ok (.iconst 0, 1) := by decide +kernel
theorem dX9_pairOf_66 : decode cX9_pairOf 66 = .ok (.goto 9, 3) := by decide +kernel
theorem dX9_pairOf_69 : decode cX9_pairOf 69 = .ok (.aload_n 0, 1) := by decide +kernel
theorem dX9_pairOf_70 : decode cX9_pairOf 70 = .ok (.getfield 58, 3) := by decide +kernel
theorem dX9_pairOf_73 : decode cX9_pairOf 73 = .ok (.iload_n 3, 1) := by decide +kernel
theorem dX9_pairOf_74 : decode cX9_pairOf 74 = .ok (.iaload, 1) := by decide +kernel
theorem dX9_pairOf_75 : decode cX9_pairOf 75 = .ok (.invokevirtual 152, 3) := by decide +kernel
theorem dX9_pairOf_78 : decode cX9_pairOf 78 = .ok (.istore 5, 2) := by decide +kernel
theorem dX9_pairOf_80 : decode cX9_pairOf 80 = .ok (.iconst 0, 1) := by decide +kernel
theorem dX9_pairOf_81 : decode cX9_pairOf 81 = .ok (.istore 6, 2) := by decide +kernel
theorem dX9_pairOf_83 : decode cX9_pairOf 83 = .ok (.iload 6, 2) := by decide +kernel
theorem dX9_pairOf_85 : decode cX9_pairOf 85 = .ok (.aload_n 0, 1) := by decide +kernel
theorem dX9_pairOf_86 : decode cX9_pairOf 86 = .ok (.getfield 173, 3) := by decide +kernel
theorem dX9_pairOf_89 : decode cX9_pairOf 89 = .ok (.if_icmp .ge 36, 3) := by decide +kernel
theorem dX9_pairOf_92 : decode cX9_pairOf 92 = .ok (.aload_n 0, 1) := by decide +kernel
theorem dX9_pairOf_93 : decode cX9_pairOf 93 = .ok (.getfield 55, 3) := by decide +kernel
theorem dX9_pairOf_96 : decode cX9_pairOf 96 = .ok (.iload 6, 2) := by decide +kernel
theorem dX9_pairOf_98 : decode cX9_pairOf 98 = .ok (.iaload, 1) := by decide +kernel
theorem dX9_pairOf_99 : decode cX9_pairOf 99 = .ok (.iload 4, 2) := by decide +kernel
theorem dX9_pairOf_101 : decode cX9_pairOf 101 = .ok (.if_icmp .ne 18, 3) := by decide +kernel
theorem dX9_pairOf_104 : decode cX9_pairOf 104 = .ok (.aload_n 0, 1) := by decide +kernel
theorem dX9_pairOf_105 : decode cX9_pairOf 105 = .ok (.getfield 58, 3) := by decide +kernel
theorem dX9_pairOf_108 : decode cX9_pairOf 108 = .ok (.iload 6, 2) := by decide +kernel
theorem dX9_pairOf_110 : decode cX9_pairOf 110 = .ok (.iaload, 1) := by decide +kernel
theorem dX9_pairOf_111 : decode cX9_pairOf 111 = .ok (.iload 5, 2) := by decide +kernel
theorem dX9_pairOf_113 : decode cX9_pairOf 113 = .ok (.if_icmp .ne 6, 3) := by decide +kernel
theorem dX9_pairOf_116 : decode cX9_pairOf 116 = .ok (.iload 6, 2) := by decide +kernel
theorem dX9_pairOf_118 : decode cX9_pairOf 118 = .ok (.ireturn, 1) := by decide +kernel
theorem dX9_pairOf_119 : decode cX9_pairOf 119 = .ok (.iinc 6 1, 3) := by decide +kernel
theorem dX9_pairOf_122 : decode cX9_pairOf 122 = .ok (.goto (-39), 3) := by decide +kernel
theorem dX9_pairOf_125 : decode cX9_pairOf 125 = .ok (.aload_n 0, 1) := by decide +kernel
theorem dX9_pairOf_126 : decode cX9_pairOf 126 = .ok (.getfield 173, 3) := by decide +kernel
theorem dX9_pairOf_129 : decode cX9_pairOf 129 = .ok (.bipush 120, 2) := by decide +kernel
theorem dX9_pairOf_131 : decode cX9_pairOf 131 = .ok (.if_icmp .ne 10, 3) := by decide +kernel
theorem dX9_pairOf_134 : decode cX9_pairOf 134 = .ok (.aload_n 0, 1) := by decide +kernel
theorem dX9_pairOf_135 : decode cX9_pairOf 135 = .ok (.iconst 1, 1) := by decide +kernel
theorem dX9_pairOf_136 : decode cX9_pairOf 136 = .ok (.putfield 176, 3) := by decide +kernel
theorem dX9_pairOf_139 : decode cX9_pairOf 139 = .ok (.iconst 0, 1) := by decide +kernel
theorem dX9_pairOf_140 : decode cX9_pairOf 140 = .ok (.ireturn, 1) := by decide +kernel
theorem dX9_pairOf_141 : decode cX9_pairOf 141 = .ok (.aload_n 0, 1) := by decide +kernel
theorem dX9_pairOf_142 : decode cX9_pairOf 142 = .ok (.getfield 55, 3) := by decide +kernel
theorem dX9_pairOf_145 : decode cX9_pairOf 145 = .ok (.aload_n 0, 1) := by decide +kernel
theorem dX9_pairOf_146 : decode cX9_pairOf 146 = .ok (.getfield 173, 3) := by decide +kernel
theorem dX9_pairOf_149 : decode cX9_pairOf 149 = .ok (.iload 4, 2) := by decide +kernel
theorem dX9_pairOf_151 : decode cX9_pairOf 151 = .ok (.iastore, 1) := by decide +kernel
theorem dX9_pairOf_152 : decode cX9_pairOf 152 = .ok (.aload_n 0, 1) := by decide +kernel
theorem dX9_pairOf_153 : decode cX9_pairOf 153 = .ok (.getfield 58, 3) := by decide +kernel
theorem dX9_pairOf_156 : decode cX9_pairOf 156 = .ok (.aload_n 0, 1) := by decide +kernel
theorem dX9_pairOf_157 : decode cX9_pairOf 157 = .ok (.getfield 173, 3) := by decide +kernel
theorem dX9_pairOf_160 : decode cX9_pairOf 160 = .ok (.iload 5, 2) := by decide +kernel
theorem dX9_pairOf_162 : decode cX9_pairOf 162 = .ok (.iastore, 1) := by decide +kernel
theorem dX9_pairOf_163 : decode cX9_pairOf 163 = .ok (.aload_n 0, 1) := by decide +kernel
theorem dX9_pairOf_164 : decode cX9_pairOf 164 = .ok (.dup, 1) := by decide +kernel
theorem dX9_pairOf_165 : decode cX9_pairOf 165 = .ok (.getfield 173, 3) := by decide +kernel
theorem dX9_pairOf_168 : decode cX9_pairOf 168 = .ok (.iconst 1, 1) := by decide +kernel
theorem dX9_pairOf_169 : decode cX9_pairOf 169 = .ok (.iadd, 1) := by decide +kernel
theorem dX9_pairOf_170 : decode cX9_pairOf 170 = .ok (.putfield 173, 3) := by decide +kernel
theorem dX9_pairOf_173 : decode cX9_pairOf 173 = .ok (.aload_n 0, 1) := by decide +kernel
theorem dX9_pairOf_174 : decode cX9_pairOf 174 = .ok (.getfield 173, 3) := by decide +kernel
theorem dX9_pairOf_177 : decode cX9_pairOf 177 = .ok (.iconst 1, 1) := by decide +kernel
theorem dX9_pairOf_178 : decode cX9_pairOf 178 = .ok (.isub, 1) := by decide +kernel
theorem dX9_pairOf_179 : decode cX9_pairOf 179 = .ok (.ireturn, 1) := by decide +kernel
theorem dX9_findPairs_0 : decode cX9_findPairs 0 = .ok (.aload_n 0, 1) := by decide +kernel
theorem dX9_findPairs_1 : decode cX9_findPairs 1 = .ok (.iload_n 1, 1) := by decide +kernel
theorem dX9_findPairs_2 : decode cX9_findPairs 2 = .ok (.putfield 170, 3) := by decide +kernel
theorem dX9_findPairs_5 : decode cX9_findPairs 5 = .ok (.aload_n 0, 1) := by decide +kernel
theorem dX9_findPairs_6 : decode cX9_findPairs 6 = .ok (.iload_n 2, 1) := by decide +kernel
theorem dX9_findPairs_7 : decode cX9_findPairs 7 = .ok (.putfield 180, 3) := by decide +kernel
theorem dX9_findPairs_10 : decode cX9_findPairs 10 = .ok (.aload_n 0, 1) := by decide +kernel
theorem dX9_findPairs_11 : decode cX9_findPairs 11 = .ok (.iconst 0, 1) := by decide +kernel
theorem dX9_findPairs_12 : decode cX9_findPairs 12 = .ok (.putfield 173, 3) := by decide +kernel
theorem dX9_findPairs_15 : decode cX9_findPairs 15 = .ok (.aload_n 0, 1) := by decide +kernel
theorem dX9_findPairs_16 : decode cX9_findPairs 16 = .ok (.iconst 0, 1) := by decide +kernel
theorem dX9_findPairs_17 : decode cX9_findPairs 17 = .ok (.putfield 176, 3) := by decide +kernel
theorem dX9_findPairs_20 : decode cX9_findPairs 20 = .ok (.iconst 0, 1) := by decide +kernel
theorem dX9_findPairs_21 : decode cX9_findPairs 21 = .ok (.istore_n 3, 1) := by decide +kernel
theorem dX9_findPairs_22 : decode cX9_findPairs 22 = .ok (.iload_n 3, 1) := by decide +kernel
theorem dX9_findPairs_23 : decode cX9_findPairs 23 = .ok (.iconst 4, 1) := by decide +kernel
theorem dX9_findPairs_24 : decode cX9_findPairs 24 = .ok (.if_icmp .ge 22, 3) := by decide +kernel
theorem dX9_findPairs_27 : decode cX9_findPairs 27 = .ok (.aload_n 0, 1) := by decide +kernel
theorem dX9_findPairs_28 : decode cX9_findPairs 28 = .ok (.getfield 61, 3) := by decide +kernel
theorem dX9_findPairs_31 : decode cX9_findPairs 31 = .ok (.iload_n 3, 1) := by decide +kernel
theorem dX9_findPairs_32 : decode cX9_findPairs 32 = .ok (.aload_n 0, 1) := by decide +kernel
theorem dX9_findPairs_33 : decode cX9_findPairs 33 = .ok (.iload_n 3, 1) := by decide +kernel
theorem dX9_findPairs_34 : decode cX9_findPairs 34 = .ok (.iconst (-1), 1) := by decide +kernel
theorem dX9_findPairs_35 : decode cX9_findPairs 35 = .ok (.iconst (-1), 1) := by decide +kernel
theorem dX9_findPairs_36 : decode cX9_findPairs 36 = .ok (.invokevirtual 183, 3) := by decide +kernel
theorem dX9_findPairs_39 : decode cX9_findPairs 39 = .ok (.iastore, 1) := by decide +kernel
theorem dX9_findPairs_40 : decode cX9_findPairs 40 = .ok (.iinc 3 1, 3) := by decide +kernel
theorem dX9_findPairs_43 : decode cX9_findPairs 43 = .ok (.goto (-21), 3) := by decide +kernel
theorem dX9_findPairs_46 : decode cX9_findPairs 46 = .ok (.iconst 0, 1) := by decide +kernel
theorem dX9_findPairs_47 : decode cX9_findPairs 47 = .ok (.istore_n 3, 1) := by decide +kernel
theorem dX9_findPairs_48 : decode cX9_findPairs 48 = .ok (.iload_n 3, 1) := by decide +kernel
theorem dX9_findPairs_49 : decode cX9_findPairs 49 = .ok (.aload_n 0, 1) := by decide +kernel
theorem dX9_findPairs_50 : decode cX9_findPairs 50 = .ok (.getfield 173, 3) := by decide +kernel
theorem dX9_findPairs_53 : decode cX9_findPairs 53 = .ok (.if_icmp .ge 137, 3) := by decide +kernel
theorem dX9_findPairs_56 : decode cX9_findPairs 56 = .ok (.aload_n 0, 1) := by decide +kernel
theorem dX9_findPairs_57 : decode cX9_findPairs 57 = .ok (.getfield 176, 3) := by decide +kernel
theorem dX9_findPairs_60 : decode cX9_findPairs 60 = .ok (.ifCond .ne 130, 3) := by decide +kernel
theorem dX9_findPairs_63 : decode cX9_findPairs 63 = .ok (.iconst 0, 1) := by decide +kernel
theorem dX9_findPairs_64 : decode cX9_findPairs 64 = .ok (.istore 4, 2) := by decide +kernel
theorem dX9_findPairs_66 : decode cX9_findPairs 66 = .ok (.iload 4, 2) := by decide +kernel
theorem dX9_findPairs_68 : decode cX9_findPairs 68 = .ok (.iconst 2, 1) := by decide +kernel
theorem dX9_findPairs_69 : decode cX9_findPairs 69 = .ok (.if_icmp .ge 115, 3) := by decide +kernel
theorem dX9_findPairs_72 : decode cX9_findPairs 72 = .ok (.aload_n 0, 1) := by decide +kernel
theorem dX9_findPairs_73 : decode cX9_findPairs 73 = .ok (.getfield 64, 3) := by decide +kernel
theorem dX9_findPairs_76 : decode cX9_findPairs 76 = .ok (.bipush 120, 2) := by decide +kernel
theorem dX9_findPairs_78 : decode cX9_findPairs 78 = .ok (.iload 4, 2) := by decide +kernel
theorem dX9_findPairs_80 : decode cX9_findPairs 80 = .ok (.imul, 1) := by decide +kernel
theorem dX9_findPairs_81 : decode cX9_findPairs 81 = .ok (.iload_n 3, 1) := by decide +kernel
theorem dX9_findPairs_82 : decode cX9_findPairs 82 = .ok (.iadd, 1) := by decide +kernel
theorem dX9_findPairs_83 : decode cX9_findPairs 83 = .ok (.aload_n 0, 1) := by decide +kernel
theorem dX9_findPairs_84 : decode cX9_findPairs 84 = .ok (.iconst 4, 1) := by decide +kernel
theorem dX9_findPairs_85 : decode cX9_findPairs 85 = .ok (.iload 4, 2) := by decide +kernel
theorem dX9_findPairs_87 : decode cX9_findPairs 87 = .ok (.iadd, 1) := by decide +kernel
theorem dX9_findPairs_88 : decode cX9_findPairs 88 = .ok (.iload_n 3, 1) := by decide +kernel
theorem dX9_findPairs_89 : decode cX9_findPairs 89 = .ok (.iconst (-1), 1) := by decide +kernel
theorem dX9_findPairs_90 : decode cX9_findPairs 90 = .ok (.invokevirtual 183, 3) := by decide +kernel
theorem dX9_findPairs_93 : decode cX9_findPairs 93 = .ok (.iastore, 1) := by decide +kernel
theorem dX9_findPairs_94 : decode cX9_findPairs 94 = .ok (.iconst 0, 1) := by decide +kernel
theorem dX9_findPairs_95 : decode cX9_findPairs 95 = .ok (.istore 5, 2) := by decide +kernel
theorem dX9_findPairs_97 : decode cX9_findPairs 97 = .ok (.iload 5, 2) := by decide +kernel
theorem dX9_findPairs_99 : decode cX9_findPairs 99 = .ok (.iload_n 3, 1) := by decide +kernel
theorem dX9_findPairs_100 : decode cX9_findPairs 100 = .ok (.if_icmp .gt 78, 3) := by decide +kernel
theorem dX9_findPairs_103 : decode cX9_findPairs 103 = .ok (.aload_n 0, 1) := by decide +kernel
theorem dX9_findPairs_104 : decode cX9_findPairs 104 = .ok (.getfield 176, 3) := by decide +kernel
theorem dX9_findPairs_107 : decode cX9_findPairs 107 = .ok (.ifCond .ne 71, 3) := by decide +kernel
theorem dX9_findPairs_110 : decode cX9_findPairs 110 = .ok (.aload_n 0, 1) := by decide +kernel
theorem dX9_findPairs_111 : decode cX9_findPairs 111 = .ok (.getfield 67, 3) := by decide +kernel
theorem dX9_findPairs_114 : decode cX9_findPairs 114 = .ok (.sipush 14400, 3) := by decide +kernel
theorem dX9_findPairs_117 : decode cX9_findPairs 117 = .ok (.iload 4, 2) := by decide +kernel
theorem dX9_findPairs_119 : decode cX9_findPairs 119 = .ok (.imul, 1) := by decide +kernel
theorem dX9_findPairs_120 : decode cX9_findPairs 120 = .ok (.bipush 120, 2) := by decide +kernel
theorem dX9_findPairs_122 : decode cX9_findPairs 122 = .ok (.iload_n 3, 1) := by decide +kernel
theorem dX9_findPairs_123 : decode cX9_findPairs 123 = .ok (.imul, 1) := by decide +kernel
theorem dX9_findPairs_124 : decode cX9_findPairs 124 = .ok (.iadd, 1) := by decide +kernel
theorem dX9_findPairs_125 : decode cX9_findPairs 125 = .ok (.iload 5, 2) := by decide +kernel
theorem dX9_findPairs_127 : decode cX9_findPairs 127 = .ok (.iadd, 1) := by decide +kernel
theorem dX9_findPairs_128 : decode cX9_findPairs 128 = .ok (.aload_n 0, 1) := by decide +kernel
theorem dX9_findPairs_129 : decode cX9_findPairs 129 = .ok (.bipush 6, 2) := by decide +kernel
theorem dX9_findPairs_131 : decode cX9_findPairs 131 = .ok (.iload 4, 2) := by decide +kernel
theorem dX9_findPairs_133 : decode cX9_findPairs 133 = .ok (.iadd, 1) := by decide +kernel
theorem dX9_findPairs_134 : decode cX9_findPairs 134 = .ok (.iload_n 3, 1) := by decide +kernel
theorem dX9_findPairs_135 : decode cX9_findPairs 135 = .ok (.iload 5, 2) := by decide +kernel
theorem dX9_findPairs_137 : decode cX9_findPairs 137 = .ok (.invokevirtual 183, 3) := by decide +kernel
theorem dX9_findPairs_140 : decode cX9_findPairs 140 = .ok (.iastore, 1) := by decide +kernel
theorem dX9_findPairs_141 : decode cX9_findPairs 141 = .ok (.aload_n 0, 1) := by decide +kernel
theorem dX9_findPairs_142 : decode cX9_findPairs 142 = .ok (.getfield 67, 3) := by decide +kernel
theorem dX9_findPairs_145 : decode cX9_findPairs 145 = .ok (.sipush 14400, 3) := by decide +kernel
theorem dX9_findPairs_148 : decode cX9_findPairs 148 = .ok (.iload 4, 2) := by decide +kernel
theorem dX9_findPairs_150 : decode cX9_findPairs 150 = .ok (.imul, 1) := by decide +kernel
theorem dX9_findPairs_151 : decode cX9_findPairs 151 = .ok (.bipush 120, 2) := by decide +kernel
theorem dX9_findPairs_153 : decode cX9_findPairs 153 = .ok (.iload 5, 2) := by decide +kernel
theorem dX9_findPairs_155 : decode cX9_findPairs 155 = .ok (.imul, 1) := by decide +kernel
theorem dX9_findPairs_156 : decode cX9_findPairs 156 = .ok (.iadd, 1) := by decide +kernel
theorem dX9_findPairs_157 : decode cX9_findPairs 157 = .ok (.iload_n 3, 1) := by decide +kernel
theorem dX9_findPairs_158 : decode cX9_findPairs 158 = .ok (.iadd, 1) := by decide +kernel
theorem dX9_findPairs_159 : decode cX9_findPairs 159 = .ok (.aload_n 0, 1) := by decide +kernel
theorem dX9_findPairs_160 : decode cX9_findPairs 160 = .ok (.bipush 6, 2) := by decide +kernel
theorem dX9_findPairs_162 : decode cX9_findPairs 162 = .ok (.iload 4, 2) := by decide +kernel
theorem dX9_findPairs_164 : decode cX9_findPairs 164 = .ok (.iadd, 1) := by decide +kernel
theorem dX9_findPairs_165 : decode cX9_findPairs 165 = .ok (.iload 5, 2) := by decide +kernel
theorem dX9_findPairs_167 : decode cX9_findPairs 167 = .ok (.iload_n 3, 1) := by decide +kernel
theorem dX9_findPairs_168 : decode cX9_findPairs 168 = .ok (.invokevirtual 183, 3) := by decide +kernel
theorem dX9_findPairs_171 : decode cX9_findPairs 171 = .ok (.iastore, 1) := by decide +kernel
theorem dX9_findPairs_172 : decode cX9_findPairs 172 = .ok (.iinc 5 1, 3) := by decide +kernel
theorem dX9_findPairs_175 : decode cX9_findPairs 175 = .ok (.goto (-78), 3) := by decide +kernel
theorem dX9_findPairs_178 : decode cX9_findPairs 178 = .ok (.iinc 4 1, 3) := by decide +kernel
theorem dX9_findPairs_181 : decode cX9_findPairs 181 = .ok (.goto (-115), 3) := by decide +kernel
theorem dX9_findPairs_184 : decode cX9_findPairs 184 = .ok (.iinc 3 1, 3) := by decide +kernel
theorem dX9_findPairs_187 : decode cX9_findPairs 187 = .ok (.goto (-139), 3) := by decide +kernel
theorem dX9_findPairs_190 : decode cX9_findPairs 190 = .ok (.return_, 1) := by decide +kernel
theorem dX9_isGoodA_0 : decode cX9_isGoodA 0 = .ok (.aload_n 0, 1) := by decide +kernel
theorem dX9_isGoodA_1 : decode cX9_isGoodA 1 = .ok (.getfield 55, 3) := by decide +kernel
theorem dX9_isGoodA_4 : decode cX9_isGoodA 4 = .ok (.iload_n 1, 1) := by decide +kernel
theorem dX9_isGoodA_5 : decode cX9_isGoodA 5 = .ok (.iaload, 1) := by decide +kernel
theorem dX9_isGoodA_6 : decode cX9_isGoodA 6 = .ok (.aload_n 0, 1) := by decide +kernel
theorem dX9_isGoodA_7 : decode cX9_isGoodA 7 = .ok (.getfield 29, 3) := by decide +kernel
theorem dX9_isGoodA_10 : decode cX9_isGoodA 10 = .ok (.iconst 1, 1) := by decide +kernel
theorem dX9_isGoodA_11 : decode cX9_isGoodA 11 = .ok (.iaload, 1) := by decide +kernel
theorem dX9_isGoodA_12 : decode cX9_isGoodA 12 = .ok (.iand, 1) := by decide +kernel
theorem dX9_isGoodA_13 : decode cX9_isGoodA 13 = .ok (.ifCond .eq 7, 3) := by decide +kernel
theorem dX9_isGoodA_16 : decode cX9_isGoodA 16 = .ok (.iconst 1, 1) := by decide +kernel
theorem dX9_isGoodA_17 : decode cX9_isGoodA 17 = .ok (.goto 4, 3) := by decide +kernel
theorem dX9_isGoodA_20 : decode cX9_isGoodA 20 = .ok (.iconst 0, 1) := by decide +kernel
theorem dX9_isGoodA_21 : decode cX9_isGoodA 21 = .ok (.ireturn, 1) := by decide +kernel
theorem dX9_isGoodB_0 : decode cX9_isGoodB 0 = .ok (.aload_n 0, 1) := by decide +kernel
theorem dX9_isGoodB_1 : decode cX9_isGoodB 1 = .ok (.getfield 58, 3) := by decide +kernel
theorem dX9_isGoodB_4 : decode cX9_isGoodB 4 = .ok (.iload_n 1, 1) := by decide +kernel
theorem dX9_isGoodB_5 : decode cX9_isGoodB 5 = .ok (.iaload, 1) := by decide +kernel
theorem dX9_isGoodB_6 : decode cX9_isGoodB 6 = .ok (.aload_n 0, 1) := by decide +kernel
theorem dX9_isGoodB_7 : decode cX9_isGoodB 7 = .ok (.getfield 180, 3) := by decide +kernel
theorem dX9_isGoodB_10 : decode cX9_isGoodB 10 = .ok (.iand, 1) := by decide +kernel
theorem dX9_isGoodB_11 : decode cX9_isGoodB 11 = .ok (.ifCond .eq 7, 3) := by decide +kernel
theorem dX9_isGoodB_14 : decode cX9_isGoodB 14 = .ok (.iconst 1, 1) := by decide +kernel
theorem dX9_isGoodB_15 : decode cX9_isGoodB 15 = .ok (.goto 4, 3) := by decide +kernel
theorem dX9_isGoodB_18 : decode cX9_isGoodB 18 = .ok (.iconst 0, 1) := by decide +kernel
theorem dX9_isGoodB_19 : decode cX9_isGoodB 19 = .ok (.ireturn, 1) := by decide +kernel
theorem dX9_findOwn_0 : decode cX9_findOwn 0 = .ok (.aload_n 0, 1) := by decide +kernel
theorem dX9_findOwn_1 : decode cX9_findOwn 1 = .ok (.aload_n 0, 1) := by decide +kernel
theorem dX9_findOwn_2 : decode cX9_findOwn 2 = .ok (.getfield 29, 3) := by decide +kernel
theorem dX9_findOwn_5 : decode cX9_findOwn 5 = .ok (.iconst 0, 1) := by decide +kernel
theorem dX9_findOwn_6 : decode cX9_findOwn 6 = .ok (.iaload, 1) := by decide +kernel
theorem dX9_findOwn_7 : decode cX9_findOwn 7 = .ok (.aload_n 0, 1) := by decide +kernel
theorem dX9_findOwn_8 : decode cX9_findOwn 8 = .ok (.getfield 29, 3) := by decide +kernel
theorem dX9_findOwn_11 : decode cX9_findOwn 11 = .ok (.iconst 1, 1) := by decide +kernel
theorem dX9_findOwn_12 : decode cX9_findOwn 12 = .ok (.iaload, 1) := by decide +kernel
theorem dX9_findOwn_13 : decode cX9_findOwn 13 = .ok (.invokevirtual 187, 3) := by decide +kernel
theorem dX9_findOwn_16 : decode cX9_findOwn 16 = .ok (.return_, 1) := by decide +kernel
theorem dX9_sets_0 : decode cX9_sets 0 = .ok (.aload_n 0, 1) := by decide +kernel
theorem dX9_sets_1 : decode cX9_sets 1 = .ok (.invokevirtual 191, 3) := by decide +kernel
theorem dX9_sets_4 : decode cX9_sets 4 = .ok (.aload_n 0, 1) := by decide +kernel
theorem dX9_sets_5 : decode cX9_sets 5 = .ok (.getfield 173, 3) := by decide +kernel
theorem dX9_sets_8 : decode cX9_sets 8 = .ok (.ireturn, 1) := by decide +kernel
theorem dX9_isSame_0 : decode cX9_isSame 0 = .ok (.aload_n 0, 1) := by decide +kernel
theorem dX9_isSame_1 : decode cX9_isSame 1 = .ok (.getfield 70, 3) := by decide +kernel
theorem dX9_isSame_4 : decode cX9_isSame 4 = .ok (.iload_n 1, 1) := by decide +kernel
theorem dX9_isSame_5 : decode cX9_isSame 5 = .ok (.iaload, 1) := by decide +kernel
theorem dX9_isSame_6 : decode cX9_isSame 6 = .ok (.aload_n 0, 1) := by decide +kernel
theorem dX9_isSame_7 : decode cX9_isSame 7 = .ok (.getfield 70, 3) := by decide +kernel
theorem dX9_isSame_10 : decode cX9_isSame 10 = .ok (.iload_n 2, 1) := by decide +kernel
theorem dX9_isSame_11 : decode cX9_isSame 11 = .ok (.iaload, 1) := by decide +kernel
theorem dX9_isSame_12 : decode cX9_isSame 12 = .ok (.if_icmp .eq 5, 3) := by decide +kernel
theorem dX9_isSame_15 : decode cX9_isSame 15 = .ok (.iconst 0, 1) := by decide +kernel
theorem dX9_isSame_16 : decode cX9_isSame 16 = .ok (.ireturn, 1) := by decide +kernel
theorem dX9_isSame_17 : decode cX9_isSame 17 = .ok (.iconst 0, 1) := by decide +kernel
theorem dX9_isSame_18 : decode cX9_isSame 18 = .ok (.istore_n 3, 1) := by decide +kernel
theorem dX9_isSame_19 : decode cX9_isSame 19 = .ok (.iload_n 3, 1) := by decide +kernel
theorem dX9_isSame_20 : decode cX9_isSame 20 = .ok (.iconst 2, 1) := by decide +kernel
theorem dX9_isSame_21 : decode cX9_isSame 21 = .ok (.if_icmp .ge 180, 3) := by decide +kernel
theorem dX9_isSame_24 : decode cX9_isSame 24 = .ok (.aload_n 0, 1) := by decide +kernel
theorem dX9_isSame_25 : decode cX9_isSame 25 = .ok (.getfield 70, 3) := by decide +kernel
theorem dX9_isSame_28 : decode cX9_isSame 28 = .ok (.aload_n 0, 1) := by decide +kernel
theorem dX9_isSame_29 : decode cX9_isSame 29 = .ok (.getfield 64, 3) := by decide +kernel
theorem dX9_isSame_32 : decode cX9_isSame 32 = .ok (.bipush 120, 2) := by decide +kernel
theorem dX9_isSame_34 : decode cX9_isSame 34 = .ok (.iload_n 3, 1) := by decide +kernel
theorem dX9_isSame_35 : decode cX9_isSame 35 = .ok (.imul, 1) := by decide +kernel
theorem dX9_isSame_36 : decode cX9_isSame 36 = .ok (.iload_n 1, 1) := by decide +kernel
theorem dX9_isSame_37 : decode cX9_isSame 37 = .ok (.iadd, 1) := by decide +kernel
theorem dX9_isSame_38 : decode cX9_isSame 38 = .ok (.iaload, 1) := by decide +kernel
theorem dX9_isSame_39 : decode cX9_isSame 39 = .ok (.iaload, 1) := by decide +kernel
theorem dX9_isSame_40 : decode cX9_isSame 40 = .ok (.aload_n 0, 1) := by decide +kernel
theorem dX9_isSame_41 : decode cX9_isSame 41 = .ok (.getfield 70, 3) := by decide +kernel
theorem dX9_isSame_44 : decode cX9_isSame 44 = .ok (.aload_n 0, 1) := by decide +kernel
theorem dX9_isSame_45 : decode cX9_isSame 45 = .ok (.getfield 64, 3) := by decide +kernel
theorem dX9_isSame_48 : decode cX9_isSame 48 = .ok (.bipush 120, 2) := by decide +kernel
theorem dX9_isSame_50 : decode cX9_isSame 50 = .ok (.iload_n 3, 1) := by decide +kernel
theorem dX9_isSame_51 : decode cX9_isSame 51 = .ok (.imul, 1) := by decide +kernel
theorem dX9_isSame_52 : decode cX9_isSame 52 = .ok (.iload_n 2, 1) := by decide +kernel
theorem dX9_isSame_53 : decode cX9_isSame 53 = .ok (.iadd, 1) := by decide +kernel
theorem dX9_isSame_54 : decode cX9_isSame 54 = .ok (.iaload, 1) := by decide +kernel
theorem dX9_isSame_55 : decode cX9_isSame 55 = .ok (.iaload, 1) := by decide +kernel
theorem dX9_isSame_56 : decode cX9_isSame 56 = .ok (.if_icmp .eq 5, 3) := by decide +kernel
theorem dX9_isSame_59 : decode cX9_isSame 59 = .ok (.iconst 0, 1) := by decide +kernel
theorem dX9_isSame_60 : decode cX9_isSame 60 = .ok (.ireturn, 1) := by decide +kernel
theorem dX9_isSame_61 : decode cX9_isSame 61 = .ok (.iconst 0, 1) := by decide +kernel
theorem dX9_isSame_62 : decode cX9_isSame 62 = .ok (.istore 4, 2) := by decide +kernel
theorem dX9_isSame_64 : decode cX9_isSame 64 = .ok (.iload 4, 2) := by decide +kernel
theorem dX9_isSame_66 : decode cX9_isSame 66 = .ok (.aload_n 0, 1) := by decide +kernel
theorem dX9_isSame_67 : decode cX9_isSame 67 = .ok (.getfield 173, 3) := by decide +kernel
theorem dX9_isSame_70 : decode cX9_isSame 70 = .ok (.if_icmp .ge 125, 3) := by decide +kernel
theorem dX9_isSame_73 : decode cX9_isSame 73 = .ok (.sipush 14400, 3) := by decide +kernel
theorem dX9_isSame_76 : decode cX9_isSame 76 = .ok (.iload_n 3, 1) := by decide +kernel
theorem dX9_isSame_77 : decode cX9_isSame 77 = .ok (.imul, 1) := by decide +kernel
theorem dX9_isSame_78 : decode cX9_isSame 78 = .ok (.bipush 120, 2) := by decide +kernel
theorem dX9_isSame_80 : decode cX9_isSame 80 = .ok (.iload_n 1, 1) := by decide +kernel
theorem dX9_isSame_81 : decode cX9_isSame 81 = .ok (.imul, 1) := by decide +kernel
theorem dX9_isSame_82 : decode cX9_isSame 82 = .ok (.iadd, 1) := by decide +kernel
theorem dX9_isSame_83 : decode cX9_isSame 83 = .ok (.iload 4, 2) := by decide +kernel
theorem dX9_isSame_85 : decode cX9_isSame 85 = .ok (.iadd, 1) := by decide +kernel
theorem dX9_isSame_86 : decode cX9_isSame 86 = .ok (.istore 5, 2) := by decide +kernel
theorem dX9_isSame_88 : decode cX9_isSame 88 = .ok (.sipush 14400, 3) := by decide +kernel
theorem dX9_isSame_91 : decode cX9_isSame 91 = .ok (.iload_n 3, 1) := by decide +kernel
theorem dX9_isSame_92 : decode cX9_isSame 92 = .ok (.imul, 1) := by decide +kernel
theorem dX9_isSame_93 : decode cX9_isSame 93 = .ok (.bipush 120, 2) := by decide +kernel
theorem dX9_isSame_95 : decode cX9_isSame 95 = .ok (.iload_n 2, 1) := by decide +kernel
theorem dX9_isSame_96 : decode cX9_isSame 96 = .ok (.imul, 1) := by decide +kernel
theorem dX9_isSame_97 : decode cX9_isSame 97 = .ok (.iadd, 1) := by decide +kernel
theorem dX9_isSame_98 : decode cX9_isSame 98 = .ok (.iload 4, 2) := by decide +kernel
theorem dX9_isSame_100 : decode cX9_isSame 100 = .ok (.iadd, 1) := by decide +kernel
theorem dX9_isSame_101 : decode cX9_isSame 101 = .ok (.istore 6, 2) := by decide +kernel
theorem dX9_isSame_103 : decode cX9_isSame 103 = .ok (.sipush 14400, 3) := by decide +kernel
theorem dX9_isSame_106 : decode cX9_isSame 106 = .ok (.iload_n 3, 1) := by decide +kernel
theorem dX9_isSame_107 : decode cX9_isSame 107 = .ok (.imul, 1) := by decide +kernel
theorem dX9_isSame_108 : decode cX9_isSame 108 = .ok (.bipush 120, 2) := by decide +kernel
theorem dX9_isSame_110 : decode cX9_isSame 110 = .ok (.iload 4, 2) := by decide +kernel
theorem dX9_isSame_112 : decode cX9_isSame 112 = .ok (.imul, 1) := by decide +kernel
theorem dX9_isSame_113 : decode cX9_isSame 113 = .ok (.iadd, 1) := by decide +kernel
theorem dX9_isSame_114 : decode cX9_isSame 114 = .ok (.iload_n 1, 1) := by decide +kernel
theorem dX9_isSame_115 : decode cX9_isSame 115 = .ok (.iadd, 1) := by decide +kernel
theorem dX9_isSame_116 : decode cX9_isSame 116 = .ok (.istore 7, 2) := by decide +kernel
theorem dX9_isSame_118 : decode cX9_isSame 118 = .ok (.sipush 14400, 3) := by decide +kernel
theorem dX9_isSame_121 : decode cX9_isSame 121 = .ok (.iload_n 3, 1) := by decide +kernel
theorem dX9_isSame_122 : decode cX9_isSame 122 = .ok (.imul, 1) := by decide +kernel
theorem dX9_isSame_123 : decode cX9_isSame 123 = .ok (.bipush 120, 2) := by decide +kernel
theorem dX9_isSame_125 : decode cX9_isSame 125 = .ok (.iload 4, 2) := by decide +kernel
theorem dX9_isSame_127 : decode cX9_isSame 127 = .ok (.imul, 1) := by decide +kernel
theorem dX9_isSame_128 : decode cX9_isSame 128 = .ok (.iadd, 1) := by decide +kernel
theorem dX9_isSame_129 : decode cX9_isSame 129 = .ok (.iload_n 2, 1) := by decide +kernel
theorem dX9_isSame_130 : decode cX9_isSame 130 = .ok (.iadd, 1) := by decide +kernel
theorem dX9_isSame_131 : decode cX9_isSame 131 = .ok (.istore 8, 2) := by decide +kernel
theorem dX9_isSame_133 : decode cX9_isSame 133 = .ok (.aload_n 0, 1) := by decide +kernel
theorem dX9_isSame_134 : decode cX9_isSame 134 = .ok (.getfield 70, 3) := by decide +kernel
theorem dX9_isSame_137 : decode cX9_isSame 137 = .ok (.aload_n 0, 1) := by decide +kernel
theorem dX9_isSame_138 : decode cX9_isSame 138 = .ok (.getfield 67, 3) := by decide +kernel
theorem dX9_isSame_141 : decode cX9_isSame 141 = .ok (.iload 5, 2) := by decide +kernel
theorem dX9_isSame_143 : decode cX9_isSame 143 = .ok (.iaload, 1) := by decide +kernel
theorem dX9_isSame_144 : decode cX9_isSame 144 = .ok (.iaload, 1) := by decide +kernel
theorem dX9_isSame_145 : decode cX9_isSame 145 = .ok (.aload_n 0, 1) := by decide +kernel
theorem dX9_isSame_146 : decode cX9_isSame 146 = .ok (.getfield 70, 3) := by decide +kernel
theorem dX9_isSame_149 : decode cX9_isSame 149 = .ok (.aload_n 0, 1) := by decide +kernel
theorem dX9_isSame_150 : decode cX9_isSame 150 = .ok (.getfield 67, 3) := by decide +kernel
theorem dX9_isSame_153 : decode cX9_isSame 153 = .ok (.iload 6, 2) := by decide +kernel
theorem dX9_isSame_155 : decode cX9_isSame 155 = .ok (.iaload, 1) := by decide +kernel
theorem dX9_isSame_156 : decode cX9_isSame 156 = .ok (.iaload, 1) := by decide +kernel
theorem dX9_isSame_157 : decode cX9_isSame 157 = .ok (.if_icmp .ne 30, 3) := by decide +kernel
theorem dX9_isSame_160 : decode cX9_isSame 160 = .ok (.aload_n 0, 1) := by decide +kernel
theorem dX9_isSame_161 : decode cX9_isSame 161 = .ok (.getfield 70, 3) := by decide +kernel
theorem dX9_isSame_164 : decode cX9_isSame 164 = .ok (.aload_n 0, 1) := by decide +kernel
theorem dX9_isSame_165 : decode cX9_isSame 165 = .ok (.getfield 67, 3) := by decide +kernel
theorem dX9_isSame_168 : decode cX9_isSame 168 = .ok (.iload 7, 2) := by decide +kernel
theorem dX9_isSame_170 : decode cX9_isSame 170 = .ok (.iaload, 1) := by decide +kernel
theorem dX9_isSame_171 : decode cX9_isSame 171 = .ok (.iaload, 1) := by decide +kernel
theorem dX9_isSame_172 : decode cX9_isSame 172 = .ok (.aload_n 0, 1) := by decide +kernel
theorem dX9_isSame_173 : decode cX9_isSame 173 = .ok (.getfield 70, 3) := by decide +kernel
theorem dX9_isSame_176 : decode cX9_isSame 176 = .ok (.aload_n 0, 1) := by decide +kernel
theorem dX9_isSame_177 : decode cX9_isSame 177 = .ok (.getfield 67, 3) := by decide +kernel
theorem dX9_isSame_180 : decode cX9_isSame 180 = .ok (.iload 8, 2) := by decide +kernel
theorem dX9_isSame_182 : decode cX9_isSame 182 = .ok (.iaload, 1) := by decide +kernel
theorem dX9_isSame_183 : decode cX9_isSame 183 = .ok (.iaload, 1) := by decide +kernel
theorem dX9_isSame_184 : decode cX9_isSame 184 = .ok (.if_icmp .eq 5, 3) := by decide +kernel
theorem dX9_isSame_187 : decode cX9_isSame 187 = .ok (.iconst 0, 1) := by decide +kernel
theorem dX9_isSame_188 : decode cX9_isSame 188 = .ok (.ireturn, 1) := by decide +kernel
theorem dX9_isSame_189 : decode cX9_isSame 189 = .ok (.iinc 4 1, 3) := by decide +kernel
theorem dX9_isSame_192 : decode cX9_isSame 192 = .ok (.goto (-128), 3) := by decide +kernel
theorem dX9_isSame_195 : decode cX9_isSame 195 = .ok (.iinc 3 1, 3) := by decide +kernel
theorem dX9_isSame_198 : decode cX9_isSame 198 = .ok (.goto (-179), 3) := by decide +kernel
theorem dX9_isSame_201 : decode cX9_isSame 201 = .ok (.iconst 1, 1) := by decide +kernel
theorem dX9_isSame_202 : decode cX9_isSame 202 = .ok (.ireturn, 1) := by decide +kernel
theorem dX9_classes_0 : decode cX9_classes 0 = .ok (.aload_n 0, 1) := by decide +kernel
theorem dX9_classes_1 : decode cX9_classes 1 = .ok (.invokevirtual 191, 3) := by decide +kernel
theorem dX9_classes_4 : decode cX9_classes 4 = .ok (.iconst 0, 1) := by decide +kernel
theorem dX9_classes_5 : decode cX9_classes 5 = .ok (.istore_n 1, 1) := by decide +kernel
theorem dX9_classes_6 : decode cX9_classes 6 = .ok (.iload_n 1, 1) := by decide +kernel
theorem dX9_classes_7 : decode cX9_classes 7 = .ok (.aload_n 0, 1) := by decide +kernel
theorem dX9_classes_8 : decode cX9_classes 8 = .ok (.getfield 173, 3) := by decide +kernel
theorem dX9_classes_11 : decode cX9_classes 11 = .ok (.if_icmp .ge 28, 3) := by decide +kernel
theorem dX9_classes_14 : decode cX9_classes 14 = .ok (.aload_n 0, 1) := by decide +kernel
theorem dX9_classes_15 : decode cX9_classes 15 = .ok (.getfield 70, 3) := by decide +kernel
theorem dX9_classes_18 : decode cX9_classes 18 = .ok (.iload_n 1, 1) := by decide +kernel
theorem dX9_classes_19 : decode cX9_classes 19 = .ok (.aload_n 0, 1) := by decide +kernel
theorem dX9_classes_20 : decode cX9_classes 20 = .ok (.iload_n 1, 1) := by decide +kernel
theorem dX9_classes_21 : decode cX9_classes 21 = .ok (.invokevirtual 194, 3) := by decide +kernel
theorem dX9_classes_24 : decode cX9_classes 24 = .ok (.ifCond .eq 7, 3) := by decide +kernel
theorem dX9_classes_27 : decode cX9_classes 27 = .ok (.iconst 1, 1) := by decide +kernel
theorem dX9_classes_28 : decode cX9_classes 28 = .ok (.goto 4, 3) := by decide +kernel
theorem dX9_classes_31 : decode cX9_classes 31 = .ok (.iconst 0, 1) := by decide +kernel
theorem dX9_classes_32 : decode cX9_classes 32 = .ok (.iastore, 1) := by decide +kernel
theorem dX9_classes_33 : decode cX9_classes 33 = .ok (.iinc 1 1, 3) := by decide +kernel
theorem dX9_classes_36 : decode cX9_classes 36 = .ok (.goto (-30), 3) := by decide +kernel
theorem dX9_classes_39 : decode cX9_classes 39 = .ok (.iconst 0, 1) := by decide +kernel
theorem dX9_classes_40 : decode cX9_classes 40 = .ok (.istore_n 1, 1) := by decide +kernel
theorem dX9_classes_41 : decode cX9_classes 41 = .ok (.iconst 1, 1) := by decide +kernel
theorem dX9_classes_42 : decode cX9_classes 42 = .ok (.istore_n 2, 1) := by decide +kernel
theorem dX9_classes_43 : decode cX9_classes 43 = .ok (.iload_n 2, 1) := by decide +kernel
theorem dX9_classes_44 : decode cX9_classes 44 = .ok (.iload_n 1, 1) := by decide +kernel
theorem dX9_classes_45 : decode cX9_classes 45 = .ok (.if_icmp .eq 110, 3) := by decide +kernel
theorem dX9_classes_48 : decode cX9_classes 48 = .ok (.iload_n 2, 1) := by decide +kernel
theorem dX9_classes_49 : decode cX9_classes 49 = .ok (.istore_n 1, 1) := by decide +kernel
theorem dX9_classes_50 : decode cX9_classes 50 = .ok (.iconst 0, 1) := by decide +kernel
theorem dX9_classes_51 : decode cX9_classes 51 = .ok (.istore_n 2, 1) := by decide +kernel
theorem dX9_classes_52 : decode cX9_classes 52 = .ok (.iconst 0, 1) := by decide +kernel
theorem dX9_classes_53 : decode cX9_classes 53 = .ok (.istore_n 3, 1) := by decide +kernel
theorem dX9_classes_54 : decode cX9_classes 54 = .ok (.iload_n 3, 1) := by decide +kernel
theorem dX9_classes_55 : decode cX9_classes 55 = .ok (.aload_n 0, 1) := by decide +kernel
theorem dX9_classes_56 : decode cX9_classes 56 = .ok (.getfield 173, 3) := by decide +kernel
theorem dX9_classes_59 : decode cX9_classes 59 = .ok (.if_icmp .ge 65, 3) := by decide +kernel
theorem dX9_classes_62 : decode cX9_classes 62 = .ok (.iconst 0, 1) := by decide +kernel
theorem dX9_classes_63 : decode cX9_classes 63 = .ok (.istore 4, 2) := by decide +kernel
theorem dX9_classes_65 : decode cX9_classes 65 = .ok (.aload_n 0, 1) := by decide +kernel
theorem dX9_classes_66 : decode cX9_classes 66 = .ok (.iload_n 3, 1) := by decide +kernel
theorem dX9_classes_67 : decode cX9_classes 67 = .ok (.iload 4, 2) := by decide +kernel
theorem dX9_classes_69 : decode cX9_classes 69 = .ok (.invokevirtual 197, 3) := by decide +kernel
theorem dX9_classes_72 : decode cX9_classes 72 = .ok (.ifCond .ne 9, 3) := by decide +kernel
theorem dX9_classes_75 : decode cX9_classes 75 = .ok (.iinc 4 1, 3) := by decide +kernel
theorem dX9_classes_78 : decode cX9_classes 78 = .ok (.goto (-13), 3) := by decide +kernel
theorem dX9_classes_81 : decode cX9_classes 81 = .ok (.aload_n 0, 1) := by decide +kernel
theorem dX9_classes_82 : decode cX9_classes 82 = .ok (.getfield 73, 3) := by decide +kernel
theorem dX9_classes_85 : decode cX9_classes 85 = .ok (.iload_n 3, 1) := by decide +kernel
theorem dX9_classes_86 : decode cX9_classes 86 = .ok (.iload 4, 2) := by decide +kernel
theorem dX9_classes_88 : decode cX9_classes 88 = .ok (.iload_n 3, 1) := by decide +kernel
theorem dX9_classes_89 : decode cX9_classes 89 = .ok (.if_icmp .ne 7, 3) := by decide +kernel
theorem dX9_classes_92 : decode cX9_classes 92 = .ok (.iload_n 2, 1) := by decide +kernel
theorem dX9_classes_93 : decode cX9_classes 93 = .ok (.goto 10, 3) := by decide +kernel
theorem dX9_classes_96 : decode cX9_classes 96 = .ok (.aload_n 0, 1) := by decide +kernel
theorem dX9_classes_97 : decode cX9_classes 97 = .ok (.getfield 73, 3) := by decide +kernel
theorem dX9_classes_100 : decode cX9_classes 100 = .ok (.iload 4, 2) := by decide +kernel
theorem dX9_classes_102 : decode cX9_classes 102 = .ok (.iaload, 1) := by decide +kernel
theorem dX9_classes_103 : decode cX9_classes 103 = .ok (.iastore, 1) := by decide +kernel
theorem dX9_classes_104 : decode cX9_classes 104 = .ok (.iload_n 2, 1) := by decide +kernel
theorem dX9_classes_105 : decode cX9_classes 105 = .ok (.iload 4, 2) := by decide +kernel
theorem dX9_classes_107 : decode cX9_classes 107 = .ok (.iload_n 3, 1) := by decide +kernel
theorem dX9_classes_108 : decode cX9_classes 108 = .ok (.if_icmp .ne 7, 3) := by decide +kernel
theorem dX9_classes_111 : decode cX9_classes 111 = .ok (.iconst 1, 1) := by decide +kernel
theorem dX9_classes_112 : decode cX9_classes 112 = .ok (.goto 4, 3) := by decide +kernel
theorem dX9_classes_115 : decode cX9_classes 115 = .ok (.iconst 0, 1) := by decide +kernel
theorem dX9_classes_116 : decode cX9_classes 116 = .ok (.iadd, 1) := by decide +kernel
theorem dX9_classes_117 : decode cX9_classes 117 = .ok (.istore_n 2, 1) := by decide +kernel
theorem dX9_classes_118 : decode cX9_classes 118 = .ok (.iinc 3 1, 3) := by decide +kernel
theorem dX9_classes_121 : decode cX9_classes 121 = .ok (.goto (-67), 3) := by decide +kernel
theorem dX9_classes_124 : decode cX9_classes 124 = .ok (.iconst 0, 1) := by decide +kernel
theorem dX9_classes_125 : decode cX9_classes 125 = .ok (.istore_n 3, 1) := by decide +kernel
theorem dX9_classes_126 : decode cX9_classes 126 = .ok (.iload_n 3, 1) := by decide +kernel
theorem dX9_classes_127 : decode cX9_classes 127 = .ok (.aload_n 0, 1) := by decide +kernel
theorem dX9_classes_128 : decode cX9_classes 128 = .ok (.getfield 173, 3) := by decide +kernel
theorem dX9_classes_131 : decode cX9_classes 131 = .ok (.if_icmp .ge 21, 3) := by decide +kernel
theorem dX9_classes_134 : decode cX9_classes 134 = .ok (.aload_n 0, 1) := by decide +kernel
theorem dX9_classes_135 : decode cX9_classes 135 = .ok (.getfield 70, 3) := by decide +kernel
theorem dX9_classes_138 : decode cX9_classes 138 = .ok (.iload_n 3, 1) := by decide +kernel
theorem dX9_classes_139 : decode cX9_classes 139 = .ok (.aload_n 0, 1) := by decide +kernel
theorem dX9_classes_140 : decode cX9_classes 140 = .ok (.getfield 73, 3) := by decide +kernel
theorem dX9_classes_143 : decode cX9_classes 143 = .ok (.iload_n 3, 1) := by decide +kernel
theorem dX9_classes_144 : decode cX9_classes 144 = .ok (.iaload, 1) := by decide +kernel
theorem dX9_classes_145 : decode cX9_classes 145 = .ok (.iastore, 1) := by decide +kernel
theorem dX9_classes_146 : decode cX9_classes 146 = .ok (.iinc 3 1, 3) := by decide +kernel
theorem dX9_classes_149 : decode cX9_classes 149 = .ok (.goto (-23), 3) := by decide +kernel
theorem dX9_classes_152 : decode cX9_classes 152 = .ok (.goto (-109), 3) := by decide +kernel
theorem dX9_classes_155 : decode cX9_classes 155 = .ok (.iload_n 2, 1) := by decide +kernel
theorem dX9_classes_156 : decode cX9_classes 156 = .ok (.ireturn, 1) := by decide +kernel
theorem dX9_useful_0 : decode cX9_useful 0 = .ok (.aload_n 0, 1) := by decide +kernel
theorem dX9_useful_1 : decode cX9_useful 1 = .ok (.invokevirtual 191, 3) := by decide +kernel
theorem dX9_useful_4 : decode cX9_useful 4 = .ok (.iconst 0, 1) := by decide +kernel
theorem dX9_useful_5 : decode cX9_useful 5 = .ok (.istore_n 1, 1) := by decide +kernel
theorem dX9_useful_6 : decode cX9_useful 6 = .ok (.iconst 0, 1) := by decide +kernel
theorem dX9_useful_7 : decode cX9_useful 7 = .ok (.istore_n 2, 1) := by decide +kernel
theorem dX9_useful_8 : decode cX9_useful 8 = .ok (.iload_n 2, 1) := by decide +kernel
theorem dX9_useful_9 : decode cX9_useful 9 = .ok (.aload_n 0, 1) := by decide +kernel
theorem dX9_useful_10 : decode cX9_useful 10 = .ok (.getfield 173, 3) := by decide +kernel
theorem dX9_useful_13 : decode cX9_useful 13 = .ok (.if_icmp .ge 18, 3) := by decide +kernel
theorem dX9_useful_16 : decode cX9_useful 16 = .ok (.iload_n 1, 1) := by decide +kernel
theorem dX9_useful_17 : decode cX9_useful 17 = .ok (.aload_n 0, 1) := by decide +kernel
theorem dX9_useful_18 : decode cX9_useful 18 = .ok (.getfield 55, 3) := by decide +kernel
theorem dX9_useful_21 : decode cX9_useful 21 = .ok (.iload_n 2, 1) := by decide +kernel
theorem dX9_useful_22 : decode cX9_useful 22 = .ok (.iaload, 1) := by decide +kernel
theorem dX9_useful_23 : decode cX9_useful 23 = .ok (.ior, 1) := by decide +kernel
theorem dX9_useful_24 : decode cX9_useful 24 = .ok (.istore_n 1, 1) := by decide +kernel
theorem dX9_useful_25 : decode cX9_useful 25 = .ok (.iinc 2 1, 3) := by decide +kernel
theorem dX9_useful_28 : decode cX9_useful 28 = .ok (.goto (-20), 3) := by decide +kernel
theorem dX9_useful_31 : decode cX9_useful 31 = .ok (.iload_n 1, 1) := by decide +kernel
theorem dX9_useful_32 : decode cX9_useful 32 = .ok (.aload_n 0, 1) := by decide +kernel
theorem dX9_useful_33 : decode cX9_useful 33 = .ok (.getfield 29, 3) := by decide +kernel
theorem dX9_useful_36 : decode cX9_useful 36 = .ok (.iconst 1, 1) := by decide +kernel
theorem dX9_useful_37 : decode cX9_useful 37 = .ok (.iaload, 1) := by decide +kernel
theorem dX9_useful_38 : decode cX9_useful 38 = .ok (.iand, 1) := by decide +kernel
theorem dX9_useful_39 : decode cX9_useful 39 = .ok (.istore_n 2, 1) := by decide +kernel
theorem dX9_useful_40 : decode cX9_useful 40 = .ok (.iconst (-1), 1) := by decide +kernel
theorem dX9_useful_41 : decode cX9_useful 41 = .ok (.istore_n 3, 1) := by decide +kernel
theorem dX9_useful_42 : decode cX9_useful 42 = .ok (.iload_n 2, 1) := by decide +kernel
theorem dX9_useful_43 : decode cX9_useful 43 = .ok (.iload_n 3, 1) := by decide +kernel
theorem dX9_useful_44 : decode cX9_useful 44 = .ok (.if_icmp .eq 168, 3) := by decide +kernel
theorem dX9_useful_47 : decode cX9_useful 47 = .ok (.iload_n 2, 1) := by decide +kernel
theorem dX9_useful_48 : decode cX9_useful 48 = .ok (.istore_n 3, 1) := by decide +kernel
theorem dX9_useful_49 : decode cX9_useful 49 = .ok (.iconst 0, 1) := by decide +kernel
theorem dX9_useful_50 : decode cX9_useful 50 = .ok (.istore 4, 2) := by decide +kernel
theorem dX9_useful_52 : decode cX9_useful 52 = .ok (.iload 4, 2) := by decide +kernel
theorem dX9_useful_54 : decode cX9_useful 54 = .ok (.aload_n 0, 1) := by decide +kernel
theorem dX9_useful_55 : decode cX9_useful 55 = .ok (.getfield 13, 3) := by decide +kernel
theorem dX9_useful_58 : decode cX9_useful 58 = .ok (.iconst 0, 1) := by decide +kernel
theorem dX9_useful_59 : decode cX9_useful 59 = .ok (.iaload, 1) := by decide +kernel
theorem dX9_useful_60 : decode cX9_useful 60 = .ok (.if_icmp .ge 149, 3) := by decide +kernel
theorem dX9_useful_63 : decode cX9_useful 63 = .ok (.aload_n 0, 1) := by decide +kernel
theorem dX9_useful_64 : decode cX9_useful 64 = .ok (.getfield 17, 3) := by decide +kernel
theorem dX9_useful_67 : decode cX9_useful 67 = .ok (.iload 4, 2) := by decide +kernel
theorem dX9_useful_69 : decode cX9_useful 69 = .ok (.iaload, 1) := by decide +kernel
theorem dX9_useful_70 : decode cX9_useful 70 = .ok (.invokestatic 125, 3) := by decide +kernel
theorem dX9_useful_73 : decode cX9_useful 73 = .ok (.istore 5, 2) := by decide +kernel
theorem dX9_useful_75 : decode cX9_useful 75 = .ok (.aload_n 0, 1) := by decide +kernel
theorem dX9_useful_76 : decode cX9_useful 76 = .ok (.getfield 29, 3) := by decide +kernel
theorem dX9_useful_79 : decode cX9_useful 79 = .ok (.iconst 0, 1) := by decide +kernel
theorem dX9_useful_80 : decode cX9_useful 80 = .ok (.iaload, 1) := by decide +kernel
theorem dX9_useful_81 : decode cX9_useful 81 = .ok (.iload 4, 2) := by decide +kernel
theorem dX9_useful_83 : decode cX9_useful 83 = .ok (.invokestatic 145, 3) := by decide +kernel
theorem dX9_useful_86 : decode cX9_useful 86 = .ok (.ifCond .eq 61, 3) := by decide +kernel
theorem dX9_useful_89 : decode cX9_useful 89 = .ok (.iload_n 2, 1) := by decide +kernel
theorem dX9_useful_90 : decode cX9_useful 90 = .ok (.aload_n 0, 1) := by decide +kernel
theorem dX9_useful_91 : decode cX9_useful 91 = .ok (.getfield 26, 3) := by decide +kernel
theorem dX9_useful_94 : decode cX9_useful 94 = .ok (.iload 4, 2) := by decide +kernel
theorem dX9_useful_96 : decode cX9_useful 96 = .ok (.iaload, 1) := by decide +kernel
theorem dX9_useful_97 : decode cX9_useful 97 = .ok (.invokestatic 145, 3) := by decide +kernel
theorem dX9_useful_100 : decode cX9_useful 100 = .ok (.ifCond .eq 47, 3) := by decide +kernel
theorem dX9_useful_103 : decode cX9_useful 103 = .ok (.iload 5, 2) := by decide +kernel
theorem dX9_useful_105 : decode cX9_useful 105 = .ok (.iconst 1, 1) := by decide +kernel
theorem dX9_useful_106 : decode cX9_useful 106 = .ok (.if_icmp .lt 17, 3) := by decide +kernel
theorem dX9_useful_109 : decode cX9_useful 109 = .ok (.iload_n 1, 1) := by decide +kernel
theorem dX9_useful_110 : decode cX9_useful 110 = .ok (.aload_n 0, 1) := by decide +kernel
theorem dX9_useful_111 : decode cX9_useful 111 = .ok (.getfield 20, 3) := by decide +kernel
theorem dX9_useful_114 : decode cX9_useful 114 = .ok (.iload 4, 2) := by decide +kernel
theorem dX9_useful_116 : decode cX9_useful 116 = .ok (.iaload, 1) := by decide +kernel
theorem dX9_useful_117 : decode cX9_useful 117 = .ok (.invokestatic 145, 3) := by decide +kernel
theorem dX9_useful_120 : decode cX9_useful 120 = .ok (.ifCond .eq 27, 3) := by decide +kernel
theorem dX9_useful_123 : decode cX9_useful 123 = .ok (.iload 5, 2) := by decide +kernel
theorem dX9_useful_125 : decode cX9_useful 125 = .ok (.iconst 2, 1) := by decide +kernel
theorem dX9_useful_126 : decode cX9_useful 126 = .ok (.if_icmp .lt 17, 3) := by decide +kernel
theorem dX9_useful_129 : decode cX9_useful 129 = .ok (.iload_n 1, 1) := by decide +kernel
theorem dX9_useful_130 : decode cX9_useful 130 = .ok (.aload_n 0, 1) := by decide +kernel
theorem dX9_useful_131 : decode cX9_useful 131 = .ok (.getfield 23, 3) := by decide +kernel
theorem dX9_useful_134 : decode cX9_useful 134 = .ok (.iload 4, 2) := by decide +kernel
theorem dX9_useful_136 : decode cX9_useful 136 = .ok (.iaload, 1) := by decide +kernel
theorem dX9_useful_137 : decode cX9_useful 137 = .ok (.invokestatic 145, 3) := by decide +kernel
theorem dX9_useful_140 : decode cX9_useful 140 = .ok (.ifCond .eq 7, 3) := by decide +kernel
theorem dX9_useful_143 : decode cX9_useful 143 = .ok (.iconst 1, 1) := by decide +kernel
theorem dX9_useful_144 : decode cX9_useful 144 = .ok (.goto 4, 3) := by decide +kernel
theorem dX9_useful_147 : decode cX9_useful 147 = .ok (.iconst 0, 1) := by decide +kernel
theorem dX9_useful_148 : decode cX9_useful 148 = .ok (.istore 6, 2) := by decide +kernel
theorem dX9_useful_150 : decode cX9_useful 150 = .ok (.iload_n 2, 1) := by decide +kernel
theorem dX9_useful_151 : decode cX9_useful 151 = .ok (.iload 6, 2) := by decide +kernel
theorem dX9_useful_153 : decode cX9_useful 153 = .ok (.ifCond .eq 20, 3) := by decide +kernel
theorem dX9_useful_156 : decode cX9_useful 156 = .ok (.iload 5, 2) := by decide +kernel
theorem dX9_useful_158 : decode cX9_useful 158 = .ok (.ifCond .le 15, 3) := by decide +kernel
theorem dX9_useful_161 : decode cX9_useful 161 = .ok (.iconst 1, 1) := by decide +kernel
theorem dX9_useful_162 : decode cX9_useful 162 = .ok (.aload_n 0, 1) := by decide +kernel
theorem dX9_useful_163 : decode cX9_useful 163 = .ok (.getfield 20, 3) := by decide +kernel
theorem dX9_useful_166 : decode cX9_useful 166 = .ok (.iload 4, 2) := by decide +kernel
theorem dX9_useful_168 : decode cX9_useful 168 = .ok (.iaload, 1) := by decide +kernel
theorem dX9_useful_169 : decode cX9_useful 169 = .ok (.ishl, 1) := by decide +kernel
theorem dX9_useful_170 : decode cX9_useful 170 = .ok (.goto 4, 3) := by decide +kernel
theorem dX9_useful_173 : decode cX9_useful 173 = .ok (.iconst 0, 1) := by decide +kernel
theorem dX9_useful_174 : decode cX9_useful 174 = .ok (.ior, 1) := by decide +kernel
theorem dX9_useful_175 : decode cX9_useful 175 = .ok (.istore_n 2, 1) := by decide +kernel
theorem dX9_useful_176 : decode cX9_useful 176 = .ok (.iload_n 2, 1) := by decide +kernel
theorem dX9_useful_177 : decode cX9_useful 177 = .ok (.iload 6, 2) := by decide +kernel
theorem dX9_useful_179 : decode cX9_useful 179 = .ok (.ifCond .eq 21, 3) := by decide +kernel
theorem dX9_useful_182 : decode cX9_useful 182 = .ok (.iload 5, 2) := by decide +kernel
theorem dX9_useful_184 : decode cX9_useful 184 = .ok (.iconst 1, 1) := by decide +kernel
theorem dX9_useful_185 : decode cX9_useful 185 = .ok (.if_icmp .le 15, 3) := by decide +kernel
theorem dX9_useful_188 : decode cX9_useful 188 = .ok (.iconst 1, 1) := by decide +kernel
theorem dX9_useful_189 : decode cX9_useful 189 = .ok (.aload_n 0, 1) := by decide +kernel
theorem dX9_useful_190 : decode cX9_useful 190 = .ok (.getfield 23, 3) := by decide +kernel
theorem dX9_useful_193 : decode cX9_useful 193 = .ok (.iload 4, 2) := by decide +kernel
theorem dX9_useful_195 : decode cX9_useful 195 = .ok (.iaload, 1) := by decide +kernel
theorem dX9_useful_196 : decode cX9_useful 196 = .ok (.ishl, 1) := by decide +kernel
theorem dX9_useful_197 : decode cX9_useful 197 = .ok (.goto 4, 3) := by decide +kernel
theorem dX9_useful_200 : decode cX9_useful 200 = .ok (.iconst 0, 1) := by decide +kernel
theorem dX9_useful_201 : decode cX9_useful 201 = .ok (.ior, 1) := by decide +kernel
theorem dX9_useful_202 : decode cX9_useful 202 = .ok (.istore_n 2, 1) := by decide +kernel
theorem dX9_useful_203 : decode cX9_useful 203 = .ok (.iinc 4 1, 3) := by decide +kernel
theorem dX9_useful_206 : decode cX9_useful 206 = .ok (.goto (-154), 3) := by decide +kernel
theorem dX9_useful_209 : decode cX9_useful 209 = .ok (.goto (-167), 3) := by decide +kernel
theorem dX9_useful_212 : decode cX9_useful 212 = .ok (.iload_n 2, 1) := by decide +kernel
theorem dX9_useful_213 : decode cX9_useful 213 = .ok (.ireturn, 1) := by decide +kernel
theorem dX9_put_0 : decode cX9_put 0 = .ok (.iconst 0, 1) := by decide +kernel
theorem dX9_put_1 : decode cX9_put 1 = .ok (.istore_n 3, 1) := by decide +kernel
theorem dX9_put_2 : decode cX9_put 2 = .ok (.iload_n 3, 1) := by decide +kernel
theorem dX9_put_3 : decode cX9_put 3 = .ok (.aload_n 0, 1) := by decide +kernel
theorem dX9_put_4 : decode cX9_put 4 = .ok (.getfield 76, 3) := by decide +kernel
theorem dX9_put_7 : decode cX9_put 7 = .ok (.iload_n 2, 1) := by decide +kernel
theorem dX9_put_8 : decode cX9_put 8 = .ok (.iaload, 1) := by decide +kernel
theorem dX9_put_9 : decode cX9_put 9 = .ok (.if_icmp .ge 28, 3) := by decide +kernel
theorem dX9_put_12 : decode cX9_put 12 = .ok (.aload_n 0, 1) := by decide +kernel
theorem dX9_put_13 : decode cX9_put 13 = .ok (.getfield 82, 3) := by decide +kernel
theorem dX9_put_16 : decode cX9_put 16 = .ok (.iload_n 1, 1) := by decide +kernel
theorem dX9_put_17 : decode cX9_put 17 = .ok (.iload_n 3, 1) := by decide +kernel
theorem dX9_put_18 : decode cX9_put 18 = .ok (.iadd, 1) := by decide +kernel
theorem dX9_put_19 : decode cX9_put 19 = .ok (.aload_n 0, 1) := by decide +kernel
theorem dX9_put_20 : decode cX9_put 20 = .ok (.getfield 79, 3) := by decide +kernel
theorem dX9_put_23 : decode cX9_put 23 = .ok (.bipush 31, 2) := by decide +kernel
theorem dX9_put_25 : decode cX9_put 25 = .ok (.iload_n 2, 1) := by decide +kernel
theorem dX9_put_26 : decode cX9_put 26 = .ok (.imul, 1) := by decide +kernel
theorem dX9_put_27 : decode cX9_put 27 = .ok (.iload_n 3, 1) := by decide +kernel
theorem dX9_put_28 : decode cX9_put 28 = .ok (.iadd, 1) := by decide +kernel
theorem dX9_put_29 : decode cX9_put 29 = .ok (.iaload, 1) := by decide +kernel
theorem dX9_put_30 : decode cX9_put 30 = .ok (.iastore, 1) := by decide +kernel
theorem dX9_put_31 : decode cX9_put 31 = .ok (.iinc 3 1, 3) := by decide +kernel
theorem dX9_put_34 : decode cX9_put 34 = .ok (.goto (-32), 3) := by decide +kernel
theorem dX9_put_37 : decode cX9_put 37 = .ok (.return_, 1) := by decide +kernel
theorem dX9_offer_0 : decode cX9_offer 0 = .ok (.aload_n 0, 1) := by decide +kernel
theorem dX9_offer_1 : decode cX9_offer 1 = .ok (.getfield 76, 3) := by decide +kernel
theorem dX9_offer_4 : decode cX9_offer 4 = .ok (.iload_n 1, 1) := by decide +kernel
theorem dX9_offer_5 : decode cX9_offer 5 = .ok (.iaload, 1) := by decide +kernel
theorem dX9_offer_6 : decode cX9_offer 6 = .ok (.ifCond .ne 7, 3) := by decide +kernel
theorem dX9_offer_9 : decode cX9_offer 9 = .ok (.iconst 1, 1) := by decide +kernel
theorem dX9_offer_10 : decode cX9_offer 10 = .ok (.goto 4, 3) := by decide +kernel
theorem dX9_offer_13 : decode cX9_offer 13 = .ok (.iconst 0, 1) := by decide +kernel
theorem dX9_offer_14 : decode cX9_offer 14 = .ok (.istore_n 3, 1) := by decide +kernel
theorem dX9_offer_15 : decode cX9_offer 15 = .ok (.iconst 0, 1) := by decide +kernel
theorem dX9_offer_16 : decode cX9_offer 16 = .ok (.istore 4, 2) := by decide +kernel
theorem dX9_offer_18 : decode cX9_offer 18 = .ok (.iload 4, 2) := by decide +kernel
theorem dX9_offer_20 : decode cX9_offer 20 = .ok (.iload_n 2, 1) := by decide +kernel
theorem dX9_offer_21 : decode cX9_offer 21 = .ok (.if_icmp .ge 62, 3) := by decide +kernel
theorem dX9_offer_24 : decode cX9_offer 24 = .ok (.iload_n 3, 1) := by decide +kernel
theorem dX9_offer_25 : decode cX9_offer 25 = .ok (.ifCond .ne 58, 3) := by decide +kernel
theorem dX9_offer_28 : decode cX9_offer 28 = .ok (.aload_n 0, 1) := by decide +kernel
theorem dX9_offer_29 : decode cX9_offer 29 = .ok (.getfield 76, 3) := by decide +kernel
theorem dX9_offer_32 : decode cX9_offer 32 = .ok (.iload_n 1, 1) := by decide +kernel
theorem dX9_offer_33 : decode cX9_offer 33 = .ok (.iaload, 1) := by decide +kernel
theorem dX9_offer_34 : decode cX9_offer 34 = .ok (.iload_n 2, 1) := by decide +kernel
theorem dX9_offer_35 : decode cX9_offer 35 = .ok (.if_icmp .ne 48, 3) := by decide +kernel
theorem dX9_offer_38 : decode cX9_offer 38 = .ok (.aload_n 0, 1) := by decide +kernel
theorem dX9_offer_39 : decode cX9_offer 39 = .ok (.getfield 82, 3) := by decide +kernel
theorem dX9_offer_42 : decode cX9_offer 42 = .ok (.iload 4, 2) := by decide +kernel
theorem dX9_offer_44 : decode cX9_offer 44 = .ok (.iaload, 1) := by decide +kernel
theorem dX9_offer_45 : decode cX9_offer 45 = .ok (.aload_n 0, 1) := by decide +kernel
theorem dX9_offer_46 : decode cX9_offer 46 = .ok (.getfield 79, 3) := by decide +kernel
theorem dX9_offer_49 : decode cX9_offer 49 = .ok (.bipush 31, 2) := by decide +kernel
theorem dX9_offer_51 : decode cX9_offer 51 = .ok (.iload_n 1, 1) := by decide +kernel
theorem dX9_offer_52 : decode cX9_offer 52 = .ok (.imul, 1) := by decide +kernel
theorem dX9_offer_53 : decode cX9_offer 53 = .ok (.iload 4, 2) := by decide +kernel
theorem dX9_offer_55 : decode cX9_offer 55 = .ok (.iadd, 1) := by decide +kernel
theorem dX9_offer_56 : decode cX9_offer 56 = .ok (.iaload, 1) := by decide +kernel
theorem dX9_offer_57 : decode cX9_offer 57 = .ok (.isub, 1) := by decide +kernel
theorem dX9_offer_58 : decode cX9_offer 58 = .ok (.istore 5, 2) := by decide +kernel
theorem dX9_offer_60 : decode cX9_offer 60 = .ok (.iload 5, 2) := by decide +kernel
theorem dX9_offer_62 : decode cX9_offer 62 = .ok (.ifCond .le 4, 3) := by decide +kernel
theorem dX9_offer_65 : decode cX9_offer 65 = .ok (.return_, 1) := by decide +kernel
theorem dX9_offer_66 : decode cX9_offer 66 = .ok (.iload 5, 2) := by decide +kernel
theorem dX9_offer_68 : decode cX9_offer 68 = .ok (.ifCond .ge 7, 3) := by decide +kernel
theorem dX9_offer_71 : decode cX9_offer 71 = .ok (.iconst 1, 1) := by decide +kernel
theorem dX9_offer_72 : decode cX9_offer 72 = .ok (.goto 4, 3) := by decide +kernel
theorem dX9_offer_75 : decode cX9_offer 75 = .ok (.iconst 0, 1) := by decide +kernel
theorem dX9_offer_76 : decode cX9_offer 76 = .ok (.istore_n 3, 1) := by decide +kernel
theorem dX9_offer_77 : decode cX9_offer 77 = .ok (.iinc 4 1, 3) := by decide +kernel
theorem dX9_offer_80 : decode cX9_offer 80 = .ok (.goto (-62), 3) := by decide +kernel
theorem dX9_offer_83 : decode cX9_offer 83 = .ok (.iload_n 3, 1) := by decide +kernel
theorem dX9_offer_84 : decode cX9_offer 84 = .ok (.ifCond .eq 44, 3) := by decide +kernel
theorem dX9_offer_87 : decode cX9_offer 87 = .ok (.aload_n 0, 1) := by decide +kernel
theorem dX9_offer_88 : decode cX9_offer 88 = .ok (.getfield 76, 3) := by decide +kernel
theorem dX9_offer_91 : decode cX9_offer 91 = .ok (.iload_n 1, 1) := by decide +kernel
theorem dX9_offer_92 : decode cX9_offer 92 = .ok (.iload_n 2, 1) := by decide +kernel
theorem dX9_offer_93 : decode cX9_offer 93 = .ok (.iastore, 1) := by decide +kernel
theorem dX9_offer_94 : decode cX9_offer 94 = .ok (.iconst 0, 1) := by decide +kernel
theorem dX9_offer_95 : decode cX9_offer 95 = .ok (.istore 4, 2) := by decide +kernel
theorem dX9_offer_97 : decode cX9_offer 97 = .ok (.iload 4, 2) := by decide +kernel
theorem dX9_offer_99 : decode cX9_offer 99 = .ok (.iload_n 2, 1) := by decide +kernel
theorem dX9_offer_100 : decode cX9_offer 100 = .ok (.if_icmp .ge 28, 3) := by decide +kernel
theorem dX9_offer_103 : decode cX9_offer 103 = .ok (.aload_n 0, 1) := by decide +kernel
theorem dX9_offer_104 : decode cX9_offer 104 = .ok (.getfield 79, 3) := by decide +kernel
theorem dX9_offer_107 : decode cX9_offer 107 = .ok (.bipush 31, 2) := by decide +kernel
theorem dX9_offer_109 : decode cX9_offer 109 = .ok (.iload_n 1, 1) := by decide +kernel
theorem dX9_offer_110 : decode cX9_offer 110 = .ok (.imul, 1) := by decide +kernel
theorem dX9_offer_111 : decode cX9_offer 111 = .ok (.iload 4, 2) := by decide +kernel
theorem dX9_offer_113 : decode cX9_offer 113 = .ok (.iadd, 1) := by decide +kernel
theorem dX9_offer_114 : decode cX9_offer 114 = .ok (.aload_n 0, 1) := by decide +kernel
theorem dX9_offer_115 : decode cX9_offer 115 = .ok (.getfield 82, 3) := by decide +kernel
theorem dX9_offer_118 : decode cX9_offer 118 = .ok (.iload 4, 2) := by decide +kernel
theorem dX9_offer_120 : decode cX9_offer 120 = .ok (.iaload, 1) := by decide +kernel
theorem dX9_offer_121 : decode cX9_offer 121 = .ok (.iastore, 1) := by decide +kernel
theorem dX9_offer_122 : decode cX9_offer 122 = .ok (.iinc 4 1, 3) := by decide +kernel
theorem dX9_offer_125 : decode cX9_offer 125 = .ok (.goto (-28), 3) := by decide +kernel
theorem dX9_offer_128 : decode cX9_offer 128 = .ok (.return_, 1) := by decide +kernel
theorem dX9_offerTwo_0 : decode cX9_offerTwo 0 = .ok (.iconst 0, 1) := by decide +kernel
theorem dX9_offerTwo_1 : decode cX9_offerTwo 1 = .ok (.istore_n 3, 1) := by decide +kernel
theorem dX9_offerTwo_2 : decode cX9_offerTwo 2 = .ok (.iload_n 3, 1) := by decide +kernel
theorem dX9_offerTwo_3 : decode cX9_offerTwo 3 = .ok (.aload_n 0, 1) := by decide +kernel
theorem dX9_offerTwo_4 : decode cX9_offerTwo 4 = .ok (.getfield 173, 3) := by decide +kernel
theorem dX9_offerTwo_7 : decode cX9_offerTwo 7 = .ok (.if_icmp .ge 114, 3) := by decide +kernel
theorem dX9_offerTwo_10 : decode cX9_offerTwo 10 = .ok (.aload_n 0, 1) := by decide +kernel
theorem dX9_offerTwo_11 : decode cX9_offerTwo 11 = .ok (.getfield 76, 3) := by decide +kernel
theorem dX9_offerTwo_14 : decode cX9_offerTwo 14 = .ok (.iload_n 2, 1) := by decide +kernel
theorem dX9_offerTwo_15 : decode cX9_offerTwo 15 = .ok (.iaload, 1) := by decide +kernel
theorem dX9_offerTwo_16 : decode cX9_offerTwo 16 = .ok (.ifCond .le 99, 3) := by decide +kernel
theorem dX9_offerTwo_19 : decode cX9_offerTwo 19 = .ok (.aload_n 0, 1) := by decide +kernel
theorem dX9_offerTwo_20 : decode cX9_offerTwo 20 = .ok (.getfield 76, 3) := by decide +kernel
theorem dX9_offerTwo_23 : decode cX9_offerTwo 23 = .ok (.iload_n 3, 1) := by decide +kernel
theorem dX9_offerTwo_24 : decode cX9_offerTwo 24 = .ok (.iaload, 1) := by decide +kernel
theorem dX9_offerTwo_25 : decode cX9_offerTwo 25 = .ok (.ifCond .le 90, 3) := by decide +kernel
theorem dX9_offerTwo_28 : decode cX9_offerTwo 28 = .ok (.aload_n 0, 1) := by decide +kernel
theorem dX9_offerTwo_29 : decode cX9_offerTwo 29 = .ok (.getfield 76, 3) := by decide +kernel
theorem dX9_offerTwo_32 : decode cX9_offerTwo 32 = .ok (.iload_n 2, 1) := by decide +kernel
theorem dX9_offerTwo_33 : decode cX9_offerTwo 33 = .ok (.iaload, 1) := by decide +kernel
theorem dX9_offerTwo_34 : decode cX9_offerTwo 34 = .ok (.aload_n 0, 1) := by decide +kernel
theorem dX9_offerTwo_35 : decode cX9_offerTwo 35 = .ok (.getfield 76, 3) := by decide +kernel
theorem dX9_offerTwo_38 : decode cX9_offerTwo 38 = .ok (.iload_n 3, 1) := by decide +kernel
theorem dX9_offerTwo_39 : decode cX9_offerTwo 39 = .ok (.iaload, 1) := by decide +kernel
theorem dX9_offerTwo_40 : decode cX9_offerTwo 40 = .ok (.iadd, 1) := by decide +kernel
theorem dX9_offerTwo_41 : decode cX9_offerTwo 41 = .ok (.iload_n 1, 1) := by decide +kernel
theorem dX9_offerTwo_42 : decode cX9_offerTwo 42 = .ok (.iconst 1, 1) := by decide +kernel
theorem dX9_offerTwo_43 : decode cX9_offerTwo 43 = .ok (.isub, 1) := by decide +kernel
theorem dX9_offerTwo_44 : decode cX9_offerTwo 44 = .ok (.if_icmp .ne 71, 3) := by decide +kernel
theorem dX9_offerTwo_47 : decode cX9_offerTwo 47 = .ok (.iconst 0, 1) := by decide +kernel
theorem dX9_offerTwo_48 : decode cX9_offerTwo 48 = .ok (.istore 4, 2) := by decide +kernel
theorem dX9_offerTwo_50 : decode cX9_offerTwo 50 = .ok (.iload 4, 2) := by decide +kernel
theorem dX9_offerTwo_52 : decode cX9_offerTwo 52 = .ok (.iconst 2, 1) := by decide +kernel
theorem dX9_offerTwo_53 : decode cX9_offerTwo 53 = .ok (.if_icmp .ge 62, 3) := by decide +kernel
theorem dX9_offerTwo_56 : decode cX9_offerTwo 56 = .ok (.aload_n 0, 1) := by decide +kernel
theorem dX9_offerTwo_57 : decode cX9_offerTwo 57 = .ok (.getfield 82, 3) := by decide +kernel
theorem dX9_offerTwo_60 : decode cX9_offerTwo 60 = .ok (.iconst 0, 1) := by decide +kernel
theorem dX9_offerTwo_61 : decode cX9_offerTwo 61 = .ok (.bipush 6, 2) := by decide +kernel
theorem dX9_offerTwo_63 : decode cX9_offerTwo 63 = .ok (.iload 4, 2) := by decide +kernel
theorem dX9_offerTwo_65 : decode cX9_offerTwo 65 = .ok (.iadd, 1) := by decide +kernel
theorem dX9_offerTwo_66 : decode cX9_offerTwo 66 = .ok (.iastore, 1) := by decide +kernel
theorem dX9_offerTwo_67 : decode cX9_offerTwo 67 = .ok (.aload_n 0, 1) := by decide +kernel
theorem dX9_offerTwo_68 : decode cX9_offerTwo 68 = .ok (.iconst 1, 1) := by decide +kernel
theorem dX9_offerTwo_69 : decode cX9_offerTwo 69 = .ok (.iload_n 2, 1) := by decide +kernel
theorem dX9_offerTwo_70 : decode cX9_offerTwo 70 = .ok (.invokevirtual 200, 3) := by decide +kernel
theorem dX9_offerTwo_73 : decode cX9_offerTwo 73 = .ok (.aload_n 0, 1) := by decide +kernel
theorem dX9_offerTwo_74 : decode cX9_offerTwo 74 = .ok (.iconst 1, 1) := by decide +kernel
theorem dX9_offerTwo_75 : decode cX9_offerTwo 75 = .ok (.aload_n 0, 1) := by decide +kernel
theorem dX9_offerTwo_76 : decode cX9_offerTwo 76 = .ok (.getfield 76, 3) := by decide +kernel
theorem dX9_offerTwo_79 : decode cX9_offerTwo 79 = .ok (.iload_n 2, 1) := by decide +kernel
theorem dX9_offerTwo_80 : decode cX9_offerTwo 80 = .ok (.iaload, 1) := by decide +kernel
theorem dX9_offerTwo_81 : decode cX9_offerTwo 81 = .ok (.iadd, 1) := by decide +kernel
theorem dX9_offerTwo_82 : decode cX9_offerTwo 82 = .ok (.iload_n 3, 1) := by decide +kernel
theorem dX9_offerTwo_83 : decode cX9_offerTwo 83 = .ok (.invokevirtual 200, 3) := by decide +kernel
theorem dX9_offerTwo_86 : decode cX9_offerTwo 86 = .ok (.aload_n 0, 1) := by decide +kernel
theorem dX9_offerTwo_87 : decode cX9_offerTwo 87 = .ok (.aload_n 0, 1) := by decide +kernel
theorem dX9_offerTwo_88 : decode cX9_offerTwo 88 = .ok (.getfield 67, 3) := by decide +kernel
theorem dX9_offerTwo_91 : decode cX9_offerTwo 91 = .ok (.sipush 14400, 3) := by decide +kernel
theorem dX9_offerTwo_94 : decode cX9_offerTwo 94 = .ok (.iload 4, 2) := by decide +kernel
theorem dX9_offerTwo_96 : decode cX9_offerTwo 96 = .ok (.imul, 1) := by decide +kernel
theorem dX9_offerTwo_97 : decode cX9_offerTwo 97 = .ok (.bipush 120, 2) := by decide +kernel
theorem dX9_offerTwo_99 : decode cX9_offerTwo 99 = .ok (.iload_n 2, 1) := by decide +kernel
theorem dX9_offerTwo_100 : decode cX9_offerTwo 100 = .ok (.imul, 1) := by decide +kernel
theorem dX9_offerTwo_101 : decode cX9_offerTwo 101 = .ok (.iadd, 1) := by decide +kernel
theorem dX9_offerTwo_102 : decode cX9_offerTwo 102 = .ok (.iload_n 3, 1) := by decide +kernel
theorem dX9_offerTwo_103 : decode cX9_offerTwo 103 = .ok (.iadd, 1) := by decide +kernel
theorem dX9_offerTwo_104 : decode cX9_offerTwo 104 = .ok (.iaload, 1) := by decide +kernel
theorem dX9_offerTwo_105 : decode cX9_offerTwo 105 = .ok (.iload_n 1, 1) := by decide +kernel
theorem dX9_offerTwo_106 : decode cX9_offerTwo 106 = .ok (.invokevirtual 203, 3) := by decide +kernel
theorem dX9_offerTwo_109 : decode cX9_offerTwo 109 = .ok (.iinc 4 1, 3) := by decide +kernel
theorem dX9_offerTwo_112 : decode cX9_offerTwo 112 = .ok (.goto (-62), 3) := by decide +kernel
theorem dX9_offerTwo_115 : decode cX9_offerTwo 115 = .ok (.iinc 3 1, 3) := by decide +kernel
theorem dX9_offerTwo_118 : decode cX9_offerTwo 118 = .ok (.goto (-116), 3) := by decide +kernel
theorem dX9_offerTwo_121 : decode cX9_offerTwo 121 = .ok (.return_, 1) := by decide +kernel
theorem dX9_findWords_0 : decode cX9_findWords 0 = .ok (.iconst 0, 1) := by decide +kernel
theorem dX9_findWords_1 : decode cX9_findWords 1 = .ok (.istore_n 1, 1) := by decide +kernel
theorem dX9_findWords_2 : decode cX9_findWords 2 = .ok (.iload_n 1, 1) := by decide +kernel
theorem dX9_findWords_3 : decode cX9_findWords 3 = .ok (.aload_n 0, 1) := by decide +kernel
theorem dX9_findWords_4 : decode cX9_findWords 4 = .ok (.getfield 173, 3) := by decide +kernel
theorem dX9_findWords_7 : decode cX9_findWords 7 = .ok (.if_icmp .ge 16, 3) := by decide +kernel
theorem dX9_findWords_10 : decode cX9_findWords 10 = .ok (.aload_n 0, 1) := by decide +kernel
theorem dX9_findWords_11 : decode cX9_findWords 11 = .ok (.getfield 76, 3) := by decide +kernel
theorem dX9_findWords_14 : decode cX9_findWords 14 = .ok (.iload_n 1, 1) := by decide +kernel
theorem dX9_findWords_15 : decode cX9_findWords 15 = .ok (.iconst 0, 1) := by decide +kernel
theorem dX9_findWords_16 : decode cX9_findWords 16 = .ok (.iastore, 1) := by decide +kernel
theorem dX9_findWords_17 : decode cX9_findWords 17 = .ok (.iinc 1 1, 3) := by decide +kernel
theorem dX9_findWords_20 : decode cX9_findWords 20 = .ok (.goto (-18), 3) := by decide +kernel
theorem dX9_findWords_23 : decode cX9_findWords 23 = .ok (.iconst 0, 1) := by decide +kernel
theorem dX9_findWords_24 : decode cX9_findWords 24 = .ok (.istore_n 1, 1) := by decide +kernel
theorem dX9_findWords_25 : decode cX9_findWords 25 = .ok (.iload_n 1, 1) := by decide +kernel
theorem dX9_findWords_26 : decode cX9_findWords 26 = .ok (.iconst 4, 1) := by decide +kernel
theorem dX9_findWords_27 : decode cX9_findWords 27 = .ok (.if_icmp .ge 27, 3) := by decide +kernel
theorem dX9_findWords_30 : decode cX9_findWords 30 = .ok (.aload_n 0, 1) := by decide +kernel
theorem dX9_findWords_31 : decode cX9_findWords 31 = .ok (.getfield 82, 3) := by decide +kernel
theorem dX9_findWords_34 : decode cX9_findWords 34 = .ok (.iconst 0, 1) := by decide +kernel
theorem dX9_findWords_35 : decode cX9_findWords 35 = .ok (.iload_n 1, 1) := by decide +kernel
theorem dX9_findWords_36 : decode cX9_findWords 36 = .ok (.iastore, 1) := by decide +kernel
theorem dX9_findWords_37 : decode cX9_findWords 37 = .ok (.aload_n 0, 1) := by decide +kernel
theorem dX9_findWords_38 : decode cX9_findWords 38 = .ok (.aload_n 0, 1) := by decide +kernel
theorem dX9_findWords_39 : decode cX9_findWords 39 = .ok (.getfield 61, 3) := by decide +kernel
theorem dX9_findWords_42 : decode cX9_findWords 42 = .ok (.iload_n 1, 1) := by decide +kernel
theorem dX9_findWords_43 : decode cX9_findWords 43 = .ok (.iaload, 1) := by decide +kernel
theorem dX9_findWords_44 : decode cX9_findWords 44 = .ok (.iconst 1, 1) := by decide +kernel
theorem dX9_findWords_45 : decode cX9_findWords 45 = .ok (.invokevirtual 203, 3) := by decide +kernel
theorem dX9_findWords_48 : decode cX9_findWords 48 = .ok (.iinc 1 1, 3) := by decide +kernel
theorem dX9_findWords_51 : decode cX9_findWords 51 = .ok (.goto (-26), 3) := by decide +kernel
theorem dX9_findWords_54 : decode cX9_findWords 54 = .ok (.iconst 2, 1) := by decide +kernel
theorem dX9_findWords_55 : decode cX9_findWords 55 = .ok (.istore_n 1, 1) := by decide +kernel
theorem dX9_findWords_56 : decode cX9_findWords 56 = .ok (.iload_n 1, 1) := by decide +kernel
theorem dX9_findWords_57 : decode cX9_findWords 57 = .ok (.bipush 31, 2) := by decide +kernel
theorem dX9_findWords_59 : decode cX9_findWords 59 = .ok (.if_icmp .gt 87, 3) := by decide +kernel
theorem dX9_findWords_62 : decode cX9_findWords 62 = .ok (.iconst 0, 1) := by decide +kernel
theorem dX9_findWords_63 : decode cX9_findWords 63 = .ok (.istore_n 2, 1) := by decide +kernel
theorem dX9_findWords_64 : decode cX9_findWords 64 = .ok (.iload_n 2, 1) := by decide +kernel
theorem dX9_findWords_65 : decode cX9_findWords 65 = .ok (.aload_n 0, 1) := by decide +kernel
theorem dX9_findWords_66 : decode cX9_findWords 66 = .ok (.getfield 173, 3) := by decide +kernel
theorem dX9_findWords_69 : decode cX9_findWords 69 = .ok (.if_icmp .ge 71, 3) := by decide +kernel
theorem dX9_findWords_72 : decode cX9_findWords 72 = .ok (.aload_n 0, 1) := by decide +kernel
theorem dX9_findWords_73 : decode cX9_findWords 73 = .ok (.getfield 76, 3) := by decide +kernel
theorem dX9_findWords_76 : decode cX9_findWords 76 = .ok (.iload_n 2, 1) := by decide +kernel
theorem dX9_findWords_77 : decode cX9_findWords 77 = .ok (.iaload, 1) := by decide +kernel
theorem dX9_findWords_78 : decode cX9_findWords 78 = .ok (.iload_n 1, 1) := by decide +kernel
theorem dX9_findWords_79 : decode cX9_findWords 79 = .ok (.iconst 1, 1) := by decide +kernel
theorem dX9_findWords_80 : decode cX9_findWords 80 = .ok (.isub, 1) := by decide +kernel
theorem dX9_findWords_81 : decode cX9_findWords 81 = .ok (.if_icmp .ne 47, 3) := by decide +kernel
theorem dX9_findWords_84 : decode cX9_findWords 84 = .ok (.iconst 0, 1) := by decide +kernel
theorem dX9_findWords_85 : decode cX9_findWords 85 = .ok (.istore_n 3, 1) := by decide +kernel
theorem dX9_findWords_86 : decode cX9_findWords 86 = .ok (.iload_n 3, 1) := by decide +kernel
theorem dX9_findWords_87 : decode cX9_findWords 87 = .ok (.iconst 2, 1) := by decide +kernel
theorem dX9_findWords_88 : decode cX9_findWords 88 = .ok (.if_icmp .ge 40, 3) := by decide +kernel
theorem dX9_findWords_91 : decode cX9_findWords 91 = .ok (.aload_n 0, 1) := by decide +kernel
theorem dX9_findWords_92 : decode cX9_findWords 92 = .ok (.getfield 82, 3) := by decide +kernel
theorem dX9_findWords_95 : decode cX9_findWords 95 = .ok (.iconst 0, 1) := by decide +kernel
theorem dX9_findWords_96 : decode cX9_findWords 96 = .ok (.iconst 4, 1) := by decide +kernel
theorem dX9_findWords_97 : decode cX9_findWords 97 = .ok (.iload_n 3, 1) := by decide +kernel
theorem dX9_findWords_98 : decode cX9_findWords 98 = .ok (.iadd, 1) := by decide +kernel
theorem dX9_findWords_99 : decode cX9_findWords 99 = .ok (.iastore, 1) := by decide +kernel
theorem dX9_findWords_100 : decode cX9_findWords 100 = .ok (.aload_n 0, 1) := by decide +kernel
theorem dX9_findWords_101 : decode cX9_findWords 101 = .ok (.iconst 1, 1) := by decide +kernel
theorem dX9_findWords_102 : decode cX9_findWords 102 = .ok (.iload_n 2, 1) := by decide +kernel
theorem dX9_findWords_103 : decode cX9_findWords 103 = .ok (.invokevirtual 200, 3) := by decide +kernel
theorem dX9_findWords_106 : decode cX9_findWords 106 = .ok (.aload_n 0, 1) := by decide +kernel
theorem dX9_findWords_107 : decode cX9_findWords 107 = .ok (.aload_n 0, 1) := by decide +kernel
theorem dX9_findWords_108 : decode cX9_findWords 108 = .ok (.getfield 64, 3) := by decide +kernel
theorem dX9_findWords_111 : decode cX9_findWords 111 = .ok (.bipush 120, 2) := by decide +kernel
theorem dX9_findWords_113 : decode cX9_findWords 113 = .ok (.iload_n 3, 1) := by decide +kernel
theorem dX9_findWords_114 : decode cX9_findWords 114 = .ok (.imul, 1) := by decide +kernel
theorem dX9_findWords_115 : decode cX9_findWords 115 = .ok (.iload_n 2, 1) := by decide +kernel
theorem dX9_findWords_116 : decode cX9_findWords 116 = .ok (.iadd, 1) := by decide +kernel
theorem dX9_findWords_117 : decode cX9_findWords 117 = .ok (.iaload, 1) := by decide +kernel
theorem dX9_findWords_118 : decode cX9_findWords 118 = .ok (.iload_n 1, 1) := by decide +kernel
theorem dX9_findWords_119 : decode cX9_findWords 119 = .ok (.invokevirtual 203, 3) := by decide +kernel
theorem dX9_findWords_122 : decode cX9_findWords 122 = .ok (.iinc 3 1, 3) := by decide +kernel
theorem dX9_findWords_125 : decode cX9_findWords 125 = .ok (.goto (-39), 3) := by decide +kernel
theorem dX9_findWords_128 : decode cX9_findWords 128 = .ok (.aload_n 0, 1) := by decide +kernel
theorem dX9_findWords_129 : decode cX9_findWords 129 = .ok (.iload_n 1, 1) := by decide +kernel
theorem dX9_findWords_130 : decode cX9_findWords 130 = .ok (.iload_n 2, 1) := by decide +kernel
theorem dX9_findWords_131 : decode cX9_findWords 131 = .ok (.invokevirtual 206, 3) := by decide +kernel
theorem dX9_findWords_134 : decode cX9_findWords 134 = .ok (.iinc 2 1, 3) := by decide +kernel
theorem dX9_findWords_137 : decode cX9_findWords 137 = .ok (.goto (-73), 3) := by decide +kernel
theorem dX9_findWords_140 : decode cX9_findWords 140 = .ok (.iinc 1 1, 3) := by decide +kernel
theorem dX9_findWords_143 : decode cX9_findWords 143 = .ok (.goto (-87), 3) := by decide +kernel
theorem dX9_findWords_146 : decode cX9_findWords 146 = .ok (.return_, 1) := by decide +kernel
theorem dX9_isWanted_0 : decode cX9_isWanted 0 = .ok (.iload_n 2, 1) := by decide +kernel
theorem dX9_isWanted_1 : decode cX9_isWanted 1 = .ok (.ifCond .eq 24, 3) := by decide +kernel
theorem dX9_isWanted_4 : decode cX9_isWanted 4 = .ok (.aload_n 0, 1) := by decide +kernel
theorem dX9_isWanted_5 : decode cX9_isWanted 5 = .ok (.iload_n 1, 1) := by decide +kernel
theorem dX9_isWanted_6 : decode cX9_isWanted 6 = .ok (.invokevirtual 194, 3) := by decide +kernel
theorem dX9_isWanted_9 : decode cX9_isWanted 9 = .ok (.aload_n 0, 1) := by decide +kernel
theorem dX9_isWanted_10 : decode cX9_isWanted 10 = .ok (.iload_n 1, 1) := by decide +kernel
theorem dX9_isWanted_11 : decode cX9_isWanted 11 = .ok (.invokevirtual 209, 3) := by decide +kernel
theorem dX9_isWanted_14 : decode cX9_isWanted 14 = .ok (.if_icmp .eq 7, 3) := by decide +kernel
theorem dX9_isWanted_17 : decode cX9_isWanted 17 = .ok (.iconst 1, 1) := by decide +kernel
theorem dX9_isWanted_18 : decode cX9_isWanted 18 = .ok (.goto 12, 3) := by decide +kernel
theorem dX9_isWanted_21 : decode cX9_isWanted 21 = .ok (.iconst 0, 1) := by decide +kernel
theorem dX9_isWanted_22 : decode cX9_isWanted 22 = .ok (.goto 8, 3) := by decide +kernel
theorem dX9_isWanted_25 : decode cX9_isWanted 25 = .ok (.aload_n 0, 1) := by decide +kernel
theorem dX9_isWanted_26 : decode cX9_isWanted 26 = .ok (.iload_n 1, 1) := by decide +kernel
theorem dX9_isWanted_27 : decode cX9_isWanted 27 = .ok (.invokevirtual 194, 3) := by decide +kernel
theorem dX9_isWanted_30 : decode cX9_isWanted 30 = .ok (.ireturn, 1) := by decide +kernel
theorem dX9_leastOf_0 : decode cX9_leastOf 0 = .ok (.aload_n 0, 1) := by decide +kernel
theorem dX9_leastOf_1 : decode cX9_leastOf 1 = .ok (.invokevirtual 212, 3) := by decide +kernel
theorem dX9_leastOf_4 : decode cX9_leastOf 4 = .ok (.bipush (-9), 2) := by decide +kernel
theorem dX9_leastOf_6 : decode cX9_leastOf 6 = .ok (.istore_n 2, 1) := by decide +kernel
theorem dX9_leastOf_7 : decode cX9_leastOf 7 = .ok (.iconst 0, 1) := by decide +kernel
theorem dX9_leastOf_8 : decode cX9_leastOf 8 = .ok (.istore_n 3, 1) := by decide +kernel
theorem dX9_leastOf_9 : decode cX9_leastOf 9 = .ok (.iload_n 3, 1) := by decide +kernel
theorem dX9_leastOf_10 : decode cX9_leastOf 10 = .ok (.aload_n 0, 1) := by decide +kernel
theorem dX9_leastOf_11 : decode cX9_leastOf 11 = .ok (.getfield 173, 3) := by decide +kernel
theorem dX9_leastOf_14 : decode cX9_leastOf 14 = .ok (.if_icmp .ge 44, 3) := by decide +kernel
theorem dX9_leastOf_17 : decode cX9_leastOf 17 = .ok (.aload_n 0, 1) := by decide +kernel
theorem dX9_leastOf_18 : decode cX9_leastOf 18 = .ok (.getfield 76, 3) := by decide +kernel
theorem dX9_leastOf_21 : decode cX9_leastOf 21 = .ok (.iload_n 3, 1) := by decide +kernel
theorem dX9_leastOf_22 : decode cX9_leastOf 22 = .ok (.iaload, 1) := by decide +kernel
theorem dX9_leastOf_23 : decode cX9_leastOf 23 = .ok (.ifCond .le 29, 3) := by decide +kernel
theorem dX9_leastOf_26 : decode cX9_leastOf 26 = .ok (.aload_n 0, 1) := by decide +kernel
theorem dX9_leastOf_27 : decode cX9_leastOf 27 = .ok (.iload_n 3, 1) := by decide +kernel
theorem dX9_leastOf_28 : decode cX9_leastOf 28 = .ok (.iload_n 1, 1) := by decide +kernel
theorem dX9_leastOf_29 : decode cX9_leastOf 29 = .ok (.invokevirtual 215, 3) := by decide +kernel
theorem dX9_leastOf_32 : decode cX9_leastOf 32 = .ok (.ifCond .eq 20, 3) := by decide +kernel
theorem dX9_leastOf_35 : decode cX9_leastOf 35 = .ok (.iload_n 2, 1) := by decide +kernel
theorem dX9_leastOf_36 : decode cX9_leastOf 36 = .ok (.bipush (-9), 2) := by decide +kernel
theorem dX9_leastOf_38 : decode cX9_leastOf 38 = .ok (.if_icmp .eq 12, 3) := by decide +kernel
theorem dX9_leastOf_41 : decode cX9_leastOf 41 = .ok (.aload_n 0, 1) := by decide +kernel
theorem dX9_leastOf_42 : decode cX9_leastOf 42 = .ok (.iload_n 3, 1) := by decide +kernel
theorem dX9_leastOf_43 : decode cX9_leastOf 43 = .ok (.iload_n 2, 1) := by decide +kernel
theorem dX9_leastOf_44 : decode cX9_leastOf 44 = .ok (.invokevirtual 219, 3) := by decide +kernel
theorem dX9_leastOf_47 : decode cX9_leastOf 47 = .ok (.ifCond .eq 5, 3) := by decide +kernel
theorem dX9_leastOf_50 : decode cX9_leastOf 50 = .ok (.iload_n 3, 1) := by decide +kernel
theorem dX9_leastOf_51 : decode cX9_leastOf 51 = .ok (.istore_n 2, 1) := by decide +kernel
theorem dX9_leastOf_52 : decode cX9_leastOf 52 = .ok (.iinc 3 1, 3) := by decide +kernel
theorem dX9_leastOf_55 : decode cX9_leastOf 55 = .ok (.goto (-46), 3) := by decide +kernel
theorem dX9_leastOf_58 : decode cX9_leastOf 58 = .ok (.iload_n 2, 1) := by decide +kernel
theorem dX9_leastOf_59 : decode cX9_leastOf 59 = .ok (.ireturn, 1) := by decide +kernel
theorem dX9_isLess_0 : decode cX9_isLess 0 = .ok (.aload_n 0, 1) := by decide +kernel
theorem dX9_isLess_1 : decode cX9_isLess 1 = .ok (.getfield 76, 3) := by decide +kernel
theorem dX9_isLess_4 : decode cX9_isLess 4 = .ok (.iload_n 1, 1) := by decide +kernel
theorem dX9_isLess_5 : decode cX9_isLess 5 = .ok (.iaload, 1) := by decide +kernel
theorem dX9_isLess_6 : decode cX9_isLess 6 = .ok (.aload_n 0, 1) := by decide +kernel
theorem dX9_isLess_7 : decode cX9_isLess 7 = .ok (.getfield 76, 3) := by decide +kernel
theorem dX9_isLess_10 : decode cX9_isLess 10 = .ok (.iload_n 2, 1) := by decide +kernel
theorem dX9_isLess_11 : decode cX9_isLess 11 = .ok (.iaload, 1) := by decide +kernel
theorem dX9_isLess_12 : decode cX9_isLess 12 = .ok (.if_icmp .eq 24, 3) := by decide +kernel
theorem dX9_isLess_15 : decode cX9_isLess 15 = .ok (.aload_n 0, 1) := by decide +kernel
theorem dX9_isLess_16 : decode cX9_isLess 16 = .ok (.getfield 76, 3) := by decide +kernel
theorem dX9_isLess_19 : decode cX9_isLess 19 = .ok (.iload_n 1, 1) := by decide +kernel
theorem dX9_isLess_20 : decode cX9_isLess 20 = .ok (.iaload, 1) := by decide +kernel
theorem dX9_isLess_21 : decode cX9_isLess 21 = .ok (.aload_n 0, 1) := by decide +kernel
theorem dX9_isLess_22 : decode cX9_isLess 22 = .ok (.getfield 76, 3) := by decide +kernel
theorem dX9_isLess_25 : decode cX9_isLess 25 = .ok (.iload_n 2, 1) := by decide +kernel
theorem dX9_isLess_26 : decode cX9_isLess 26 = .ok (.iaload, 1) := by decide +kernel
theorem dX9_isLess_27 : decode cX9_isLess 27 = .ok (.if_icmp .ge 7, 3) := by decide +kernel
theorem dX9_isLess_30 : decode cX9_isLess 30 = .ok (.iconst 1, 1) := by decide +kernel
theorem dX9_isLess_31 : decode cX9_isLess 31 = .ok (.goto 4, 3) := by decide +kernel
theorem dX9_isLess_34 : decode cX9_isLess 34 = .ok (.iconst 0, 1) := by decide +kernel
theorem dX9_isLess_35 : decode cX9_isLess 35 = .ok (.ireturn, 1) := by decide +kernel
theorem dX9_isLess_36 : decode cX9_isLess 36 = .ok (.iconst 0, 1) := by decide +kernel
theorem dX9_isLess_37 : decode cX9_isLess 37 = .ok (.istore_n 3, 1) := by decide +kernel
theorem dX9_isLess_38 : decode cX9_isLess 38 = .ok (.iload_n 3, 1) := by decide +kernel
theorem dX9_isLess_39 : decode cX9_isLess 39 = .ok (.aload_n 0, 1) := by decide +kernel
theorem dX9_isLess_40 : decode cX9_isLess 40 = .ok (.getfield 76, 3) := by decide +kernel
theorem dX9_isLess_43 : decode cX9_isLess 43 = .ok (.iload_n 1, 1) := by decide +kernel
theorem dX9_isLess_44 : decode cX9_isLess 44 = .ok (.iaload, 1) := by decide +kernel
theorem dX9_isLess_45 : decode cX9_isLess 45 = .ok (.if_icmp .ge 50, 3) := by decide +kernel
theorem dX9_isLess_48 : decode cX9_isLess 48 = .ok (.aload_n 0, 1) := by decide +kernel
theorem dX9_isLess_49 : decode cX9_isLess 49 = .ok (.getfield 79, 3) := by decide +kernel
theorem dX9_isLess_52 : decode cX9_isLess 52 = .ok (.bipush 31, 2) := by decide +kernel
theorem dX9_isLess_54 : decode cX9_isLess 54 = .ok (.iload_n 1, 1) := by decide +kernel
theorem dX9_isLess_55 : decode cX9_isLess 55 = .ok (.imul, 1) := by decide +kernel
theorem dX9_isLess_56 : decode cX9_isLess 56 = .ok (.iload_n 3, 1) := by decide +kernel
theorem dX9_isLess_57 : decode cX9_isLess 57 = .ok (.iadd, 1) := by decide +kernel
theorem dX9_isLess_58 : decode cX9_isLess 58 = .ok (.iaload, 1) := by decide +kernel
theorem dX9_isLess_59 : decode cX9_isLess 59 = .ok (.aload_n 0, 1) := by decide +kernel
theorem dX9_isLess_60 : decode cX9_isLess 60 = .ok (.getfield 79, 3) := by decide +kernel
theorem dX9_isLess_63 : decode cX9_isLess 63 = .ok (.bipush 31, 2) := by decide +kernel
theorem dX9_isLess_65 : decode cX9_isLess 65 = .ok (.iload_n 2, 1) := by decide +kernel
theorem dX9_isLess_66 : decode cX9_isLess 66 = .ok (.imul, 1) := by decide +kernel
theorem dX9_isLess_67 : decode cX9_isLess 67 = .ok (.iload_n 3, 1) := by decide +kernel
theorem dX9_isLess_68 : decode cX9_isLess 68 = .ok (.iadd, 1) := by decide +kernel
theorem dX9_isLess_69 : decode cX9_isLess 69 = .ok (.iaload, 1) := by decide +kernel
theorem dX9_isLess_70 : decode cX9_isLess 70 = .ok (.isub, 1) := by decide +kernel
theorem dX9_isLess_71 : decode cX9_isLess 71 = .ok (.istore 4, 2) := by decide +kernel
theorem dX9_isLess_73 : decode cX9_isLess 73 = .ok (.iload 4, 2) := by decide +kernel
theorem dX9_isLess_75 : decode cX9_isLess 75 = .ok (.ifCond .eq 14, 3) := by decide +kernel
theorem dX9_isLess_78 : decode cX9_isLess 78 = .ok (.iload 4, 2) := by decide +kernel
theorem dX9_isLess_80 : decode cX9_isLess 80 = .ok (.ifCond .ge 7, 3) := by decide +kernel
theorem dX9_isLess_83 : decode cX9_isLess 83 = .ok (.iconst 1, 1) := by decide +kernel
theorem dX9_isLess_84 : decode cX9_isLess 84 = .ok (.goto 4, 3) := by decide +kernel
theorem dX9_isLess_87 : decode cX9_isLess 87 = .ok (.iconst 0, 1) := by decide +kernel
theorem dX9_isLess_88 : decode cX9_isLess 88 = .ok (.ireturn, 1) := by decide +kernel
theorem dX9_isLess_89 : decode cX9_isLess 89 = .ok (.iinc 3 1, 3) := by decide +kernel
theorem dX9_isLess_92 : decode cX9_isLess 92 = .ok (.goto (-54), 3) := by decide +kernel
theorem dX9_isLess_95 : decode cX9_isLess 95 = .ok (.iconst 0, 1) := by decide +kernel
theorem dX9_isLess_96 : decode cX9_isLess 96 = .ok (.ireturn, 1) := by decide +kernel
theorem dX9_toldOf_0 : decode cX9_toldOf 0 = .ok (.iload_n 1, 1) := by decide +kernel
theorem dX9_toldOf_1 : decode cX9_toldOf 1 = .ok (.bipush (-9), 2) := by decide +kernel
theorem dX9_toldOf_3 : decode cX9_toldOf 3 = .ok (.if_icmp .ne 8, 3) := by decide +kernel
theorem dX9_toldOf_6 : decode cX9_toldOf 6 = .ok (.bipush (-9), 2) := by decide +kernel
theorem dX9_toldOf_8 : decode cX9_toldOf 8 = .ok (.goto 42, 3) := by decide +kernel
theorem dX9_toldOf_11 : decode cX9_toldOf 11 = .ok (.iload_n 2, 1) := by decide +kernel
theorem dX9_toldOf_12 : decode cX9_toldOf 12 = .ok (.ifCond .ge 12, 3) := by decide +kernel
theorem dX9_toldOf_15 : decode cX9_toldOf 15 = .ok (.aload_n 0, 1) := by decide +kernel
theorem dX9_toldOf_16 : decode cX9_toldOf 16 = .ok (.getfield 76, 3) := by decide +kernel
theorem dX9_toldOf_19 : decode cX9_toldOf 19 = .ok (.iload_n 1, 1) := by decide +kernel
theorem dX9_toldOf_20 : decode cX9_toldOf 20 = .ok (.iaload, 1) := by decide +kernel
theorem dX9_toldOf_21 : decode cX9_toldOf 21 = .ok (.goto 29, 3) := by decide +kernel
theorem dX9_toldOf_24 : decode cX9_toldOf 24 = .ok (.iload_n 2, 1) := by decide +kernel
theorem dX9_toldOf_25 : decode cX9_toldOf 25 = .ok (.aload_n 0, 1) := by decide +kernel
theorem dX9_toldOf_26 : decode cX9_toldOf 26 = .ok (.getfield 76, 3) := by decide +kernel
theorem dX9_toldOf_29 : decode cX9_toldOf 29 = .ok (.iload_n 1, 1) := by decide +kernel
theorem dX9_toldOf_30 : decode cX9_toldOf 30 = .ok (.iaload, 1) := by decide +kernel
theorem dX9_toldOf_31 : decode cX9_toldOf 31 = .ok (.if_icmp .ge 17, 3) := by decide +kernel
theorem dX9_toldOf_34 : decode cX9_toldOf 34 = .ok (.aload_n 0, 1) := by decide +kernel
theorem dX9_toldOf_35 : decode cX9_toldOf 35 = .ok (.getfield 79, 3) := by decide +kernel
theorem dX9_toldOf_38 : decode cX9_toldOf 38 = .ok (.bipush 31, 2) := by decide +kernel
theorem dX9_toldOf_40 : decode cX9_toldOf 40 = .ok (.iload_n 1, 1) := by decide +kernel
theorem dX9_toldOf_41 : decode cX9_toldOf 41 = .ok (.imul, 1) := by decide +kernel
theorem dX9_toldOf_42 : decode cX9_toldOf 42 = .ok (.iload_n 2, 1) := by decide +kernel
theorem dX9_toldOf_43 : decode cX9_toldOf 43 = .ok (.iadd, 1) := by decide +kernel
theorem dX9_toldOf_44 : decode cX9_toldOf 44 = .ok (.iaload, 1) := by decide +kernel
theorem dX9_toldOf_45 : decode cX9_toldOf 45 = .ok (.goto 5, 3) := by decide +kernel
theorem dX9_toldOf_48 : decode cX9_toldOf 48 = .ok (.bipush (-5), 2) := by decide +kernel
theorem dX9_toldOf_50 : decode cX9_toldOf 50 = .ok (.ireturn, 1) := by decide +kernel
theorem dX9_least_0 : decode cX9_least 0 = .ok (.iload_n 1, 1) := by decide +kernel
theorem dX9_least_1 : decode cX9_least 1 = .ok (.iconst (-1), 1) := by decide +kernel
theorem dX9_least_2 : decode cX9_least 2 = .ok (.if_icmp .ge 5, 3) := by decide +kernel
theorem dX9_least_5 : decode cX9_least 5 = .ok (.iconst (-1), 1) := by decide +kernel
theorem dX9_least_6 : decode cX9_least 6 = .ok (.ireturn, 1) := by decide +kernel
theorem dX9_least_7 : decode cX9_least 7 = .ok (.aload_n 0, 1) := by decide +kernel
theorem dX9_least_8 : decode cX9_least 8 = .ok (.invokevirtual 191, 3) := by decide +kernel
theorem dX9_least_11 : decode cX9_least 11 = .ok (.aload_n 0, 1) := by decide +kernel
theorem dX9_least_12 : decode cX9_least 12 = .ok (.aload_n 0, 1) := by decide +kernel
theorem dX9_least_13 : decode cX9_least 13 = .ok (.iconst 0, 1) := by decide +kernel
theorem dX9_least_14 : decode cX9_least 14 = .ok (.invokevirtual 222, 3) := by decide +kernel
theorem dX9_least_17 : decode cX9_least 17 = .ok (.iload_n 1, 1) := by decide +kernel
theorem dX9_least_18 : decode cX9_least 18 = .ok (.invokevirtual 225, 3) := by decide +kernel
theorem dX9_least_21 : decode cX9_least 21 = .ok (.ireturn, 1) := by decide +kernel
theorem dX9_findTrees_0 : decode cX9_findTrees 0 = .ok (.iconst 0, 1) := by decide +kernel
theorem dX9_findTrees_1 : decode cX9_findTrees 1 = .ok (.istore_n 2, 1) := by decide +kernel
theorem dX9_findTrees_2 : decode cX9_findTrees 2 = .ok (.iload_n 2, 1) := by decide +kernel
theorem dX9_findTrees_3 : decode cX9_findTrees 3 = .ok (.sipush 1920, 3) := by decide +kernel
theorem dX9_findTrees_6 : decode cX9_findTrees 6 = .ok (.if_icmp .ge 16, 3) := by decide +kernel
theorem dX9_findTrees_9 : decode cX9_findTrees 9 = .ok (.aload_n 0, 1) := by decide +kernel
theorem dX9_findTrees_10 : decode cX9_findTrees 10 = .ok (.getfield 85, 3) := by decide +kernel
theorem dX9_findTrees_13 : decode cX9_findTrees 13 = .ok (.iload_n 2, 1) := by decide +kernel
theorem dX9_findTrees_14 : decode cX9_findTrees 14 = .ok (.lconst 0, 1) := by decide +kernel
theorem dX9_findTrees_15 : decode cX9_findTrees 15 = .ok (.lastore, 1) := by decide +kernel
theorem dX9_findTrees_16 : decode cX9_findTrees 16 = .ok (.iinc 2 1, 3) := by decide +kernel
theorem dX9_findTrees_19 : decode cX9_findTrees 19 = .ok (.goto (-17), 3) := by decide +kernel
theorem dX9_findTrees_22 : decode cX9_findTrees 22 = .ok (.iconst 0, 1) := by decide +kernel
theorem dX9_findTrees_23 : decode cX9_findTrees 23 = .ok (.istore_n 2, 1) := by decide +kernel
theorem dX9_findTrees_24 : decode cX9_findTrees 24 = .ok (.iload_n 2, 1) := by decide +kernel
theorem dX9_findTrees_25 : decode cX9_findTrees 25 = .ok (.iconst 4, 1) := by decide +kernel
theorem dX9_findTrees_26 : decode cX9_findTrees 26 = .ok (.if_icmp .ge 27, 3) := by decide +kernel
theorem dX9_findTrees_29 : decode cX9_findTrees 29 = .ok (.aload_n 0, 1) := by decide +kernel
theorem dX9_findTrees_30 : decode cX9_findTrees 30 = .ok (.getfield 85, 3) := by decide +kernel
theorem dX9_findTrees_33 : decode cX9_findTrees 33 = .ok (.bipush 120, 2) := by decide +kernel
theorem dX9_findTrees_35 : decode cX9_findTrees 35 = .ok (.aload_n 0, 1) := by decide +kernel
theorem dX9_findTrees_36 : decode cX9_findTrees 36 = .ok (.getfield 61, 3) := by decide +kernel
theorem dX9_findTrees_39 : decode cX9_findTrees 39 = .ok (.iload_n 2, 1) := by decide +kernel
theorem dX9_findTrees_40 : decode cX9_findTrees 40 = .ok (.iaload, 1) := by decide +kernel
theorem dX9_findTrees_41 : decode cX9_findTrees 41 = .ok (.iadd, 1) := by decide +kernel
theorem dX9_findTrees_42 : decode cX9_findTrees 42 = .ok (.dup2, 1) := by decide +kernel
theorem dX9_findTrees_43 : decode cX9_findTrees 43 = .ok (.laload, 1) := by decide +kernel
theorem dX9_findTrees_44 : decode cX9_findTrees 44 = .ok (.lconst 1, 1) := by decide +kernel
theorem dX9_findTrees_45 : decode cX9_findTrees 45 = .ok (.ladd, 1) := by decide +kernel
theorem dX9_findTrees_46 : decode cX9_findTrees 46 = .ok (.lastore, 1) := by decide +kernel
theorem dX9_findTrees_47 : decode cX9_findTrees 47 = .ok (.iinc 2 1, 3) := by decide +kernel
theorem dX9_findTrees_50 : decode cX9_findTrees 50 = .ok (.goto (-26), 3) := by decide +kernel
theorem dX9_findTrees_53 : decode cX9_findTrees 53 = .ok (.iconst 2, 1) := by decide +kernel
theorem dX9_findTrees_54 : decode cX9_findTrees 54 = .ok (.istore_n 2, 1) := by decide +kernel
theorem dX9_findTrees_55 : decode cX9_findTrees 55 = .ok (.iload_n 2, 1) := by decide +kernel
theorem dX9_findTrees_56 : decode cX9_findTrees 56 = .ok (.iload_n 1, 1) := by decide +kernel
theorem dX9_findTrees_57 : decode cX9_findTrees 57 = .ok (.if_icmp .gt 105, 3) := by decide +kernel
theorem dX9_findTrees_60 : decode cX9_findTrees 60 = .ok (.iconst 0, 1) := by decide +kernel
theorem dX9_findTrees_61 : decode cX9_findTrees 61 = .ok (.istore_n 3, 1) := by decide +kernel
theorem dX9_findTrees_62 : decode cX9_findTrees 62 = .ok (.iload_n 3, 1) := by decide +kernel
theorem dX9_findTrees_63 : decode cX9_findTrees 63 = .ok (.aload_n 0, 1) := by decide +kernel
theorem dX9_findTrees_64 : decode cX9_findTrees 64 = .ok (.getfield 173, 3) := by decide +kernel
theorem dX9_findTrees_67 : decode cX9_findTrees 67 = .ok (.if_icmp .ge 89, 3) := by decide +kernel
theorem dX9_findTrees_70 : decode cX9_findTrees 70 = .ok (.iconst 0, 1) := by decide +kernel
theorem dX9_findTrees_71 : decode cX9_findTrees 71 = .ok (.istore 4, 2) := by decide +kernel
theorem dX9_findTrees_73 : decode cX9_findTrees 73 = .ok (.iload 4, 2) := by decide +kernel
theorem dX9_findTrees_75 : decode cX9_findTrees 75 = .ok (.iconst 2, 1) := by decide +kernel
theorem dX9_findTrees_76 : decode cX9_findTrees 76 = .ok (.if_icmp .ge 74, 3) := by decide +kernel
theorem dX9_findTrees_79 : decode cX9_findTrees 79 = .ok (.aload_n 0, 1) := by decide +kernel
theorem dX9_findTrees_80 : decode cX9_findTrees 80 = .ok (.getfield 85, 3) := by decide +kernel
theorem dX9_findTrees_83 : decode cX9_findTrees 83 = .ok (.bipush 120, 2) := by decide +kernel
theorem dX9_findTrees_85 : decode cX9_findTrees 85 = .ok (.iload_n 2, 1) := by decide +kernel
theorem dX9_findTrees_86 : decode cX9_findTrees 86 = .ok (.imul, 1) := by decide +kernel
theorem dX9_findTrees_87 : decode cX9_findTrees 87 = .ok (.aload_n 0, 1) := by decide +kernel
theorem dX9_findTrees_88 : decode cX9_findTrees 88 = .ok (.getfield 64, 3) := by decide +kernel
theorem dX9_findTrees_91 : decode cX9_findTrees 91 = .ok (.bipush 120, 2) := by decide +kernel
theorem dX9_findTrees_93 : decode cX9_findTrees 93 = .ok (.iload 4, 2) := by decide +kernel
theorem dX9_findTrees_95 : decode cX9_findTrees 95 = .ok (.imul, 1) := by decide +kernel
theorem dX9_findTrees_96 : decode cX9_findTrees 96 = .ok (.iload_n 3, 1) := by decide +kernel
theorem dX9_findTrees_97 : decode cX9_findTrees 97 = .ok (.iadd, 1) := by decide +kernel
theorem dX9_findTrees_98 : decode cX9_findTrees 98 = .ok (.iaload, 1) := by decide +kernel
theorem dX9_findTrees_99 : decode cX9_findTrees 99 = .ok (.iadd, 1) := by decide +kernel
theorem dX9_findTrees_100 : decode cX9_findTrees 100 = .ok (.dup2, 1) := by decide +kernel
theorem dX9_findTrees_101 : decode cX9_findTrees 101 = .ok (.laload, 1) := by decide +kernel
theorem dX9_findTrees_102 : decode cX9_findTrees 102 = .ok (.aload_n 0, 1) := by decide +kernel
theorem dX9_findTrees_103 : decode cX9_findTrees 103 = .ok (.getfield 85, 3) := by decide +kernel
theorem dX9_findTrees_106 : decode cX9_findTrees 106 = .ok (.bipush 120, 2) := by decide +kernel
theorem dX9_findTrees_108 : decode cX9_findTrees 108 = .ok (.iload_n 2, 1) := by decide +kernel
theorem dX9_findTrees_109 : decode cX9_findTrees 109 = .ok (.iconst 1, 1) := by decide +kernel
theorem dX9_findTrees_110 : decode cX9_findTrees 110 = .ok (.isub, 1) := by decide +kernel
theorem dX9_findTrees_111 : decode cX9_findTrees 111 = .ok (.imul, 1) := by decide +kernel
theorem dX9_findTrees_112 : decode cX9_findTrees 112 = .ok (.iload_n 3, 1) := by decide +kernel
theorem dX9_findTrees_113 : decode cX9_findTrees 113 = .ok (.iadd, 1) := by decide +kernel
theorem dX9_findTrees_114 : decode cX9_findTrees 114 = .ok (.laload, 1) := by decide +kernel
theorem dX9_findTrees_115 : decode cX9_findTrees 115 = .ok (.ladd, 1) := by decide +kernel
theorem dX9_findTrees_116 : decode cX9_findTrees 116 = .ok (.lastore, 1) := by decide +kernel
theorem dX9_findTrees_117 : decode cX9_findTrees 117 = .ok (.iconst 1, 1) := by decide +kernel
theorem dX9_findTrees_118 : decode cX9_findTrees 118 = .ok (.istore 5, 2) := by decide +kernel
theorem dX9_findTrees_120 : decode cX9_findTrees 120 = .ok (.iload 5, 2) := by decide +kernel
theorem dX9_findTrees_122 : decode cX9_findTrees 122 = .ok (.iload_n 2, 1) := by decide +kernel
theorem dX9_findTrees_123 : decode cX9_findTrees 123 = .ok (.iconst 1, 1) := by decide +kernel
theorem dX9_findTrees_124 : decode cX9_findTrees 124 = .ok (.isub, 1) := by decide +kernel
theorem dX9_findTrees_125 : decode cX9_findTrees 125 = .ok (.if_icmp .ge 19, 3) := by decide +kernel
theorem dX9_findTrees_128 : decode cX9_findTrees 128 = .ok (.aload_n 0, 1) := by decide +kernel
theorem dX9_findTrees_129 : decode cX9_findTrees 129 = .ok (.iload_n 2, 1) := by decide +kernel
theorem dX9_findTrees_130 : decode cX9_findTrees 130 = .ok (.iload 5, 2) := by decide +kernel
theorem dX9_findTrees_132 : decode cX9_findTrees 132 = .ok (.iload_n 3, 1) := by decide +kernel
theorem dX9_findTrees_133 : decode cX9_findTrees 133 = .ok (.iload 4, 2) := by decide +kernel
theorem dX9_findTrees_135 : decode cX9_findTrees 135 = .ok (.invokevirtual 229, 3) := by decide +kernel
theorem dX9_findTrees_138 : decode cX9_findTrees 138 = .ok (.iinc 5 1, 3) := by decide +kernel
theorem dX9_findTrees_141 : decode cX9_findTrees 141 = .ok (.goto (-21), 3) := by decide +kernel
theorem dX9_findTrees_144 : decode cX9_findTrees 144 = .ok (.iinc 4 1, 3) := by decide +kernel
theorem dX9_findTrees_147 : decode cX9_findTrees 147 = .ok (.goto (-74), 3) := by decide +kernel
theorem dX9_findTrees_150 : decode cX9_findTrees 150 = .ok (.iinc 3 1, 3) := by decide +kernel
theorem dX9_findTrees_153 : decode cX9_findTrees 153 = .ok (.goto (-91), 3) := by decide +kernel
theorem dX9_findTrees_156 : decode cX9_findTrees 156 = .ok (.iinc 2 1, 3) := by decide +kernel
theorem dX9_findTrees_159 : decode cX9_findTrees 159 = .ok (.goto (-104), 3) := by decide +kernel
theorem dX9_findTrees_162 : decode cX9_findTrees 162 = .ok (.return_, 1) := by decide +kernel
theorem dX9_addTwo_0 : decode cX9_addTwo 0 = .ok (.aload_n 0, 1) := by decide +kernel
theorem dX9_addTwo_1 : decode cX9_addTwo 1 = .ok (.getfield 85, 3) := by decide +kernel
theorem dX9_addTwo_4 : decode cX9_addTwo 4 = .ok (.bipush 120, 2) := by decide +kernel
theorem dX9_addTwo_6 : decode cX9_addTwo 6 = .ok (.iload_n 2, 1) := by decide +kernel
theorem dX9_addTwo_7 : decode cX9_addTwo 7 = .ok (.imul, 1) := by decide +kernel
theorem dX9_addTwo_8 : decode cX9_addTwo 8 = .ok (.iload_n 3, 1) := by decide +kernel
theorem dX9_addTwo_9 : decode cX9_addTwo 9 = .ok (.iadd, 1) := by decide +kernel
theorem dX9_addTwo_10 : decode cX9_addTwo 10 = .ok (.laload, 1) := by decide +kernel
theorem dX9_addTwo_11 : decode cX9_addTwo 11 = .ok (.lstore 5, 2) := by decide +kernel
theorem dX9_addTwo_13 : decode cX9_addTwo 13 = .ok (.iconst 0, 1) := by decide +kernel
theorem dX9_addTwo_14 : decode cX9_addTwo 14 = .ok (.istore 7, 2) := by decide +kernel
theorem dX9_addTwo_16 : decode cX9_addTwo 16 = .ok (.iload 7, 2) := by decide +kernel
theorem dX9_addTwo_18 : decode cX9_addTwo 18 = .ok (.aload_n 0, 1) := by decide +kernel
theorem dX9_addTwo_19 : decode cX9_addTwo 19 = .ok (.getfield 173, 3) := by decide +kernel
theorem dX9_addTwo_22 : decode cX9_addTwo 22 = .ok (.if_icmp .ge 67, 3) := by decide +kernel
theorem dX9_addTwo_25 : decode cX9_addTwo 25 = .ok (.lload 5, 2) := by decide +kernel
theorem dX9_addTwo_27 : decode cX9_addTwo 27 = .ok (.lconst 0, 1) := by decide +kernel
theorem dX9_addTwo_28 : decode cX9_addTwo 28 = .ok (.lcmp, 1) := by decide +kernel
theorem dX9_addTwo_29 : decode cX9_addTwo 29 = .ok (.ifCond .le 60, 3) := by decide +kernel
theorem dX9_addTwo_32 : decode cX9_addTwo 32 = .ok (.aload_n 0, 1) := by decide +kernel
theorem dX9_addTwo_33 : decode cX9_addTwo 33 = .ok (.getfield 85, 3) := by decide +kernel
theorem dX9_addTwo_36 : decode cX9_addTwo 36 = .ok (.bipush 120, 2) := by decide +kernel
theorem dX9_addTwo_38 : decode cX9_addTwo 38 = .ok (.iload_n 1, 1) := by decide +kernel
theorem dX9_addTwo_39 : decode cX9_addTwo 39 = .ok (.imul, 1) := by decide +kernel
theorem dX9_addTwo_40 : decode cX9_addTwo 40 = .ok (.aload_n 0, 1) := by decide +kernel
theorem dX9_addTwo_41 : decode cX9_addTwo 41 = .ok (.getfield 67, 3) := by decide +kernel
theorem dX9_addTwo_44 : decode cX9_addTwo 44 = .ok (.sipush 14400, 3) := by decide +kernel
theorem dX9_addTwo_47 : decode cX9_addTwo 47 = .ok (.iload 4, 2) := by decide +kernel
theorem dX9_addTwo_49 : decode cX9_addTwo 49 = .ok (.imul, 1) := by decide +kernel
theorem dX9_addTwo_50 : decode cX9_addTwo 50 = .ok (.bipush 120, 2) := by decide +kernel
theorem dX9_addTwo_52 : decode cX9_addTwo 52 = .ok (.iload_n 3, 1) := by decide +kernel
theorem dX9_addTwo_53 : decode cX9_addTwo 53 = .ok (.imul, 1) := by decide +kernel
theorem dX9_addTwo_54 : decode cX9_addTwo 54 = .ok (.iadd, 1) := by decide +kernel
theorem dX9_addTwo_55 : decode cX9_addTwo 55 = .ok (.iload 7, 2) := by decide +kernel
theorem dX9_addTwo_57 : decode cX9_addTwo 57 = .ok (.iadd, 1) := by decide +kernel
theorem dX9_addTwo_58 : decode cX9_addTwo 58 = .ok (.iaload, 1) := by decide +kernel
theorem dX9_addTwo_59 : decode cX9_addTwo 59 = .ok (.iadd, 1) := by decide +kernel
theorem dX9_addTwo_60 : decode cX9_addTwo 60 = .ok (.dup2, 1) := by decide +kernel
theorem dX9_addTwo_61 : decode cX9_addTwo 61 = .ok (.laload, 1) := by decide +kernel
theorem dX9_addTwo_62 : decode cX9_addTwo 62 = .ok (.lload 5, 2) := by decide +kernel
theorem dX9_addTwo_64 : decode cX9_addTwo 64 = .ok (.aload_n 0, 1) := by decide +kernel
theorem dX9_addTwo_65 : decode cX9_addTwo 65 = .ok (.getfield 85, 3) := by decide +kernel
theorem dX9_addTwo_68 : decode cX9_addTwo 68 = .ok (.bipush 120, 2) := by decide +kernel
theorem dX9_addTwo_70 : decode cX9_addTwo 70 = .ok (.iload_n 1, 1) := by decide +kernel
theorem dX9_addTwo_71 : decode cX9_addTwo 71 = .ok (.iconst 1, 1) := by decide +kernel
theorem dX9_addTwo_72 : decode cX9_addTwo 72 = .ok (.isub, 1) := by decide +kernel
theorem dX9_addTwo_73 : decode cX9_addTwo 73 = .ok (.iload_n 2, 1) := by decide +kernel
theorem dX9_addTwo_74 : decode cX9_addTwo 74 = .ok (.isub, 1) := by decide +kernel
theorem dX9_addTwo_75 : decode cX9_addTwo 75 = .ok (.imul, 1) := by decide +kernel
theorem dX9_addTwo_76 : decode cX9_addTwo 76 = .ok (.iload 7, 2) := by decide +kernel
theorem dX9_addTwo_78 : decode cX9_addTwo 78 = .ok (.iadd, 1) := by decide +kernel
theorem dX9_addTwo_79 : decode cX9_addTwo 79 = .ok (.laload, 1) := by decide +kernel
theorem dX9_addTwo_80 : decode cX9_addTwo 80 = .ok (.lmul, 1) := by decide +kernel
theorem dX9_addTwo_81 : decode cX9_addTwo 81 = .ok (.ladd, 1) := by decide +kernel
theorem dX9_addTwo_82 : decode cX9_addTwo 82 = .ok (.lastore, 1) := by decide +kernel
theorem dX9_addTwo_83 : decode cX9_addTwo 83 = .ok (.iinc 7 1, 3) := by decide +kernel
theorem dX9_addTwo_86 : decode cX9_addTwo 86 = .ok (.goto (-70), 3) := by decide +kernel
theorem dX9_addTwo_89 : decode cX9_addTwo 89 = .ok (.return_, 1) := by decide +kernel
theorem dX9_manyOf_0 : decode cX9_manyOf 0 = .ok (.aload_n 0, 1) := by decide +kernel
theorem dX9_manyOf_1 : decode cX9_manyOf 1 = .ok (.iload_n 1, 1) := by decide +kernel
theorem dX9_manyOf_2 : decode cX9_manyOf 2 = .ok (.invokevirtual 233, 3) := by decide +kernel
theorem dX9_manyOf_5 : decode cX9_manyOf 5 = .ok (.lconst 0, 1) := by decide +kernel
theorem dX9_manyOf_6 : decode cX9_manyOf 6 = .ok (.lstore_n 3, 1) := by decide +kernel
theorem dX9_manyOf_7 : decode cX9_manyOf 7 = .ok (.iconst 0, 1) := by decide +kernel
theorem dX9_manyOf_8 : decode cX9_manyOf 8 = .ok (.istore 5, 2) := by decide +kernel
theorem dX9_manyOf_10 : decode cX9_manyOf 10 = .ok (.iload 5, 2) := by decide +kernel
theorem dX9_manyOf_12 : decode cX9_manyOf 12 = .ok (.aload_n 0, 1) := by decide +kernel
theorem dX9_manyOf_13 : decode cX9_manyOf 13 = .ok (.getfield 173, 3) := by decide +kernel
theorem dX9_manyOf_16 : decode cX9_manyOf 16 = .ok (.if_icmp .ge 50, 3) := by decide +kernel
theorem dX9_manyOf_19 : decode cX9_manyOf 19 = .ok (.lload_n 3, 1) := by decide +kernel
theorem dX9_manyOf_20 : decode cX9_manyOf 20 = .ok (.aload_n 0, 1) := by decide +kernel
theorem dX9_manyOf_21 : decode cX9_manyOf 21 = .ok (.iload 5, 2) := by decide +kernel
theorem dX9_manyOf_23 : decode cX9_manyOf 23 = .ok (.invokevirtual 194, 3) := by decide +kernel
theorem dX9_manyOf_26 : decode cX9_manyOf 26 = .ok (.ifCond .eq 31, 3) := by decide +kernel
theorem dX9_manyOf_29 : decode cX9_manyOf 29 = .ok (.iload_n 2, 1) := by decide +kernel
theorem dX9_manyOf_30 : decode cX9_manyOf 30 = .ok (.ifCond .eq 12, 3) := by decide +kernel
theorem dX9_manyOf_33 : decode cX9_manyOf 33 = .ok (.aload_n 0, 1) := by decide +kernel
theorem dX9_manyOf_34 : decode cX9_manyOf 34 = .ok (.iload 5, 2) := by decide +kernel
theorem dX9_manyOf_36 : decode cX9_manyOf 36 = .ok (.invokevirtual 209, 3) := by decide +kernel
theorem dX9_manyOf_39 : decode cX9_manyOf 39 = .ok (.ifCond .eq 18, 3) := by decide +kernel
theorem dX9_manyOf_42 : decode cX9_manyOf 42 = .ok (.aload_n 0, 1) := by decide +kernel
theorem dX9_manyOf_43 : decode cX9_manyOf 43 = .ok (.getfield 85, 3) := by decide +kernel
theorem dX9_manyOf_46 : decode cX9_manyOf 46 = .ok (.bipush 120, 2) := by decide +kernel
theorem dX9_manyOf_48 : decode cX9_manyOf 48 = .ok (.iload_n 1, 1) := by decide +kernel
theorem dX9_manyOf_49 : decode cX9_manyOf 49 = .ok (.imul, 1) := by decide +kernel
theorem dX9_manyOf_50 : decode cX9_manyOf 50 = .ok (.iload 5, 2) := by decide +kernel
theorem dX9_manyOf_52 : decode cX9_manyOf 52 = .ok (.iadd, 1) := by decide +kernel
theorem dX9_manyOf_53 : decode cX9_manyOf 53 = .ok (.laload, 1) := by decide +kernel
theorem dX9_manyOf_54 : decode cX9_manyOf 54 = .ok (.goto 4, 3) := by decide +kernel
theorem dX9_manyOf_57 : decode cX9_manyOf 57 = .ok (.lconst 0, 1) := by decide +kernel
theorem dX9_manyOf_58 : decode cX9_manyOf 58 = .ok (.ladd, 1) := by decide +kernel
theorem dX9_manyOf_59 : decode cX9_manyOf 59 = .ok (.lstore_n 3, 1) := by decide +kernel
theorem dX9_manyOf_60 : decode cX9_manyOf 60 = .ok (.iinc 5 1, 3) := by decide +kernel
theorem dX9_manyOf_63 : decode cX9_manyOf 63 = .ok (.goto (-53), 3) := by decide +kernel
theorem dX9_manyOf_66 : decode cX9_manyOf 66 = .ok (.lload_n 3, 1) := by decide +kernel
theorem dX9_manyOf_67 : decode cX9_manyOf 67 = .ok (.lreturn, 1) := by decide +kernel
theorem dX9_many_0 : decode cX9_many 0 = .ok (.iload_n 1, 1) := by decide +kernel
theorem dX9_many_1 : decode cX9_many 1 = .ok (.iconst 1, 1) := by decide +kernel
theorem dX9_many_2 : decode cX9_many 2 = .ok (.bipush 15, 2) := by decide +kernel
theorem dX9_many_4 : decode cX9_many 4 = .ok (.invokestatic 88, 3) := by decide +kernel
theorem dX9_many_7 : decode cX9_many 7 = .ok (.ifCond .ne 7, 3) := by decide +kernel
theorem dX9_many_10 : decode cX9_many 10 = .ok (.ldc2_w 237, 3) := by decide +kernel
end
section
theorem dX9_many_13 : decode cX9_many 13 = .ok (.lreturn, 1) := by decide +kernel
theorem dX9_many_14 : decode cX9_many 14 = .ok (.aload_n 0, 1) := by decide +kernel
theorem dX9_many_15 : decode cX9_many 15 = .ok (.invokevirtual 191, 3) := by decide +kernel
theorem dX9_many_18 : decode cX9_many 18 = .ok (.aload_n 0, 1) := by decide +kernel
theorem dX9_many_19 : decode cX9_many 19 = .ok (.iload_n 1, 1) := by decide +kernel
theorem dX9_many_20 : decode cX9_many 20 = .ok (.iconst 0, 1) := by decide +kernel
theorem dX9_many_21 : decode cX9_many 21 = .ok (.invokevirtual 239, 3) := by decide +kernel
theorem dX9_many_24 : decode cX9_many 24 = .ok (.lreturn, 1) := by decide +kernel
theorem dX9_refuses_0 : decode cX9_refuses 0 = .ok (.iload_n 2, 1) := by decide +kernel
theorem dX9_refuses_1 : decode cX9_refuses 1 = .ok (.ifCond .eq 12, 3) := by decide +kernel
theorem dX9_refuses_4 : decode cX9_refuses 4 = .ok (.iload_n 1, 1) := by decide +kernel
theorem dX9_refuses_5 : decode cX9_refuses 5 = .ok (.iconst 0, 1) := by decide +kernel
theorem dX9_refuses_6 : decode cX9_refuses 6 = .ok (.iconst 1, 1) := by decide +kernel
theorem dX9_refuses_7 : decode cX9_refuses 7 = .ok (.invokestatic 88, 3) := by decide +kernel
theorem dX9_refuses_10 : decode cX9_refuses 10 = .ok (.ifCond .ne 5, 3) := by decide +kernel
theorem dX9_refuses_13 : decode cX9_refuses 13 = .ok (.iconst (-1), 1) := by decide +kernel
theorem dX9_refuses_14 : decode cX9_refuses 14 = .ok (.ireturn, 1) := by decide +kernel
theorem dX9_refuses_15 : decode cX9_refuses 15 = .ok (.aload_n 0, 1) := by decide +kernel
theorem dX9_refuses_16 : decode cX9_refuses 16 = .ok (.getfield 32, 3) := by decide +kernel
theorem dX9_refuses_19 : decode cX9_refuses 19 = .ok (.iload_n 1, 1) := by decide +kernel
theorem dX9_refuses_20 : decode cX9_refuses 20 = .ok (.baload, 1) := by decide +kernel
theorem dX9_refuses_21 : decode cX9_refuses 21 = .ok (.ifCond .ne 6, 3) := by decide +kernel
theorem dX9_refuses_24 : decode cX9_refuses 24 = .ok (.bipush (-2), 2) := by decide +kernel
theorem dX9_refuses_26 : decode cX9_refuses 26 = .ok (.ireturn, 1) := by decide +kernel
theorem dX9_refuses_27 : decode cX9_refuses 27 = .ok (.bipush 34, 2) := by decide +kernel
theorem dX9_refuses_29 : decode cX9_refuses 29 = .ok (.iconst 1, 1) := by decide +kernel
theorem dX9_refuses_30 : decode cX9_refuses 30 = .ok (.iload_n 1, 1) := by decide +kernel
theorem dX9_refuses_31 : decode cX9_refuses 31 = .ok (.iadd, 1) := by decide +kernel
theorem dX9_refuses_32 : decode cX9_refuses 32 = .ok (.imul, 1) := by decide +kernel
theorem dX9_refuses_33 : decode cX9_refuses 33 = .ok (.istore_n 3, 1) := by decide +kernel
theorem dX9_refuses_34 : decode cX9_refuses 34 = .ok (.aload_n 0, 1) := by decide +kernel
theorem dX9_refuses_35 : decode cX9_refuses 35 = .ok (.aload_n 0, 1) := by decide +kernel
theorem dX9_refuses_36 : decode cX9_refuses 36 = .ok (.getfield 29, 3) := by decide +kernel
theorem dX9_refuses_39 : decode cX9_refuses 39 = .ok (.iload_n 3, 1) := by decide +kernel
theorem dX9_refuses_40 : decode cX9_refuses 40 = .ok (.iconst 0, 1) := by decide +kernel
theorem dX9_refuses_41 : decode cX9_refuses 41 = .ok (.iadd, 1) := by decide +kernel
theorem dX9_refuses_42 : decode cX9_refuses 42 = .ok (.iaload, 1) := by decide +kernel
theorem dX9_refuses_43 : decode cX9_refuses 43 = .ok (.aload_n 0, 1) := by decide +kernel
theorem dX9_refuses_44 : decode cX9_refuses 44 = .ok (.getfield 29, 3) := by decide +kernel
theorem dX9_refuses_47 : decode cX9_refuses 47 = .ok (.iload_n 3, 1) := by decide +kernel
theorem dX9_refuses_48 : decode cX9_refuses 48 = .ok (.iconst 1, 1) := by decide +kernel
theorem dX9_refuses_49 : decode cX9_refuses 49 = .ok (.iadd, 1) := by decide +kernel
theorem dX9_refuses_50 : decode cX9_refuses 50 = .ok (.iaload, 1) := by decide +kernel
theorem dX9_refuses_51 : decode cX9_refuses 51 = .ok (.invokevirtual 187, 3) := by decide +kernel
theorem dX9_refuses_54 : decode cX9_refuses 54 = .ok (.aload_n 0, 1) := by decide +kernel
theorem dX9_refuses_55 : decode cX9_refuses 55 = .ok (.getfield 176, 3) := by decide +kernel
theorem dX9_refuses_58 : decode cX9_refuses 58 = .ok (.ifCond .eq 8, 3) := by decide +kernel
theorem dX9_refuses_61 : decode cX9_refuses 61 = .ok (.bipush (-3), 2) := by decide +kernel
theorem dX9_refuses_63 : decode cX9_refuses 63 = .ok (.goto 4, 3) := by decide +kernel
theorem dX9_refuses_66 : decode cX9_refuses 66 = .ok (.iconst 0, 1) := by decide +kernel
theorem dX9_refuses_67 : decode cX9_refuses 67 = .ok (.ireturn, 1) := by decide +kernel
theorem dX9_alike_0 : decode cX9_alike 0 = .ok (.aload_n 0, 1) := by decide +kernel
theorem dX9_alike_1 : decode cX9_alike 1 = .ok (.iload_n 1, 1) := by decide +kernel
theorem dX9_alike_2 : decode cX9_alike 2 = .ok (.iconst 1, 1) := by decide +kernel
theorem dX9_alike_3 : decode cX9_alike 3 = .ok (.invokevirtual 243, 3) := by decide +kernel
theorem dX9_alike_6 : decode cX9_alike 6 = .ok (.istore_n 2, 1) := by decide +kernel
theorem dX9_alike_7 : decode cX9_alike 7 = .ok (.iload_n 2, 1) := by decide +kernel
theorem dX9_alike_8 : decode cX9_alike 8 = .ok (.ifCond .eq 5, 3) := by decide +kernel
theorem dX9_alike_11 : decode cX9_alike 11 = .ok (.iload_n 2, 1) := by decide +kernel
theorem dX9_alike_12 : decode cX9_alike 12 = .ok (.ireturn, 1) := by decide +kernel
theorem dX9_alike_13 : decode cX9_alike 13 = .ok (.iconst 0, 1) := by decide +kernel
theorem dX9_alike_14 : decode cX9_alike 14 = .ok (.istore_n 3, 1) := by decide +kernel
theorem dX9_alike_15 : decode cX9_alike 15 = .ok (.iload_n 3, 1) := by decide +kernel
theorem dX9_alike_16 : decode cX9_alike 16 = .ok (.aload_n 0, 1) := by decide +kernel
theorem dX9_alike_17 : decode cX9_alike 17 = .ok (.getfield 173, 3) := by decide +kernel
theorem dX9_alike_20 : decode cX9_alike 20 = .ok (.if_icmp .ge 24, 3) := by decide +kernel
theorem dX9_alike_23 : decode cX9_alike 23 = .ok (.aload_n 0, 1) := by decide +kernel
theorem dX9_alike_24 : decode cX9_alike 24 = .ok (.iload_n 3, 1) := by decide +kernel
theorem dX9_alike_25 : decode cX9_alike 25 = .ok (.invokevirtual 194, 3) := by decide +kernel
theorem dX9_alike_28 : decode cX9_alike 28 = .ok (.aload_n 0, 1) := by decide +kernel
theorem dX9_alike_29 : decode cX9_alike 29 = .ok (.iload_n 3, 1) := by decide +kernel
theorem dX9_alike_30 : decode cX9_alike 30 = .ok (.invokevirtual 209, 3) := by decide +kernel
theorem dX9_alike_33 : decode cX9_alike 33 = .ok (.if_icmp .eq 5, 3) := by decide +kernel
theorem dX9_alike_36 : decode cX9_alike 36 = .ok (.iconst 0, 1) := by decide +kernel
theorem dX9_alike_37 : decode cX9_alike 37 = .ok (.ireturn, 1) := by decide +kernel
theorem dX9_alike_38 : decode cX9_alike 38 = .ok (.iinc 3 1, 3) := by decide +kernel
theorem dX9_alike_41 : decode cX9_alike 41 = .ok (.goto (-26), 3) := by decide +kernel
theorem dX9_alike_44 : decode cX9_alike 44 = .ok (.iconst 1, 1) := by decide +kernel
theorem dX9_alike_45 : decode cX9_alike 45 = .ok (.ireturn, 1) := by decide +kernel
theorem dX9_apart_0 : decode cX9_apart 0 = .ok (.aload_n 0, 1) := by decide +kernel
theorem dX9_apart_1 : decode cX9_apart 1 = .ok (.iload_n 1, 1) := by decide +kernel
theorem dX9_apart_2 : decode cX9_apart 2 = .ok (.iload_n 2, 1) := by decide +kernel
theorem dX9_apart_3 : decode cX9_apart 3 = .ok (.iconst (-1), 1) := by decide +kernel
theorem dX9_apart_4 : decode cX9_apart 4 = .ok (.if_icmp .lt 7, 3) := by decide +kernel
theorem dX9_apart_7 : decode cX9_apart 7 = .ok (.iconst 1, 1) := by decide +kernel
theorem dX9_apart_8 : decode cX9_apart 8 = .ok (.goto 4, 3) := by decide +kernel
theorem dX9_apart_11 : decode cX9_apart 11 = .ok (.iconst 0, 1) := by decide +kernel
theorem dX9_apart_12 : decode cX9_apart 12 = .ok (.invokevirtual 243, 3) := by decide +kernel
theorem dX9_apart_15 : decode cX9_apart 15 = .ok (.istore_n 3, 1) := by decide +kernel
theorem dX9_apart_16 : decode cX9_apart 16 = .ok (.iload_n 3, 1) := by decide +kernel
theorem dX9_apart_17 : decode cX9_apart 17 = .ok (.ifCond .eq 7, 3) := by decide +kernel
theorem dX9_apart_20 : decode cX9_apart 20 = .ok (.iload_n 3, 1) := by decide +kernel
theorem dX9_apart_21 : decode cX9_apart 21 = .ok (.goto 13, 3) := by decide +kernel
theorem dX9_apart_24 : decode cX9_apart 24 = .ok (.aload_n 0, 1) := by decide +kernel
theorem dX9_apart_25 : decode cX9_apart 25 = .ok (.aload_n 0, 1) := by decide +kernel
theorem dX9_apart_26 : decode cX9_apart 26 = .ok (.iconst 1, 1) := by decide +kernel
theorem dX9_apart_27 : decode cX9_apart 27 = .ok (.invokevirtual 222, 3) := by decide +kernel
theorem dX9_apart_30 : decode cX9_apart 30 = .ok (.iload_n 2, 1) := by decide +kernel
theorem dX9_apart_31 : decode cX9_apart 31 = .ok (.invokevirtual 225, 3) := by decide +kernel
theorem dX9_apart_34 : decode cX9_apart 34 = .ok (.ireturn, 1) := by decide +kernel
theorem dX9_both_0 : decode cX9_both 0 = .ok (.aload_n 0, 1) := by decide +kernel
theorem dX9_both_1 : decode cX9_both 1 = .ok (.iload_n 1, 1) := by decide +kernel
theorem dX9_both_2 : decode cX9_both 2 = .ok (.iload_n 2, 1) := by decide +kernel
theorem dX9_both_3 : decode cX9_both 3 = .ok (.iconst 1, 1) := by decide +kernel
theorem dX9_both_4 : decode cX9_both 4 = .ok (.bipush 15, 2) := by decide +kernel
theorem dX9_both_6 : decode cX9_both 6 = .ok (.invokestatic 88, 3) := by decide +kernel
theorem dX9_both_9 : decode cX9_both 9 = .ok (.invokevirtual 243, 3) := by decide +kernel
theorem dX9_both_12 : decode cX9_both 12 = .ok (.istore_n 3, 1) := by decide +kernel
theorem dX9_both_13 : decode cX9_both 13 = .ok (.iload_n 3, 1) := by decide +kernel
theorem dX9_both_14 : decode cX9_both 14 = .ok (.ifCond .eq 8, 3) := by decide +kernel
theorem dX9_both_17 : decode cX9_both 17 = .ok (.iload_n 3, 1) := by decide +kernel
theorem dX9_both_18 : decode cX9_both 18 = .ok (.i2l, 1) := by decide +kernel
theorem dX9_both_19 : decode cX9_both 19 = .ok (.goto 9, 3) := by decide +kernel
theorem dX9_both_22 : decode cX9_both 22 = .ok (.aload_n 0, 1) := by decide +kernel
theorem dX9_both_23 : decode cX9_both 23 = .ok (.iload_n 2, 1) := by decide +kernel
theorem dX9_both_24 : decode cX9_both 24 = .ok (.iconst 1, 1) := by decide +kernel
theorem dX9_both_25 : decode cX9_both 25 = .ok (.invokevirtual 239, 3) := by decide +kernel
theorem dX9_both_28 : decode cX9_both 28 = .ok (.lreturn, 1) := by decide +kernel
theorem dX9_bitsIn_0 : decode cX9_bitsIn 0 = .ok (.iconst 0, 1) := by decide +kernel
theorem dX9_bitsIn_1 : decode cX9_bitsIn 1 = .ok (.istore_n 1, 1) := by decide +kernel
theorem dX9_bitsIn_2 : decode cX9_bitsIn 2 = .ok (.iconst 0, 1) := by decide +kernel
theorem dX9_bitsIn_3 : decode cX9_bitsIn 3 = .ok (.istore_n 2, 1) := by decide +kernel
theorem dX9_bitsIn_4 : decode cX9_bitsIn 4 = .ok (.iload_n 2, 1) := by decide +kernel
theorem dX9_bitsIn_5 : decode cX9_bitsIn 5 = .ok (.bipush 16, 2) := by decide +kernel
theorem dX9_bitsIn_7 : decode cX9_bitsIn 7 = .ok (.if_icmp .ge 17, 3) := by decide +kernel
theorem dX9_bitsIn_10 : decode cX9_bitsIn 10 = .ok (.iload_n 1, 1) := by decide +kernel
theorem dX9_bitsIn_11 : decode cX9_bitsIn 11 = .ok (.iload_n 0, 1) := by decide +kernel
theorem dX9_bitsIn_12 : decode cX9_bitsIn 12 = .ok (.iload_n 2, 1) := by decide +kernel
theorem dX9_bitsIn_13 : decode cX9_bitsIn 13 = .ok (.ishr, 1) := by decide +kernel
theorem dX9_bitsIn_14 : decode cX9_bitsIn 14 = .ok (.iconst 1, 1) := by decide +kernel
theorem dX9_bitsIn_15 : decode cX9_bitsIn 15 = .ok (.iand, 1) := by decide +kernel
theorem dX9_bitsIn_16 : decode cX9_bitsIn 16 = .ok (.iadd, 1) := by decide +kernel
theorem dX9_bitsIn_17 : decode cX9_bitsIn 17 = .ok (.istore_n 1, 1) := by decide +kernel
theorem dX9_bitsIn_18 : decode cX9_bitsIn 18 = .ok (.iinc 2 1, 3) := by decide +kernel
theorem dX9_bitsIn_21 : decode cX9_bitsIn 21 = .ok (.goto (-17), 3) := by decide +kernel
theorem dX9_bitsIn_24 : decode cX9_bitsIn 24 = .ok (.iload_n 1, 1) := by decide +kernel
theorem dX9_bitsIn_25 : decode cX9_bitsIn 25 = .ok (.ireturn, 1) := by decide +kernel
theorem dX9_mark_0 : decode cX9_mark 0 = .ok (.iload_n 1, 1) := by decide +kernel
theorem dX9_mark_1 : decode cX9_mark 1 = .ok (.iconst 0, 1) := by decide +kernel
theorem dX9_mark_2 : decode cX9_mark 2 = .ok (.iconst 5, 1) := by decide +kernel
theorem dX9_mark_3 : decode cX9_mark 3 = .ok (.invokestatic 88, 3) := by decide +kernel
theorem dX9_mark_6 : decode cX9_mark 6 = .ok (.ifCond .eq 11, 3) := by decide +kernel
theorem dX9_mark_9 : decode cX9_mark 9 = .ok (.aload_n 0, 1) := by decide +kernel
theorem dX9_mark_10 : decode cX9_mark 10 = .ok (.iload_n 2, 1) := by decide +kernel
theorem dX9_mark_11 : decode cX9_mark 11 = .ok (.invokevirtual 156, 3) := by decide +kernel
theorem dX9_mark_14 : decode cX9_mark 14 = .ok (.ifCond .ne 6, 3) := by decide +kernel
theorem dX9_mark_17 : decode cX9_mark 17 = .ok (.ldc 247, 2) := by decide +kernel
theorem dX9_mark_19 : decode cX9_mark 19 = .ok (.ireturn, 1) := by decide +kernel
theorem dX9_mark_20 : decode cX9_mark 20 = .ok (.aload_n 0, 1) := by decide +kernel
theorem dX9_mark_21 : decode cX9_mark 21 = .ok (.invokevirtual 159, 3) := by decide +kernel
theorem dX9_mark_24 : decode cX9_mark 24 = .ok (.aload_n 0, 1) := by decide +kernel
theorem dX9_mark_25 : decode cX9_mark 25 = .ok (.getfield 39, 3) := by decide +kernel
theorem dX9_mark_28 : decode cX9_mark 28 = .ok (.iload_n 2, 1) := by decide +kernel
theorem dX9_mark_29 : decode cX9_mark 29 = .ok (.iaload, 1) := by decide +kernel
theorem dX9_mark_30 : decode cX9_mark 30 = .ok (.istore_n 3, 1) := by decide +kernel
theorem dX9_mark_31 : decode cX9_mark 31 = .ok (.aload_n 0, 1) := by decide +kernel
theorem dX9_mark_32 : decode cX9_mark 32 = .ok (.getfield 29, 3) := by decide +kernel
theorem dX9_mark_35 : decode cX9_mark 35 = .ok (.iconst 3, 1) := by decide +kernel
theorem dX9_mark_36 : decode cX9_mark 36 = .ok (.iload_n 2, 1) := by decide +kernel
theorem dX9_mark_37 : decode cX9_mark 37 = .ok (.iadd, 1) := by decide +kernel
theorem dX9_mark_38 : decode cX9_mark 38 = .ok (.iaload, 1) := by decide +kernel
theorem dX9_mark_39 : decode cX9_mark 39 = .ok (.istore 4, 2) := by decide +kernel
theorem dX9_mark_41 : decode cX9_mark 41 = .ok (.iload_n 1, 1) := by decide +kernel
theorem dX9_mark_42 : decode cX9_mark 42 = .ok (.tableswitch 128 0 4 #[34, 46, 62, 79, 101], 34) := by decide +kernel
theorem dX9_mark_76 : decode cX9_mark 76 = .ok (.aload_n 0, 1) := by decide +kernel
theorem dX9_mark_77 : decode cX9_mark 77 = .ok (.dup, 1) := by decide +kernel
theorem dX9_mark_78 : decode cX9_mark 78 = .ok (.getfield 248, 3) := by decide +kernel
theorem dX9_mark_81 : decode cX9_mark 81 = .ok (.lconst 1, 1) := by decide +kernel
theorem dX9_mark_82 : decode cX9_mark 82 = .ok (.ladd, 1) := by decide +kernel
theorem dX9_mark_83 : decode cX9_mark 83 = .ok (.putfield 248, 3) := by decide +kernel
theorem dX9_mark_86 : decode cX9_mark 86 = .ok (.iload_n 3, 1) := by decide +kernel
theorem dX9_mark_87 : decode cX9_mark 87 = .ok (.ireturn, 1) := by decide +kernel
theorem dX9_mark_88 : decode cX9_mark 88 = .ok (.aload_n 0, 1) := by decide +kernel
theorem dX9_mark_89 : decode cX9_mark 89 = .ok (.dup, 1) := by decide +kernel
theorem dX9_mark_90 : decode cX9_mark 90 = .ok (.getfield 248, 3) := by decide +kernel
theorem dX9_mark_93 : decode cX9_mark 93 = .ok (.ldc2_w 252, 3) := by decide +kernel
theorem dX9_mark_96 : decode cX9_mark 96 = .ok (.ladd, 1) := by decide +kernel
theorem dX9_mark_97 : decode cX9_mark 97 = .ok (.putfield 248, 3) := by decide +kernel
theorem dX9_mark_100 : decode cX9_mark 100 = .ok (.iconst 2, 1) := by decide +kernel
theorem dX9_mark_101 : decode cX9_mark 101 = .ok (.iload_n 3, 1) := by decide +kernel
theorem dX9_mark_102 : decode cX9_mark 102 = .ok (.imul, 1) := by decide +kernel
theorem dX9_mark_103 : decode cX9_mark 103 = .ok (.ireturn, 1) := by decide +kernel
theorem dX9_mark_104 : decode cX9_mark 104 = .ok (.aload_n 0, 1) := by decide +kernel
theorem dX9_mark_105 : decode cX9_mark 105 = .ok (.dup, 1) := by decide +kernel
theorem dX9_mark_106 : decode cX9_mark 106 = .ok (.getfield 248, 3) := by decide +kernel
theorem dX9_mark_109 : decode cX9_mark 109 = .ok (.ldc2_w 254, 3) := by decide +kernel
theorem dX9_mark_112 : decode cX9_mark 112 = .ok (.ladd, 1) := by decide +kernel
theorem dX9_mark_113 : decode cX9_mark 113 = .ok (.putfield 248, 3) := by decide +kernel
theorem dX9_mark_116 : decode cX9_mark 116 = .ok (.iload_n 3, 1) := by decide +kernel
theorem dX9_mark_117 : decode cX9_mark 117 = .ok (.iload 4, 2) := by decide +kernel
theorem dX9_mark_119 : decode cX9_mark 119 = .ok (.iadd, 1) := by decide +kernel
theorem dX9_mark_120 : decode cX9_mark 120 = .ok (.ireturn, 1) := by decide +kernel
theorem dX9_mark_121 : decode cX9_mark 121 = .ok (.aload_n 0, 1) := by decide +kernel
theorem dX9_mark_122 : decode cX9_mark 122 = .ok (.dup, 1) := by decide +kernel
theorem dX9_mark_123 : decode cX9_mark 123 = .ok (.getfield 248, 3) := by decide +kernel
theorem dX9_mark_126 : decode cX9_mark 126 = .ok (.ldc2_w 256, 3) := by decide +kernel
theorem dX9_mark_129 : decode cX9_mark 129 = .ok (.ladd, 1) := by decide +kernel
theorem dX9_mark_130 : decode cX9_mark 130 = .ok (.putfield 248, 3) := by decide +kernel
theorem dX9_mark_133 : decode cX9_mark 133 = .ok (.iconst 2, 1) := by decide +kernel
theorem dX9_mark_134 : decode cX9_mark 134 = .ok (.iload_n 3, 1) := by decide +kernel
theorem dX9_mark_135 : decode cX9_mark 135 = .ok (.imul, 1) := by decide +kernel
theorem dX9_mark_136 : decode cX9_mark 136 = .ok (.iload 4, 2) := by decide +kernel
theorem dX9_mark_138 : decode cX9_mark 138 = .ok (.invokestatic 125, 3) := by decide +kernel
theorem dX9_mark_141 : decode cX9_mark 141 = .ok (.iadd, 1) := by decide +kernel
theorem dX9_mark_142 : decode cX9_mark 142 = .ok (.ireturn, 1) := by decide +kernel
theorem dX9_mark_143 : decode cX9_mark 143 = .ok (.aload_n 0, 1) := by decide +kernel
theorem dX9_mark_144 : decode cX9_mark 144 = .ok (.dup, 1) := by decide +kernel
theorem dX9_mark_145 : decode cX9_mark 145 = .ok (.getfield 248, 3) := by decide +kernel
theorem dX9_mark_148 : decode cX9_mark 148 = .ok (.ldc2_w 258, 3) := by decide +kernel
theorem dX9_mark_151 : decode cX9_mark 151 = .ok (.ladd, 1) := by decide +kernel
theorem dX9_mark_152 : decode cX9_mark 152 = .ok (.putfield 248, 3) := by decide +kernel
theorem dX9_mark_155 : decode cX9_mark 155 = .ok (.iload_n 3, 1) := by decide +kernel
theorem dX9_mark_156 : decode cX9_mark 156 = .ok (.iload 4, 2) := by decide +kernel
theorem dX9_mark_158 : decode cX9_mark 158 = .ok (.iadd, 1) := by decide +kernel
theorem dX9_mark_159 : decode cX9_mark 159 = .ok (.aload_n 0, 1) := by decide +kernel
theorem dX9_mark_160 : decode cX9_mark 160 = .ok (.getfield 42, 3) := by decide +kernel
theorem dX9_mark_163 : decode cX9_mark 163 = .ok (.iload_n 2, 1) := by decide +kernel
theorem dX9_mark_164 : decode cX9_mark 164 = .ok (.iaload, 1) := by decide +kernel
theorem dX9_mark_165 : decode cX9_mark 165 = .ok (.invokestatic 260, 3) := by decide +kernel
theorem dX9_mark_168 : decode cX9_mark 168 = .ok (.isub, 1) := by decide +kernel
theorem dX9_mark_169 : decode cX9_mark 169 = .ok (.ireturn, 1) := by decide +kernel
theorem dX9_mark_170 : decode cX9_mark 170 = .ok (.aload_n 0, 1) := by decide +kernel
theorem dX9_mark_171 : decode cX9_mark 171 = .ok (.dup, 1) := by decide +kernel
theorem dX9_mark_172 : decode cX9_mark 172 = .ok (.getfield 248, 3) := by decide +kernel
theorem dX9_mark_175 : decode cX9_mark 175 = .ok (.ldc2_w 263, 3) := by decide +kernel
theorem dX9_mark_178 : decode cX9_mark 178 = .ok (.ladd, 1) := by decide +kernel
theorem dX9_mark_179 : decode cX9_mark 179 = .ok (.putfield 248, 3) := by decide +kernel
theorem dX9_mark_182 : decode cX9_mark 182 = .ok (.iload_n 3, 1) := by decide +kernel
theorem dX9_mark_183 : decode cX9_mark 183 = .ok (.iload_n 2, 1) := by decide +kernel
theorem dX9_mark_184 : decode cX9_mark 184 = .ok (.iadd, 1) := by decide +kernel
theorem dX9_mark_185 : decode cX9_mark 185 = .ok (.ireturn, 1) := by decide +kernel
theorem dX9_copy_0 : decode cX9_copy 0 = .ok (.iconst 0, 1) := by decide +kernel
theorem dX9_copy_1 : decode cX9_copy 1 = .ok (.istore_n 3, 1) := by decide +kernel
theorem dX9_copy_2 : decode cX9_copy 2 = .ok (.iload_n 3, 1) := by decide +kernel
theorem dX9_copy_3 : decode cX9_copy 3 = .ok (.bipush 34, 2) := by decide +kernel
theorem dX9_copy_5 : decode cX9_copy 5 = .ok (.if_icmp .ge 25, 3) := by decide +kernel
theorem dX9_copy_8 : decode cX9_copy 8 = .ok (.aload_n 0, 1) := by decide +kernel
theorem dX9_copy_9 : decode cX9_copy 9 = .ok (.getfield 29, 3) := by decide +kernel
theorem dX9_copy_12 : decode cX9_copy 12 = .ok (.iload_n 2, 1) := by decide +kernel
theorem dX9_copy_13 : decode cX9_copy 13 = .ok (.iload_n 3, 1) := by decide +kernel
theorem dX9_copy_14 : decode cX9_copy 14 = .ok (.iadd, 1) := by decide +kernel
theorem dX9_copy_15 : decode cX9_copy 15 = .ok (.aload_n 0, 1) := by decide +kernel
theorem dX9_copy_16 : decode cX9_copy 16 = .ok (.getfield 29, 3) := by decide +kernel
theorem dX9_copy_19 : decode cX9_copy 19 = .ok (.iload_n 1, 1) := by decide +kernel
theorem dX9_copy_20 : decode cX9_copy 20 = .ok (.iload_n 3, 1) := by decide +kernel
theorem dX9_copy_21 : decode cX9_copy 21 = .ok (.iadd, 1) := by decide +kernel
theorem dX9_copy_22 : decode cX9_copy 22 = .ok (.iaload, 1) := by decide +kernel
theorem dX9_copy_23 : decode cX9_copy 23 = .ok (.iastore, 1) := by decide +kernel
theorem dX9_copy_24 : decode cX9_copy 24 = .ok (.iinc 3 1, 3) := by decide +kernel
theorem dX9_copy_27 : decode cX9_copy 27 = .ok (.goto (-25), 3) := by decide +kernel
theorem dX9_copy_30 : decode cX9_copy 30 = .ok (.return_, 1) := by decide +kernel
theorem dX9_keep_0 : decode cX9_keep 0 = .ok (.iload_n 1, 1) := by decide +kernel
theorem dX9_keep_1 : decode cX9_keep 1 = .ok (.iconst 0, 1) := by decide +kernel
theorem dX9_keep_2 : decode cX9_keep 2 = .ok (.iconst 1, 1) := by decide +kernel
theorem dX9_keep_3 : decode cX9_keep 3 = .ok (.invokestatic 88, 3) := by decide +kernel
theorem dX9_keep_6 : decode cX9_keep 6 = .ok (.ifCond .ne 5, 3) := by decide +kernel
theorem dX9_keep_9 : decode cX9_keep 9 = .ok (.iconst (-1), 1) := by decide +kernel
theorem dX9_keep_10 : decode cX9_keep 10 = .ok (.ireturn, 1) := by decide +kernel
theorem dX9_keep_11 : decode cX9_keep 11 = .ok (.aload_n 0, 1) := by decide +kernel
theorem dX9_keep_12 : decode cX9_keep 12 = .ok (.iconst 0, 1) := by decide +kernel
theorem dX9_keep_13 : decode cX9_keep 13 = .ok (.bipush 34, 2) := by decide +kernel
theorem dX9_keep_15 : decode cX9_keep 15 = .ok (.iconst 1, 1) := by decide +kernel
theorem dX9_keep_16 : decode cX9_keep 16 = .ok (.iload_n 1, 1) := by decide +kernel
theorem dX9_keep_17 : decode cX9_keep 17 = .ok (.iadd, 1) := by decide +kernel
theorem dX9_keep_18 : decode cX9_keep 18 = .ok (.imul, 1) := by decide +kernel
theorem dX9_keep_19 : decode cX9_keep 19 = .ok (.invokevirtual 265, 3) := by decide +kernel
theorem dX9_keep_22 : decode cX9_keep 22 = .ok (.aload_n 0, 1) := by decide +kernel
theorem dX9_keep_23 : decode cX9_keep 23 = .ok (.getfield 32, 3) := by decide +kernel
theorem dX9_keep_26 : decode cX9_keep 26 = .ok (.iload_n 1, 1) := by decide +kernel
theorem dX9_keep_27 : decode cX9_keep 27 = .ok (.iconst 1, 1) := by decide +kernel
theorem dX9_keep_28 : decode cX9_keep 28 = .ok (.bastore, 1) := by decide +kernel
theorem dX9_keep_29 : decode cX9_keep 29 = .ok (.aload_n 0, 1) := by decide +kernel
theorem dX9_keep_30 : decode cX9_keep 30 = .ok (.getfield 29, 3) := by decide +kernel
theorem dX9_keep_33 : decode cX9_keep 33 = .ok (.iconst 0, 1) := by decide +kernel
theorem dX9_keep_34 : decode cX9_keep 34 = .ok (.iaload, 1) := by decide +kernel
theorem dX9_keep_35 : decode cX9_keep 35 = .ok (.invokestatic 260, 3) := by decide +kernel
theorem dX9_keep_38 : decode cX9_keep 38 = .ok (.ireturn, 1) := by decide +kernel
theorem dX9_back_0 : decode cX9_back 0 = .ok (.iload_n 1, 1) := by decide +kernel
theorem dX9_back_1 : decode cX9_back 1 = .ok (.iconst 0, 1) := by decide +kernel
theorem dX9_back_2 : decode cX9_back 2 = .ok (.iconst 1, 1) := by decide +kernel
theorem dX9_back_3 : decode cX9_back 3 = .ok (.invokestatic 88, 3) := by decide +kernel
theorem dX9_back_6 : decode cX9_back 6 = .ok (.ifCond .ne 5, 3) := by decide +kernel
theorem dX9_back_9 : decode cX9_back 9 = .ok (.iconst (-1), 1) := by decide +kernel
theorem dX9_back_10 : decode cX9_back 10 = .ok (.ireturn, 1) := by decide +kernel
theorem dX9_back_11 : decode cX9_back 11 = .ok (.aload_n 0, 1) := by decide +kernel
theorem dX9_back_12 : decode cX9_back 12 = .ok (.getfield 32, 3) := by decide +kernel
theorem dX9_back_15 : decode cX9_back 15 = .ok (.iload_n 1, 1) := by decide +kernel
theorem dX9_back_16 : decode cX9_back 16 = .ok (.baload, 1) := by decide +kernel
theorem dX9_back_17 : decode cX9_back 17 = .ok (.ifCond .ne 6, 3) := by decide +kernel
theorem dX9_back_20 : decode cX9_back 20 = .ok (.bipush (-2), 2) := by decide +kernel
theorem dX9_back_22 : decode cX9_back 22 = .ok (.ireturn, 1) := by decide +kernel
theorem dX9_back_23 : decode cX9_back 23 = .ok (.aload_n 0, 1) := by decide +kernel
theorem dX9_back_24 : decode cX9_back 24 = .ok (.bipush 34, 2) := by decide +kernel
theorem dX9_back_26 : decode cX9_back 26 = .ok (.iconst 1, 1) := by decide +kernel
theorem dX9_back_27 : decode cX9_back 27 = .ok (.iload_n 1, 1) := by decide +kernel
theorem dX9_back_28 : decode cX9_back 28 = .ok (.iadd, 1) := by decide +kernel
theorem dX9_back_29 : decode cX9_back 29 = .ok (.imul, 1) := by decide +kernel
theorem dX9_back_30 : decode cX9_back 30 = .ok (.iconst 0, 1) := by decide +kernel
theorem dX9_back_31 : decode cX9_back 31 = .ok (.invokevirtual 265, 3) := by decide +kernel
theorem dX9_back_34 : decode cX9_back 34 = .ok (.aload_n 0, 1) := by decide +kernel
theorem dX9_back_35 : decode cX9_back 35 = .ok (.getfield 29, 3) := by decide +kernel
theorem dX9_back_38 : decode cX9_back 38 = .ok (.iconst 0, 1) := by decide +kernel
theorem dX9_back_39 : decode cX9_back 39 = .ok (.iaload, 1) := by decide +kernel
theorem dX9_back_40 : decode cX9_back 40 = .ok (.invokestatic 260, 3) := by decide +kernel
theorem dX9_back_43 : decode cX9_back 43 = .ok (.ireturn, 1) := by decide +kernel
theorem dX9_count_0 : decode cX9_count 0 = .ok (.iload_n 1, 1) := by decide +kernel
theorem dX9_count_1 : decode cX9_count 1 = .ok (.ifCond .ne 12, 3) := by decide +kernel
theorem dX9_count_4 : decode cX9_count 4 = .ok (.aload_n 0, 1) := by decide +kernel
theorem dX9_count_5 : decode cX9_count 5 = .ok (.getfield 13, 3) := by decide +kernel
theorem dX9_count_8 : decode cX9_count 8 = .ok (.iconst 0, 1) := by decide +kernel
theorem dX9_count_9 : decode cX9_count 9 = .ok (.iaload, 1) := by decide +kernel
theorem dX9_count_10 : decode cX9_count 10 = .ok (.goto 61, 3) := by decide +kernel
theorem dX9_count_13 : decode cX9_count 13 = .ok (.iload_n 1, 1) := by decide +kernel
theorem dX9_count_14 : decode cX9_count 14 = .ok (.iconst 1, 1) := by decide +kernel
theorem dX9_count_15 : decode cX9_count 15 = .ok (.if_icmp .ne 15, 3) := by decide +kernel
theorem dX9_count_18 : decode cX9_count 18 = .ok (.aload_n 0, 1) := by decide +kernel
theorem dX9_count_19 : decode cX9_count 19 = .ok (.getfield 29, 3) := by decide +kernel
theorem dX9_count_22 : decode cX9_count 22 = .ok (.iconst 0, 1) := by decide +kernel
theorem dX9_count_23 : decode cX9_count 23 = .ok (.iaload, 1) := by decide +kernel
theorem dX9_count_24 : decode cX9_count 24 = .ok (.invokestatic 260, 3) := by decide +kernel
theorem dX9_count_27 : decode cX9_count 27 = .ok (.goto 44, 3) := by decide +kernel
theorem dX9_count_30 : decode cX9_count 30 = .ok (.iload_n 1, 1) := by decide +kernel
theorem dX9_count_31 : decode cX9_count 31 = .ok (.iconst 2, 1) := by decide +kernel
theorem dX9_count_32 : decode cX9_count 32 = .ok (.if_icmp .ne 12, 3) := by decide +kernel
theorem dX9_count_35 : decode cX9_count 35 = .ok (.aload_n 0, 1) := by decide +kernel
theorem dX9_count_36 : decode cX9_count 36 = .ok (.getfield 29, 3) := by decide +kernel
theorem dX9_count_39 : decode cX9_count 39 = .ok (.iconst 1, 1) := by decide +kernel
theorem dX9_count_40 : decode cX9_count 40 = .ok (.iaload, 1) := by decide +kernel
theorem dX9_count_41 : decode cX9_count 41 = .ok (.goto 30, 3) := by decide +kernel
theorem dX9_count_44 : decode cX9_count 44 = .ok (.iload_n 1, 1) := by decide +kernel
theorem dX9_count_45 : decode cX9_count 45 = .ok (.iconst 3, 1) := by decide +kernel
theorem dX9_count_46 : decode cX9_count 46 = .ok (.if_icmp .ne 12, 3) := by decide +kernel
theorem dX9_count_49 : decode cX9_count 49 = .ok (.aload_n 0, 1) := by decide +kernel
theorem dX9_count_50 : decode cX9_count 50 = .ok (.getfield 29, 3) := by decide +kernel
theorem dX9_count_53 : decode cX9_count 53 = .ok (.iconst 2, 1) := by decide +kernel
theorem dX9_count_54 : decode cX9_count 54 = .ok (.iaload, 1) := by decide +kernel
theorem dX9_count_55 : decode cX9_count 55 = .ok (.goto 16, 3) := by decide +kernel
theorem dX9_count_58 : decode cX9_count 58 = .ok (.iload_n 1, 1) := by decide +kernel
theorem dX9_count_59 : decode cX9_count 59 = .ok (.iconst 4, 1) := by decide +kernel
theorem dX9_count_60 : decode cX9_count 60 = .ok (.if_icmp .ne 10, 3) := by decide +kernel
theorem dX9_count_63 : decode cX9_count 63 = .ok (.aload_n 0, 1) := by decide +kernel
theorem dX9_count_64 : decode cX9_count 64 = .ok (.getfield 92, 3) := by decide +kernel
theorem dX9_count_67 : decode cX9_count 67 = .ok (.goto 4, 3) := by decide +kernel
theorem dX9_count_70 : decode cX9_count 70 = .ok (.iconst (-1), 1) := by decide +kernel
theorem dX9_count_71 : decode cX9_count 71 = .ok (.ireturn, 1) := by decide +kernel
theorem dX9_trace_0 : decode cX9_trace 0 = .ok (.aload_n 0, 1) := by decide +kernel
theorem dX9_trace_1 : decode cX9_trace 1 = .ok (.getfield 248, 3) := by decide +kernel
theorem dX9_trace_4 : decode cX9_trace 4 = .ok (.lreturn, 1) := by decide +kernel
theorem dJ6_bitCount_0f7a4_0 : decode cJ6_bitCount_0f7a4 0 = .ok (.iload_n 0, 1) := by decide +kernel
theorem dJ6_bitCount_0f7a4_1 : decode cJ6_bitCount_0f7a4 1 = .ok (.iload_n 0, 1) := by decide +kernel
theorem dJ6_bitCount_0f7a4_2 : decode cJ6_bitCount_0f7a4 2 = .ok (.iconst 1, 1) := by decide +kernel
theorem dJ6_bitCount_0f7a4_3 : decode cJ6_bitCount_0f7a4 3 = .ok (.iushr, 1) := by decide +kernel
theorem dJ6_bitCount_0f7a4_4 : decode cJ6_bitCount_0f7a4 4 = .ok (.ldc_w 265, 3) := by decide +kernel
theorem dJ6_bitCount_0f7a4_7 : decode cJ6_bitCount_0f7a4 7 = .ok (.iand, 1) := by decide +kernel
theorem dJ6_bitCount_0f7a4_8 : decode cJ6_bitCount_0f7a4 8 = .ok (.isub, 1) := by decide +kernel
theorem dJ6_bitCount_0f7a4_9 : decode cJ6_bitCount_0f7a4 9 = .ok (.istore_n 0, 1) := by decide +kernel
theorem dJ6_bitCount_0f7a4_10 : decode cJ6_bitCount_0f7a4 10 = .ok (.iload_n 0, 1) := by decide +kernel
theorem dJ6_bitCount_0f7a4_11 : decode cJ6_bitCount_0f7a4 11 = .ok (.ldc_w 266, 3) := by decide +kernel
theorem dJ6_bitCount_0f7a4_14 : decode cJ6_bitCount_0f7a4 14 = .ok (.iand, 1) := by decide +kernel
theorem dJ6_bitCount_0f7a4_15 : decode cJ6_bitCount_0f7a4 15 = .ok (.iload_n 0, 1) := by decide +kernel
theorem dJ6_bitCount_0f7a4_16 : decode cJ6_bitCount_0f7a4 16 = .ok (.iconst 2, 1) := by decide +kernel
theorem dJ6_bitCount_0f7a4_17 : decode cJ6_bitCount_0f7a4 17 = .ok (.iushr, 1) := by decide +kernel
theorem dJ6_bitCount_0f7a4_18 : decode cJ6_bitCount_0f7a4 18 = .ok (.ldc_w 266, 3) := by decide +kernel
theorem dJ6_bitCount_0f7a4_21 : decode cJ6_bitCount_0f7a4 21 = .ok (.iand, 1) := by decide +kernel
theorem dJ6_bitCount_0f7a4_22 : decode cJ6_bitCount_0f7a4 22 = .ok (.iadd, 1) := by decide +kernel
theorem dJ6_bitCount_0f7a4_23 : decode cJ6_bitCount_0f7a4 23 = .ok (.istore_n 0, 1) := by decide +kernel
theorem dJ6_bitCount_0f7a4_24 : decode cJ6_bitCount_0f7a4 24 = .ok (.iload_n 0, 1) := by decide +kernel
theorem dJ6_bitCount_0f7a4_25 : decode cJ6_bitCount_0f7a4 25 = .ok (.iload_n 0, 1) := by decide +kernel
theorem dJ6_bitCount_0f7a4_26 : decode cJ6_bitCount_0f7a4 26 = .ok (.iconst 4, 1) := by decide +kernel
theorem dJ6_bitCount_0f7a4_27 : decode cJ6_bitCount_0f7a4 27 = .ok (.iushr, 1) := by decide +kernel
theorem dJ6_bitCount_0f7a4_28 : decode cJ6_bitCount_0f7a4 28 = .ok (.iadd, 1) := by decide +kernel
theorem dJ6_bitCount_0f7a4_29 : decode cJ6_bitCount_0f7a4 29 = .ok (.ldc_w 267, 3) := by decide +kernel
theorem dJ6_bitCount_0f7a4_32 : decode cJ6_bitCount_0f7a4 32 = .ok (.iand, 1) := by decide +kernel
theorem dJ6_bitCount_0f7a4_33 : decode cJ6_bitCount_0f7a4 33 = .ok (.istore_n 0, 1) := by decide +kernel
theorem dJ6_bitCount_0f7a4_34 : decode cJ6_bitCount_0f7a4 34 = .ok (.iload_n 0, 1) := by decide +kernel
theorem dJ6_bitCount_0f7a4_35 : decode cJ6_bitCount_0f7a4 35 = .ok (.iload_n 0, 1) := by decide +kernel
theorem dJ6_bitCount_0f7a4_36 : decode cJ6_bitCount_0f7a4 36 = .ok (.bipush 8, 2) := by decide +kernel
theorem dJ6_bitCount_0f7a4_38 : decode cJ6_bitCount_0f7a4 38 = .ok (.iushr, 1) := by decide +kernel
theorem dJ6_bitCount_0f7a4_39 : decode cJ6_bitCount_0f7a4 39 = .ok (.iadd, 1) := by decide +kernel
theorem dJ6_bitCount_0f7a4_40 : decode cJ6_bitCount_0f7a4 40 = .ok (.istore_n 0, 1) := by decide +kernel
theorem dJ6_bitCount_0f7a4_41 : decode cJ6_bitCount_0f7a4 41 = .ok (.iload_n 0, 1) := by decide +kernel
theorem dJ6_bitCount_0f7a4_42 : decode cJ6_bitCount_0f7a4 42 = .ok (.iload_n 0, 1) := by decide +kernel
theorem dJ6_bitCount_0f7a4_43 : decode cJ6_bitCount_0f7a4 43 = .ok (.bipush 16, 2) := by decide +kernel
theorem dJ6_bitCount_0f7a4_45 : decode cJ6_bitCount_0f7a4 45 = .ok (.iushr, 1) := by decide +kernel
theorem dJ6_bitCount_0f7a4_46 : decode cJ6_bitCount_0f7a4 46 = .ok (.iadd, 1) := by decide +kernel
theorem dJ6_bitCount_0f7a4_47 : decode cJ6_bitCount_0f7a4 47 = .ok (.istore_n 0, 1) := by decide +kernel
theorem dJ6_bitCount_0f7a4_48 : decode cJ6_bitCount_0f7a4 48 = .ok (.iload_n 0, 1) := by decide +kernel
theorem dJ6_bitCount_0f7a4_49 : decode cJ6_bitCount_0f7a4 49 = .ok (.bipush 63, 2) := by decide +kernel
theorem dJ6_bitCount_0f7a4_51 : decode cJ6_bitCount_0f7a4 51 = .ok (.iand, 1) := by decide +kernel
theorem dJ6_bitCount_0f7a4_52 : decode cJ6_bitCount_0f7a4 52 = .ok (.ireturn, 1) := by decide +kernel
theorem dJ9_min_7cf53_0 : decode cJ9_min_7cf53 0 = .ok (.iload_n 0, 1) := by decide +kernel
theorem dJ9_min_7cf53_1 : decode cJ9_min_7cf53 1 = .ok (.iload_n 1, 1) := by decide +kernel
theorem dJ9_min_7cf53_2 : decode cJ9_min_7cf53 2 = .ok (.if_icmp .gt 7, 3) := by decide +kernel
theorem dJ9_min_7cf53_5 : decode cJ9_min_7cf53 5 = .ok (.iload_n 0, 1) := by decide +kernel
theorem dJ9_min_7cf53_6 : decode cJ9_min_7cf53 6 = .ok (.goto 4, 3) := by decide +kernel
theorem dJ9_min_7cf53_9 : decode cJ9_min_7cf53 9 = .ok (.iload_n 1, 1) := by decide +kernel
theorem dJ9_min_7cf53_10 : decode cJ9_min_7cf53 10 = .ok (.ireturn, 1) := by decide +kernel
theorem dL_law_0 : decode cL_law 0 = .ok (.new 7, 3) := by decide +kernel
theorem dL_law_3 : decode cL_law 3 = .ok (.dup, 1) := by decide +kernel
theorem dL_law_4 : decode cL_law 4 = .ok (.invokespecial 9, 3) := by decide +kernel
theorem dL_law_7 : decode cL_law 7 = .ok (.astore_n 1, 1) := by decide +kernel
theorem dL_law_8 : decode cL_law 8 = .ok (.new 10, 3) := by decide +kernel
theorem dL_law_11 : decode cL_law 11 = .ok (.dup, 1) := by decide +kernel
theorem dL_law_12 : decode cL_law 12 = .ok (.invokespecial 12, 3) := by decide +kernel
theorem dL_law_15 : decode cL_law 15 = .ok (.astore_n 2, 1) := by decide +kernel
theorem dL_law_16 : decode cL_law 16 = .ok (.iconst 0, 1) := by decide +kernel
theorem dL_law_17 : decode cL_law 17 = .ok (.istore_n 3, 1) := by decide +kernel
theorem dL_law_18 : decode cL_law 18 = .ok (.iload_n 3, 1) := by decide +kernel
theorem dL_law_19 : decode cL_law 19 = .ok (.aload_n 0, 1) := by decide +kernel
theorem dL_law_20 : decode cL_law 20 = .ok (.arraylength, 1) := by decide +kernel
theorem dL_law_21 : decode cL_law 21 = .ok (.iconst 4, 1) := by decide +kernel
theorem dL_law_22 : decode cL_law 22 = .ok (.isub, 1) := by decide +kernel
theorem dL_law_23 : decode cL_law 23 = .ok (.if_icmp .gt 793, 3) := by decide +kernel
theorem dL_law_26 : decode cL_law 26 = .ok (.aload_n 0, 1) := by decide +kernel
theorem dL_law_27 : decode cL_law 27 = .ok (.iload_n 3, 1) := by decide +kernel
theorem dL_law_28 : decode cL_law 28 = .ok (.iaload, 1) := by decide +kernel
theorem dL_law_29 : decode cL_law 29 = .ok (.bipush 31, 2) := by decide +kernel
theorem dL_law_31 : decode cL_law 31 = .ok (.iand, 1) := by decide +kernel
theorem dL_law_32 : decode cL_law 32 = .ok (.tableswitch 778 0 26 #[124, 187, 200, 213, 226, 259, 292, 325, 358, 391, 414, 427, 440, 463, 486, 499, 512, 525, 548, 572, 595, 628, 662, 695, 718, 741, 764], 124) := by decide +kernel
theorem dL_law_156 : decode cL_law 156 = .ok (.aload_n 1, 1) := by decide +kernel
theorem dL_law_157 : decode cL_law 157 = .ok (.aload_n 0, 1) := by decide +kernel
theorem dL_law_158 : decode cL_law 158 = .ok (.iload_n 3, 1) := by decide +kernel
theorem dL_law_159 : decode cL_law 159 = .ok (.iconst 1, 1) := by decide +kernel
theorem dL_law_160 : decode cL_law 160 = .ok (.iadd, 1) := by decide +kernel
theorem dL_law_161 : decode cL_law 161 = .ok (.iaload, 1) := by decide +kernel
theorem dL_law_162 : decode cL_law 162 = .ok (.i2l, 1) := by decide +kernel
theorem dL_law_163 : decode cL_law 163 = .ok (.bipush 32, 2) := by decide +kernel
theorem dL_law_165 : decode cL_law 165 = .ok (.lshl, 1) := by decide +kernel
theorem dL_law_166 : decode cL_law 166 = .ok (.aload_n 0, 1) := by decide +kernel
theorem dL_law_167 : decode cL_law 167 = .ok (.iload_n 3, 1) := by decide +kernel
theorem dL_law_168 : decode cL_law 168 = .ok (.iconst 2, 1) := by decide +kernel
theorem dL_law_169 : decode cL_law 169 = .ok (.iadd, 1) := by decide +kernel
theorem dL_law_170 : decode cL_law 170 = .ok (.iaload, 1) := by decide +kernel
theorem dL_law_171 : decode cL_law 171 = .ok (.i2l, 1) := by decide +kernel
theorem dL_law_172 : decode cL_law 172 = .ok (.ldc2_w 13, 3) := by decide +kernel
theorem dL_law_175 : decode cL_law 175 = .ok (.land, 1) := by decide +kernel
theorem dL_law_176 : decode cL_law 176 = .ok (.lor, 1) := by decide +kernel
theorem dL_law_177 : decode cL_law 177 = .ok (.aload_n 0, 1) := by decide +kernel
theorem dL_law_178 : decode cL_law 178 = .ok (.iload_n 3, 1) := by decide +kernel
theorem dL_law_179 : decode cL_law 179 = .ok (.iconst 3, 1) := by decide +kernel
theorem dL_law_180 : decode cL_law 180 = .ok (.iadd, 1) := by decide +kernel
theorem dL_law_181 : decode cL_law 181 = .ok (.iaload, 1) := by decide +kernel
theorem dL_law_182 : decode cL_law 182 = .ok (.invokevirtual 15, 3) := by decide +kernel
theorem dL_law_185 : decode cL_law 185 = .ok (.aload_n 2, 1) := by decide +kernel
theorem dL_law_186 : decode cL_law 186 = .ok (.aload_n 0, 1) := by decide +kernel
theorem dL_law_187 : decode cL_law 187 = .ok (.iload_n 3, 1) := by decide +kernel
theorem dL_law_188 : decode cL_law 188 = .ok (.iconst 1, 1) := by decide +kernel
theorem dL_law_189 : decode cL_law 189 = .ok (.iadd, 1) := by decide +kernel
theorem dL_law_190 : decode cL_law 190 = .ok (.iaload, 1) := by decide +kernel
theorem dL_law_191 : decode cL_law 191 = .ok (.i2l, 1) := by decide +kernel
theorem dL_law_192 : decode cL_law 192 = .ok (.bipush 32, 2) := by decide +kernel
theorem dL_law_194 : decode cL_law 194 = .ok (.lshl, 1) := by decide +kernel
theorem dL_law_195 : decode cL_law 195 = .ok (.aload_n 0, 1) := by decide +kernel
theorem dL_law_196 : decode cL_law 196 = .ok (.iload_n 3, 1) := by decide +kernel
theorem dL_law_197 : decode cL_law 197 = .ok (.iconst 2, 1) := by decide +kernel
theorem dL_law_198 : decode cL_law 198 = .ok (.iadd, 1) := by decide +kernel
theorem dL_law_199 : decode cL_law 199 = .ok (.iaload, 1) := by decide +kernel
theorem dL_law_200 : decode cL_law 200 = .ok (.i2l, 1) := by decide +kernel
theorem dL_law_201 : decode cL_law 201 = .ok (.ldc2_w 13, 3) := by decide +kernel
theorem dL_law_204 : decode cL_law 204 = .ok (.land, 1) := by decide +kernel
theorem dL_law_205 : decode cL_law 205 = .ok (.lor, 1) := by decide +kernel
theorem dL_law_206 : decode cL_law 206 = .ok (.aload_n 0, 1) := by decide +kernel
theorem dL_law_207 : decode cL_law 207 = .ok (.iload_n 3, 1) := by decide +kernel
theorem dL_law_208 : decode cL_law 208 = .ok (.iconst 3, 1) := by decide +kernel
theorem dL_law_209 : decode cL_law 209 = .ok (.iadd, 1) := by decide +kernel
theorem dL_law_210 : decode cL_law 210 = .ok (.iaload, 1) := by decide +kernel
theorem dL_law_211 : decode cL_law 211 = .ok (.invokevirtual 19, 3) := by decide +kernel
theorem dL_law_214 : decode cL_law 214 = .ok (.if_icmp .eq 596, 3) := by decide +kernel
theorem dL_law_217 : decode cL_law 217 = .ok (.iconst 0, 1) := by decide +kernel
theorem dL_law_218 : decode cL_law 218 = .ok (.ireturn, 1) := by decide +kernel
theorem dL_law_219 : decode cL_law 219 = .ok (.aload_n 1, 1) := by decide +kernel
theorem dL_law_220 : decode cL_law 220 = .ok (.invokevirtual 20, 3) := by decide +kernel
theorem dL_law_223 : decode cL_law 223 = .ok (.aload_n 2, 1) := by decide +kernel
theorem dL_law_224 : decode cL_law 224 = .ok (.invokevirtual 24, 3) := by decide +kernel
theorem dL_law_227 : decode cL_law 227 = .ok (.if_icmp .eq 583, 3) := by decide +kernel
theorem dL_law_230 : decode cL_law 230 = .ok (.iconst 0, 1) := by decide +kernel
theorem dL_law_231 : decode cL_law 231 = .ok (.ireturn, 1) := by decide +kernel
theorem dL_law_232 : decode cL_law 232 = .ok (.aload_n 1, 1) := by decide +kernel
theorem dL_law_233 : decode cL_law 233 = .ok (.invokevirtual 25, 3) := by decide +kernel
theorem dL_law_236 : decode cL_law 236 = .ok (.aload_n 2, 1) := by decide +kernel
theorem dL_law_237 : decode cL_law 237 = .ok (.invokevirtual 28, 3) := by decide +kernel
theorem dL_law_240 : decode cL_law 240 = .ok (.if_icmp .eq 570, 3) := by decide +kernel
theorem dL_law_243 : decode cL_law 243 = .ok (.iconst 0, 1) := by decide +kernel
theorem dL_law_244 : decode cL_law 244 = .ok (.ireturn, 1) := by decide +kernel
theorem dL_law_245 : decode cL_law 245 = .ok (.aload_n 1, 1) := by decide +kernel
theorem dL_law_246 : decode cL_law 246 = .ok (.invokevirtual 29, 3) := by decide +kernel
theorem dL_law_249 : decode cL_law 249 = .ok (.aload_n 2, 1) := by decide +kernel
theorem dL_law_250 : decode cL_law 250 = .ok (.invokevirtual 32, 3) := by decide +kernel
theorem dL_law_253 : decode cL_law 253 = .ok (.if_icmp .eq 557, 3) := by decide +kernel
theorem dL_law_256 : decode cL_law 256 = .ok (.iconst 0, 1) := by decide +kernel
theorem dL_law_257 : decode cL_law 257 = .ok (.ireturn, 1) := by decide +kernel
theorem dL_law_258 : decode cL_law 258 = .ok (.aload_n 1, 1) := by decide +kernel
theorem dL_law_259 : decode cL_law 259 = .ok (.aload_n 0, 1) := by decide +kernel
theorem dL_law_260 : decode cL_law 260 = .ok (.iload_n 3, 1) := by decide +kernel
theorem dL_law_261 : decode cL_law 261 = .ok (.iconst 1, 1) := by decide +kernel
theorem dL_law_262 : decode cL_law 262 = .ok (.iadd, 1) := by decide +kernel
theorem dL_law_263 : decode cL_law 263 = .ok (.iaload, 1) := by decide +kernel
theorem dL_law_264 : decode cL_law 264 = .ok (.aload_n 0, 1) := by decide +kernel
theorem dL_law_265 : decode cL_law 265 = .ok (.iload_n 3, 1) := by decide +kernel
theorem dL_law_266 : decode cL_law 266 = .ok (.iconst 2, 1) := by decide +kernel
theorem dL_law_267 : decode cL_law 267 = .ok (.iadd, 1) := by decide +kernel
theorem dL_law_268 : decode cL_law 268 = .ok (.iaload, 1) := by decide +kernel
theorem dL_law_269 : decode cL_law 269 = .ok (.invokevirtual 33, 3) := by decide +kernel
theorem dL_law_272 : decode cL_law 272 = .ok (.aload_n 2, 1) := by decide +kernel
theorem dL_law_273 : decode cL_law 273 = .ok (.aload_n 0, 1) := by decide +kernel
theorem dL_law_274 : decode cL_law 274 = .ok (.iload_n 3, 1) := by decide +kernel
theorem dL_law_275 : decode cL_law 275 = .ok (.iconst 1, 1) := by decide +kernel
theorem dL_law_276 : decode cL_law 276 = .ok (.iadd, 1) := by decide +kernel
theorem dL_law_277 : decode cL_law 277 = .ok (.iaload, 1) := by decide +kernel
theorem dL_law_278 : decode cL_law 278 = .ok (.aload_n 0, 1) := by decide +kernel
theorem dL_law_279 : decode cL_law 279 = .ok (.iload_n 3, 1) := by decide +kernel
theorem dL_law_280 : decode cL_law 280 = .ok (.iconst 2, 1) := by decide +kernel
theorem dL_law_281 : decode cL_law 281 = .ok (.iadd, 1) := by decide +kernel
theorem dL_law_282 : decode cL_law 282 = .ok (.iaload, 1) := by decide +kernel
theorem dL_law_283 : decode cL_law 283 = .ok (.invokevirtual 37, 3) := by decide +kernel
theorem dL_law_286 : decode cL_law 286 = .ok (.if_icmp .eq 524, 3) := by decide +kernel
theorem dL_law_289 : decode cL_law 289 = .ok (.iconst 0, 1) := by decide +kernel
theorem dL_law_290 : decode cL_law 290 = .ok (.ireturn, 1) := by decide +kernel
theorem dL_law_291 : decode cL_law 291 = .ok (.aload_n 1, 1) := by decide +kernel
theorem dL_law_292 : decode cL_law 292 = .ok (.aload_n 0, 1) := by decide +kernel
theorem dL_law_293 : decode cL_law 293 = .ok (.iload_n 3, 1) := by decide +kernel
theorem dL_law_294 : decode cL_law 294 = .ok (.iconst 1, 1) := by decide +kernel
theorem dL_law_295 : decode cL_law 295 = .ok (.iadd, 1) := by decide +kernel
theorem dL_law_296 : decode cL_law 296 = .ok (.iaload, 1) := by decide +kernel
theorem dL_law_297 : decode cL_law 297 = .ok (.aload_n 0, 1) := by decide +kernel
theorem dL_law_298 : decode cL_law 298 = .ok (.iload_n 3, 1) := by decide +kernel
theorem dL_law_299 : decode cL_law 299 = .ok (.iconst 2, 1) := by decide +kernel
theorem dL_law_300 : decode cL_law 300 = .ok (.iadd, 1) := by decide +kernel
theorem dL_law_301 : decode cL_law 301 = .ok (.iaload, 1) := by decide +kernel
theorem dL_law_302 : decode cL_law 302 = .ok (.invokevirtual 38, 3) := by decide +kernel
theorem dL_law_305 : decode cL_law 305 = .ok (.aload_n 2, 1) := by decide +kernel
theorem dL_law_306 : decode cL_law 306 = .ok (.aload_n 0, 1) := by decide +kernel
theorem dL_law_307 : decode cL_law 307 = .ok (.iload_n 3, 1) := by decide +kernel
theorem dL_law_308 : decode cL_law 308 = .ok (.iconst 1, 1) := by decide +kernel
theorem dL_law_309 : decode cL_law 309 = .ok (.iadd, 1) := by decide +kernel
theorem dL_law_310 : decode cL_law 310 = .ok (.iaload, 1) := by decide +kernel
theorem dL_law_311 : decode cL_law 311 = .ok (.aload_n 0, 1) := by decide +kernel
theorem dL_law_312 : decode cL_law 312 = .ok (.iload_n 3, 1) := by decide +kernel
theorem dL_law_313 : decode cL_law 313 = .ok (.iconst 2, 1) := by decide +kernel
theorem dL_law_314 : decode cL_law 314 = .ok (.iadd, 1) := by decide +kernel
theorem dL_law_315 : decode cL_law 315 = .ok (.iaload, 1) := by decide +kernel
theorem dL_law_316 : decode cL_law 316 = .ok (.invokevirtual 41, 3) := by decide +kernel
theorem dL_law_319 : decode cL_law 319 = .ok (.if_icmp .eq 491, 3) := by decide +kernel
theorem dL_law_322 : decode cL_law 322 = .ok (.iconst 0, 1) := by decide +kernel
theorem dL_law_323 : decode cL_law 323 = .ok (.ireturn, 1) := by decide +kernel
theorem dL_law_324 : decode cL_law 324 = .ok (.aload_n 1, 1) := by decide +kernel
theorem dL_law_325 : decode cL_law 325 = .ok (.aload_n 0, 1) := by decide +kernel
theorem dL_law_326 : decode cL_law 326 = .ok (.iload_n 3, 1) := by decide +kernel
theorem dL_law_327 : decode cL_law 327 = .ok (.iconst 1, 1) := by decide +kernel
theorem dL_law_328 : decode cL_law 328 = .ok (.iadd, 1) := by decide +kernel
theorem dL_law_329 : decode cL_law 329 = .ok (.iaload, 1) := by decide +kernel
theorem dL_law_330 : decode cL_law 330 = .ok (.aload_n 0, 1) := by decide +kernel
theorem dL_law_331 : decode cL_law 331 = .ok (.iload_n 3, 1) := by decide +kernel
theorem dL_law_332 : decode cL_law 332 = .ok (.iconst 2, 1) := by decide +kernel
theorem dL_law_333 : decode cL_law 333 = .ok (.iadd, 1) := by decide +kernel
theorem dL_law_334 : decode cL_law 334 = .ok (.iaload, 1) := by decide +kernel
theorem dL_law_335 : decode cL_law 335 = .ok (.invokevirtual 42, 3) := by decide +kernel
theorem dL_law_338 : decode cL_law 338 = .ok (.aload_n 2, 1) := by decide +kernel
theorem dL_law_339 : decode cL_law 339 = .ok (.aload_n 0, 1) := by decide +kernel
theorem dL_law_340 : decode cL_law 340 = .ok (.iload_n 3, 1) := by decide +kernel
theorem dL_law_341 : decode cL_law 341 = .ok (.iconst 1, 1) := by decide +kernel
theorem dL_law_342 : decode cL_law 342 = .ok (.iadd, 1) := by decide +kernel
theorem dL_law_343 : decode cL_law 343 = .ok (.iaload, 1) := by decide +kernel
theorem dL_law_344 : decode cL_law 344 = .ok (.aload_n 0, 1) := by decide +kernel
theorem dL_law_345 : decode cL_law 345 = .ok (.iload_n 3, 1) := by decide +kernel
theorem dL_law_346 : decode cL_law 346 = .ok (.iconst 2, 1) := by decide +kernel
theorem dL_law_347 : decode cL_law 347 = .ok (.iadd, 1) := by decide +kernel
theorem dL_law_348 : decode cL_law 348 = .ok (.iaload, 1) := by decide +kernel
theorem dL_law_349 : decode cL_law 349 = .ok (.invokevirtual 45, 3) := by decide +kernel
theorem dL_law_352 : decode cL_law 352 = .ok (.if_icmp .eq 458, 3) := by decide +kernel
theorem dL_law_355 : decode cL_law 355 = .ok (.iconst 0, 1) := by decide +kernel
theorem dL_law_356 : decode cL_law 356 = .ok (.ireturn, 1) := by decide +kernel
theorem dL_law_357 : decode cL_law 357 = .ok (.aload_n 1, 1) := by decide +kernel
theorem dL_law_358 : decode cL_law 358 = .ok (.aload_n 0, 1) := by decide +kernel
theorem dL_law_359 : decode cL_law 359 = .ok (.iload_n 3, 1) := by decide +kernel
theorem dL_law_360 : decode cL_law 360 = .ok (.iconst 1, 1) := by decide +kernel
theorem dL_law_361 : decode cL_law 361 = .ok (.iadd, 1) := by decide +kernel
theorem dL_law_362 : decode cL_law 362 = .ok (.iaload, 1) := by decide +kernel
theorem dL_law_363 : decode cL_law 363 = .ok (.aload_n 0, 1) := by decide +kernel
theorem dL_law_364 : decode cL_law 364 = .ok (.iload_n 3, 1) := by decide +kernel
theorem dL_law_365 : decode cL_law 365 = .ok (.iconst 2, 1) := by decide +kernel
theorem dL_law_366 : decode cL_law 366 = .ok (.iadd, 1) := by decide +kernel
theorem dL_law_367 : decode cL_law 367 = .ok (.iaload, 1) := by decide +kernel
theorem dL_law_368 : decode cL_law 368 = .ok (.invokevirtual 46, 3) := by decide +kernel
theorem dL_law_371 : decode cL_law 371 = .ok (.aload_n 2, 1) := by decide +kernel
theorem dL_law_372 : decode cL_law 372 = .ok (.aload_n 0, 1) := by decide +kernel
theorem dL_law_373 : decode cL_law 373 = .ok (.iload_n 3, 1) := by decide +kernel
theorem dL_law_374 : decode cL_law 374 = .ok (.iconst 1, 1) := by decide +kernel
theorem dL_law_375 : decode cL_law 375 = .ok (.iadd, 1) := by decide +kernel
theorem dL_law_376 : decode cL_law 376 = .ok (.iaload, 1) := by decide +kernel
theorem dL_law_377 : decode cL_law 377 = .ok (.aload_n 0, 1) := by decide +kernel
theorem dL_law_378 : decode cL_law 378 = .ok (.iload_n 3, 1) := by decide +kernel
theorem dL_law_379 : decode cL_law 379 = .ok (.iconst 2, 1) := by decide +kernel
theorem dL_law_380 : decode cL_law 380 = .ok (.iadd, 1) := by decide +kernel
theorem dL_law_381 : decode cL_law 381 = .ok (.iaload, 1) := by decide +kernel
theorem dL_law_382 : decode cL_law 382 = .ok (.invokevirtual 49, 3) := by decide +kernel
theorem dL_law_385 : decode cL_law 385 = .ok (.if_icmp .eq 425, 3) := by decide +kernel
theorem dL_law_388 : decode cL_law 388 = .ok (.iconst 0, 1) := by decide +kernel
theorem dL_law_389 : decode cL_law 389 = .ok (.ireturn, 1) := by decide +kernel
theorem dL_law_390 : decode cL_law 390 = .ok (.aload_n 1, 1) := by decide +kernel
theorem dL_law_391 : decode cL_law 391 = .ok (.aload_n 0, 1) := by decide +kernel
theorem dL_law_392 : decode cL_law 392 = .ok (.iload_n 3, 1) := by decide +kernel
theorem dL_law_393 : decode cL_law 393 = .ok (.iconst 1, 1) := by decide +kernel
theorem dL_law_394 : decode cL_law 394 = .ok (.iadd, 1) := by decide +kernel
theorem dL_law_395 : decode cL_law 395 = .ok (.iaload, 1) := by decide +kernel
theorem dL_law_396 : decode cL_law 396 = .ok (.aload_n 0, 1) := by decide +kernel
theorem dL_law_397 : decode cL_law 397 = .ok (.iload_n 3, 1) := by decide +kernel
theorem dL_law_398 : decode cL_law 398 = .ok (.iconst 2, 1) := by decide +kernel
theorem dL_law_399 : decode cL_law 399 = .ok (.iadd, 1) := by decide +kernel
theorem dL_law_400 : decode cL_law 400 = .ok (.iaload, 1) := by decide +kernel
theorem dL_law_401 : decode cL_law 401 = .ok (.invokevirtual 50, 3) := by decide +kernel
theorem dL_law_404 : decode cL_law 404 = .ok (.aload_n 2, 1) := by decide +kernel
theorem dL_law_405 : decode cL_law 405 = .ok (.aload_n 0, 1) := by decide +kernel
theorem dL_law_406 : decode cL_law 406 = .ok (.iload_n 3, 1) := by decide +kernel
theorem dL_law_407 : decode cL_law 407 = .ok (.iconst 1, 1) := by decide +kernel
theorem dL_law_408 : decode cL_law 408 = .ok (.iadd, 1) := by decide +kernel
theorem dL_law_409 : decode cL_law 409 = .ok (.iaload, 1) := by decide +kernel
theorem dL_law_410 : decode cL_law 410 = .ok (.aload_n 0, 1) := by decide +kernel
theorem dL_law_411 : decode cL_law 411 = .ok (.iload_n 3, 1) := by decide +kernel
theorem dL_law_412 : decode cL_law 412 = .ok (.iconst 2, 1) := by decide +kernel
theorem dL_law_413 : decode cL_law 413 = .ok (.iadd, 1) := by decide +kernel
theorem dL_law_414 : decode cL_law 414 = .ok (.iaload, 1) := by decide +kernel
theorem dL_law_415 : decode cL_law 415 = .ok (.invokevirtual 53, 3) := by decide +kernel
theorem dL_law_418 : decode cL_law 418 = .ok (.if_icmp .eq 392, 3) := by decide +kernel
theorem dL_law_421 : decode cL_law 421 = .ok (.iconst 0, 1) := by decide +kernel
theorem dL_law_422 : decode cL_law 422 = .ok (.ireturn, 1) := by decide +kernel
theorem dL_law_423 : decode cL_law 423 = .ok (.aload_n 1, 1) := by decide +kernel
theorem dL_law_424 : decode cL_law 424 = .ok (.aload_n 0, 1) := by decide +kernel
theorem dL_law_425 : decode cL_law 425 = .ok (.iload_n 3, 1) := by decide +kernel
theorem dL_law_426 : decode cL_law 426 = .ok (.iconst 1, 1) := by decide +kernel
theorem dL_law_427 : decode cL_law 427 = .ok (.iadd, 1) := by decide +kernel
theorem dL_law_428 : decode cL_law 428 = .ok (.iaload, 1) := by decide +kernel
theorem dL_law_429 : decode cL_law 429 = .ok (.invokevirtual 54, 3) := by decide +kernel
theorem dL_law_432 : decode cL_law 432 = .ok (.aload_n 2, 1) := by decide +kernel
theorem dL_law_433 : decode cL_law 433 = .ok (.aload_n 0, 1) := by decide +kernel
theorem dL_law_434 : decode cL_law 434 = .ok (.iload_n 3, 1) := by decide +kernel
theorem dL_law_435 : decode cL_law 435 = .ok (.iconst 1, 1) := by decide +kernel
theorem dL_law_436 : decode cL_law 436 = .ok (.iadd, 1) := by decide +kernel
theorem dL_law_437 : decode cL_law 437 = .ok (.iaload, 1) := by decide +kernel
theorem dL_law_438 : decode cL_law 438 = .ok (.invokevirtual 58, 3) := by decide +kernel
theorem dL_law_441 : decode cL_law 441 = .ok (.if_icmp .eq 369, 3) := by decide +kernel
theorem dL_law_444 : decode cL_law 444 = .ok (.iconst 0, 1) := by decide +kernel
theorem dL_law_445 : decode cL_law 445 = .ok (.ireturn, 1) := by decide +kernel
theorem dL_law_446 : decode cL_law 446 = .ok (.aload_n 1, 1) := by decide +kernel
theorem dL_law_447 : decode cL_law 447 = .ok (.invokevirtual 59, 3) := by decide +kernel
theorem dL_law_450 : decode cL_law 450 = .ok (.aload_n 2, 1) := by decide +kernel
theorem dL_law_451 : decode cL_law 451 = .ok (.invokevirtual 62, 3) := by decide +kernel
theorem dL_law_454 : decode cL_law 454 = .ok (.if_icmp .eq 356, 3) := by decide +kernel
theorem dL_law_457 : decode cL_law 457 = .ok (.iconst 0, 1) := by decide +kernel
theorem dL_law_458 : decode cL_law 458 = .ok (.ireturn, 1) := by decide +kernel
theorem dL_law_459 : decode cL_law 459 = .ok (.aload_n 1, 1) := by decide +kernel
theorem dL_law_460 : decode cL_law 460 = .ok (.invokevirtual 63, 3) := by decide +kernel
theorem dL_law_463 : decode cL_law 463 = .ok (.aload_n 2, 1) := by decide +kernel
theorem dL_law_464 : decode cL_law 464 = .ok (.invokevirtual 66, 3) := by decide +kernel
theorem dL_law_467 : decode cL_law 467 = .ok (.if_icmp .eq 343, 3) := by decide +kernel
theorem dL_law_470 : decode cL_law 470 = .ok (.iconst 0, 1) := by decide +kernel
theorem dL_law_471 : decode cL_law 471 = .ok (.ireturn, 1) := by decide +kernel
theorem dL_law_472 : decode cL_law 472 = .ok (.aload_n 1, 1) := by decide +kernel
theorem dL_law_473 : decode cL_law 473 = .ok (.aload_n 0, 1) := by decide +kernel
theorem dL_law_474 : decode cL_law 474 = .ok (.iload_n 3, 1) := by decide +kernel
theorem dL_law_475 : decode cL_law 475 = .ok (.iconst 1, 1) := by decide +kernel
theorem dL_law_476 : decode cL_law 476 = .ok (.iadd, 1) := by decide +kernel
theorem dL_law_477 : decode cL_law 477 = .ok (.iaload, 1) := by decide +kernel
theorem dL_law_478 : decode cL_law 478 = .ok (.invokevirtual 67, 3) := by decide +kernel
theorem dL_law_481 : decode cL_law 481 = .ok (.aload_n 2, 1) := by decide +kernel
theorem dL_law_482 : decode cL_law 482 = .ok (.aload_n 0, 1) := by decide +kernel
theorem dL_law_483 : decode cL_law 483 = .ok (.iload_n 3, 1) := by decide +kernel
theorem dL_law_484 : decode cL_law 484 = .ok (.iconst 1, 1) := by decide +kernel
theorem dL_law_485 : decode cL_law 485 = .ok (.iadd, 1) := by decide +kernel
theorem dL_law_486 : decode cL_law 486 = .ok (.iaload, 1) := by decide +kernel
theorem dL_law_487 : decode cL_law 487 = .ok (.invokevirtual 70, 3) := by decide +kernel
theorem dL_law_490 : decode cL_law 490 = .ok (.if_icmp .eq 320, 3) := by decide +kernel
theorem dL_law_493 : decode cL_law 493 = .ok (.iconst 0, 1) := by decide +kernel
theorem dL_law_494 : decode cL_law 494 = .ok (.ireturn, 1) := by decide +kernel
theorem dL_law_495 : decode cL_law 495 = .ok (.aload_n 1, 1) := by decide +kernel
theorem dL_law_496 : decode cL_law 496 = .ok (.aload_n 0, 1) := by decide +kernel
theorem dL_law_497 : decode cL_law 497 = .ok (.iload_n 3, 1) := by decide +kernel
theorem dL_law_498 : decode cL_law 498 = .ok (.iconst 1, 1) := by decide +kernel
theorem dL_law_499 : decode cL_law 499 = .ok (.iadd, 1) := by decide +kernel
theorem dL_law_500 : decode cL_law 500 = .ok (.iaload, 1) := by decide +kernel
theorem dL_law_501 : decode cL_law 501 = .ok (.invokevirtual 71, 3) := by decide +kernel
theorem dL_law_504 : decode cL_law 504 = .ok (.aload_n 2, 1) := by decide +kernel
theorem dL_law_505 : decode cL_law 505 = .ok (.aload_n 0, 1) := by decide +kernel
theorem dL_law_506 : decode cL_law 506 = .ok (.iload_n 3, 1) := by decide +kernel
theorem dL_law_507 : decode cL_law 507 = .ok (.iconst 1, 1) := by decide +kernel
theorem dL_law_508 : decode cL_law 508 = .ok (.iadd, 1) := by decide +kernel
theorem dL_law_509 : decode cL_law 509 = .ok (.iaload, 1) := by decide +kernel
theorem dL_law_510 : decode cL_law 510 = .ok (.invokevirtual 74, 3) := by decide +kernel
theorem dL_law_513 : decode cL_law 513 = .ok (.if_icmp .eq 297, 3) := by decide +kernel
theorem dL_law_516 : decode cL_law 516 = .ok (.iconst 0, 1) := by decide +kernel
theorem dL_law_517 : decode cL_law 517 = .ok (.ireturn, 1) := by decide +kernel
theorem dL_law_518 : decode cL_law 518 = .ok (.aload_n 1, 1) := by decide +kernel
theorem dL_law_519 : decode cL_law 519 = .ok (.invokevirtual 75, 3) := by decide +kernel
theorem dL_law_522 : decode cL_law 522 = .ok (.aload_n 2, 1) := by decide +kernel
theorem dL_law_523 : decode cL_law 523 = .ok (.invokevirtual 78, 3) := by decide +kernel
theorem dL_law_526 : decode cL_law 526 = .ok (.if_icmp .eq 284, 3) := by decide +kernel
theorem dL_law_529 : decode cL_law 529 = .ok (.iconst 0, 1) := by decide +kernel
theorem dL_law_530 : decode cL_law 530 = .ok (.ireturn, 1) := by decide +kernel
theorem dL_law_531 : decode cL_law 531 = .ok (.aload_n 1, 1) := by decide +kernel
theorem dL_law_532 : decode cL_law 532 = .ok (.invokevirtual 79, 3) := by decide +kernel
theorem dL_law_535 : decode cL_law 535 = .ok (.aload_n 2, 1) := by decide +kernel
theorem dL_law_536 : decode cL_law 536 = .ok (.invokevirtual 82, 3) := by decide +kernel
theorem dL_law_539 : decode cL_law 539 = .ok (.if_icmp .eq 271, 3) := by decide +kernel
theorem dL_law_542 : decode cL_law 542 = .ok (.iconst 0, 1) := by decide +kernel
theorem dL_law_543 : decode cL_law 543 = .ok (.ireturn, 1) := by decide +kernel
theorem dL_law_544 : decode cL_law 544 = .ok (.aload_n 1, 1) := by decide +kernel
theorem dL_law_545 : decode cL_law 545 = .ok (.invokevirtual 83, 3) := by decide +kernel
theorem dL_law_548 : decode cL_law 548 = .ok (.aload_n 2, 1) := by decide +kernel
theorem dL_law_549 : decode cL_law 549 = .ok (.invokevirtual 86, 3) := by decide +kernel
theorem dL_law_552 : decode cL_law 552 = .ok (.if_icmp .eq 258, 3) := by decide +kernel
theorem dL_law_555 : decode cL_law 555 = .ok (.iconst 0, 1) := by decide +kernel
theorem dL_law_556 : decode cL_law 556 = .ok (.ireturn, 1) := by decide +kernel
theorem dL_law_557 : decode cL_law 557 = .ok (.aload_n 1, 1) := by decide +kernel
theorem dL_law_558 : decode cL_law 558 = .ok (.aload_n 0, 1) := by decide +kernel
theorem dL_law_559 : decode cL_law 559 = .ok (.iload_n 3, 1) := by decide +kernel
theorem dL_law_560 : decode cL_law 560 = .ok (.iconst 1, 1) := by decide +kernel
theorem dL_law_561 : decode cL_law 561 = .ok (.iadd, 1) := by decide +kernel
theorem dL_law_562 : decode cL_law 562 = .ok (.iaload, 1) := by decide +kernel
theorem dL_law_563 : decode cL_law 563 = .ok (.invokevirtual 87, 3) := by decide +kernel
theorem dL_law_566 : decode cL_law 566 = .ok (.aload_n 2, 1) := by decide +kernel
theorem dL_law_567 : decode cL_law 567 = .ok (.aload_n 0, 1) := by decide +kernel
theorem dL_law_568 : decode cL_law 568 = .ok (.iload_n 3, 1) := by decide +kernel
theorem dL_law_569 : decode cL_law 569 = .ok (.iconst 1, 1) := by decide +kernel
theorem dL_law_570 : decode cL_law 570 = .ok (.iadd, 1) := by decide +kernel
theorem dL_law_571 : decode cL_law 571 = .ok (.iaload, 1) := by decide +kernel
theorem dL_law_572 : decode cL_law 572 = .ok (.invokevirtual 90, 3) := by decide +kernel
theorem dL_law_575 : decode cL_law 575 = .ok (.if_icmp .eq 235, 3) := by decide +kernel
theorem dL_law_578 : decode cL_law 578 = .ok (.iconst 0, 1) := by decide +kernel
theorem dL_law_579 : decode cL_law 579 = .ok (.ireturn, 1) := by decide +kernel
theorem dL_law_580 : decode cL_law 580 = .ok (.aload_n 1, 1) := by decide +kernel
theorem dL_law_581 : decode cL_law 581 = .ok (.aload_n 0, 1) := by decide +kernel
theorem dL_law_582 : decode cL_law 582 = .ok (.iload_n 3, 1) := by decide +kernel
theorem dL_law_583 : decode cL_law 583 = .ok (.iconst 1, 1) := by decide +kernel
theorem dL_law_584 : decode cL_law 584 = .ok (.iadd, 1) := by decide +kernel
theorem dL_law_585 : decode cL_law 585 = .ok (.iaload, 1) := by decide +kernel
theorem dL_law_586 : decode cL_law 586 = .ok (.invokevirtual 91, 3) := by decide +kernel
theorem dL_law_589 : decode cL_law 589 = .ok (.aload_n 2, 1) := by decide +kernel
theorem dL_law_590 : decode cL_law 590 = .ok (.aload_n 0, 1) := by decide +kernel
theorem dL_law_591 : decode cL_law 591 = .ok (.iload_n 3, 1) := by decide +kernel
theorem dL_law_592 : decode cL_law 592 = .ok (.iconst 1, 1) := by decide +kernel
theorem dL_law_593 : decode cL_law 593 = .ok (.iadd, 1) := by decide +kernel
theorem dL_law_594 : decode cL_law 594 = .ok (.iaload, 1) := by decide +kernel
theorem dL_law_595 : decode cL_law 595 = .ok (.invokevirtual 95, 3) := by decide +kernel
theorem dL_law_598 : decode cL_law 598 = .ok (.lcmp, 1) := by decide +kernel
theorem dL_law_599 : decode cL_law 599 = .ok (.ifCond .eq 211, 3) := by decide +kernel
theorem dL_law_602 : decode cL_law 602 = .ok (.iconst 0, 1) := by decide +kernel
theorem dL_law_603 : decode cL_law 603 = .ok (.ireturn, 1) := by decide +kernel
theorem dL_law_604 : decode cL_law 604 = .ok (.aload_n 1, 1) := by decide +kernel
theorem dL_law_605 : decode cL_law 605 = .ok (.aload_n 0, 1) := by decide +kernel
theorem dL_law_606 : decode cL_law 606 = .ok (.iload_n 3, 1) := by decide +kernel
theorem dL_law_607 : decode cL_law 607 = .ok (.iconst 1, 1) := by decide +kernel
theorem dL_law_608 : decode cL_law 608 = .ok (.iadd, 1) := by decide +kernel
theorem dL_law_609 : decode cL_law 609 = .ok (.iaload, 1) := by decide +kernel
theorem dL_law_610 : decode cL_law 610 = .ok (.invokevirtual 96, 3) := by decide +kernel
theorem dL_law_613 : decode cL_law 613 = .ok (.aload_n 2, 1) := by decide +kernel
theorem dL_law_614 : decode cL_law 614 = .ok (.aload_n 0, 1) := by decide +kernel
theorem dL_law_615 : decode cL_law 615 = .ok (.iload_n 3, 1) := by decide +kernel
theorem dL_law_616 : decode cL_law 616 = .ok (.iconst 1, 1) := by decide +kernel
theorem dL_law_617 : decode cL_law 617 = .ok (.iadd, 1) := by decide +kernel
theorem dL_law_618 : decode cL_law 618 = .ok (.iaload, 1) := by decide +kernel
theorem dL_law_619 : decode cL_law 619 = .ok (.invokevirtual 99, 3) := by decide +kernel
theorem dL_law_622 : decode cL_law 622 = .ok (.if_icmp .eq 188, 3) := by decide +kernel
theorem dL_law_625 : decode cL_law 625 = .ok (.iconst 0, 1) := by decide +kernel
theorem dL_law_626 : decode cL_law 626 = .ok (.ireturn, 1) := by decide +kernel
theorem dL_law_627 : decode cL_law 627 = .ok (.aload_n 1, 1) := by decide +kernel
theorem dL_law_628 : decode cL_law 628 = .ok (.aload_n 0, 1) := by decide +kernel
theorem dL_law_629 : decode cL_law 629 = .ok (.iload_n 3, 1) := by decide +kernel
theorem dL_law_630 : decode cL_law 630 = .ok (.iconst 1, 1) := by decide +kernel
theorem dL_law_631 : decode cL_law 631 = .ok (.iadd, 1) := by decide +kernel
theorem dL_law_632 : decode cL_law 632 = .ok (.iaload, 1) := by decide +kernel
theorem dL_law_633 : decode cL_law 633 = .ok (.aload_n 0, 1) := by decide +kernel
theorem dL_law_634 : decode cL_law 634 = .ok (.iload_n 3, 1) := by decide +kernel
theorem dL_law_635 : decode cL_law 635 = .ok (.iconst 2, 1) := by decide +kernel
theorem dL_law_636 : decode cL_law 636 = .ok (.iadd, 1) := by decide +kernel
theorem dL_law_637 : decode cL_law 637 = .ok (.iaload, 1) := by decide +kernel
theorem dL_law_638 : decode cL_law 638 = .ok (.invokevirtual 100, 3) := by decide +kernel
theorem dL_law_641 : decode cL_law 641 = .ok (.aload_n 2, 1) := by decide +kernel
theorem dL_law_642 : decode cL_law 642 = .ok (.aload_n 0, 1) := by decide +kernel
theorem dL_law_643 : decode cL_law 643 = .ok (.iload_n 3, 1) := by decide +kernel
theorem dL_law_644 : decode cL_law 644 = .ok (.iconst 1, 1) := by decide +kernel
theorem dL_law_645 : decode cL_law 645 = .ok (.iadd, 1) := by decide +kernel
theorem dL_law_646 : decode cL_law 646 = .ok (.iaload, 1) := by decide +kernel
theorem dL_law_647 : decode cL_law 647 = .ok (.aload_n 0, 1) := by decide +kernel
theorem dL_law_648 : decode cL_law 648 = .ok (.iload_n 3, 1) := by decide +kernel
theorem dL_law_649 : decode cL_law 649 = .ok (.iconst 2, 1) := by decide +kernel
theorem dL_law_650 : decode cL_law 650 = .ok (.iadd, 1) := by decide +kernel
theorem dL_law_651 : decode cL_law 651 = .ok (.iaload, 1) := by decide +kernel
theorem dL_law_652 : decode cL_law 652 = .ok (.invokevirtual 103, 3) := by decide +kernel
theorem dL_law_655 : decode cL_law 655 = .ok (.if_icmp .eq 155, 3) := by decide +kernel
theorem dL_law_658 : decode cL_law 658 = .ok (.iconst 0, 1) := by decide +kernel
theorem dL_law_659 : decode cL_law 659 = .ok (.ireturn, 1) := by decide +kernel
theorem dL_law_660 : decode cL_law 660 = .ok (.aload_n 1, 1) := by decide +kernel
theorem dL_law_661 : decode cL_law 661 = .ok (.aload_n 0, 1) := by decide +kernel
theorem dL_law_662 : decode cL_law 662 = .ok (.iload_n 3, 1) := by decide +kernel
theorem dL_law_663 : decode cL_law 663 = .ok (.iconst 1, 1) := by decide +kernel
theorem dL_law_664 : decode cL_law 664 = .ok (.iadd, 1) := by decide +kernel
theorem dL_law_665 : decode cL_law 665 = .ok (.iaload, 1) := by decide +kernel
theorem dL_law_666 : decode cL_law 666 = .ok (.aload_n 0, 1) := by decide +kernel
theorem dL_law_667 : decode cL_law 667 = .ok (.iload_n 3, 1) := by decide +kernel
theorem dL_law_668 : decode cL_law 668 = .ok (.iconst 2, 1) := by decide +kernel
theorem dL_law_669 : decode cL_law 669 = .ok (.iadd, 1) := by decide +kernel
theorem dL_law_670 : decode cL_law 670 = .ok (.iaload, 1) := by decide +kernel
theorem dL_law_671 : decode cL_law 671 = .ok (.invokevirtual 104, 3) := by decide +kernel
theorem dL_law_674 : decode cL_law 674 = .ok (.aload_n 2, 1) := by decide +kernel
theorem dL_law_675 : decode cL_law 675 = .ok (.aload_n 0, 1) := by decide +kernel
theorem dL_law_676 : decode cL_law 676 = .ok (.iload_n 3, 1) := by decide +kernel
theorem dL_law_677 : decode cL_law 677 = .ok (.iconst 1, 1) := by decide +kernel
theorem dL_law_678 : decode cL_law 678 = .ok (.iadd, 1) := by decide +kernel
theorem dL_law_679 : decode cL_law 679 = .ok (.iaload, 1) := by decide +kernel
theorem dL_law_680 : decode cL_law 680 = .ok (.aload_n 0, 1) := by decide +kernel
theorem dL_law_681 : decode cL_law 681 = .ok (.iload_n 3, 1) := by decide +kernel
theorem dL_law_682 : decode cL_law 682 = .ok (.iconst 2, 1) := by decide +kernel
theorem dL_law_683 : decode cL_law 683 = .ok (.iadd, 1) := by decide +kernel
theorem dL_law_684 : decode cL_law 684 = .ok (.iaload, 1) := by decide +kernel
theorem dL_law_685 : decode cL_law 685 = .ok (.invokevirtual 108, 3) := by decide +kernel
theorem dL_law_688 : decode cL_law 688 = .ok (.lcmp, 1) := by decide +kernel
theorem dL_law_689 : decode cL_law 689 = .ok (.ifCond .eq 121, 3) := by decide +kernel
theorem dL_law_692 : decode cL_law 692 = .ok (.iconst 0, 1) := by decide +kernel
theorem dL_law_693 : decode cL_law 693 = .ok (.ireturn, 1) := by decide +kernel
theorem dL_law_694 : decode cL_law 694 = .ok (.aload_n 1, 1) := by decide +kernel
theorem dL_law_695 : decode cL_law 695 = .ok (.aload_n 0, 1) := by decide +kernel
theorem dL_law_696 : decode cL_law 696 = .ok (.iload_n 3, 1) := by decide +kernel
theorem dL_law_697 : decode cL_law 697 = .ok (.iconst 1, 1) := by decide +kernel
theorem dL_law_698 : decode cL_law 698 = .ok (.iadd, 1) := by decide +kernel
theorem dL_law_699 : decode cL_law 699 = .ok (.iaload, 1) := by decide +kernel
theorem dL_law_700 : decode cL_law 700 = .ok (.aload_n 0, 1) := by decide +kernel
theorem dL_law_701 : decode cL_law 701 = .ok (.iload_n 3, 1) := by decide +kernel
theorem dL_law_702 : decode cL_law 702 = .ok (.iconst 2, 1) := by decide +kernel
theorem dL_law_703 : decode cL_law 703 = .ok (.iadd, 1) := by decide +kernel
theorem dL_law_704 : decode cL_law 704 = .ok (.iaload, 1) := by decide +kernel
theorem dL_law_705 : decode cL_law 705 = .ok (.invokevirtual 109, 3) := by decide +kernel
theorem dL_law_708 : decode cL_law 708 = .ok (.aload_n 2, 1) := by decide +kernel
theorem dL_law_709 : decode cL_law 709 = .ok (.aload_n 0, 1) := by decide +kernel
theorem dL_law_710 : decode cL_law 710 = .ok (.iload_n 3, 1) := by decide +kernel
theorem dL_law_711 : decode cL_law 711 = .ok (.iconst 1, 1) := by decide +kernel
theorem dL_law_712 : decode cL_law 712 = .ok (.iadd, 1) := by decide +kernel
theorem dL_law_713 : decode cL_law 713 = .ok (.iaload, 1) := by decide +kernel
theorem dL_law_714 : decode cL_law 714 = .ok (.aload_n 0, 1) := by decide +kernel
theorem dL_law_715 : decode cL_law 715 = .ok (.iload_n 3, 1) := by decide +kernel
theorem dL_law_716 : decode cL_law 716 = .ok (.iconst 2, 1) := by decide +kernel
theorem dL_law_717 : decode cL_law 717 = .ok (.iadd, 1) := by decide +kernel
theorem dL_law_718 : decode cL_law 718 = .ok (.iaload, 1) := by decide +kernel
theorem dL_law_719 : decode cL_law 719 = .ok (.invokevirtual 112, 3) := by decide +kernel
theorem dL_law_722 : decode cL_law 722 = .ok (.if_icmp .eq 88, 3) := by decide +kernel
theorem dL_law_725 : decode cL_law 725 = .ok (.iconst 0, 1) := by decide +kernel
theorem dL_law_726 : decode cL_law 726 = .ok (.ireturn, 1) := by decide +kernel
theorem dL_law_727 : decode cL_law 727 = .ok (.aload_n 1, 1) := by decide +kernel
theorem dL_law_728 : decode cL_law 728 = .ok (.aload_n 0, 1) := by decide +kernel
theorem dL_law_729 : decode cL_law 729 = .ok (.iload_n 3, 1) := by decide +kernel
theorem dL_law_730 : decode cL_law 730 = .ok (.iconst 1, 1) := by decide +kernel
theorem dL_law_731 : decode cL_law 731 = .ok (.iadd, 1) := by decide +kernel
theorem dL_law_732 : decode cL_law 732 = .ok (.iaload, 1) := by decide +kernel
theorem dL_law_733 : decode cL_law 733 = .ok (.invokevirtual 113, 3) := by decide +kernel
theorem dL_law_736 : decode cL_law 736 = .ok (.aload_n 2, 1) := by decide +kernel
theorem dL_law_737 : decode cL_law 737 = .ok (.aload_n 0, 1) := by decide +kernel
theorem dL_law_738 : decode cL_law 738 = .ok (.iload_n 3, 1) := by decide +kernel
theorem dL_law_739 : decode cL_law 739 = .ok (.iconst 1, 1) := by decide +kernel
theorem dL_law_740 : decode cL_law 740 = .ok (.iadd, 1) := by decide +kernel
theorem dL_law_741 : decode cL_law 741 = .ok (.iaload, 1) := by decide +kernel
theorem dL_law_742 : decode cL_law 742 = .ok (.invokevirtual 116, 3) := by decide +kernel
theorem dL_law_745 : decode cL_law 745 = .ok (.if_icmp .eq 65, 3) := by decide +kernel
theorem dL_law_748 : decode cL_law 748 = .ok (.iconst 0, 1) := by decide +kernel
theorem dL_law_749 : decode cL_law 749 = .ok (.ireturn, 1) := by decide +kernel
theorem dL_law_750 : decode cL_law 750 = .ok (.aload_n 1, 1) := by decide +kernel
theorem dL_law_751 : decode cL_law 751 = .ok (.aload_n 0, 1) := by decide +kernel
theorem dL_law_752 : decode cL_law 752 = .ok (.iload_n 3, 1) := by decide +kernel
theorem dL_law_753 : decode cL_law 753 = .ok (.iconst 1, 1) := by decide +kernel
theorem dL_law_754 : decode cL_law 754 = .ok (.iadd, 1) := by decide +kernel
theorem dL_law_755 : decode cL_law 755 = .ok (.iaload, 1) := by decide +kernel
theorem dL_law_756 : decode cL_law 756 = .ok (.invokevirtual 117, 3) := by decide +kernel
theorem dL_law_759 : decode cL_law 759 = .ok (.aload_n 2, 1) := by decide +kernel
theorem dL_law_760 : decode cL_law 760 = .ok (.aload_n 0, 1) := by decide +kernel
theorem dL_law_761 : decode cL_law 761 = .ok (.iload_n 3, 1) := by decide +kernel
theorem dL_law_762 : decode cL_law 762 = .ok (.iconst 1, 1) := by decide +kernel
theorem dL_law_763 : decode cL_law 763 = .ok (.iadd, 1) := by decide +kernel
theorem dL_law_764 : decode cL_law 764 = .ok (.iaload, 1) := by decide +kernel
theorem dL_law_765 : decode cL_law 765 = .ok (.invokevirtual 120, 3) := by decide +kernel
theorem dL_law_768 : decode cL_law 768 = .ok (.if_icmp .eq 42, 3) := by decide +kernel
theorem dL_law_771 : decode cL_law 771 = .ok (.iconst 0, 1) := by decide +kernel
theorem dL_law_772 : decode cL_law 772 = .ok (.ireturn, 1) := by decide +kernel
theorem dL_law_773 : decode cL_law 773 = .ok (.aload_n 1, 1) := by decide +kernel
theorem dL_law_774 : decode cL_law 774 = .ok (.aload_n 0, 1) := by decide +kernel
theorem dL_law_775 : decode cL_law 775 = .ok (.iload_n 3, 1) := by decide +kernel
theorem dL_law_776 : decode cL_law 776 = .ok (.iconst 1, 1) := by decide +kernel
theorem dL_law_777 : decode cL_law 777 = .ok (.iadd, 1) := by decide +kernel
theorem dL_law_778 : decode cL_law 778 = .ok (.iaload, 1) := by decide +kernel
theorem dL_law_779 : decode cL_law 779 = .ok (.invokevirtual 121, 3) := by decide +kernel
theorem dL_law_782 : decode cL_law 782 = .ok (.aload_n 2, 1) := by decide +kernel
theorem dL_law_783 : decode cL_law 783 = .ok (.aload_n 0, 1) := by decide +kernel
theorem dL_law_784 : decode cL_law 784 = .ok (.iload_n 3, 1) := by decide +kernel
theorem dL_law_785 : decode cL_law 785 = .ok (.iconst 1, 1) := by decide +kernel
theorem dL_law_786 : decode cL_law 786 = .ok (.iadd, 1) := by decide +kernel
theorem dL_law_787 : decode cL_law 787 = .ok (.iaload, 1) := by decide +kernel
theorem dL_law_788 : decode cL_law 788 = .ok (.invokevirtual 124, 3) := by decide +kernel
theorem dL_law_791 : decode cL_law 791 = .ok (.if_icmp .eq 19, 3) := by decide +kernel
theorem dL_law_794 : decode cL_law 794 = .ok (.iconst 0, 1) := by decide +kernel
theorem dL_law_795 : decode cL_law 795 = .ok (.ireturn, 1) := by decide +kernel
theorem dL_law_796 : decode cL_law 796 = .ok (.aload_n 1, 1) := by decide +kernel
theorem dL_law_797 : decode cL_law 797 = .ok (.invokevirtual 125, 3) := by decide +kernel
theorem dL_law_800 : decode cL_law 800 = .ok (.aload_n 2, 1) := by decide +kernel
theorem dL_law_801 : decode cL_law 801 = .ok (.invokevirtual 129, 3) := by decide +kernel
theorem dL_law_804 : decode cL_law 804 = .ok (.lcmp, 1) := by decide +kernel
theorem dL_law_805 : decode cL_law 805 = .ok (.ifCond .eq 5, 3) := by decide +kernel
theorem dL_law_808 : decode cL_law 808 = .ok (.iconst 0, 1) := by decide +kernel
theorem dL_law_809 : decode cL_law 809 = .ok (.ireturn, 1) := by decide +kernel
theorem dL_law_810 : decode cL_law 810 = .ok (.iinc 3 4, 3) := by decide +kernel
theorem dL_law_813 : decode cL_law 813 = .ok (.goto (-795), 3) := by decide +kernel
theorem dL_law_816 : decode cL_law 816 = .ok (.iconst 1, 1) := by decide +kernel
theorem dL_law_817 : decode cL_law 817 = .ok (.ireturn, 1) := by decide +kernel
end
section
/-! the memory model: cells by ids; w = 0: the reference's object and its arrays, w = 1: the class's -/
abbrev Mem : Type := (Nat → Nat → Int32) × (Nat → Nat → Int64) × (Nat → Nat)
def sI (σ : Mem) (o k : Nat) (v : Int32) : Mem := (va_up σ.1 o (upd (σ.1 o) k v), σ.2)
def sJ (σ : Mem) (o k : Nat) (v : Int64) : Mem := (σ.1, va_up σ.2.1 o (vp_updL (σ.2.1 o) k v), σ.2.2)
def sR (σ : Mem) (k : Nat) (v : Nat) : Mem := (σ.1, σ.2.1, va_up σ.2.2 k v)
def kRl : List Nat := [9, 23, 99, 10, 11, 11, 11, 11, 99, 99, 99, 99, 99, 99, 12, 24, 13, 11, 13, 21, 14, 13, 99, 15, 15, 16, 17, 18, 99, 99, 99, 19, 19, 15, 20, 13, 22]
def kCl : List Nat := [8, 6, 25, 34, 0, 13, 21, 14, 21, 4, 15, 15, 15, 15, 15, 15, 15, 30, 31, 26, 32, 33, 5, 29, 16, 2, 27, 27, 27, 3, 28, 28, 28, 28, 3, 28, 28, 28, 28, 3, 28, 28, 28, 28, 7, 13, 13, 13, 13, 7, 13, 13, 13, 13, 1, 7, 13, 13, 13, 13, 1, 7, 13, 13, 13, 13]
def akl : List (Nat × Nat) := [(0, 2), (0, 32), (0, 102), (0, 31), (0, 186), (0, 120), (0, 4), (0, 240), (0, 28800), (0, 64), (0, 3720), (1, 186), (1, 1920), (2, 300), (4, 2), (0, 300), (0, 8), (0, 128), (0, 16), (1, 2048), (4, 120), (3, 4096), (3, 120), (3, 14400), (5, 2)]
def fkl : List (List Nat) := [[2, 2, 2, 2], [0, 0, 0, 2], [2, 2, 2], [2, 2, 2, 2, 0, 0], [2, 2, 2, 2, 2, 2, 2, 2, 2, 2, 2, 2, 2, 2, 2, 0, 0, 0, 0], [2, 2, 0], [2, 0, 0, 0, 0, 0], [2, 2, 2, 2, 0], [2, 2, 2, 2, 3, 3, 3, 3, 0, 0, 1], [1, 2, 0, 2, 2, 2, 2, 2, 0, 0, 0, 0, 0, 0, 2, 2, 2, 2, 2, 2, 2, 2, 0, 2, 2, 2, 2, 2, 0, 0, 0, 2, 2, 2, 2, 2, 2]]
def kdW (w i : Nat) : Nat := (if w = 0 then kRl else kCl).getD i 99
def NW (w : Nat) : Nat := if w = 0 then 37 else 66
def arW (w i : Nat) : Nat × Nat := if kdW w i < 10 then (9, 0) else akl.getD (kdW w i - 10) (9, 0)
def fkW (c k : Nat) : Nat := (fkl.getD c []).getD k 9
def nfW (c : Nat) : Nat := (fkl.getD c []).length
def frW (w i k : Nat) : Nat := if w = 0 then k else if i = 0 then [1, 3, 4, 9].getD k 0 else if i = 3 then 54 + 6 * k else if i = 9 ∧ 12 ≤ k then [22, 25, 29].getD (k - 12) 0 else if i = 54 ∨ i = 60 then i + 1 else i + 1 + k
abbrev IsO (w i c : Nat) : Prop := i < NW w ∧ kdW w i = c ∧ c < 10
abbrev IsA (w i t n : Nat) : Prop := i < NW w ∧ ¬ kdW w i < 10 ∧ arW w i = (t, n)
abbrev classes : List vw_C := [(RX0, TX0, 4), (RX1, TX1, 4), (RX2, TX2, 3), (RX3, TX3, 6), (RX4, TX4, 19), (RX5, TX5, 3), (RX6, TX6, 6), (RX7, TX7, 5), (RX8, TX8, 11), (RX9, TX9, 37)]
def fldW (w : Nat) (ad : Nat → Nat) (σ : Mem) (i k : Nat) : Value := if fkW (kdW w i) k = 0 then .int (σ.1 i k) else if fkW (kdW w i) k = 1 then .long (σ.2.1 i k) else if fkW (kdW w i) k = 2 then .ref (ad (frW w i k)) else if fkW (kdW w i) k = 3 then .ref (ad (σ.2.2 k)) else .null
def cellW (w : Nat) (cy : Nat → ClassId) (ad : Nat → Nat) (σ : Mem) (i : Nat) : va_E := if kdW w i < 10 then .inr (kdW w i, (List.range (nfW (kdW w i))).map (fldW w ad σ i)) else if (arW w i).1 = 1 then .inl (cy 1, (arW w i).2, .inr (.inl (σ.2.1 i))) else if (arW w i).1 = 5 then .inl (cy 5, (arW w i).2, .inr (.inr (.inr (.inr (fun j => some (ad (frW w i j))))))) else .inl (cy (arW w i).1, (arW w i).2, .inl (σ.1 i))
def wsW (w : Nat) (cy : Nat → ClassId) (ad : Nat → Nat) (σ : Mem) : va_W := (List.range (NW w)).map (fun i => (ad i, cellW w cy ad σ i))
def tyW (cy : Nat → ClassId) : List (ClassId × FieldType) := [(cy 0, .int), (cy 1, .long), (cy 2, .byte), (cy 3, .short), (cy 4, .boolean), (cy 5, .object RX1)]
def WT (w : Nat) (σ : Mem) : Prop := w = 1 → IsO 1 (σ.2.2 4) 3 ∧ IsO 1 (σ.2.2 5) 3 ∧ IsO 1 (σ.2.2 6) 7 ∧ IsO 1 (σ.2.2 7) 7
def AW (w : Nat) (ad : Nat → Nat) : Nat → Prop := fun q => ∃ i, i < NW w ∧ q = ad i
def InjW (w : Nat) (ad : Nat → Nat) : Prop := ∀ i j, i < NW w → j < NW w → ad i = ad j → i = j
def gw_tbl : List Cond := lw_tbl.filter goodWord
def isNest : Cond → Bool
  | .methodLinkNest .. => true
  | .fieldLinkNest .. => true
  | _ => false
def nw_tbl : List Cond := lw_tbl.filter isNest
def TK (D : va_G) (cy : Nat → ClassId) (s : State) : Prop := va_K D classes (tyW cy) s ∧ ∀ x ∈ nw_tbl, va_Nw x s
def rmD (d : Nat) : Room := { frames := d, cells := 0, slots := 0, locals := 40 * d }
def Wd0 (w : Nat) (D : va_G) (cy : Nat → ClassId) (ad : Nat → Nat) (σ : Mem) (H : Heap) : Prop := va_P D classes (wsW w cy ad σ) H ∧ WT w σ
def Wd (w : Nat) (D : va_G) (cy : Nat → ClassId) (ad : Nat → Nat) (s : State) (σ : Mem) (H : Heap) (locs : List Loc) : Prop := va_P D classes (wsW w cy ad σ) H ∧ WT w σ ∧ va_S (AW w ad) s.heap H locs
def Cx (w : Nat) (D : va_G) (cy : Nat → ClassId) (ad : Nat → Nat) (p : Program) (R : Room) (s : State) (m : MethodId) (args : Array Value) (meth : Method) (c : Code) (b : ByteArray) (nL : Nat) (own : String) (ret : Option FieldType) (d : Nat) : Prop :=
  p.tables.exec = Jvm.exec ∧ c.code = b ∧ c.maxLocals = nL ∧ s.vm.findClass own = some m.cls ∧ (∀ x ∈ gw_tbl, x.before args s = true) ∧ meth.sig.returnType = ret ∧ meth.locks = false ∧ R = rmD d ∧ TK D cy s ∧ InjW w ad
theorem gw_in {x : Cond} (h : x ∈ lw_tbl) (g : goodWord x = true) : x ∈ gw_tbl := List.mem_filter.mpr ⟨h, g⟩
theorem nw_in {x : Cond} (h : x ∈ lw_tbl) (g : isNest x = true) : x ∈ nw_tbl := List.mem_filter.mpr ⟨h, g⟩
theorem gw_good {c d : Cond} (hc : c ∈ gw_tbl) : GoodIn (d :: gw_tbl) (c :: gw_tbl) := by
  intro x hx
  rcases List.mem_cons.mp hx with rfl | h
  · exact ⟨List.mem_cons_of_mem _ hc, good_of_word (List.mem_filter.mp hc).2⟩
  · exact ⟨List.mem_cons_of_mem _ h, good_of_word (List.mem_filter.mp h).2⟩
theorem gw_good' {c : Cond} (hc : c ∈ gw_tbl) : GoodIn gw_tbl (c :: gw_tbl) := by
  intro x hx
  rcases List.mem_cons.mp hx with rfl | h
  · exact ⟨hc, good_of_word (List.mem_filter.mp hc).2⟩
  · exact ⟨h, good_of_word (List.mem_filter.mp h).2⟩
theorem ws_get {w i : Nat} {cy : Nat → ClassId} {ad : Nat → Nat} {σ : Mem} (h : i < NW w) : (wsW w cy ad σ)[i]? = some (ad i, cellW w cy ad σ i) := by
  simp [wsW, List.getElem?_map, List.getElem?_range h]
theorem ws_some {w k : Nat} {cy : Nat → ClassId} {ad : Nat → Nat} {σ : Mem} {q : Nat × va_E} (h : (wsW w cy ad σ)[k]? = some q) : k < NW w ∧ q = (ad k, cellW w cy ad σ k) := by
  have hl : k < NW w := by
    have := (List.getElem?_eq_some_iff.mp h).1
    simpa [wsW] using this
  rw [ws_get hl] at h
  exact ⟨hl, (Option.some.inj h).symm⟩
theorem ws_set {w i : Nat} {cy : Nat → ClassId} {ad : Nat → Nat} {σ σ' : Mem} {e : va_E} (he : cellW w cy ad σ' i = e) (ho : ∀ j, j ≠ i → cellW w cy ad σ' j = cellW w cy ad σ j) : (wsW w cy ad σ).set i (ad i, e) = wsW w cy ad σ' := by
  apply List.ext_getElem?
  intro j
  by_cases hj : j < NW w
  · rw [ws_get hj]
    by_cases hji : j = i
    · subst hji
      rw [List.getElem?_set_self (by simpa [wsW] using hj), he]
    · rw [List.getElem?_set_ne (Ne.symm hji), ws_get hj, ho j hji]
  · rw [List.getElem?_eq_none (by simpa [wsW] using hj), List.getElem?_eq_none (by simpa [wsW] using hj)]
theorem ws_D {w : Nat} {cy : Nat → ClassId} {ad : Nat → Nat} {σ : Mem} (h : InjW w ad) : va_D (AW w ad) (wsW w cy ad σ) := by
  refine ⟨fun i j p q hi hj hpq => ?_, fun k q hk => ?_⟩
  · obtain ⟨h1, rfl⟩ := ws_some hi
    obtain ⟨h2, rfl⟩ := ws_some hj
    exact h i j h1 h2 hpq
  · obtain ⟨h1, rfl⟩ := ws_some hk
    exact ⟨k, h1, rfl⟩
theorem cell_o {w i c : Nat} {cy : Nat → ClassId} {ad : Nat → Nat} {σ : Mem} (h : IsO w i c) : cellW w cy ad σ i = .inr (c, (List.range (nfW c)).map (fldW w ad σ i)) := by
  obtain ⟨-, h2, h3⟩ := h
  simp [cellW, h2, h3]
theorem cell_i {w i t n : Nat} {cy : Nat → ClassId} {ad : Nat → Nat} {σ : Mem} (h : IsA w i t n) (h1 : t ≠ 1) (h5 : t ≠ 5) : cellW w cy ad σ i = .inl (cy t, n, .inl (σ.1 i)) := by
  obtain ⟨-, h2, h3⟩ := h
  simp [cellW, h2, h3, h1, h5]
theorem cell_j {w i n : Nat} {cy : Nat → ClassId} {ad : Nat → Nat} {σ : Mem} (h : IsA w i 1 n) : cellW w cy ad σ i = .inl (cy 1, n, .inr (.inl (σ.2.1 i))) := by
  obtain ⟨-, h2, h3⟩ := h
  simp [cellW, h2, h3]
theorem cell_q {w i n : Nat} {cy : Nat → ClassId} {ad : Nat → Nat} {σ : Mem} (h : IsA w i 5 n) : cellW w cy ad σ i = .inl (cy 5, n, .inr (.inr (.inr (.inr (fun j => some (ad (frW w i j))))))) := by
  obtain ⟨-, h2, h3⟩ := h
  simp [cellW, h2, h3]
theorem cell_cong {w j : Nat} {cy : Nat → ClassId} {ad : Nat → Nat} {σ σ' : Mem} (h1 : σ'.1 j = σ.1 j) (h2 : σ'.2.1 j = σ.2.1 j) (h3 : σ'.2.2 = σ.2.2) : cellW w cy ad σ' j = cellW w cy ad σ j := by
  have hf : fldW w ad σ' j = fldW w ad σ j := by funext k; simp [fldW, h1, h2, h3]
  simp [cellW, hf, h1, h2]
theorem sI_o {σ : Mem} {o k : Nat} {v : Int32} {j : Nat} (h : j ≠ o) : (sI σ o k v).1 j = σ.1 j := by simp [sI, va_up, h]
theorem sJ_o {σ : Mem} {o k : Nat} {v : Int64} {j : Nat} (h : j ≠ o) : (sJ σ o k v).2.1 j = σ.2.1 j := by simp [sJ, va_up, h]
theorem flds_set {w i c k : Nat} {ad : Nat → Nat} {σ σ' : Mem} {v : Value} (hk : fldW w ad σ' i k = v) (ho : ∀ j, j ≠ k → fldW w ad σ' i j = fldW w ad σ i j) : ((List.range (nfW c)).map (fldW w ad σ i)).set k v = (List.range (nfW c)).map (fldW w ad σ' i) := by
  apply List.ext_getElem?
  intro j
  by_cases hj : j < nfW c
  · by_cases hjk : j = k
    · subst hjk
      rw [List.getElem?_set_self (by simpa using hj)]
      simp [List.getElem?_map, List.getElem?_range hj, hk]
    · rw [List.getElem?_set_ne (Ne.symm hjk)]
      simp [List.getElem?_map, List.getElem?_range hj, ho j hjk]
  · rw [List.getElem?_eq_none (by simpa using hj), List.getElem?_eq_none (by simpa using hj)]
theorem flds_get {w i c k : Nat} {ad : Nat → Nat} {σ : Mem} (hk : k < nfW c) : ((List.range (nfW c)).map (fldW w ad σ i))[k]? = some (fldW w ad σ i k) := by
  simp [List.getElem?_map, List.getElem?_range hk]
theorem ws_putI {w i c k : Nat} {cy : Nat → ClassId} {ad : Nat → Nat} {σ : Mem} {v : Int32} (h : IsO w i c) (hf : fkW c k = 0) : (wsW w cy ad σ).set i (ad i, .inr (c, ((List.range (nfW c)).map (fldW w ad σ i)).set k (.int v))) = wsW w cy ad (sI σ i k v) := by
  refine ws_set ?_ (fun j hj => cell_cong (sI_o hj) rfl rfl)
  rw [cell_o h, flds_set (σ' := sI σ i k v)]
  · simp [fldW, h.2.1, hf, sI, va_up, upd]
  · intro j hj
    simp [fldW, sI, va_up, upd, hj]
theorem ws_putJ {w i c k : Nat} {cy : Nat → ClassId} {ad : Nat → Nat} {σ : Mem} {v : Int64} (h : IsO w i c) (hf : fkW c k = 1) : (wsW w cy ad σ).set i (ad i, .inr (c, ((List.range (nfW c)).map (fldW w ad σ i)).set k (.long v))) = wsW w cy ad (sJ σ i k v) := by
  refine ws_set ?_ (fun j hj => cell_cong rfl (sJ_o hj) rfl)
  rw [cell_o h, flds_set (σ' := sJ σ i k v)]
  · simp [fldW, h.2.1, hf, sJ, va_up, vp_updL]
  · intro j hj
    simp [fldW, sJ, va_up, vp_updL, hj]
theorem fk3 : ∀ c k : Nat, fkW c k = 3 → c = 8 := by
  intro c k h
  have hk : ∀ c, c < 10 → ∀ k, k < 40 → fkW c k = 3 → c = 8 := by decide
  by_cases hc : c < 10
  · by_cases hk2 : k < 40
    · exact hk c hc k hk2 h
    · exfalso
      have hl : ∀ c, c < 10 → (fkl.getD c []).length ≤ 40 := by decide
      have := hl c hc
      simp only [fkW] at h
      rw [List.getD_eq_getElem?_getD, List.getElem?_eq_none (by omega)] at h
      simp at h
  · exfalso
    simp only [fkW] at h
    rw [List.getD_eq_getElem?_getD (l := fkl), List.getElem?_eq_none (show fkl.length ≤ c by have : fkl.length = 10 := rfl; omega)] at h
    simp at h
theorem kd8 : ∀ j : Nat, kdW 1 j = 8 → j = 0 := by
  intro j h
  by_cases hj : j < 66
  · have : ∀ j, j < 66 → kdW 1 j = 8 → j = 0 := by decide
    exact this j hj h
  · exfalso
    simp only [kdW] at h
    rw [if_neg (by decide), List.getD_eq_getElem?_getD, List.getElem?_eq_none (show kCl.length ≤ j by have : kCl.length = 66 := rfl; omega)] at h
    simp at h
theorem ws_putR {k x : Nat} {cy : Nat → ClassId} {ad : Nat → Nat} {σ : Mem} (hf : fkW 8 k = 3) : (wsW 1 cy ad σ).set 0 (ad 0, .inr (8, ((List.range (nfW 8)).map (fldW 1 ad σ 0)).set k (.ref (ad x)))) = wsW 1 cy ad (sR σ k x) := by
  refine ws_set ?_ (fun j hj => ?_)
  · rw [cell_o (c := 8) (by decide), flds_set (σ' := sR σ k x)]
    · have h8 : kdW 1 0 = 8 := by decide
      simp [fldW, h8, hf, sR, va_up]
    · intro j hj
      simp [fldW, sR, va_up, hj]
  · have hfl : fldW 1 ad (sR σ k x) j = fldW 1 ad σ j := by
      funext q
      by_cases h3 : fkW (kdW 1 j) q = 3
      · exact absurd (kd8 j (fk3 _ _ h3)) hj
      · simp [fldW, h3, sR]
    have e1 : (sR σ k x).1 = σ.1 := rfl
    have e2 : (sR σ k x).2.1 = σ.2.1 := rfl
    simp only [cellW, hfl, e1, e2]
theorem ws_ast {w i t n : Nat} {cy : Nat → ClassId} {ad : Nat → Nat} {σ : Mem} {k : Nat} {v : Int32} (h : IsA w i t n) (h1 : t ≠ 1) (h5 : t ≠ 5) : (wsW w cy ad σ).set i (ad i, .inl (cy t, n, .inl (upd (σ.1 i) k v))) = wsW w cy ad (sI σ i k v) := by
  refine ws_set ?_ (fun j hj => cell_cong (sI_o hj) rfl rfl)
  rw [cell_i h h1 h5]
  simp [sI, va_up]
theorem ws_astJ {w i n : Nat} {cy : Nat → ClassId} {ad : Nat → Nat} {σ : Mem} {k : Nat} {v : Int64} (h : IsA w i 1 n) : (wsW w cy ad σ).set i (ad i, .inl (cy 1, n, .inr (.inl (vp_updL (σ.2.1 i) k v)))) = wsW w cy ad (sJ σ i k v) := by
  refine ws_set ?_ (fun j hj => cell_cong rfl (sJ_o hj) rfl)
  rw [cell_j h]
  simp [sJ, va_up]
section MR
variable {w : Nat} {D : va_G} {cy : Nat → ClassId} {ad : Nat → Nat} {p : Program} {l : Launch} {e : Env} {R : Room} {s : State} {m : MethodId} {args : Array Value} {below : List Frame} {meth : Method} {c : Code} {H : Heap} {locs : List Loc} {cells slots : Nat} {Q : State → Prop} {b : ByteArray} {nL : Nat} {own : String} {ret : Option FieldType} {d : Nat} {σ : Mem} {pc : Nat} {ls : Array Slot} {rest : List Value} {i : Nat}
theorem m_get (C : Cx w D cy ad p R s m args meth c b nL own ret d) (hw : Wd w D cy ad s σ H locs) {ci : Nat} (ho : IsO w i ci) {Cn : String} {T : u_T} {N index : Nat} (hc : classes[ci]? = some (Cn, T, N)) (hN : nfW ci = N) (hin : ∀ x ∈ u_ws Cn T N, x ∈ gw_tbl) (k : Nat) (hk : k < N) (hl : Cond.fieldLink own index (T k).1 (T k).2.1 (T k).2.2.1 ∈ gw_tbl) (hdg : decode b pc = .ok (.getfield index, 3)) {v : Value} (hv : fldW w ad σ i k = v)
    (kk : W p l e R s m args below meth c H locs cells slots Q (F0 m (pc + 3) ls (v :: rest))) : W p l e R s m args below meth c H locs cells slots Q (F0 m pc ls (.ref (ad i) :: rest)) := by
  obtain ⟨hx, hb, -, hown, hts, -, -, -, hK, -⟩ := C
  subst hN
  exact va_get hx hb hts hin hown hK.1 hw.1 i ((ws_get ho.1).trans (by rw [cell_o ho])) hc k hk (hts _ hl) (fun x h => h) ((flds_get hk).trans (by rw [hv])) hdg kk
theorem m_getN (C : Cx w D cy ad p R s m args meth c b nL own ret d) (hw : Wd w D cy ad s σ H locs) {ci : Nat} (ho : IsO w i ci) {Cn host : String} {T : u_T} {N index : Nat} (hc : classes[ci]? = some (Cn, T, N)) (hN : nfW ci = N) (hin : ∀ x ∈ u_ws Cn T N, x ∈ gw_tbl) (k : Nat) (hk : k < N) (hl : Cond.fieldLinkNest own index (T k).1 (T k).2.1 (T k).2.2.1 host ∈ nw_tbl) (hdg : decode b pc = .ok (.getfield index, 3)) {v : Value} (hv : fldW w ad σ i k = v)
    (kk : W p l e R s m args below meth c H locs cells slots Q (F0 m (pc + 3) ls (v :: rest))) : W p l e R s m args below meth c H locs cells slots Q (F0 m pc ls (.ref (ad i) :: rest)) := by
  obtain ⟨hx, hb, -, hown, hts, -, -, -, hK, -⟩ := C
  subst hN
  exact va_getN hx hb hts hin hown hK.1 hw.1 i ((ws_get ho.1).trans (by rw [cell_o ho])) hc k hk (va_Nw.use rfl (hK.2 _ hl)) (fun x h => h) ((flds_get hk).trans (by rw [hv])) hdg kk
theorem m_putI (C : Cx w D cy ad p R s m args meth c b nL own ret d) (hw : Wd w D cy ad s σ H locs) {ci : Nat} (ho : IsO w i ci) {Cn : String} {T : u_T} {N index : Nat} (hc : classes[ci]? = some (Cn, T, N)) (hN : nfW ci = N) (hin : ∀ x ∈ u_ws Cn T N, x ∈ gw_tbl) (ty0 : Nat → FieldType) (hty : ∀ k, k < N → parseFieldDescriptor (T k).2.2.1 = some (ty0 k)) (hnm : ∀ a, a < N → ∀ b, b < N → a ≠ b → (T a).2.1 ≠ (T b).2.1) (k : Nat) (hk : k < N) (hf : fkW ci k = 0) (hfin : (T k).2.2.2 = false) (hl : Cond.fieldLink own index (T k).1 (T k).2.1 (T k).2.2.1 ∈ gw_tbl) (hdg : decode b pc = .ok (.putfield index, 3)) {v : Int32} (hn : narrow (ty0 k) (.int v) = .int v) (hfit : fits (ty0 k) (.int v) = true)
    (kk : ∀ (H1 : Heap) (locs1 : List Loc), Wd w D cy ad s (sI σ i k v) H1 locs1 → W p l e R s m args below meth c H1 locs1 cells slots Q (F0 m (pc + 3) ls rest)) : W p l e R s m args below meth c H locs cells slots Q (F0 m pc ls (.int v :: .ref (ad i) :: rest)) := by
  obtain ⟨hx, hb, -, hown, hts, -, -, -, hK, hj⟩ := C
  subst hN
  refine va_put hx hb hts hin ty0 hty hnm hown hK.1 hw.1 (ws_D hj) hw.2.2 i ((ws_get ho.1).trans (by rw [cell_o ho])) hc k hk (hts _ hl) (fun x h => h) hfin (hty k hk) hn hfit (by simpa using hk) hdg (fun H1 locs1 h1 h2 h3 => kk H1 locs1 ⟨?_, hw.2.1, h3⟩)
  rw [ws_putI ho hf] at h1
  exact h1
theorem m_putJ (C : Cx w D cy ad p R s m args meth c b nL own ret d) (hw : Wd w D cy ad s σ H locs) {ci : Nat} (ho : IsO w i ci) {Cn : String} {T : u_T} {N index : Nat} (hc : classes[ci]? = some (Cn, T, N)) (hN : nfW ci = N) (hin : ∀ x ∈ u_ws Cn T N, x ∈ gw_tbl) (ty0 : Nat → FieldType) (hty : ∀ k, k < N → parseFieldDescriptor (T k).2.2.1 = some (ty0 k)) (hnm : ∀ a, a < N → ∀ b, b < N → a ≠ b → (T a).2.1 ≠ (T b).2.1) (k : Nat) (hk : k < N) (hf : fkW ci k = 1) (hfin : (T k).2.2.2 = false) (hl : Cond.fieldLink own index (T k).1 (T k).2.1 (T k).2.2.1 ∈ gw_tbl) (hdg : decode b pc = .ok (.putfield index, 3)) {v : Int64} (hn : narrow (ty0 k) (.long v) = .long v) (hfit : fits (ty0 k) (.long v) = true)
    (kk : ∀ (H1 : Heap) (locs1 : List Loc), Wd w D cy ad s (sJ σ i k v) H1 locs1 → W p l e R s m args below meth c H1 locs1 cells slots Q (F0 m (pc + 3) ls rest)) : W p l e R s m args below meth c H locs cells slots Q (F0 m pc ls (.long v :: .ref (ad i) :: rest)) := by
  obtain ⟨hx, hb, -, hown, hts, -, -, -, hK, hj⟩ := C
  subst hN
  refine va_put hx hb hts hin ty0 hty hnm hown hK.1 hw.1 (ws_D hj) hw.2.2 i ((ws_get ho.1).trans (by rw [cell_o ho])) hc k hk (hts _ hl) (fun x h => h) hfin (hty k hk) hn hfit (by simpa using hk) hdg (fun H1 locs1 h1 h2 h3 => kk H1 locs1 ⟨?_, hw.2.1, h3⟩)
  rw [ws_putJ ho hf] at h1
  exact h1
theorem m_iald (C : Cx w D cy ad p R s m args meth c b nL own ret d) (hw : Wd w D cy ad s σ H locs) {n : Nat} (ha : IsA w i 0 n) {x : Int32} (hin : vp_in x n) (hdg : decode b pc = .ok (.iaload, 1))
    (kk : W p l e R s m args below meth c H locs cells slots Q (F0 m (pc + 1) ls (.int (σ.1 i x.toNatClampNeg) :: rest))) : W p l e R s m args below meth c H locs cells slots Q (F0 m pc ls (.int x :: .ref (ad i) :: rest)) :=
  va_iald C.1 C.2.1 C.2.2.2.2.2.2.2.2.1.1 hw.1 i 0 ((ws_get ha.1).trans (by rw [cell_i ha (by decide) (by decide)])) rfl hin hdg kk
theorem m_bald (C : Cx w D cy ad p R s m args meth c b nL own ret d) (hw : Wd w D cy ad s σ H locs) {n : Nat} (ha : IsA w i 2 n) {x : Int32} (hin : vp_in x n) (hdg : decode b pc = .ok (.baload, 1))
    (kk : W p l e R s m args below meth c H locs cells slots Q (F0 m (pc + 1) ls (.int (σ.1 i x.toNatClampNeg) :: rest))) : W p l e R s m args below meth c H locs cells slots Q (F0 m pc ls (.int x :: .ref (ad i) :: rest)) :=
  va_bald C.1 C.2.1 C.2.2.2.2.2.2.2.2.1.1 hw.1 i 2 ((ws_get ha.1).trans (by rw [cell_i ha (by decide) (by decide)])) rfl hin hdg kk
theorem m_sald (C : Cx w D cy ad p R s m args meth c b nL own ret d) (hw : Wd w D cy ad s σ H locs) {n : Nat} (ha : IsA w i 3 n) {x : Int32} (hin : vp_in x n) (hdg : decode b pc = .ok (.saload, 1))
    (kk : W p l e R s m args below meth c H locs cells slots Q (F0 m (pc + 1) ls (.int (σ.1 i x.toNatClampNeg) :: rest))) : W p l e R s m args below meth c H locs cells slots Q (F0 m pc ls (.int x :: .ref (ad i) :: rest)) :=
  va_sald C.1 C.2.1 C.2.2.2.2.2.2.2.2.1.1 hw.1 i 3 ((ws_get ha.1).trans (by rw [cell_i ha (by decide) (by decide)])) rfl hin hdg kk
theorem m_zald (C : Cx w D cy ad p R s m args meth c b nL own ret d) (hw : Wd w D cy ad s σ H locs) {n : Nat} (ha : IsA w i 4 n) {x : Int32} (hin : vp_in x n) (hdg : decode b pc = .ok (.baload, 1))
    (kk : W p l e R s m args below meth c H locs cells slots Q (F0 m (pc + 1) ls (.int (σ.1 i x.toNatClampNeg) :: rest))) : W p l e R s m args below meth c H locs cells slots Q (F0 m pc ls (.int x :: .ref (ad i) :: rest)) :=
  va_zald C.1 C.2.1 C.2.2.2.2.2.2.2.2.1.1 hw.1 i 4 ((ws_get ha.1).trans (by rw [cell_i ha (by decide) (by decide)])) rfl hin hdg kk
theorem m_lald (C : Cx w D cy ad p R s m args meth c b nL own ret d) (hw : Wd w D cy ad s σ H locs) {n : Nat} (ha : IsA w i 1 n) {x : Int32} (hin : vp_in x n) (hdg : decode b pc = .ok (.laload, 1))
    (kk : W p l e R s m args below meth c H locs cells slots Q (F0 m (pc + 1) ls (.long (σ.2.1 i x.toNatClampNeg) :: rest))) : W p l e R s m args below meth c H locs cells slots Q (F0 m pc ls (.int x :: .ref (ad i) :: rest)) :=
  va_lald C.1 C.2.1 C.2.2.2.2.2.2.2.2.1.1 hw.1 i 1 ((ws_get ha.1).trans (by rw [cell_j ha])) rfl hin hdg kk
theorem m_aald (C : Cx w D cy ad p R s m args meth c b nL own ret d) (hw : Wd w D cy ad s σ H locs) {n : Nat} (ha : IsA w i 5 n) {x : Int32} (hin : vp_in x n) (hdg : decode b pc = .ok (.aaload, 1))
    (kk : W p l e R s m args below meth c H locs cells slots Q (F0 m (pc + 1) ls (.ref (ad (frW w i x.toNatClampNeg)) :: rest))) : W p l e R s m args below meth c H locs cells slots Q (F0 m pc ls (.int x :: .ref (ad i) :: rest)) :=
  va_aldq (f := fun j => some (ad (frW w i j))) C.1 C.2.1 C.2.2.2.2.2.2.2.2.1.1 hw.1 i 5 ((ws_get ha.1).trans (by rw [cell_q ha])) rfl hin hdg kk
theorem m_iast (C : Cx w D cy ad p R s m args meth c b nL own ret d) (hw : Wd w D cy ad s σ H locs) {n : Nat} (ha : IsA w i 0 n) {x v : Int32} (hin : vp_in x n) (hdg : decode b pc = .ok (.iastore, 1))
    (kk : ∀ (H1 : Heap) (locs1 : List Loc), Wd w D cy ad s (sI σ i x.toNatClampNeg v) H1 locs1 → W p l e R s m args below meth c H1 locs1 cells slots Q (F0 m (pc + 1) ls rest)) : W p l e R s m args below meth c H locs cells slots Q (F0 m pc ls (.int v :: .int x :: .ref (ad i) :: rest)) :=
  va_iast C.1 C.2.1 C.2.2.2.2.2.2.2.2.1.1 hw.1 (ws_D C.2.2.2.2.2.2.2.2.2) hw.2.2 i 0 ((ws_get ha.1).trans (by rw [cell_i ha (by decide) (by decide)])) rfl hin hdg (fun H1 locs1 h1 _ h3 => kk H1 locs1 ⟨by rw [ws_ast ha (by decide) (by decide)] at h1; exact h1, hw.2.1, h3⟩)
theorem m_bast (C : Cx w D cy ad p R s m args meth c b nL own ret d) (hw : Wd w D cy ad s σ H locs) {n : Nat} (ha : IsA w i 2 n) {x v : Int32} (hin : vp_in x n) (hdg : decode b pc = .ok (.bastore, 1))
    (kk : ∀ (H1 : Heap) (locs1 : List Loc), Wd w D cy ad s (sI σ i x.toNatClampNeg (vp_nar .byte v)) H1 locs1 → W p l e R s m args below meth c H1 locs1 cells slots Q (F0 m (pc + 1) ls rest)) : W p l e R s m args below meth c H locs cells slots Q (F0 m pc ls (.int v :: .int x :: .ref (ad i) :: rest)) :=
  va_bast C.1 C.2.1 C.2.2.2.2.2.2.2.2.1.1 hw.1 (ws_D C.2.2.2.2.2.2.2.2.2) hw.2.2 i 2 ((ws_get ha.1).trans (by rw [cell_i ha (by decide) (by decide)])) rfl hin hdg (fun H1 locs1 h1 _ h3 => kk H1 locs1 ⟨by rw [ws_ast ha (by decide) (by decide)] at h1; exact h1, hw.2.1, h3⟩)
theorem m_sast (C : Cx w D cy ad p R s m args meth c b nL own ret d) (hw : Wd w D cy ad s σ H locs) {n : Nat} (ha : IsA w i 3 n) {x v : Int32} (hin : vp_in x n) (hdg : decode b pc = .ok (.sastore, 1))
    (kk : ∀ (H1 : Heap) (locs1 : List Loc), Wd w D cy ad s (sI σ i x.toNatClampNeg (vp_nar .short v)) H1 locs1 → W p l e R s m args below meth c H1 locs1 cells slots Q (F0 m (pc + 1) ls rest)) : W p l e R s m args below meth c H locs cells slots Q (F0 m pc ls (.int v :: .int x :: .ref (ad i) :: rest)) :=
  va_sast C.1 C.2.1 C.2.2.2.2.2.2.2.2.1.1 hw.1 (ws_D C.2.2.2.2.2.2.2.2.2) hw.2.2 i 3 ((ws_get ha.1).trans (by rw [cell_i ha (by decide) (by decide)])) rfl hin hdg (fun H1 locs1 h1 _ h3 => kk H1 locs1 ⟨by rw [ws_ast ha (by decide) (by decide)] at h1; exact h1, hw.2.1, h3⟩)
theorem m_zast (C : Cx w D cy ad p R s m args meth c b nL own ret d) (hw : Wd w D cy ad s σ H locs) {n : Nat} (ha : IsA w i 4 n) {x v : Int32} (hin : vp_in x n) (hdg : decode b pc = .ok (.bastore, 1))
    (kk : ∀ (H1 : Heap) (locs1 : List Loc), Wd w D cy ad s (sI σ i x.toNatClampNeg (vp_nar .boolean v)) H1 locs1 → W p l e R s m args below meth c H1 locs1 cells slots Q (F0 m (pc + 1) ls rest)) : W p l e R s m args below meth c H locs cells slots Q (F0 m pc ls (.int v :: .int x :: .ref (ad i) :: rest)) :=
  va_zast C.1 C.2.1 C.2.2.2.2.2.2.2.2.1.1 hw.1 (ws_D C.2.2.2.2.2.2.2.2.2) hw.2.2 i 4 ((ws_get ha.1).trans (by rw [cell_i ha (by decide) (by decide)])) rfl hin hdg (fun H1 locs1 h1 _ h3 => kk H1 locs1 ⟨by rw [ws_ast ha (by decide) (by decide)] at h1; exact h1, hw.2.1, h3⟩)
theorem m_last (C : Cx w D cy ad p R s m args meth c b nL own ret d) (hw : Wd w D cy ad s σ H locs) {n : Nat} (ha : IsA w i 1 n) {x : Int32} {v : Int64} (hin : vp_in x n) (hdg : decode b pc = .ok (.lastore, 1))
    (kk : ∀ (H1 : Heap) (locs1 : List Loc), Wd w D cy ad s (sJ σ i x.toNatClampNeg v) H1 locs1 → W p l e R s m args below meth c H1 locs1 cells slots Q (F0 m (pc + 1) ls rest)) : W p l e R s m args below meth c H locs cells slots Q (F0 m pc ls (.long v :: .int x :: .ref (ad i) :: rest)) :=
  va_last C.1 C.2.1 C.2.2.2.2.2.2.2.2.1.1 hw.1 (ws_D C.2.2.2.2.2.2.2.2.2) hw.2.2 i 1 ((ws_get ha.1).trans (by rw [cell_j ha])) rfl hin hdg (fun H1 locs1 h1 _ h3 => kk H1 locs1 ⟨by rw [ws_astJ ha] at h1; exact h1, hw.2.1, h3⟩)
end MR
end
section
/-! contracts over the memory model, calls, returns; loops as limits -/
theorem TK.warm {D : va_G} {cy : Nat → ClassId} {s U : State} (hW : s.WarmedH U.vm) (h : TK D cy s) : TK D cy U := by
  refine ⟨va_K.moved hW.alike h.1, fun x hx => ?_⟩
  have hz := h.2 x hx
  have hn : isNest x = true := (List.mem_filter.mp hx).2
  cases x <;> first | exact va_Nw.warmM hW hz | exact va_Nw.warmF hW hz | (simp [isNest] at hn)
theorem nest_tab {x : Cond} (h : isNest x = true) : x.onTables = true := by
  cases x <;> first | rfl | (simp [isNest] at h)
theorem TK.same {D : va_G} {cy : Nat → ClassId} {s U : State} (hvm : s.vm = U.vm) (h : TK D cy s) : TK D cy U :=
  ⟨va_K.moved (by rw [hvm]; exact Vm.Alike.refl U.vm) h.1, fun x hx => va_Nw.same (nest_tab (List.mem_filter.mp hx).2) hvm (h.2 x hx)⟩
def QI (w : Nat) (D : va_G) (cy : Nat → ClassId) (ad : Nat → Nat) (below : List Frame) (args : Array Value) (s : State) (v : Int32) (σ' : Mem) : State → Prop :=
  MQ below (va_Qi (fun r u => r = v ∧ u = σ') (fun (u : Mem) (t : State) => Wd0 w D cy ad u t.heap) (AW w ad)) args s 0 0 (AW w ad)
def QL (w : Nat) (D : va_G) (cy : Nat → ClassId) (ad : Nat → Nat) (below : List Frame) (args : Array Value) (s : State) (v : Int64) (σ' : Mem) : State → Prop :=
  MQ below (va_Ql (fun r u => r = v ∧ u = σ') (fun (u : Mem) (t : State) => Wd0 w D cy ad u t.heap) (AW w ad)) args s 0 0 (AW w ad)
def QV (w : Nat) (D : va_G) (cy : Nat → ClassId) (ad : Nat → Nat) (below : List Frame) (args : Array Value) (s : State) (σ' : Mem) : State → Prop :=
  MQ below (va_Qv (fun u => u = σ') (fun (u : Mem) (t : State) => Wd0 w D cy ad u t.heap) (AW w ad)) args s 0 0 (AW w ad)
def QA (w : Nat) (D : va_G) (cy : Nat → ClassId) (ad : Nat → Nat) (below : List Frame) (args : Array Value) (s : State) (v : Nat) (σ' : Mem) : State → Prop :=
  MQ below (va_Qr (fun u => u = σ') (fun (u : Mem) (a : Nat) (t : State) => a = ad v ∧ Wd0 w D cy ad u t.heap) (AW w ad)) args s 0 0 (AW w ad)
def PcW (w : Nat) (D : va_G) (cy : Nat → ClassId) (ad : Nat → Nat) (av : List Value) (σ : Mem) : Array Value → State → Prop := va_Pc av (fun U => TK D cy U ∧ Wd0 w D cy ad σ U.heap)
def CI (w : Nat) (D : va_G) (cy : Nat → ClassId) (ad : Nat → Nat) (l : Launch) (y : MethodName) (b : ByteArray) (n : Nat) (ret : Option FieldType) (d : Nat) (av : List Value) (σ : Mem) (v : Int32) (σ' : Mem) : Prop :=
  Met l y (.code y b n ret :: gw_tbl) (rmD d) (PcW w D cy ad av σ) (va_Qi (fun r u => r = v ∧ u = σ') (fun (u : Mem) (t : State) => Wd0 w D cy ad u t.heap) (AW w ad)) 0 0 (AW w ad)
def CL (w : Nat) (D : va_G) (cy : Nat → ClassId) (ad : Nat → Nat) (l : Launch) (y : MethodName) (b : ByteArray) (n : Nat) (ret : Option FieldType) (d : Nat) (av : List Value) (σ : Mem) (v : Int64) (σ' : Mem) : Prop :=
  Met l y (.code y b n ret :: gw_tbl) (rmD d) (PcW w D cy ad av σ) (va_Ql (fun r u => r = v ∧ u = σ') (fun (u : Mem) (t : State) => Wd0 w D cy ad u t.heap) (AW w ad)) 0 0 (AW w ad)
def CV (w : Nat) (D : va_G) (cy : Nat → ClassId) (ad : Nat → Nat) (l : Launch) (y : MethodName) (b : ByteArray) (n : Nat) (ret : Option FieldType) (d : Nat) (av : List Value) (σ : Mem) (σ' : Mem) : Prop :=
  Met l y (.code y b n ret :: gw_tbl) (rmD d) (PcW w D cy ad av σ) (va_Qv (fun u => u = σ') (fun (u : Mem) (t : State) => Wd0 w D cy ad u t.heap) (AW w ad)) 0 0 (AW w ad)
def CA (w : Nat) (D : va_G) (cy : Nat → ClassId) (ad : Nat → Nat) (l : Launch) (y : MethodName) (b : ByteArray) (n : Nat) (ret : Option FieldType) (d : Nat) (av : List Value) (σ : Mem) (v : Nat) (σ' : Mem) : Prop :=
  Met l y (.code y b n ret :: gw_tbl) (rmD d) (PcW w D cy ad av σ) (va_Qr (fun u => u = σ') (fun (u : Mem) (a : Nat) (t : State) => a = ad v ∧ Wd0 w D cy ad u t.heap) (AW w ad)) 0 0 (AW w ad)
section MK
variable {w : Nat} {D : va_G} {cy : Nat → ClassId} {ad : Nat → Nat} {l : Launch} {y : MethodName} {b : ByteArray} {n : Nat} {ret : Option FieldType} {d : Nat} {av : List Value} {σ σ' : Mem}
theorem Cmk {Qc : Array Value → State → Outcome → State → Prop} (hy : plainName y.cls = true) (hj : InjW w ad) (hn : (lg_sl av).length ≤ n)
    (body : ∀ (p : Program) (e : Env) (R : Room) (s : State) (m : MethodId) (below : List Frame) (meth : Method) (c : Code) (ls : Array Slot), Cx w D cy ad p R s m av.toArray meth c b n y.cls ret d → Wd w D cy ad s σ s.heap [] → lv_has ls n (lv_args 0 av) → W p l e R s m av.toArray below meth c s.heap [] 0 0 (MQ below Qc av.toArray s 0 0 (AW w ad)) (F0 m 0 ls [])) :
    Met l y (.code y b n ret :: gw_tbl) (rmD d) (PcW w D cy ad av σ) Qc 0 0 (AW w ad) := by
  refine Met.ofW (cc := b) (maxL := n) (ret := ret) hy rfl ?_
  intro p e s m args below meth c s₁ B hml hv
  obtain ⟨rfl, hK, hP⟩ := hv
  have hts := atoms_spec (ws := Cond.code y b n ret :: gw_tbl) B.pre
  have hl := lv_entry av (n := n) hn
  rw [lg_entry_eq]
  exact body p e _ s m below meth c _ ⟨B.exec, B.bytes, hml, findClass_of_methodNamed B.named, fun x hx => hts x (List.mem_cons_of_mem _ hx), B.returns, B.notSynchronized, rfl, hK, hj⟩ ⟨hP.1, hP.2, va_S.rf⟩ hl
theorem pc_blind : FrameBlind (PcW w D cy ad av σ) := by
  intro a U g mk h
  obtain ⟨h1, h2, h3⟩ := h
  exact ⟨h1, TK.same (s := U) (U := U.calling g mk a) rfl h2, h3⟩
end MK
def MI (y : MethodName) (b : ByteArray) (n : Nat) (ret : Option FieldType) (np : Nat) : Prop := Cond.code y b n ret ∈ gw_tbl ∧ Cond.initialized y.cls ∈ gw_tbl ∧ y.cls ≠ "java/lang/invoke/MethodHandle" ∧ y.cls ≠ "java/lang/invoke/VarHandle" ∧ (parseMethodDescriptor y.desc).map (fun d => d.parameters.length) = some np
def MV (y : MethodName) : Prop := Cond.instanceMethod y ∈ gw_tbl ∧ Cond.selects y.cls y y ∈ gw_tbl
section CR
variable {w : Nat} {D : va_G} {cy : Nat → ClassId} {ad : Nat → Nat} {p : Program} {l : Launch} {e : Env} {R : Room} {s : State} {m : MethodId} {args : Array Value} {below : List Frame} {meth : Method} {c : Code} {H : Heap} {locs : List Loc} {cells slots : Nat} {Q : State → Prop} {b : ByteArray} {nL : Nat} {own : String} {ret : Option FieldType} {d : Nat} {σ σ' : Mem} {pc : Nat} {ls : Array Slot} {rest st0 : List Value} {i : Nat}
  {y : MethodName} {b2 : ByteArray} {n2 : Nat} {ret2 : Option FieldType} {d2 np index : Nat} {As : List Value} {Qc : Array Value → State → Outcome → State → Prop}
theorem call_B (C : Cx w D cy ad p R s m args meth c b nL own ret d) (hI : MI y b2 n2 ret2 np) (hl : Cond.methodLink own index y ∈ gw_tbl) (hd : d2 + 1 ≤ d) (hn2 : n2 ≤ 21) : CallB R s args own index y b2 n2 ret2 (.code y b2 n2 ret2 :: gw_tbl) (rmD d2) 0 0 np := by
  obtain ⟨hx, hb, -, hown, hts, -, -, rfl, hK, -⟩ := C
  exact callB_of np hts (gw_good' hI.1) rfl rfl rfl (hts _ hI.2.1) (hts _ hl) hI.2.2 ⟨hd, by show 8 + (n2 + 11) + 40 * d2 ≤ 40 * d; omega⟩
theorem call_N {host : String} (C : Cx w D cy ad p R s m args meth c b nL own ret d) (hI : MI y b2 n2 ret2 np) (hl : Cond.methodLinkNest own index y host ∈ nw_tbl) (hd : d2 + 1 ≤ d) (hn2 : n2 ≤ 21) : va_CN R s args own index y host b2 n2 ret2 (.code y b2 n2 ret2 :: gw_tbl) (rmD d2) 0 0 np := by
  obtain ⟨hx, hb, -, hown, hts, -, -, rfl, hK, -⟩ := C
  exact va_cnB np hts (gw_good' hI.1) rfl rfl rfl (hK.2 _ hl) (hts _ hI.2.1) hI.2.2 ⟨hd, by show 8 + (n2 + 11) + 40 * d2 ≤ 40 * d; omega⟩
theorem pre_S (C : Cx w D cy ad p R s m args meth c b nL own ret d) (hw : Wd w D cy ad s σ H locs) {av : List Value} : PreS s H (PcW w D cy ad av σ) av :=
  ⟨pc_blind, fun U hU hW => ⟨rfl, C.2.2.2.2.2.2.2.2.1.warm hW, by rw [hU]; exact ⟨hw.1, hw.2.1⟩⟩⟩
theorem run_V (C : Cx w D cy ad p R s m args meth c b nL own ret d) (hw : Wd w D cy ad s σ H locs) (hM : Met l y (.code y b2 n2 ret2 :: gw_tbl) (rmD d2) (PcW w D cy ad (.ref (ad i) :: As) σ) Qc 0 0 (AW w ad)) (hI : MI y b2 n2 ret2 np) (hV : MV y) {ci : Nat} (ho : IsO w i ci) {q : vw_C} (hc : classes[ci]? = some q) (hq : q.1 = y.cls) (hl : Cond.methodLink own index y ∈ gw_tbl) (hd : d2 + 1 ≤ d) (hn2 : n2 ≤ 21) (hn : As.length = np) (hsz : ls.size = nL) (hst : st0 = As.reverse ++ .ref (ad i) :: rest) (hr : (rest.map fun v => v.category).sum ≤ 8) (hdg : decode b pc = .ok (.invokevirtual index, 3)) (hcs : cells ≤ 0 ∧ slots ≤ 0) :
    va_Run p l e R s m args below meth c H locs cells slots 0 0 (F0 m pc ls st0) rest (Qc (Value.ref (ad i) :: As).toArray) (AW w ad) := by
  have hB := call_B C hI hl hd hn2
  have hpre := pre_S C hw (av := .ref (ad i) :: As)
  obtain ⟨hx, hb, hml, hown, hts, -, -, hR, hK, -⟩ := C
  have hrecv := va_recv hK.1 hw.1 hc ((ws_get ho.1).trans (by rw [cell_o ho]))
  rw [hq] at hrecv
  refine va_runV (b := ad i) (C := y.cls) ⟨hx, hb, hml, hown, hts⟩ hM ⟨hB, hts _ hV.1, hts _ hV.2⟩ ⟨hpre.1, hrecv, hpre.2⟩ rfl hn hsz hst (lv_room hr) hdg ?_
  subst hR
  exact ⟨hcs.1, hcs.2⟩
theorem run_S (C : Cx w D cy ad p R s m args meth c b nL own ret d) (hw : Wd w D cy ad s σ H locs) (hM : Met l y (.code y b2 n2 ret2 :: gw_tbl) (rmD d2) (PcW w D cy ad As σ) Qc 0 0 (AW w ad)) (hI : MI y b2 n2 ret2 np) (hV : Cond.static y ∈ gw_tbl) (hl : Cond.methodLink own index y ∈ gw_tbl) (hd : d2 + 1 ≤ d) (hn2 : n2 ≤ 21) (hn : As.length = np) (hsz : ls.size = nL) (hst : st0 = As.reverse ++ rest) (hr : (rest.map fun v => v.category).sum ≤ 8) (hdg : decode b pc = .ok (.invokestatic index, 3)) (hcs : cells ≤ 0 ∧ slots ≤ 0) :
    va_Run p l e R s m args below meth c H locs cells slots 0 0 (F0 m pc ls st0) rest (Qc As.toArray) (AW w ad) := by
  have hB := call_B C hI hl hd hn2
  have hpre := pre_S C hw (av := As)
  obtain ⟨hx, hb, hml, hown, hts, -, -, hR, hK, -⟩ := C
  refine va_runS ⟨hx, hb, hml, hown, hts⟩ hM ⟨hB, hts _ hV⟩ hpre rfl hn hsz hst (lv_room hr) hdg ?_
  subst hR
  exact ⟨hcs.1, hcs.2⟩
theorem run_SN {host : String} (C : Cx w D cy ad p R s m args meth c b nL own ret d) (hw : Wd w D cy ad s σ H locs) (hM : Met l y (.code y b2 n2 ret2 :: gw_tbl) (rmD d2) (PcW w D cy ad As σ) Qc 0 0 (AW w ad)) (hI : MI y b2 n2 ret2 np) (hV : Cond.static y ∈ gw_tbl) (hl : Cond.methodLinkNest own index y host ∈ nw_tbl) (hd : d2 + 1 ≤ d) (hn2 : n2 ≤ 21) (hn : As.length = np) (hsz : ls.size = nL) (hst : st0 = As.reverse ++ rest) (hr : (rest.map fun v => v.category).sum ≤ 8) (hdg : decode b pc = .ok (.invokestatic index, 3)) (hcs : cells ≤ 0 ∧ slots ≤ 0) :
    va_Run p l e R s m args below meth c H locs cells slots 0 0 (F0 m pc ls st0) rest (Qc As.toArray) (AW w ad) := by
  have hB := call_N C hI hl hd hn2
  have hpre := pre_S C hw (av := As)
  obtain ⟨hx, hb, hml, hown, hts, -, -, hR, hK, -⟩ := C
  refine va_runSN ⟨hx, hb, hml, hown, hts⟩ hM ⟨hB, hts _ hV, trivial⟩ hpre rfl hn hsz hst (lv_room hr) hdg ?_
  subst hR
  exact ⟨hcs.1, hcs.2⟩
theorem go_I {v : Int32} {a : Array Value} (hw : Wd w D cy ad s σ H locs) (hr : va_Run p l e R s m args below meth c H locs cells slots 0 0 (F0 m pc ls st0) rest (va_Qi (fun r u => r = v ∧ u = σ') (fun (u : Mem) (t : State) => Wd0 w D cy ad u t.heap) (AW w ad) a) (AW w ad))
    (kk : ∀ (H1 : Heap) (locs1 : List Loc), Wd w D cy ad s σ' H1 locs1 → W p l e R s m args below meth c H1 locs1 cells slots Q (F0 m (pc + 3) ls (.int v :: rest))) : W p l e R s m args below meth c H locs cells slots Q (F0 m pc ls st0) := by
  refine va_calli hr hw.2.2 (fun _ _ h => h) (fun _ h => h) (fun r u t H1 locs1 ht _ hp hB _ _ hS => ?_)
  obtain ⟨rfl, rfl⟩ := hp
  rw [ht] at hB
  exact kk H1 locs1 ⟨hB.1, hB.2, hS⟩
theorem go_L {v : Int64} {a : Array Value} (hw : Wd w D cy ad s σ H locs) (hr : va_Run p l e R s m args below meth c H locs cells slots 0 0 (F0 m pc ls st0) rest (va_Ql (fun r u => r = v ∧ u = σ') (fun (u : Mem) (t : State) => Wd0 w D cy ad u t.heap) (AW w ad) a) (AW w ad))
    (kk : ∀ (H1 : Heap) (locs1 : List Loc), Wd w D cy ad s σ' H1 locs1 → W p l e R s m args below meth c H1 locs1 cells slots Q (F0 m (pc + 3) ls (.long v :: rest))) : W p l e R s m args below meth c H locs cells slots Q (F0 m pc ls st0) := by
  refine va_calll hr hw.2.2 (fun _ _ h => h) (fun _ h => h) (fun r u t H1 locs1 ht _ hp hB _ _ hS => ?_)
  obtain ⟨rfl, rfl⟩ := hp
  rw [ht] at hB
  exact kk H1 locs1 ⟨hB.1, hB.2, hS⟩
theorem go_V {a : Array Value} (hw : Wd w D cy ad s σ H locs) (hr : va_Run p l e R s m args below meth c H locs cells slots 0 0 (F0 m pc ls st0) rest (va_Qv (fun u => u = σ') (fun (u : Mem) (t : State) => Wd0 w D cy ad u t.heap) (AW w ad) a) (AW w ad))
    (kk : ∀ (H1 : Heap) (locs1 : List Loc), Wd w D cy ad s σ' H1 locs1 → W p l e R s m args below meth c H1 locs1 cells slots Q (F0 m (pc + 3) ls rest)) : W p l e R s m args below meth c H locs cells slots Q (F0 m pc ls st0) := by
  refine va_callv hr hw.2.2 (fun _ _ h => h) (fun _ h => h) (fun u t H1 locs1 ht _ hp hB _ _ hS => ?_)
  obtain rfl := hp
  rw [ht] at hB
  exact kk H1 locs1 ⟨hB.1, hB.2, hS⟩
theorem go_A {v : Nat} {a : Array Value} (hw : Wd w D cy ad s σ H locs) (hr : va_Run p l e R s m args below meth c H locs cells slots 0 0 (F0 m pc ls st0) rest (va_Qr (fun u => u = σ') (fun (u : Mem) (a : Nat) (t : State) => a = ad v ∧ Wd0 w D cy ad u t.heap) (AW w ad) a) (AW w ad))
    (kk : ∀ (H1 : Heap) (locs1 : List Loc), Wd w D cy ad s σ' H1 locs1 → W p l e R s m args below meth c H1 locs1 cells slots Q (F0 m (pc + 3) ls (.ref (ad v) :: rest))) : W p l e R s m args below meth c H locs cells slots Q (F0 m pc ls st0) := by
  refine va_callr hr hw.2.2 (fun _ _ h => h) (fun _ h => h) (fun u ra t H1 locs1 ht _ hp hB _ _ hS => ?_)
  obtain rfl := hp
  obtain ⟨rfl, hB⟩ := hB
  rw [ht] at hB
  exact kk H1 locs1 ⟨hB.1, hB.2, hS⟩
theorem m_iret (C : Cx w D cy ad p R s m args meth c b nL own (some .int) d) (hw : Wd w D cy ad s σ H locs) {v v' : Int32} (hv : v = v' ∧ σ = σ') (hdg : decode b pc = .ok (.ireturn, 1)) : W p l e R s m args below meth c H locs 0 0 (QI w D cy ad below args s v' σ') (F0 m pc ls [.int v]) := by
  obtain ⟨rfl, rfl⟩ := hv
  exact W.iret C.1 C.2.1 C.2.2.2.2.2.1 (fun t ht _ => ⟨⟨v, σ, rfl, ⟨rfl, rfl⟩, show Wd0 _ _ _ _ _ t.heap by rw [ht]; exact ⟨hw.1, hw.2.1⟩⟩, hw.2.2.F ht⟩) hw.2.2.2.2 hdg C.2.2.2.2.2.2.1
theorem m_zret (C : Cx w D cy ad p R s m args meth c b nL own (some .boolean) d) (hw : Wd w D cy ad s σ H locs) {v v' : Int32} (hz : v &&& 1 = v) (hv : v = v' ∧ σ = σ') (hdg : decode b pc = .ok (.ireturn, 1)) : W p l e R s m args below meth c H locs 0 0 (QI w D cy ad below args s v' σ') (F0 m pc ls [.int v]) := by
  obtain ⟨rfl, rfl⟩ := hv
  exact W.zret C.1 C.2.1 C.2.2.2.2.2.1 (by simp [narrow, hz]) (fun t ht _ => ⟨⟨v, σ, rfl, ⟨rfl, rfl⟩, show Wd0 _ _ _ _ _ t.heap by rw [ht]; exact ⟨hw.1, hw.2.1⟩⟩, hw.2.2.F ht⟩) hw.2.2.2.2 hdg C.2.2.2.2.2.2.1
theorem m_lret (C : Cx w D cy ad p R s m args meth c b nL own (some .long) d) (hw : Wd w D cy ad s σ H locs) {v v' : Int64} (hv : v = v' ∧ σ = σ') (hdg : decode b pc = .ok (.lreturn, 1)) : W p l e R s m args below meth c H locs 0 0 (QL w D cy ad below args s v' σ') (F0 m pc ls [.long v]) := by
  obtain ⟨rfl, rfl⟩ := hv
  exact W.lret C.1 C.2.1 C.2.2.2.2.2.1 (fun t ht _ => ⟨⟨v, σ, rfl, ⟨rfl, rfl⟩, show Wd0 _ _ _ _ _ t.heap by rw [ht]; exact ⟨hw.1, hw.2.1⟩⟩, hw.2.2.F ht⟩) hw.2.2.2.2 hdg C.2.2.2.2.2.2.1
theorem m_vret (C : Cx w D cy ad p R s m args meth c b nL own none d) (hw : Wd w D cy ad s σ H locs) (hv : σ = σ') (hdg : decode b pc = .ok (.return_, 1)) : W p l e R s m args below meth c H locs 0 0 (QV w D cy ad below args s σ') (F0 m pc ls []) := by
  obtain rfl := hv
  exact W.vret C.1 C.2.1 C.2.2.2.2.2.1 (fun t ht _ => ⟨⟨σ, rfl, rfl, show Wd0 _ _ _ _ _ t.heap by rw [ht]; exact ⟨hw.1, hw.2.1⟩⟩, hw.2.2.F ht⟩) hw.2.2.2.2 hdg C.2.2.2.2.2.2.1
theorem m_aret {nm : String} (C : Cx w D cy ad p R s m args meth c b nL own (some (.object nm)) d) (hw : Wd w D cy ad s σ H locs) {v v' : Nat} (hv : v = v' ∧ σ = σ') (hdg : decode b pc = .ok (.areturn, 1)) : W p l e R s m args below meth c H locs 0 0 (QA w D cy ad below args s v' σ') (F0 m pc ls [.ref (ad v)]) := by
  obtain ⟨rfl, rfl⟩ := hv
  exact W.aret C.1 C.2.1 C.2.2.2.2.2.1 (Or.inl ⟨nm, rfl⟩) (Or.inr ⟨_, rfl⟩) (fun t ht _ => ⟨⟨σ, ad v, rfl, rfl, rfl, show Wd0 _ _ _ _ _ t.heap by rw [ht]; exact ⟨hw.1, hw.2.1⟩⟩, hw.2.2.F ht⟩) hw.2.2.2.2 hdg C.2.2.2.2.2.2.1
theorem m_putR (C : Cx 1 D cy ad p R s m args meth c b nL own ret d) (hw : Wd 1 D cy ad s σ H locs) {index : Nat} (hin : ∀ x ∈ u_ws RX8 TX8 11, x ∈ gw_tbl) (k : Nat) (hk : k < 11) (hf : fkW 8 k = 3) (hfin : (TX8 k).2.2.2 = false) (hl : Cond.fieldLink own index (TX8 k).1 (TX8 k).2.1 (TX8 k).2.2.1 ∈ gw_tbl) (hdg : decode b pc = .ok (.putfield index, 3)) {x : Nat} (hT : WT 1 (sR σ k x)) {nm : String} (hty : tyX8 k = .object nm)
    (kk : ∀ (H1 : Heap) (locs1 : List Loc), Wd 1 D cy ad s (sR σ k x) H1 locs1 → W p l e R s m args below meth c H1 locs1 cells slots Q (F0 m (pc + 3) ls rest)) : W p l e R s m args below meth c H locs cells slots Q (F0 m pc ls (.ref (ad x) :: .ref (ad 0) :: rest)) := by
  obtain ⟨hx, hb, -, hown, hts, -, -, -, hK, hj⟩ := C
  refine va_put (ci := 8) (C := RX8) (T := TX8) (N := 11) hx hb hts hin tyX8 tyX8_ok nmX8 hown hK.1 hw.1 (ws_D hj) hw.2.2 0 ((ws_get (by decide)).trans (by rw [cell_o (c := 8) (by decide)])) rfl k hk (hts _ hl) (fun x h => h) hfin (tyX8_ok k hk) (by rw [hty]; rfl) (by rw [hty]; rfl) (show k < ((List.range (nfW 8)).map _).length by rw [List.length_map, List.length_range]; exact hk) hdg (fun H1 locs1 h1 h2 h3 => kk H1 locs1 ⟨?_, hT, h3⟩)
  rw [ws_putR hf] at h1
  exact h1
end CR
/-! loops: F s = some (.inl s'): once more with s'; some (.inr r): out with r; none: not told -/
def itN {S T : Type} (F : S → Option (S ⊕ T)) : Nat → S → Option T
  | 0, _ => none
  | n + 1, s => match F s with
    | none => none
    | some (.inl s') => itN F n s'
    | some (.inr r) => some r
theorem itN_up {S T : Type} {F : S → Option (S ⊕ T)} {r : T} : ∀ (n : Nat) (s : S), itN F n s = some r → itN F (n + 1) s = some r
  | 0, s, h => by simp [itN] at h
  | n + 1, s, h => by
    rw [itN] at h ⊢
    cases hF : F s with
    | none => simp [hF] at h
    | some x =>
      cases x with
      | inl s' => simp only [hF] at h ⊢; exact itN_up n s' h
      | inr r' => simp only [hF] at h ⊢; exact h
theorem itN_le {S T : Type} {F : S → Option (S ⊕ T)} {r : T} {s : S} {n m : Nat} (h : itN F n s = some r) (hm : n ≤ m) : itN F m s = some r := by
  induction hm with
  | refl => exact h
  | step _ ih => exact itN_up _ _ ih
noncomputable def Lim {S T : Type} (F : S → Option (S ⊕ T)) (s : S) : Option T := by
  classical
  exact if h : ∃ r n, itN F n s = some r then some (Classical.choose h) else none
theorem Lim_of {S T : Type} {F : S → Option (S ⊕ T)} {s : S} {r : T} {n : Nat} (h : itN F n s = some r) : Lim F s = some r := by
  have hx : ∃ r n, itN F n s = some r := ⟨r, n, h⟩
  unfold Lim
  simp only [hx, ↓reduceDIte, Option.some.injEq]
  obtain ⟨m, hm⟩ := Classical.choose_spec hx
  have h1 := itN_le h (Nat.le_max_left n m)
  have h2 := itN_le hm (Nat.le_max_right n m)
  exact Option.some.inj (h2.symm.trans h1)
theorem Lim_fuel {S T : Type} {F : S → Option (S ⊕ T)} {s : S} {r : T} (h : Lim F s = some r) : ∃ n, itN F n s = some r := by
  unfold Lim at h
  split at h
  next hx =>
    obtain rfl := Option.some.inj h
    exact Classical.choose_spec hx
  next => cases h
def LimQ {S T : Type} (P : S → Prop) (r : T) : S ⊕ T → Prop
  | .inl s => P s
  | .inr r' => r' = r
/-- a loop that ends with r: what each pass hands on holds at its start -/
theorem Lim_ind {S T : Type} {F : S → Option (S ⊕ T)} {s : S} {r : T} (h : Lim F s = some r) {P : S → Prop} (hs : ∀ s x, F s = some x → LimQ P r x → P s) : P s := by
  obtain ⟨n, hn⟩ := Lim_fuel h
  clear h
  induction n generalizing s with
  | zero => simp [itN] at hn
  | succ n ih =>
    rw [itN] at hn
    cases hF : F s with
    | none => simp [hF] at hn
    | some x =>
      cases x with
      | inl s' => simp only [hF] at hn; exact hs s _ hF (ih hn)
      | inr r' => simp only [hF] at hn; exact hs s _ hF (Option.some.inj hn)
theorem Lim_step {S T : Type} {F : S → Option (S ⊕ T)} {s s' : S} (h : F s = some (.inl s')) : Lim F s = Lim F s' := by
  cases hl : Lim F s' with
  | some r =>
    obtain ⟨n, hn⟩ := Lim_fuel hl
    exact Lim_of (n := n + 1) (by simp only [itN, h]; exact hn)
  | none =>
    cases hk : Lim F s with
    | none => rfl
    | some r =>
      obtain ⟨n, hn⟩ := Lim_fuel hk
      cases n with
      | zero => simp [itN] at hn
      | succ n =>
        simp only [itN, h] at hn
        rw [Lim_of hn] at hl
        cases hl
theorem Lim_out {S T : Type} {F : S → Option (S ⊕ T)} {s : S} {r : T} (h : F s = some (.inr r)) : Lim F s = some r := Lim_of (n := 1) (by simp [itN, h])
theorem bS {α β : Type} {x : Option α} {f : α → Option β} {r : β} (h : x.bind f = some r) : ∃ a, x = some a ∧ f a = some r := Option.bind_eq_some_iff.mp h
/-- what must hold for an access: else the answer isn't told -/
def gd {α : Type} (P : Prop) [Decidable P] (x : Option α) : Option α := if P then x else none
theorem gd_of {α : Type} {P : Prop} [Decidable P] {x : Option α} {r : α} (h : gd P x = some r) : P ∧ x = some r := by
  unfold gd at h
  split at h
  next hp => exact ⟨hp, h⟩
  next => cases h
theorem gd_yes {α : Type} {P : Prop} [Decidable P] {x : Option α} (h : P) : gd P x = x := if_pos h
def ix (x : Int32) (n : Nat) : Prop := ¬ (x < 0 ∨ n ≤ x.toNatClampNeg)
theorem ite_t {α : Type} {P : Prop} [Decidable P] {a b c : α} (hp : P) (h : (if P then a else b) = c) : a = c := by rw [if_pos hp] at h; exact h
theorem ite_f {α : Type} {P : Prop} [Decidable P] {a b c : α} (hp : ¬ P) (h : (if P then a else b) = c) : b = c := by rw [if_neg hp] at h; exact h
end
