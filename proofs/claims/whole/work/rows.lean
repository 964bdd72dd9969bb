section
-- ===== PART A: goes FIRST, ahead of the names: the tables' words, and 'selects' of the private methods out of them =====
/-- a private method of a class that the tables say can be made, by its rows of tables_1 -/
def lw_okq (q : MethodName × Nat) : Prop := (q.1.cls ≠ "java/lang/invoke/MethodHandle" ∧ q.1.cls ≠ "java/lang/invoke/VarHandle") ∧ Cond.instantiable q.1.cls q.2 ∈ tables_1 ∧ Cond.privateMethod q.1 ∈ tables_1 ∧ Cond.instanceMethod q.1 ∈ tables_1
theorem lw_p0 : lw_okq (⟨"EndgameHouse$Board", "squareAt", "(II)I"⟩, 11) := ⟨⟨by decide +kernel, by decide +kernel⟩, List.mem_of_getElem? (i := 69) (by decide +kernel), List.mem_of_getElem? (i := 79) (by decide +kernel), List.mem_of_getElem? (i := 80) (by decide +kernel)⟩
theorem lw_p1 : lw_okq (⟨"EndgameHouse$Board", "enter", "(III)V"⟩, 11) := ⟨⟨by decide +kernel, by decide +kernel⟩, List.mem_of_getElem? (i := 69) (by decide +kernel), List.mem_of_getElem? (i := 83) (by decide +kernel), List.mem_of_getElem? (i := 84) (by decide +kernel)⟩
theorem lw_p2 : lw_okq (⟨"EndgameHouse$Board", "lookAround", "(I)V"⟩, 11) := ⟨⟨by decide +kernel, by decide +kernel⟩, List.mem_of_getElem? (i := 69) (by decide +kernel), List.mem_of_getElem? (i := 87) (by decide +kernel), List.mem_of_getElem? (i := 88) (by decide +kernel)⟩
theorem lw_p3 : lw_okq (⟨"EndgameHouse$Board", "lookAlong", "(III)J"⟩, 11) := ⟨⟨by decide +kernel, by decide +kernel⟩, List.mem_of_getElem? (i := 69) (by decide +kernel), List.mem_of_getElem? (i := 94) (by decide +kernel), List.mem_of_getElem? (i := 95) (by decide +kernel)⟩
theorem lw_p4 : lw_okq (⟨"EndgameHouse$Board", "imageOf", "(III)I"⟩, 11) := ⟨⟨by decide +kernel, by decide +kernel⟩, List.mem_of_getElem? (i := 69) (by decide +kernel), List.mem_of_getElem? (i := 98) (by decide +kernel), List.mem_of_getElem? (i := 99) (by decide +kernel)⟩
theorem lw_p5 : lw_okq (⟨"EndgameHouse$Board", "pairsFor", "(I)LEndgameHouse$KingPairs;"⟩, 11) := ⟨⟨by decide +kernel, by decide +kernel⟩, List.mem_of_getElem? (i := 69) (by decide +kernel), List.mem_of_getElem? (i := 200) (by decide +kernel), List.mem_of_getElem? (i := 201) (by decide +kernel)⟩
theorem lw_p6 : lw_okq (⟨"EndgameHouse$KingPairs", "enter", "(III)V"⟩, 8) := ⟨⟨by decide +kernel, by decide +kernel⟩, List.mem_of_getElem? (i := 204) (by decide +kernel), List.mem_of_getElem? (i := 220) (by decide +kernel), List.mem_of_getElem? (i := 221) (by decide +kernel)⟩
theorem lw_p7 : lw_okq (⟨"EndgameHouse$Table", "lay", "(I)I"⟩, 11) := ⟨⟨by decide +kernel, by decide +kernel⟩, List.mem_of_getElem? (i := 198) (by decide +kernel), List.mem_of_getElem? (i := 262) (by decide +kernel), List.mem_of_getElem? (i := 263) (by decide +kernel)⟩
theorem lw_p8 : lw_okq (⟨"EndgameHouse$Board", "holds", "(I)Z"⟩, 11) := ⟨⟨by decide +kernel, by decide +kernel⟩, List.mem_of_getElem? (i := 69) (by decide +kernel), List.mem_of_getElem? (i := 278) (by decide +kernel), List.mem_of_getElem? (i := 279) (by decide +kernel)⟩
theorem lw_p9 : lw_okq (⟨"EndgameHouse$Board", "sight", "(III)J"⟩, 11) := ⟨⟨by decide +kernel, by decide +kernel⟩, List.mem_of_getElem? (i := 69) (by decide +kernel), List.mem_of_getElem? (i := 291) (by decide +kernel), List.mem_of_getElem? (i := 292) (by decide +kernel)⟩
theorem lw_p10 : lw_okq (⟨"EndgameHouse$Maker", "findMates", "()V"⟩, 11) := ⟨⟨by decide +kernel, by decide +kernel⟩, List.mem_of_getElem? (i := 340) (by decide +kernel), List.mem_of_getElem? (i := 389) (by decide +kernel), List.mem_of_getElem? (i := 390) (by decide +kernel)⟩
theorem lw_p11 : lw_okq (⟨"EndgameHouse$Maker", "isMate", "(I)Z"⟩, 11) := ⟨⟨by decide +kernel, by decide +kernel⟩, List.mem_of_getElem? (i := 340) (by decide +kernel), List.mem_of_getElem? (i := 393) (by decide +kernel), List.mem_of_getElem? (i := 394) (by decide +kernel)⟩
theorem lw_p12 : lw_okq (⟨"EndgameHouse$Maker", "settle", "(II)V"⟩, 11) := ⟨⟨by decide +kernel, by decide +kernel⟩, List.mem_of_getElem? (i := 340) (by decide +kernel), List.mem_of_getElem? (i := 408) (by decide +kernel), List.mem_of_getElem? (i := 409) (by decide +kernel)⟩
theorem lw_p13 : lw_okq (⟨"EndgameHouse$Maker", "findPromotions", "(LEndgameHouse$Table;LEndgameHouse$Table;)V"⟩, 11) := ⟨⟨by decide +kernel, by decide +kernel⟩, List.mem_of_getElem? (i := 340) (by decide +kernel), List.mem_of_getElem? (i := 412) (by decide +kernel), List.mem_of_getElem? (i := 413) (by decide +kernel)⟩
theorem lw_p14 : lw_okq (⟨"EndgameHouse$Maker", "chainPromotion", "(II)V"⟩, 11) := ⟨⟨by decide +kernel, by decide +kernel⟩, List.mem_of_getElem? (i := 340) (by decide +kernel), List.mem_of_getElem? (i := 430) (by decide +kernel), List.mem_of_getElem? (i := 431) (by decide +kernel)⟩
theorem lw_p15 : lw_okq (⟨"EndgameHouse$Maker", "settlePromotions", "(I)V"⟩, 11) := ⟨⟨by decide +kernel, by decide +kernel⟩, List.mem_of_getElem? (i := 340) (by decide +kernel), List.mem_of_getElem? (i := 434) (by decide +kernel), List.mem_of_getElem? (i := 435) (by decide +kernel)⟩
def lw_privs_1 : List (MethodName × Nat) := [(⟨"EndgameHouse$Board", "squareAt", "(II)I"⟩, 11), (⟨"EndgameHouse$Board", "enter", "(III)V"⟩, 11), (⟨"EndgameHouse$Board", "lookAround", "(I)V"⟩, 11), (⟨"EndgameHouse$Board", "lookAlong", "(III)J"⟩, 11), (⟨"EndgameHouse$Board", "imageOf", "(III)I"⟩, 11), (⟨"EndgameHouse$Board", "pairsFor", "(I)LEndgameHouse$KingPairs;"⟩, 11), (⟨"EndgameHouse$KingPairs", "enter", "(III)V"⟩, 8), (⟨"EndgameHouse$Table", "lay", "(I)I"⟩, 11), (⟨"EndgameHouse$Board", "holds", "(I)Z"⟩, 11), (⟨"EndgameHouse$Board", "sight", "(III)J"⟩, 11), (⟨"EndgameHouse$Maker", "findMates", "()V"⟩, 11), (⟨"EndgameHouse$Maker", "isMate", "(I)Z"⟩, 11), (⟨"EndgameHouse$Maker", "settle", "(II)V"⟩, 11), (⟨"EndgameHouse$Maker", "findPromotions", "(LEndgameHouse$Table;LEndgameHouse$Table;)V"⟩, 11), (⟨"EndgameHouse$Maker", "chainPromotion", "(II)V"⟩, 11), (⟨"EndgameHouse$Maker", "settlePromotions", "(I)V"⟩, 11)]
theorem lw_r1 : ∀ q ∈ lw_privs_1, lw_okq q := List.forall_mem_cons.mpr ⟨lw_p0, List.forall_mem_cons.mpr ⟨lw_p1, List.forall_mem_cons.mpr ⟨lw_p2, List.forall_mem_cons.mpr ⟨lw_p3, List.forall_mem_cons.mpr ⟨lw_p4, List.forall_mem_cons.mpr ⟨lw_p5, List.forall_mem_cons.mpr ⟨lw_p6, List.forall_mem_cons.mpr ⟨lw_p7, List.forall_mem_cons.mpr ⟨lw_p8, List.forall_mem_cons.mpr ⟨lw_p9, List.forall_mem_cons.mpr ⟨lw_p10, List.forall_mem_cons.mpr ⟨lw_p11, List.forall_mem_cons.mpr ⟨lw_p12, List.forall_mem_cons.mpr ⟨lw_p13, List.forall_mem_cons.mpr ⟨lw_p14, List.forall_mem_cons.mpr ⟨lw_p15, fun _ h => absurd h List.not_mem_nil⟩⟩⟩⟩⟩⟩⟩⟩⟩⟩⟩⟩⟩⟩⟩⟩
theorem lw_p16 : lw_okq (⟨"EndgameHouse$Maker", "goBackFrom", "(II)V"⟩, 11) := ⟨⟨by decide +kernel, by decide +kernel⟩, List.mem_of_getElem? (i := 340) (by decide +kernel), List.mem_of_getElem? (i := 438) (by decide +kernel), List.mem_of_getElem? (i := 439) (by decide +kernel)⟩
theorem lw_p17 : lw_okq (⟨"EndgameHouse$Maker", "takeKingBack", "(IIII)V"⟩, 11) := ⟨⟨by decide +kernel, by decide +kernel⟩, List.mem_of_getElem? (i := 340) (by decide +kernel), List.mem_of_getElem? (i := 445) (by decide +kernel), List.mem_of_getElem? (i := 446) (by decide +kernel)⟩
theorem lw_p18 : lw_okq (⟨"EndgameHouse$Maker", "takeManBack", "(IIII)V"⟩, 11) := ⟨⟨by decide +kernel, by decide +kernel⟩, List.mem_of_getElem? (i := 340) (by decide +kernel), List.mem_of_getElem? (i := 463) (by decide +kernel), List.mem_of_getElem? (i := 464) (by decide +kernel)⟩
theorem lw_p19 : lw_okq (⟨"EndgameHouse$Maker", "takeBlackBack", "(IIII)V"⟩, 11) := ⟨⟨by decide +kernel, by decide +kernel⟩, List.mem_of_getElem? (i := 340) (by decide +kernel), List.mem_of_getElem? (i := 475) (by decide +kernel), List.mem_of_getElem? (i := 476) (by decide +kernel)⟩
theorem lw_p20 : lw_okq (⟨"EndgameHouse$Maker", "isLost", "(III)Z"⟩, 11) := ⟨⟨by decide +kernel, by decide +kernel⟩, List.mem_of_getElem? (i := 340) (by decide +kernel), List.mem_of_getElem? (i := 483) (by decide +kernel), List.mem_of_getElem? (i := 484) (by decide +kernel)⟩
theorem lw_p21 : lw_okq (⟨"EndgameHouse$Table", "sumUpCell", "(II)V"⟩, 11) := ⟨⟨by decide +kernel, by decide +kernel⟩, List.mem_of_getElem? (i := 198) (by decide +kernel), List.mem_of_getElem? (i := 492) (by decide +kernel), List.mem_of_getElem? (i := 493) (by decide +kernel)⟩
theorem lw_p22 : lw_okq (⟨"EndgameHouse$Board", "pawnTargets", "(III)J"⟩, 11) := ⟨⟨by decide +kernel, by decide +kernel⟩, List.mem_of_getElem? (i := 69) (by decide +kernel), List.mem_of_getElem? (i := 512) (by decide +kernel), List.mem_of_getElem? (i := 513) (by decide +kernel)⟩
theorem lw_p23 : lw_okq (⟨"EndgameHouse", "addToTape", "(I)V"⟩, 13) := ⟨⟨by decide +kernel, by decide +kernel⟩, List.mem_of_getElem? (i := 17) (by decide +kernel), List.mem_of_getElem? (i := 535) (by decide +kernel), List.mem_of_getElem? (i := 536) (by decide +kernel)⟩
theorem lw_p24 : lw_okq (⟨"EndgameHouse", "keyOfText", "()I"⟩, 13) := ⟨⟨by decide +kernel, by decide +kernel⟩, List.mem_of_getElem? (i := 17) (by decide +kernel), List.mem_of_getElem? (i := 543) (by decide +kernel), List.mem_of_getElem? (i := 544) (by decide +kernel)⟩
theorem lw_p25 : lw_okq (⟨"EndgameHouse", "squareOfText", "(I)I"⟩, 13) := ⟨⟨by decide +kernel, by decide +kernel⟩, List.mem_of_getElem? (i := 17) (by decide +kernel), List.mem_of_getElem? (i := 554) (by decide +kernel), List.mem_of_getElem? (i := 555) (by decide +kernel)⟩
theorem lw_p26 : lw_okq (⟨"EndgameHouse", "showSquare", "(ICI)V"⟩, 13) := ⟨⟨by decide +kernel, by decide +kernel⟩, List.mem_of_getElem? (i := 17) (by decide +kernel), List.mem_of_getElem? (i := 562) (by decide +kernel), List.mem_of_getElem? (i := 563) (by decide +kernel)⟩
theorem lw_p27 : lw_okq (⟨"EndgameHouse", "demandTable", "(IIIII)LEndgameHouse$Table;"⟩, 13) := ⟨⟨by decide +kernel, by decide +kernel⟩, List.mem_of_getElem? (i := 17) (by decide +kernel), List.mem_of_getElem? (i := 578) (by decide +kernel), List.mem_of_getElem? (i := 579) (by decide +kernel)⟩
theorem lw_p28 : lw_okq (⟨"java/lang/Throwable", "fillInStackTrace", "(I)Ljava/lang/Throwable;"⟩, 6) := ⟨⟨by decide +kernel, by decide +kernel⟩, List.mem_of_getElem? (i := 618) (by decide +kernel), List.mem_of_getElem? (i := 616) (by decide +kernel), List.mem_of_getElem? (i := 617) (by decide +kernel)⟩
theorem lw_p29 : lw_okq (⟨"EndgameHouse", "demandMade", "(I)LEndgameHouse$Table;"⟩, 13) := ⟨⟨by decide +kernel, by decide +kernel⟩, List.mem_of_getElem? (i := 17) (by decide +kernel), List.mem_of_getElem? (i := 647) (by decide +kernel), List.mem_of_getElem? (i := 648) (by decide +kernel)⟩
theorem lw_p30 : lw_okq (⟨"EndgameHouse", "gather", "(LEndgameHouse$Choices;LEndgameHouse$Place;)V"⟩, 13) := ⟨⟨by decide +kernel, by decide +kernel⟩, List.mem_of_getElem? (i := 17) (by decide +kernel), List.mem_of_getElem? (i := 664) (by decide +kernel), List.mem_of_getElem? (i := 665) (by decide +kernel)⟩
theorem lw_p31 : lw_okq (⟨"EndgameHouse", "gatherBlack", "(LEndgameHouse$Choices;LEndgameHouse$Place;)V"⟩, 13) := ⟨⟨by decide +kernel, by decide +kernel⟩, List.mem_of_getElem? (i := 17) (by decide +kernel), List.mem_of_getElem? (i := 668) (by decide +kernel), List.mem_of_getElem? (i := 669) (by decide +kernel)⟩
def lw_privs_2 : List (MethodName × Nat) := [(⟨"EndgameHouse$Maker", "goBackFrom", "(II)V"⟩, 11), (⟨"EndgameHouse$Maker", "takeKingBack", "(IIII)V"⟩, 11), (⟨"EndgameHouse$Maker", "takeManBack", "(IIII)V"⟩, 11), (⟨"EndgameHouse$Maker", "takeBlackBack", "(IIII)V"⟩, 11), (⟨"EndgameHouse$Maker", "isLost", "(III)Z"⟩, 11), (⟨"EndgameHouse$Table", "sumUpCell", "(II)V"⟩, 11), (⟨"EndgameHouse$Board", "pawnTargets", "(III)J"⟩, 11), (⟨"EndgameHouse", "addToTape", "(I)V"⟩, 13), (⟨"EndgameHouse", "keyOfText", "()I"⟩, 13), (⟨"EndgameHouse", "squareOfText", "(I)I"⟩, 13), (⟨"EndgameHouse", "showSquare", "(ICI)V"⟩, 13), (⟨"EndgameHouse", "demandTable", "(IIIII)LEndgameHouse$Table;"⟩, 13), (⟨"java/lang/Throwable", "fillInStackTrace", "(I)Ljava/lang/Throwable;"⟩, 6), (⟨"EndgameHouse", "demandMade", "(I)LEndgameHouse$Table;"⟩, 13), (⟨"EndgameHouse", "gather", "(LEndgameHouse$Choices;LEndgameHouse$Place;)V"⟩, 13), (⟨"EndgameHouse", "gatherBlack", "(LEndgameHouse$Choices;LEndgameHouse$Place;)V"⟩, 13)]
theorem lw_r2 : ∀ q ∈ lw_privs_2, lw_okq q := List.forall_mem_cons.mpr ⟨lw_p16, List.forall_mem_cons.mpr ⟨lw_p17, List.forall_mem_cons.mpr ⟨lw_p18, List.forall_mem_cons.mpr ⟨lw_p19, List.forall_mem_cons.mpr ⟨lw_p20, List.forall_mem_cons.mpr ⟨lw_p21, List.forall_mem_cons.mpr ⟨lw_p22, List.forall_mem_cons.mpr ⟨lw_p23, List.forall_mem_cons.mpr ⟨lw_p24, List.forall_mem_cons.mpr ⟨lw_p25, List.forall_mem_cons.mpr ⟨lw_p26, List.forall_mem_cons.mpr ⟨lw_p27, List.forall_mem_cons.mpr ⟨lw_p28, List.forall_mem_cons.mpr ⟨lw_p29, List.forall_mem_cons.mpr ⟨lw_p30, List.forall_mem_cons.mpr ⟨lw_p31, fun _ h => absurd h List.not_mem_nil⟩⟩⟩⟩⟩⟩⟩⟩⟩⟩⟩⟩⟩⟩⟩⟩
theorem lw_p32 : lw_okq (⟨"EndgameHouse", "lookUp", "(IIIII)I"⟩, 13) := ⟨⟨by decide +kernel, by decide +kernel⟩, List.mem_of_getElem? (i := 17) (by decide +kernel), List.mem_of_getElem? (i := 673) (by decide +kernel), List.mem_of_getElem? (i := 674) (by decide +kernel)⟩
theorem lw_p33 : lw_okq (⟨"EndgameHouse", "gatherKing", "(LEndgameHouse$Choices;LEndgameHouse$Place;)V"⟩, 13) := ⟨⟨by decide +kernel, by decide +kernel⟩, List.mem_of_getElem? (i := 17) (by decide +kernel), List.mem_of_getElem? (i := 681) (by decide +kernel), List.mem_of_getElem? (i := 682) (by decide +kernel)⟩
theorem lw_p34 : lw_okq (⟨"EndgameHouse", "gatherMan", "(LEndgameHouse$Choices;LEndgameHouse$Place;)V"⟩, 13) := ⟨⟨by decide +kernel, by decide +kernel⟩, List.mem_of_getElem? (i := 17) (by decide +kernel), List.mem_of_getElem? (i := 685) (by decide +kernel), List.mem_of_getElem? (i := 686) (by decide +kernel)⟩
theorem lw_p35 : lw_okq (⟨"EndgameHouse", "gatherPromotions", "(LEndgameHouse$Choices;LEndgameHouse$Place;I)V"⟩, 13) := ⟨⟨by decide +kernel, by decide +kernel⟩, List.mem_of_getElem? (i := 17) (by decide +kernel), List.mem_of_getElem? (i := 689) (by decide +kernel), List.mem_of_getElem? (i := 690) (by decide +kernel)⟩
theorem lw_p36 : lw_okq (⟨"EndgameHouse", "addToLine", "(LEndgameHouse$Place;)V"⟩, 13) := ⟨⟨by decide +kernel, by decide +kernel⟩, List.mem_of_getElem? (i := 17) (by decide +kernel), List.mem_of_getElem? (i := 708) (by decide +kernel), List.mem_of_getElem? (i := 709) (by decide +kernel)⟩
theorem lw_p37 : lw_okq (⟨"EndgameHouse$Table", "pairWith", "(I)I"⟩, 11) := ⟨⟨by decide +kernel, by decide +kernel⟩, List.mem_of_getElem? (i := 198) (by decide +kernel), List.mem_of_getElem? (i := 741) (by decide +kernel), List.mem_of_getElem? (i := 742) (by decide +kernel)⟩
theorem lw_p38 : lw_okq (⟨"EndgameHouse", "demandTurn", "(II)LEndgameHouse$Table;"⟩, 13) := ⟨⟨by decide +kernel, by decide +kernel⟩, List.mem_of_getElem? (i := 17) (by decide +kernel), List.mem_of_getElem? (i := 757) (by decide +kernel), List.mem_of_getElem? (i := 758) (by decide +kernel)⟩
theorem lw_p39 : lw_okq (⟨"EndgameHouseModel", "layers", "(I)V"⟩, 28) := ⟨⟨by decide +kernel, by decide +kernel⟩, List.mem_of_getElem? (i := 773) (by decide +kernel), List.mem_of_getElem? (i := 881) (by decide +kernel), List.mem_of_getElem? (i := 882) (by decide +kernel)⟩
theorem lw_p40 : lw_okq (⟨"EndgameHouseModel", "legal", "(IIIII)Z"⟩, 28) := ⟨⟨by decide +kernel, by decide +kernel⟩, List.mem_of_getElem? (i := 773) (by decide +kernel), List.mem_of_getElem? (i := 886) (by decide +kernel), List.mem_of_getElem? (i := 887) (by decide +kernel)⟩
theorem lw_p41 : lw_okq (⟨"EndgameHouseModel", "isNext", "(II)Z"⟩, 28) := ⟨⟨by decide +kernel, by decide +kernel⟩, List.mem_of_getElem? (i := 773) (by decide +kernel), List.mem_of_getElem? (i := 890) (by decide +kernel), List.mem_of_getElem? (i := 891) (by decide +kernel)⟩
theorem lw_p42 : lw_okq (⟨"EndgameHouseModel", "attacks", "(IIIII)Z"⟩, 28) := ⟨⟨by decide +kernel, by decide +kernel⟩, List.mem_of_getElem? (i := 773) (by decide +kernel), List.mem_of_getElem? (i := 894) (by decide +kernel), List.mem_of_getElem? (i := 895) (by decide +kernel)⟩
theorem lw_p43 : lw_okq (⟨"EndgameHouseModel", "off", "(III)I"⟩, 28) := ⟨⟨by decide +kernel, by decide +kernel⟩, List.mem_of_getElem? (i := 773) (by decide +kernel), List.mem_of_getElem? (i := 901) (by decide +kernel), List.mem_of_getElem? (i := 902) (by decide +kernel)⟩
theorem lw_p44 : lw_okq (⟨"EndgameHouseModel", "find", "(IIIII)V"⟩, 28) := ⟨⟨by decide +kernel, by decide +kernel⟩, List.mem_of_getElem? (i := 773) (by decide +kernel), List.mem_of_getElem? (i := 905) (by decide +kernel), List.mem_of_getElem? (i := 906) (by decide +kernel)⟩
theorem lw_p45 : lw_okq (⟨"EndgameHouseModel", "add", "(IIIIIII)V"⟩, 28) := ⟨⟨by decide +kernel, by decide +kernel⟩, List.mem_of_getElem? (i := 773) (by decide +kernel), List.mem_of_getElem? (i := 909) (by decide +kernel), List.mem_of_getElem? (i := 910) (by decide +kernel)⟩
theorem lw_p46 : lw_okq (⟨"EndgameHouseModel", "pawnMoves", "(III)V"⟩, 28) := ⟨⟨by decide +kernel, by decide +kernel⟩, List.mem_of_getElem? (i := 773) (by decide +kernel), List.mem_of_getElem? (i := 913) (by decide +kernel), List.mem_of_getElem? (i := 914) (by decide +kernel)⟩
theorem lw_p47 : lw_okq (⟨"EndgameHouseModel", "decide", "(IIIIII)V"⟩, 28) := ⟨⟨by decide +kernel, by decide +kernel⟩, List.mem_of_getElem? (i := 773) (by decide +kernel), List.mem_of_getElem? (i := 917) (by decide +kernel), List.mem_of_getElem? (i := 918) (by decide +kernel)⟩
def lw_privs_3 : List (MethodName × Nat) := [(⟨"EndgameHouse", "lookUp", "(IIIII)I"⟩, 13), (⟨"EndgameHouse", "gatherKing", "(LEndgameHouse$Choices;LEndgameHouse$Place;)V"⟩, 13), (⟨"EndgameHouse", "gatherMan", "(LEndgameHouse$Choices;LEndgameHouse$Place;)V"⟩, 13), (⟨"EndgameHouse", "gatherPromotions", "(LEndgameHouse$Choices;LEndgameHouse$Place;I)V"⟩, 13), (⟨"EndgameHouse", "addToLine", "(LEndgameHouse$Place;)V"⟩, 13), (⟨"EndgameHouse$Table", "pairWith", "(I)I"⟩, 11), (⟨"EndgameHouse", "demandTurn", "(II)LEndgameHouse$Table;"⟩, 13), (⟨"EndgameHouseModel", "layers", "(I)V"⟩, 28), (⟨"EndgameHouseModel", "legal", "(IIIII)Z"⟩, 28), (⟨"EndgameHouseModel", "isNext", "(II)Z"⟩, 28), (⟨"EndgameHouseModel", "attacks", "(IIIII)Z"⟩, 28), (⟨"EndgameHouseModel", "off", "(III)I"⟩, 28), (⟨"EndgameHouseModel", "find", "(IIIII)V"⟩, 28), (⟨"EndgameHouseModel", "add", "(IIIIIII)V"⟩, 28), (⟨"EndgameHouseModel", "pawnMoves", "(III)V"⟩, 28), (⟨"EndgameHouseModel", "decide", "(IIIIII)V"⟩, 28)]
theorem lw_r3 : ∀ q ∈ lw_privs_3, lw_okq q := List.forall_mem_cons.mpr ⟨lw_p32, List.forall_mem_cons.mpr ⟨lw_p33, List.forall_mem_cons.mpr ⟨lw_p34, List.forall_mem_cons.mpr ⟨lw_p35, List.forall_mem_cons.mpr ⟨lw_p36, List.forall_mem_cons.mpr ⟨lw_p37, List.forall_mem_cons.mpr ⟨lw_p38, List.forall_mem_cons.mpr ⟨lw_p39, List.forall_mem_cons.mpr ⟨lw_p40, List.forall_mem_cons.mpr ⟨lw_p41, List.forall_mem_cons.mpr ⟨lw_p42, List.forall_mem_cons.mpr ⟨lw_p43, List.forall_mem_cons.mpr ⟨lw_p44, List.forall_mem_cons.mpr ⟨lw_p45, List.forall_mem_cons.mpr ⟨lw_p46, List.forall_mem_cons.mpr ⟨lw_p47, fun _ h => absurd h List.not_mem_nil⟩⟩⟩⟩⟩⟩⟩⟩⟩⟩⟩⟩⟩⟩⟩⟩
theorem lw_p48 : lw_okq (⟨"EndgameHouseModel", "key", "(IIII)I"⟩, 28) := ⟨⟨by decide +kernel, by decide +kernel⟩, List.mem_of_getElem? (i := 773) (by decide +kernel), List.mem_of_getElem? (i := 921) (by decide +kernel), List.mem_of_getElem? (i := 922) (by decide +kernel)⟩
theorem lw_p49 : lw_okq (⟨"EndgameHouseModel", "layer", "(II)V"⟩, 28) := ⟨⟨by decide +kernel, by decide +kernel⟩, List.mem_of_getElem? (i := 773) (by decide +kernel), List.mem_of_getElem? (i := 925) (by decide +kernel), List.mem_of_getElem? (i := 926) (by decide +kernel)⟩
theorem lw_p50 : lw_okq (⟨"EndgameHouseModel", "backWhite", "(IIIII)V"⟩, 28) := ⟨⟨by decide +kernel, by decide +kernel⟩, List.mem_of_getElem? (i := 773) (by decide +kernel), List.mem_of_getElem? (i := 929) (by decide +kernel), List.mem_of_getElem? (i := 930) (by decide +kernel)⟩
theorem lw_p51 : lw_okq (⟨"EndgameHouseModel", "isOpen", "(IIIII)Z"⟩, 28) := ⟨⟨by decide +kernel, by decide +kernel⟩, List.mem_of_getElem? (i := 773) (by decide +kernel), List.mem_of_getElem? (i := 933) (by decide +kernel), List.mem_of_getElem? (i := 934) (by decide +kernel)⟩
theorem lw_p52 : lw_okq (⟨"EndgameHouseModel", "backBlack", "(IIIII)V"⟩, 28) := ⟨⟨by decide +kernel, by decide +kernel⟩, List.mem_of_getElem? (i := 773) (by decide +kernel), List.mem_of_getElem? (i := 937) (by decide +kernel), List.mem_of_getElem? (i := 938) (by decide +kernel)⟩
theorem lw_p53 : lw_okq (⟨"EndgameHouseModel", "allDecided", "(IIII)Z"⟩, 28) := ⟨⟨by decide +kernel, by decide +kernel⟩, List.mem_of_getElem? (i := 773) (by decide +kernel), List.mem_of_getElem? (i := 941) (by decide +kernel), List.mem_of_getElem? (i := 942) (by decide +kernel)⟩
theorem lw_p54 : lw_okq (⟨"EndgameHouseModel", "after", "(II)I"⟩, 28) := ⟨⟨by decide +kernel, by decide +kernel⟩, List.mem_of_getElem? (i := 773) (by decide +kernel), List.mem_of_getElem? (i := 945) (by decide +kernel), List.mem_of_getElem? (i := 946) (by decide +kernel)⟩
theorem lw_p55 : lw_okq (⟨"EndgameHouseModel", "distanceOf", "(IIIII)I"⟩, 28) := ⟨⟨by decide +kernel, by decide +kernel⟩, List.mem_of_getElem? (i := 773) (by decide +kernel), List.mem_of_getElem? (i := 949) (by decide +kernel), List.mem_of_getElem? (i := 950) (by decide +kernel)⟩
theorem lw_p56 : lw_okq (⟨"EndgameHouseModel", "promotions", "(I)V"⟩, 28) := ⟨⟨by decide +kernel, by decide +kernel⟩, List.mem_of_getElem? (i := 773) (by decide +kernel), List.mem_of_getElem? (i := 953) (by decide +kernel), List.mem_of_getElem? (i := 954) (by decide +kernel)⟩
theorem lw_p57 : lw_okq (⟨"EndgameHouseModel", "numbers", "(I)V"⟩, 28) := ⟨⟨by decide +kernel, by decide +kernel⟩, List.mem_of_getElem? (i := 773) (by decide +kernel), List.mem_of_getElem? (i := 957) (by decide +kernel), List.mem_of_getElem? (i := 958) (by decide +kernel)⟩
theorem lw_p58 : lw_okq (⟨"EndgameHouseModel", "least", "(IIIII)I"⟩, 28) := ⟨⟨by decide +kernel, by decide +kernel⟩, List.mem_of_getElem? (i := 773) (by decide +kernel), List.mem_of_getElem? (i := 961) (by decide +kernel), List.mem_of_getElem? (i := 962) (by decide +kernel)⟩
theorem lw_p59 : lw_okq (⟨"EndgameHouseModel", "image", "(II)I"⟩, 28) := ⟨⟨by decide +kernel, by decide +kernel⟩, List.mem_of_getElem? (i := 773) (by decide +kernel), List.mem_of_getElem? (i := 965) (by decide +kernel), List.mem_of_getElem? (i := 966) (by decide +kernel)⟩
theorem lw_p60 : lw_okq (⟨"EndgameHouseModel", "areNumbers", "(IIIII)Z"⟩, 28) := ⟨⟨by decide +kernel, by decide +kernel⟩, List.mem_of_getElem? (i := 773) (by decide +kernel), List.mem_of_getElem? (i := 973) (by decide +kernel), List.mem_of_getElem? (i := 974) (by decide +kernel)⟩
theorem lw_p61 : lw_okq (⟨"EndgameHouseModel", "mayAsk", "(IIIII)Z"⟩, 28) := ⟨⟨by decide +kernel, by decide +kernel⟩, List.mem_of_getElem? (i := 773) (by decide +kernel), List.mem_of_getElem? (i := 985) (by decide +kernel), List.mem_of_getElem? (i := 986) (by decide +kernel)⟩
theorem lw_p62 : lw_okq (⟨"EndgameHouseModel", "isMade", "(I)Z"⟩, 28) := ⟨⟨by decide +kernel, by decide +kernel⟩, List.mem_of_getElem? (i := 773) (by decide +kernel), List.mem_of_getElem? (i := 989) (by decide +kernel), List.mem_of_getElem? (i := 990) (by decide +kernel)⟩
theorem lw_p63 : lw_okq (⟨"EndgameHouseModel", "may", "(Z)Z"⟩, 28) := ⟨⟨by decide +kernel, by decide +kernel⟩, List.mem_of_getElem? (i := 773) (by decide +kernel), List.mem_of_getElem? (i := 993) (by decide +kernel), List.mem_of_getElem? (i := 994) (by decide +kernel)⟩
def lw_privs_4 : List (MethodName × Nat) := [(⟨"EndgameHouseModel", "key", "(IIII)I"⟩, 28), (⟨"EndgameHouseModel", "layer", "(II)V"⟩, 28), (⟨"EndgameHouseModel", "backWhite", "(IIIII)V"⟩, 28), (⟨"EndgameHouseModel", "isOpen", "(IIIII)Z"⟩, 28), (⟨"EndgameHouseModel", "backBlack", "(IIIII)V"⟩, 28), (⟨"EndgameHouseModel", "allDecided", "(IIII)Z"⟩, 28), (⟨"EndgameHouseModel", "after", "(II)I"⟩, 28), (⟨"EndgameHouseModel", "distanceOf", "(IIIII)I"⟩, 28), (⟨"EndgameHouseModel", "promotions", "(I)V"⟩, 28), (⟨"EndgameHouseModel", "numbers", "(I)V"⟩, 28), (⟨"EndgameHouseModel", "least", "(IIIII)I"⟩, 28), (⟨"EndgameHouseModel", "image", "(II)I"⟩, 28), (⟨"EndgameHouseModel", "areNumbers", "(IIIII)Z"⟩, 28), (⟨"EndgameHouseModel", "mayAsk", "(IIIII)Z"⟩, 28), (⟨"EndgameHouseModel", "isMade", "(I)Z"⟩, 28), (⟨"EndgameHouseModel", "may", "(Z)Z"⟩, 28)]
theorem lw_r4 : ∀ q ∈ lw_privs_4, lw_okq q := List.forall_mem_cons.mpr ⟨lw_p48, List.forall_mem_cons.mpr ⟨lw_p49, List.forall_mem_cons.mpr ⟨lw_p50, List.forall_mem_cons.mpr ⟨lw_p51, List.forall_mem_cons.mpr ⟨lw_p52, List.forall_mem_cons.mpr ⟨lw_p53, List.forall_mem_cons.mpr ⟨lw_p54, List.forall_mem_cons.mpr ⟨lw_p55, List.forall_mem_cons.mpr ⟨lw_p56, List.forall_mem_cons.mpr ⟨lw_p57, List.forall_mem_cons.mpr ⟨lw_p58, List.forall_mem_cons.mpr ⟨lw_p59, List.forall_mem_cons.mpr ⟨lw_p60, List.forall_mem_cons.mpr ⟨lw_p61, List.forall_mem_cons.mpr ⟨lw_p62, List.forall_mem_cons.mpr ⟨lw_p63, fun _ h => absurd h List.not_mem_nil⟩⟩⟩⟩⟩⟩⟩⟩⟩⟩⟩⟩⟩⟩⟩⟩
theorem lw_p64 : lw_okq (⟨"EndgameHouseModel", "isBest", "(III)Z"⟩, 28) := ⟨⟨by decide +kernel, by decide +kernel⟩, List.mem_of_getElem? (i := 773) (by decide +kernel), List.mem_of_getElem? (i := 1001) (by decide +kernel), List.mem_of_getElem? (i := 1002) (by decide +kernel)⟩
theorem lw_p65 : lw_okq (⟨"EndgameHouseModel", "keep", "(IIIIII)V"⟩, 28) := ⟨⟨by decide +kernel, by decide +kernel⟩, List.mem_of_getElem? (i := 773) (by decide +kernel), List.mem_of_getElem? (i := 1013) (by decide +kernel), List.mem_of_getElem? (i := 1014) (by decide +kernel)⟩
theorem lw_p66 : lw_okq (⟨"EndgameHouseModel", "numberOf", "(II)I"⟩, 28) := ⟨⟨by decide +kernel, by decide +kernel⟩, List.mem_of_getElem? (i := 773) (by decide +kernel), List.mem_of_getElem? (i := 1025) (by decide +kernel), List.mem_of_getElem? (i := 1026) (by decide +kernel)⟩
theorem lw_p67 : lw_okq (⟨"EndgameHouseModel", "isCanon", "(II)Z"⟩, 28) := ⟨⟨by decide +kernel, by decide +kernel⟩, List.mem_of_getElem? (i := 773) (by decide +kernel), List.mem_of_getElem? (i := 1029) (by decide +kernel), List.mem_of_getElem? (i := 1030) (by decide +kernel)⟩
theorem lw_p68 : lw_okq (⟨"EndgameHouseModel", "isSqueezed", "(II)Z"⟩, 28) := ⟨⟨by decide +kernel, by decide +kernel⟩, List.mem_of_getElem? (i := 773) (by decide +kernel), List.mem_of_getElem? (i := 1041) (by decide +kernel), List.mem_of_getElem? (i := 1042) (by decide +kernel)⟩
theorem lw_p69 : lw_okq (⟨"EndgameHouseModel", "four", "(I)V"⟩, 28) := ⟨⟨by decide +kernel, by decide +kernel⟩, List.mem_of_getElem? (i := 773) (by decide +kernel), List.mem_of_getElem? (i := 1053) (by decide +kernel), List.mem_of_getElem? (i := 1054) (by decide +kernel)⟩
theorem lw_p70 : lw_okq (⟨"EndgameHouseModel", "squareAt", "(I)I"⟩, 28) := ⟨⟨by decide +kernel, by decide +kernel⟩, List.mem_of_getElem? (i := 773) (by decide +kernel), List.mem_of_getElem? (i := 1061) (by decide +kernel), List.mem_of_getElem? (i := 1062) (by decide +kernel)⟩
theorem lw_p71 : lw_okq (⟨"EndgameHouseModel", "tell", "(I)V"⟩, 28) := ⟨⟨by decide +kernel, by decide +kernel⟩, List.mem_of_getElem? (i := 773) (by decide +kernel), List.mem_of_getElem? (i := 1069) (by decide +kernel), List.mem_of_getElem? (i := 1070) (by decide +kernel)⟩
theorem lw_p72 : lw_okq (⟨"EndgameHouseModel", "tellSquare", "(I)V"⟩, 28) := ⟨⟨by decide +kernel, by decide +kernel⟩, List.mem_of_getElem? (i := 773) (by decide +kernel), List.mem_of_getElem? (i := 1073) (by decide +kernel), List.mem_of_getElem? (i := 1074) (by decide +kernel)⟩
def lw_privs_5 : List (MethodName × Nat) := [(⟨"EndgameHouseModel", "isBest", "(III)Z"⟩, 28), (⟨"EndgameHouseModel", "keep", "(IIIIII)V"⟩, 28), (⟨"EndgameHouseModel", "numberOf", "(II)I"⟩, 28), (⟨"EndgameHouseModel", "isCanon", "(II)Z"⟩, 28), (⟨"EndgameHouseModel", "isSqueezed", "(II)Z"⟩, 28), (⟨"EndgameHouseModel", "four", "(I)V"⟩, 28), (⟨"EndgameHouseModel", "squareAt", "(I)I"⟩, 28), (⟨"EndgameHouseModel", "tell", "(I)V"⟩, 28), (⟨"EndgameHouseModel", "tellSquare", "(I)V"⟩, 28)]
theorem lw_r5 : ∀ q ∈ lw_privs_5, lw_okq q := List.forall_mem_cons.mpr ⟨lw_p64, List.forall_mem_cons.mpr ⟨lw_p65, List.forall_mem_cons.mpr ⟨lw_p66, List.forall_mem_cons.mpr ⟨lw_p67, List.forall_mem_cons.mpr ⟨lw_p68, List.forall_mem_cons.mpr ⟨lw_p69, List.forall_mem_cons.mpr ⟨lw_p70, List.forall_mem_cons.mpr ⟨lw_p71, List.forall_mem_cons.mpr ⟨lw_p72, fun _ h => absurd h List.not_mem_nil⟩⟩⟩⟩⟩⟩⟩⟩⟩
def lw_privs : List (MethodName × Nat) := lw_privs_1 ++ (lw_privs_2 ++ (lw_privs_3 ++ (lw_privs_4 ++ (lw_privs_5))))
def lw_tbl : List Cond := k2_sels lw_privs ++ tables_1
theorem lw_privs_ok : ∀ q ∈ lw_privs, lw_okq q := by
  show ∀ q ∈ lw_privs_1 ++ (lw_privs_2 ++ (lw_privs_3 ++ (lw_privs_4 ++ (lw_privs_5)))), lw_okq q
  exact List.forall_mem_append.mpr ⟨lw_r1, List.forall_mem_append.mpr ⟨lw_r2, List.forall_mem_append.mpr ⟨lw_r3, List.forall_mem_append.mpr ⟨lw_r4, lw_r5⟩⟩⟩⟩
end
section
def RX0 : String := "EndgameHouse$Board"
def TX0 : u_T := fun k => match k with
  | 0 => ("EndgameHouse$Board", "files", "I", true)
  | 1 => ("EndgameHouse$Board", "squares", "I", true)
  | 2 => ("EndgameHouse$Board", "rankOf", "[I", true)
  | 3 => ("EndgameHouse$Board", "fileOf", "[I", true)
  | 4 => ("EndgameHouse$Board", "images", "[I", true)
  | 5 => ("EndgameHouse$Board", "tables", "[LEndgameHouse$Table;", true)
  | 6 => ("EndgameHouse$Board", "next", "[J", true)
  | 7 => ("EndgameHouse$Board", "reach", "[[J", true)
  | 8 => ("EndgameHouse$Board", "hidden", "[J", true)
  | 9 => ("EndgameHouse$Board", "pairs", "LEndgameHouse$KingPairs;", false)
  | _ => ("EndgameHouse$Board", "pawnPairs", "LEndgameHouse$KingPairs;", false)
def tyX0 : Nat → FieldType := fun k => match k with
  | 0 => .int
  | 1 => .int
  | 2 => .array .int
  | 3 => .array .int
  | 4 => .array .int
  | 5 => .array (.object "EndgameHouse$Table")
  | 6 => .array .long
  | 7 => .array (.array .long)
  | 8 => .array .long
  | 9 => .object "EndgameHouse$KingPairs"
  | _ => .object "EndgameHouse$KingPairs"
abbrev wsX00 : List Cond := u_ws RX0 TX0 11
theorem nmX0 : ∀ a, a < 11 → ∀ b, b < 11 → a ≠ b → (TX0 a).2.1 ≠ (TX0 b).2.1 := by decide +kernel
theorem tyX0_ok : ∀ k, k < 11 → parseFieldDescriptor (TX0 k).2.2.1 = some (tyX0 k) := by decide +kernel
abbrev cX0_init : ByteArray := prog_2_method_1_code
def yX0_init : MethodName := ⟨RX0, "<init>", "(I)V"⟩
abbrev cX0_enter : ByteArray := prog_2_method_2_code
def yX0_enter : MethodName := ⟨RX0, "enter", "(III)V"⟩
abbrev cX0_lookAround : ByteArray := prog_2_method_3_code
def yX0_lookAround : MethodName := ⟨RX0, "lookAround", "(I)V"⟩
abbrev cX0_lookAlong : ByteArray := prog_2_method_4_code
def yX0_lookAlong : MethodName := ⟨RX0, "lookAlong", "(III)J"⟩
abbrev cX0_imageOf : ByteArray := prog_2_method_5_code
def yX0_imageOf : MethodName := ⟨RX0, "imageOf", "(III)I"⟩
abbrev cX0_squareAt : ByteArray := prog_2_method_6_code
def yX0_squareAt : MethodName := ⟨RX0, "squareAt", "(II)I"⟩
abbrev cX0_isLastRank : ByteArray := prog_2_method_7_code
def yX0_isLastRank : MethodName := ⟨RX0, "isLastRank", "(I)Z"⟩
abbrev cX0_areNext : ByteArray := prog_2_method_8_code
def yX0_areNext : MethodName := ⟨RX0, "areNext", "(II)Z"⟩
abbrev cX0_holds : ByteArray := prog_2_method_9_code
def yX0_holds : MethodName := ⟨RX0, "holds", "(I)Z"⟩
abbrev cX0_allows : ByteArray := prog_2_method_10_code
def yX0_allows : MethodName := ⟨RX0, "allows", "(IIIII)Z"⟩
abbrev cX0_attacks : ByteArray := prog_2_method_11_code
def yX0_attacks : MethodName := ⟨RX0, "attacks", "(IIII)Z"⟩
abbrev cX0_sight : ByteArray := prog_2_method_12_code
def yX0_sight : MethodName := ⟨RX0, "sight", "(III)J"⟩
abbrev cX0_whiteTargets : ByteArray := prog_2_method_13_code
def yX0_whiteTargets : MethodName := ⟨RX0, "whiteTargets", "(III)J"⟩
abbrev cX0_blackTargets : ByteArray := prog_2_method_14_code
def yX0_blackTargets : MethodName := ⟨RX0, "blackTargets", "(IIII)J"⟩
abbrev cX0_manTargets : ByteArray := prog_2_method_15_code
def yX0_manTargets : MethodName := ⟨RX0, "manTargets", "(IIII)J"⟩
abbrev cX0_glides : ByteArray := prog_2_method_16_code
def yX0_glides : MethodName := ⟨RX0, "glides", "(IIII)J"⟩
abbrev cX0_pawnTargets : ByteArray := prog_2_method_17_code
def yX0_pawnTargets : MethodName := ⟨RX0, "pawnTargets", "(III)J"⟩
abbrev cX0_pawnSources : ByteArray := prog_2_method_18_code
def yX0_pawnSources : MethodName := ⟨RX0, "pawnSources", "(III)J"⟩
abbrev cX0_blackSources : ByteArray := prog_2_method_19_code
def yX0_blackSources : MethodName := ⟨RX0, "blackSources", "(III)J"⟩
abbrev cX0_prepare : ByteArray := prog_2_method_20_code
def yX0_prepare : MethodName := ⟨RX0, "prepare", "(I)LEndgameHouse$Table;"⟩
abbrev cX0_pairsFor : ByteArray := prog_2_method_21_code
def yX0_pairsFor : MethodName := ⟨RX0, "pairsFor", "(I)LEndgameHouse$KingPairs;"⟩
def RX1 : String := "EndgameHouse$Choices"
def TX1 : u_T := fun k => match k with
  | 0 => ("EndgameHouse$Choices", "size", "I", false)
  | _ => ("EndgameHouse$Choices", "rows", "[I", true)
def tyX1 : Nat → FieldType := fun k => match k with
  | 0 => .int
  | _ => .array .int
abbrev wsX10 : List Cond := u_ws RX1 TX1 2
theorem nmX1 : ∀ a, a < 2 → ∀ b, b < 2 → a ≠ b → (TX1 a).2.1 ≠ (TX1 b).2.1 := by decide +kernel
theorem tyX1_ok : ∀ k, k < 2 → parseFieldDescriptor (TX1 k).2.2.1 = some (tyX1 k) := by decide +kernel
abbrev cX1_init : ByteArray := prog_3_method_1_code
def yX1_init : MethodName := ⟨RX1, "<init>", "()V"⟩
abbrev cX1_add : ByteArray := prog_3_method_2_code
def yX1_add : MethodName := ⟨RX1, "add", "(IIII)V"⟩
abbrev cX1_keep : ByteArray := prog_3_method_3_code
def yX1_keep : MethodName := ⟨RX1, "keep", "(I)V"⟩
abbrev cX1_tell : ByteArray := prog_3_method_4_code
def yX1_tell : MethodName := ⟨RX1, "tell", "(II)I"⟩
def RX2 : String := "EndgameHouse$KingPairs"
def TX2 : u_T := fun k => match k with
  | 0 => ("EndgameHouse$KingPairs", "size", "I", false)
  | 1 => ("EndgameHouse$KingPairs", "whiteKings", "[I", true)
  | 2 => ("EndgameHouse$KingPairs", "blackKings", "[I", true)
  | 3 => ("EndgameHouse$KingPairs", "squares", "I", true)
  | 4 => ("EndgameHouse$KingPairs", "images", "[I", true)
  | 5 => ("EndgameHouse$KingPairs", "numbers", "[I", true)
  | 6 => ("EndgameHouse$KingPairs", "firstWays", "[I", true)
  | _ => ("EndgameHouse$KingPairs", "lastWays", "[I", true)
def tyX2 : Nat → FieldType := fun k => match k with
  | 0 => .int
  | 1 => .array .int
  | 2 => .array .int
  | 3 => .int
  | 4 => .array .int
  | 5 => .array .int
  | 6 => .array .int
  | _ => .array .int
abbrev wsX20 : List Cond := u_ws RX2 TX2 8
theorem nmX2 : ∀ a, a < 8 → ∀ b, b < 8 → a ≠ b → (TX2 a).2.1 ≠ (TX2 b).2.1 := by decide +kernel
theorem tyX2_ok : ∀ k, k < 8 → parseFieldDescriptor (TX2 k).2.2.1 = some (tyX2 k) := by decide +kernel
abbrev cX2_init : ByteArray := prog_4_method_1_code
def yX2_init : MethodName := ⟨RX2, "<init>", "(LEndgameHouse$Board;I)V"⟩
abbrev cX2_enter : ByteArray := prog_4_method_2_code
def yX2_enter : MethodName := ⟨RX2, "enter", "(III)V"⟩
abbrev cX2_cellOf : ByteArray := prog_4_method_3_code
def yX2_cellOf : MethodName := ⟨RX2, "cellOf", "(IIII)I"⟩
def RX3 : String := "EndgameHouse$Maker"
def TX3 : u_T := fun k => match k with
  | 0 => ("EndgameHouse$Maker", "board", "LEndgameHouse$Board;", true)
  | 1 => ("EndgameHouse$Maker", "table", "LEndgameHouse$Table;", true)
  | 2 => ("EndgameHouse$Maker", "pairs", "LEndgameHouse$KingPairs;", true)
  | 3 => ("EndgameHouse$Maker", "cells", "[B", true)
  | 4 => ("EndgameHouse$Maker", "material", "I", true)
  | 5 => ("EndgameHouse$Maker", "queue", "[I", true)
  | 6 => ("EndgameHouse$Maker", "queued", "I", false)
  | 7 => ("EndgameHouse$Maker", "promotionHeads", "[I", true)
  | 8 => ("EndgameHouse$Maker", "promotionLinks", "[I", true)
  | 9 => ("EndgameHouse$Maker", "promotionCells", "[I", true)
  | _ => ("EndgameHouse$Maker", "promotions", "I", false)
def tyX3 : Nat → FieldType := fun k => match k with
  | 0 => .object "EndgameHouse$Board"
  | 1 => .object "EndgameHouse$Table"
  | 2 => .object "EndgameHouse$KingPairs"
  | 3 => .array .byte
  | 4 => .int
  | 5 => .array .int
  | 6 => .int
  | 7 => .array .int
  | 8 => .array .int
  | 9 => .array .int
  | _ => .int
abbrev wsX30 : List Cond := u_ws RX3 TX3 11
theorem nmX3 : ∀ a, a < 11 → ∀ b, b < 11 → a ≠ b → (TX3 a).2.1 ≠ (TX3 b).2.1 := by decide +kernel
theorem tyX3_ok : ∀ k, k < 11 → parseFieldDescriptor (TX3 k).2.2.1 = some (tyX3 k) := by decide +kernel
abbrev cX3_init : ByteArray := prog_5_method_1_code
def yX3_init : MethodName := ⟨RX3, "<init>", "(LEndgameHouse$Board;LEndgameHouse$Table;)V"⟩
abbrev cX3_work : ByteArray := prog_5_method_2_code
def yX3_work : MethodName := ⟨RX3, "work", "(LEndgameHouse$Table;LEndgameHouse$Table;)V"⟩
abbrev cX3_findMates : ByteArray := prog_5_method_3_code
def yX3_findMates : MethodName := ⟨RX3, "findMates", "()V"⟩
abbrev cX3_isMate : ByteArray := prog_5_method_4_code
def yX3_isMate : MethodName := ⟨RX3, "isMate", "(I)Z"⟩
abbrev cX3_findPromotions : ByteArray := prog_5_method_5_code
def yX3_findPromotions : MethodName := ⟨RX3, "findPromotions", "(LEndgameHouse$Table;LEndgameHouse$Table;)V"⟩
abbrev cX3_lesserDistance : ByteArray := prog_5_method_6_code
def yX3_lesserDistance : MethodName := ⟨RX3, "lesserDistance", "(II)I"⟩
abbrev cX3_chainPromotion : ByteArray := prog_5_method_7_code
def yX3_chainPromotion : MethodName := ⟨RX3, "chainPromotion", "(II)V"⟩
abbrev cX3_settlePromotions : ByteArray := prog_5_method_8_code
def yX3_settlePromotions : MethodName := ⟨RX3, "settlePromotions", "(I)V"⟩
abbrev cX3_settle : ByteArray := prog_5_method_9_code
def yX3_settle : MethodName := ⟨RX3, "settle", "(II)V"⟩
abbrev cX3_goBackFrom : ByteArray := prog_5_method_10_code
def yX3_goBackFrom : MethodName := ⟨RX3, "goBackFrom", "(II)V"⟩
abbrev cX3_takeKingBack : ByteArray := prog_5_method_11_code
def yX3_takeKingBack : MethodName := ⟨RX3, "takeKingBack", "(IIII)V"⟩
abbrev cX3_takeManBack : ByteArray := prog_5_method_12_code
def yX3_takeManBack : MethodName := ⟨RX3, "takeManBack", "(IIII)V"⟩
abbrev cX3_takeBlackBack : ByteArray := prog_5_method_13_code
def yX3_takeBlackBack : MethodName := ⟨RX3, "takeBlackBack", "(IIII)V"⟩
abbrev cX3_isLost : ByteArray := prog_5_method_14_code
def yX3_isLost : MethodName := ⟨RX3, "isLost", "(III)Z"⟩
def RX4 : String := "EndgameHouse$Place"
def TX4 : u_T := fun k => match k with
  | 0 => ("EndgameHouse$Place", "material", "I", false)
  | 1 => ("EndgameHouse$Place", "white", "I", false)
  | 2 => ("EndgameHouse$Place", "black", "I", false)
  | 3 => ("EndgameHouse$Place", "man", "I", false)
  | _ => ("EndgameHouse$Place", "turn", "I", false)
def tyX4 : Nat → FieldType := fun k => match k with
  | 0 => .int
  | 1 => .int
  | 2 => .int
  | 3 => .int
  | _ => .int
abbrev wsX40 : List Cond := u_ws RX4 TX4 5
theorem nmX4 : ∀ a, a < 5 → ∀ b, b < 5 → a ≠ b → (TX4 a).2.1 ≠ (TX4 b).2.1 := by decide +kernel
theorem tyX4_ok : ∀ k, k < 5 → parseFieldDescriptor (TX4 k).2.2.1 = some (tyX4 k) := by decide +kernel
abbrev cX4_init : ByteArray := prog_6_method_1_code
def yX4_init : MethodName := ⟨RX4, "<init>", "()V"⟩
abbrev cX4_set : ByteArray := prog_6_method_2_code
def yX4_set : MethodName := ⟨RX4, "set", "(IIIII)V"⟩
abbrev cX4_play : ByteArray := prog_6_method_3_code
def yX4_play : MethodName := ⟨RX4, "play", "(LEndgameHouse$Choices;)V"⟩
def RX5 : String := "EndgameHouse$Table"
def TX5 : u_T := fun k => match k with
  | 0 => ("EndgameHouse$Table", "material", "I", true)
  | 1 => ("EndgameHouse$Table", "cells", "[B", true)
  | 2 => ("EndgameHouse$Table", "pairs", "LEndgameHouse$KingPairs;", true)
  | 3 => ("EndgameHouse$Table", "drawn", "[I", true)
  | 4 => ("EndgameHouse$Table", "all", "[I", true)
  | 5 => ("EndgameHouse$Table", "farthest", "[I", true)
  | 6 => ("EndgameHouse$Table", "firstFarthest", "[I", true)
  | 7 => ("EndgameHouse$Table", "betterToWait", "I", false)
  | 8 => ("EndgameHouse$Table", "board", "LEndgameHouse$Board;", true)
  | 9 => ("EndgameHouse$Table", "before", "[I", true)
  | _ => ("EndgameHouse$Table", "tally", "[I", true)
def tyX5 : Nat → FieldType := fun k => match k with
  | 0 => .int
  | 1 => .array .byte
  | 2 => .object "EndgameHouse$KingPairs"
  | 3 => .array .int
  | 4 => .array .int
  | 5 => .array .int
  | 6 => .array .int
  | 7 => .int
  | 8 => .object "EndgameHouse$Board"
  | 9 => .array .int
  | _ => .array .int
abbrev wsX50 : List Cond := u_ws RX5 TX5 11
theorem nmX5 : ∀ a, a < 11 → ∀ b, b < 11 → a ≠ b → (TX5 a).2.1 ≠ (TX5 b).2.1 := by decide +kernel
theorem tyX5_ok : ∀ k, k < 11 → parseFieldDescriptor (TX5 k).2.2.1 = some (tyX5 k) := by decide +kernel
abbrev cX5_init : ByteArray := prog_7_method_1_code
def yX5_init : MethodName := ⟨RX5, "<init>", "(LEndgameHouse$Board;ILEndgameHouse$KingPairs;)V"⟩
abbrev cX5_lay : ByteArray := prog_7_method_2_code
def yX5_lay : MethodName := ⟨RX5, "lay", "(I)I"⟩
abbrev cX5_cellAt : ByteArray := prog_7_method_3_code
def yX5_cellAt : MethodName := ⟨RX5, "cellAt", "(III)I"⟩
abbrev cX5_pairOf : ByteArray := prog_7_method_4_code
def yX5_pairOf : MethodName := ⟨RX5, "pairOf", "(I)I"⟩
abbrev cX5_manOf : ByteArray := prog_7_method_5_code
def yX5_manOf : MethodName := ⟨RX5, "manOf", "(I)I"⟩
abbrev cX5_turnOf : ByteArray := prog_7_method_6_code
def yX5_turnOf : MethodName := ⟨RX5, "turnOf", "(I)I"⟩
abbrev cX5_sumUp : ByteArray := prog_7_method_7_code
def yX5_sumUp : MethodName := ⟨RX5, "sumUp", "()V"⟩
abbrev cX5_sumUpCell : ByteArray := prog_7_method_8_code
def yX5_sumUpCell : MethodName := ⟨RX5, "sumUpCell", "(II)V"⟩
abbrev cX5_size : ByteArray := prog_7_method_9_code
def yX5_size : MethodName := ⟨RX5, "size", "()I"⟩
abbrev cX5_howManyAt : ByteArray := prog_7_method_10_code
def yX5_howManyAt : MethodName := ⟨RX5, "howManyAt", "(II)I"⟩
abbrev cX5_look : ByteArray := prog_7_method_11_code
def yX5_look : MethodName := ⟨RX5, "look", "(IIII)I"⟩
abbrev cX5_numberOf : ByteArray := prog_7_method_12_code
def yX5_numberOf : MethodName := ⟨RX5, "numberOf", "(IIII)I"⟩
abbrev cX5_cellNumbered : ByteArray := prog_7_method_13_code
def yX5_cellNumbered : MethodName := ⟨RX5, "cellNumbered", "(I)I"⟩
abbrev cX5_pairWith : ByteArray := prog_7_method_14_code
def yX5_pairWith : MethodName := ⟨RX5, "pairWith", "(I)I"⟩
abbrev cX5_tell : ByteArray := prog_7_method_15_code
def yX5_tell : MethodName := ⟨RX5, "tell", "(II)I"⟩
def RX6 : String := "EndgameHouse"
def TX6 : u_T := fun k => match k with
  | 0 => ("EndgameHouse", "boards", "[LEndgameHouse$Board;", true)
  | 1 => ("EndgameHouse", "board", "LEndgameHouse$Board;", false)
  | 2 => ("EndgameHouse", "made", "[Z", true)
  | 3 => ("EndgameHouse", "hand", "LEndgameHouse$Choices;", true)
  | 4 => ("EndgameHouse", "handPlace", "LEndgameHouse$Place;", true)
  | 5 => ("EndgameHouse", "lineChoices", "LEndgameHouse$Choices;", true)
  | 6 => ("EndgameHouse", "linePlace", "LEndgameHouse$Place;", true)
  | 7 => ("EndgameHouse", "plies", "[I", true)
  | 8 => ("EndgameHouse", "linePositions", "I", false)
  | 9 => ("EndgameHouse", "tape", "[I", true)
  | 10 => ("EndgameHouse", "tapeBytes", "I", false)
  | 11 => ("EndgameHouse", "shown", "[I", true)
  | _ => ("EndgameHouse", "shownBytes", "I", false)
def tyX6 : Nat → FieldType := fun k => match k with
  | 0 => .array (.object "EndgameHouse$Board")
  | 1 => .object "EndgameHouse$Board"
  | 2 => .array .boolean
  | 3 => .object "EndgameHouse$Choices"
  | 4 => .object "EndgameHouse$Place"
  | 5 => .object "EndgameHouse$Choices"
  | 6 => .object "EndgameHouse$Place"
  | 7 => .array .int
  | 8 => .int
  | 9 => .array .int
  | 10 => .int
  | 11 => .array .int
  | _ => .int
abbrev wsX60 : List Cond := u_ws RX6 TX6 13
theorem nmX6 : ∀ a, a < 13 → ∀ b, b < 13 → a ≠ b → (TX6 a).2.1 ≠ (TX6 b).2.1 := by decide +kernel
theorem tyX6_ok : ∀ k, k < 13 → parseFieldDescriptor (TX6 k).2.2.1 = some (tyX6 k) := by decide +kernel
abbrev cX6_init : ByteArray := prog_1_method_1_code
def yX6_init : MethodName := ⟨RX6, "<init>", "()V"⟩
abbrev cX6_board : ByteArray := prog_1_method_2_code
def yX6_board : MethodName := ⟨RX6, "board", "(I)Z"⟩
abbrev cX6_make : ByteArray := prog_1_method_3_code
def yX6_make : MethodName := ⟨RX6, "make", "(I)I"⟩
abbrev cX6_isLegal : ByteArray := prog_1_method_4_code
def yX6_isLegal : MethodName := ⟨RX6, "isLegal", "(IIIII)Z"⟩
abbrev cX6_moves : ByteArray := prog_1_method_5_code
def yX6_moves : MethodName := ⟨RX6, "moves", "(IIIII)I"⟩
abbrev cX6_distance : ByteArray := prog_1_method_6_code
def yX6_distance : MethodName := ⟨RX6, "distance", "(IIIII)I"⟩
abbrev cX6_best : ByteArray := prog_1_method_7_code
def yX6_best : MethodName := ⟨RX6, "best", "(IIIII)I"⟩
abbrev cX6_move : ByteArray := prog_1_method_8_code
def yX6_move : MethodName := ⟨RX6, "move", "(II)I"⟩
abbrev cX6_line : ByteArray := prog_1_method_9_code
def yX6_line : MethodName := ⟨RX6, "line", "(IIIII)I"⟩
abbrev cX6_ply : ByteArray := prog_1_method_10_code
def yX6_ply : MethodName := ⟨RX6, "ply", "(II)I"⟩
abbrev cX6_number : ByteArray := prog_1_method_11_code
def yX6_number : MethodName := ⟨RX6, "number", "(IIIII)I"⟩
abbrev cX6_position : ByteArray := prog_1_method_12_code
def yX6_position : MethodName := ⟨RX6, "position", "(III)I"⟩
abbrev cX6_count : ByteArray := prog_1_method_13_code
def yX6_count : MethodName := ⟨RX6, "count", "(III)I"⟩
abbrev cX6_longest : ByteArray := prog_1_method_14_code
def yX6_longest : MethodName := ⟨RX6, "longest", "(III)I"⟩
abbrev cX6_feed : ByteArray := prog_1_method_15_code
def yX6_feed : MethodName := ⟨RX6, "feed", "(IIIII)I"⟩
abbrev cX6_read : ByteArray := prog_1_method_16_code
def yX6_read : MethodName := ⟨RX6, "read", "(I)I"⟩
abbrev cX6_show : ByteArray := prog_1_method_17_code
def yX6_show : MethodName := ⟨RX6, "show", "(IIIII)I"⟩
abbrev cX6_out : ByteArray := prog_1_method_18_code
def yX6_out : MethodName := ⟨RX6, "out", "(I)I"⟩
abbrev cX6_demandMade : ByteArray := prog_1_method_19_code
def yX6_demandMade : MethodName := ⟨RX6, "demandMade", "(I)LEndgameHouse$Table;"⟩
abbrev cX6_demandTurn : ByteArray := prog_1_method_20_code
def yX6_demandTurn : MethodName := ⟨RX6, "demandTurn", "(II)LEndgameHouse$Table;"⟩
abbrev cX6_demandTable : ByteArray := prog_1_method_21_code
def yX6_demandTable : MethodName := ⟨RX6, "demandTable", "(IIIII)LEndgameHouse$Table;"⟩
abbrev cX6_goalAfter : ByteArray := prog_1_method_22_code
def yX6_goalAfter : MethodName := ⟨RX6, "goalAfter", "(I)I"⟩
abbrev cX6_gather : ByteArray := prog_1_method_23_code
def yX6_gather : MethodName := ⟨RX6, "gather", "(LEndgameHouse$Choices;LEndgameHouse$Place;)V"⟩
abbrev cX6_gatherBlack : ByteArray := prog_1_method_24_code
def yX6_gatherBlack : MethodName := ⟨RX6, "gatherBlack", "(LEndgameHouse$Choices;LEndgameHouse$Place;)V"⟩
abbrev cX6_gatherKing : ByteArray := prog_1_method_25_code
def yX6_gatherKing : MethodName := ⟨RX6, "gatherKing", "(LEndgameHouse$Choices;LEndgameHouse$Place;)V"⟩
abbrev cX6_gatherMan : ByteArray := prog_1_method_26_code
def yX6_gatherMan : MethodName := ⟨RX6, "gatherMan", "(LEndgameHouse$Choices;LEndgameHouse$Place;)V"⟩
abbrev cX6_gatherPromotions : ByteArray := prog_1_method_27_code
def yX6_gatherPromotions : MethodName := ⟨RX6, "gatherPromotions", "(LEndgameHouse$Choices;LEndgameHouse$Place;I)V"⟩
abbrev cX6_lookUp : ByteArray := prog_1_method_28_code
def yX6_lookUp : MethodName := ⟨RX6, "lookUp", "(IIIII)I"⟩
abbrev cX6_addToLine : ByteArray := prog_1_method_29_code
def yX6_addToLine : MethodName := ⟨RX6, "addToLine", "(LEndgameHouse$Place;)V"⟩
abbrev cX6_addToTape : ByteArray := prog_1_method_30_code
def yX6_addToTape : MethodName := ⟨RX6, "addToTape", "(I)V"⟩
abbrev cX6_keyOfText : ByteArray := prog_1_method_31_code
def yX6_keyOfText : MethodName := ⟨RX6, "keyOfText", "()I"⟩
abbrev cX6_letterAt : ByteArray := prog_1_method_32_code
def yX6_letterAt : MethodName := ⟨RX6, "letterAt", "([CI)I"⟩
abbrev cX6_squareOfText : ByteArray := prog_1_method_33_code
def yX6_squareOfText : MethodName := ⟨RX6, "squareOfText", "(I)I"⟩
abbrev cX6_showSquare : ByteArray := prog_1_method_34_code
def yX6_showSquare : MethodName := ⟨RX6, "showSquare", "(ICI)V"⟩
abbrev cX6_bit : ByteArray := prog_1_method_35_code
def yX6_bit : MethodName := ⟨RX6, "bit", "(I)J"⟩
abbrev cX6_has : ByteArray := prog_1_method_36_code
def yX6_has : MethodName := ⟨RX6, "has", "(JI)Z"⟩
abbrev cX6_lowest : ByteArray := prog_1_method_37_code
def yX6_lowest : MethodName := ⟨RX6, "lowest", "(J)I"⟩
def RX7 : String := "EndgameHouseModel"
def TX7 : u_T := fun k => match k with
  | 0 => ("EndgameHouseModel", "code", "I", false)
  | 1 => ("EndgameHouseModel", "n", "I", false)
  | 2 => ("EndgameHouseModel", "s", "I", false)
  | 3 => ("EndgameHouseModel", "made", "[Z", true)
  | 4 => ("EndgameHouseModel", "table", "[B", true)
  | 5 => ("EndgameHouseModel", "canon", "[I", true)
  | 6 => ("EndgameHouseModel", "before", "[I", true)
  | 7 => ("EndgameHouseModel", "many", "[I", true)
  | 8 => ("EndgameHouseModel", "tape", "[B", true)
  | 9 => ("EndgameHouseModel", "size", "I", false)
  | 10 => ("EndgameHouseModel", "out", "[B", true)
  | 11 => ("EndgameHouseModel", "outs", "I", false)
  | 12 => ("EndgameHouseModel", "moves", "I", false)
  | 13 => ("EndgameHouseModel", "from", "[I", true)
  | 14 => ("EndgameHouseModel", "to", "[I", true)
  | 15 => ("EndgameHouseModel", "becomes", "[I", true)
  | 16 => ("EndgameHouseModel", "newMaterial", "[I", true)
  | 17 => ("EndgameHouseModel", "newWhite", "[I", true)
  | 18 => ("EndgameHouseModel", "newBlack", "[I", true)
  | 19 => ("EndgameHouseModel", "newMan", "[I", true)
  | 20 => ("EndgameHouseModel", "fresh", "Z", false)
  | 21 => ("EndgameHouseModel", "bests", "I", false)
  | 22 => ("EndgameHouseModel", "bestFrom", "[I", true)
  | 23 => ("EndgameHouseModel", "bestTo", "[I", true)
  | 24 => ("EndgameHouseModel", "bestBecomes", "[I", true)
  | 25 => ("EndgameHouseModel", "bestAfter", "[I", true)
  | 26 => ("EndgameHouseModel", "lineLong", "I", false)
  | _ => ("EndgameHouseModel", "linePart", "[I", true)
def tyX7 : Nat → FieldType := fun k => match k with
  | 0 => .int
  | 1 => .int
  | 2 => .int
  | 3 => .array .boolean
  | 4 => .array .byte
  | 5 => .array .int
  | 6 => .array .int
  | 7 => .array .int
  | 8 => .array .byte
  | 9 => .int
  | 10 => .array .byte
  | 11 => .int
  | 12 => .int
  | 13 => .array .int
  | 14 => .array .int
  | 15 => .array .int
  | 16 => .array .int
  | 17 => .array .int
  | 18 => .array .int
  | 19 => .array .int
  | 20 => .boolean
  | 21 => .int
  | 22 => .array .int
  | 23 => .array .int
  | 24 => .array .int
  | 25 => .array .int
  | 26 => .int
  | _ => .array .int
abbrev wsX70 : List Cond := u_ws RX7 TX7 28
theorem nmX7 : ∀ a, a < 28 → ∀ b, b < 28 → a ≠ b → (TX7 a).2.1 ≠ (TX7 b).2.1 := by decide +kernel
theorem tyX7_ok : ∀ k, k < 28 → parseFieldDescriptor (TX7 k).2.2.1 = some (tyX7 k) := by decide +kernel
abbrev cX7_init : ByteArray := prog_9_method_1_code
def yX7_init : MethodName := ⟨RX7, "<init>", "()V"⟩
abbrev cX7_thrown : ByteArray := prog_9_method_2_code
def yX7_thrown : MethodName := ⟨RX7, "thrown", "()I"⟩
abbrev cX7_in : ByteArray := prog_9_method_3_code
def yX7_in : MethodName := ⟨RX7, "in", "(III)Z"⟩
abbrev cX7_isNext : ByteArray := prog_9_method_4_code
def yX7_isNext : MethodName := ⟨RX7, "isNext", "(II)Z"⟩
abbrev cX7_off : ByteArray := prog_9_method_5_code
def yX7_off : MethodName := ⟨RX7, "off", "(III)I"⟩
abbrev cX7_sign : ByteArray := prog_9_method_6_code
def yX7_sign : MethodName := ⟨RX7, "sign", "(I)I"⟩
abbrev cX7_attacks : ByteArray := prog_9_method_7_code
def yX7_attacks : MethodName := ⟨RX7, "attacks", "(IIIII)Z"⟩
abbrev cX7_legal : ByteArray := prog_9_method_8_code
def yX7_legal : MethodName := ⟨RX7, "legal", "(IIIII)Z"⟩
abbrev cX7_areNumbers : ByteArray := prog_9_method_9_code
def yX7_areNumbers : MethodName := ⟨RX7, "areNumbers", "(IIIII)Z"⟩
abbrev cX7_key : ByteArray := prog_9_method_10_code
def yX7_key : MethodName := ⟨RX7, "key", "(IIII)I"⟩
abbrev cX7_add : ByteArray := prog_9_method_11_code
def yX7_add : MethodName := ⟨RX7, "add", "(IIIIIII)V"⟩
abbrev cX7_find : ByteArray := prog_9_method_12_code
def yX7_find : MethodName := ⟨RX7, "find", "(IIIII)V"⟩
abbrev cX7_pawnMoves : ByteArray := prog_9_method_13_code
def yX7_pawnMoves : MethodName := ⟨RX7, "pawnMoves", "(III)V"⟩
abbrev cX7_distanceOf : ByteArray := prog_9_method_14_code
def yX7_distanceOf : MethodName := ⟨RX7, "distanceOf", "(IIIII)I"⟩
abbrev cX7_after : ByteArray := prog_9_method_15_code
def yX7_after : MethodName := ⟨RX7, "after", "(II)I"⟩
abbrev cX7_board : ByteArray := prog_9_method_16_code
def yX7_board : MethodName := ⟨RX7, "board", "(I)Z"⟩
abbrev cX7_make : ByteArray := prog_9_method_17_code
def yX7_make : MethodName := ⟨RX7, "make", "(I)I"⟩
abbrev cX7_decide : ByteArray := prog_9_method_18_code
def yX7_decide : MethodName := ⟨RX7, "decide", "(IIIIII)V"⟩
abbrev cX7_isOpen : ByteArray := prog_9_method_19_code
def yX7_isOpen : MethodName := ⟨RX7, "isOpen", "(IIIII)Z"⟩
abbrev cX7_layers : ByteArray := prog_9_method_20_code
def yX7_layers : MethodName := ⟨RX7, "layers", "(I)V"⟩
abbrev cX7_layer : ByteArray := prog_9_method_21_code
def yX7_layer : MethodName := ⟨RX7, "layer", "(II)V"⟩
abbrev cX7_backWhite : ByteArray := prog_9_method_22_code
def yX7_backWhite : MethodName := ⟨RX7, "backWhite", "(IIIII)V"⟩
abbrev cX7_backBlack : ByteArray := prog_9_method_23_code
def yX7_backBlack : MethodName := ⟨RX7, "backBlack", "(IIIII)V"⟩
abbrev cX7_allDecided : ByteArray := prog_9_method_24_code
def yX7_allDecided : MethodName := ⟨RX7, "allDecided", "(IIII)Z"⟩
abbrev cX7_promotions : ByteArray := prog_9_method_25_code
def yX7_promotions : MethodName := ⟨RX7, "promotions", "(I)V"⟩
abbrev cX7_image : ByteArray := prog_9_method_26_code
def yX7_image : MethodName := ⟨RX7, "image", "(II)I"⟩
abbrev cX7_least : ByteArray := prog_9_method_27_code
def yX7_least : MethodName := ⟨RX7, "least", "(IIIII)I"⟩
abbrev cX7_numbers : ByteArray := prog_9_method_28_code
def yX7_numbers : MethodName := ⟨RX7, "numbers", "(I)V"⟩
abbrev cX7_isCanon : ByteArray := prog_9_method_29_code
def yX7_isCanon : MethodName := ⟨RX7, "isCanon", "(II)Z"⟩
abbrev cX7_numberOf : ByteArray := prog_9_method_30_code
def yX7_numberOf : MethodName := ⟨RX7, "numberOf", "(II)I"⟩
abbrev cX7_isMade : ByteArray := prog_9_method_31_code
def yX7_isMade : MethodName := ⟨RX7, "isMade", "(I)Z"⟩
abbrev cX7_may : ByteArray := prog_9_method_32_code
def yX7_may : MethodName := ⟨RX7, "may", "(Z)Z"⟩
abbrev cX7_mayAsk : ByteArray := prog_9_method_33_code
def yX7_mayAsk : MethodName := ⟨RX7, "mayAsk", "(IIIII)Z"⟩
abbrev cX7_isLegal : ByteArray := prog_9_method_34_code
def yX7_isLegal : MethodName := ⟨RX7, "isLegal", "(IIIII)Z"⟩
abbrev cX7_moves : ByteArray := prog_9_method_35_code
def yX7_moves : MethodName := ⟨RX7, "moves", "(IIIII)I"⟩
abbrev cX7_distance : ByteArray := prog_9_method_36_code
def yX7_distance : MethodName := ⟨RX7, "distance", "(IIIII)I"⟩
abbrev cX7_isBest : ByteArray := prog_9_method_37_code
def yX7_isBest : MethodName := ⟨RX7, "isBest", "(III)Z"⟩
abbrev cX7_best : ByteArray := prog_9_method_38_code
def yX7_best : MethodName := ⟨RX7, "best", "(IIIII)I"⟩
abbrev cX7_move : ByteArray := prog_9_method_39_code
def yX7_move : MethodName := ⟨RX7, "move", "(II)I"⟩
abbrev cX7_keep : ByteArray := prog_9_method_40_code
def yX7_keep : MethodName := ⟨RX7, "keep", "(IIIIII)V"⟩
abbrev cX7_line : ByteArray := prog_9_method_41_code
def yX7_line : MethodName := ⟨RX7, "line", "(IIIII)I"⟩
abbrev cX7_ply : ByteArray := prog_9_method_42_code
def yX7_ply : MethodName := ⟨RX7, "ply", "(II)I"⟩
abbrev cX7_number : ByteArray := prog_9_method_43_code
def yX7_number : MethodName := ⟨RX7, "number", "(IIIII)I"⟩
abbrev cX7_position : ByteArray := prog_9_method_44_code
def yX7_position : MethodName := ⟨RX7, "position", "(III)I"⟩
abbrev cX7_isSqueezed : ByteArray := prog_9_method_45_code
def yX7_isSqueezed : MethodName := ⟨RX7, "isSqueezed", "(II)Z"⟩
abbrev cX7_count : ByteArray := prog_9_method_46_code
def yX7_count : MethodName := ⟨RX7, "count", "(III)I"⟩
abbrev cX7_longest : ByteArray := prog_9_method_47_code
def yX7_longest : MethodName := ⟨RX7, "longest", "(III)I"⟩
abbrev cX7_feed : ByteArray := prog_9_method_48_code
def yX7_feed : MethodName := ⟨RX7, "feed", "(IIIII)I"⟩
abbrev cX7_four : ByteArray := prog_9_method_49_code
def yX7_four : MethodName := ⟨RX7, "four", "(I)V"⟩
abbrev cX7_squareAt : ByteArray := prog_9_method_50_code
def yX7_squareAt : MethodName := ⟨RX7, "squareAt", "(I)I"⟩
abbrev cX7_read : ByteArray := prog_9_method_51_code
def yX7_read : MethodName := ⟨RX7, "read", "(I)I"⟩
abbrev cX7_tell : ByteArray := prog_9_method_52_code
def yX7_tell : MethodName := ⟨RX7, "tell", "(I)V"⟩
abbrev cX7_tellSquare : ByteArray := prog_9_method_53_code
def yX7_tellSquare : MethodName := ⟨RX7, "tellSquare", "(I)V"⟩
abbrev cX7_show : ByteArray := prog_9_method_54_code
def yX7_show : MethodName := ⟨RX7, "show", "(IIIII)I"⟩
abbrev cX7_out : ByteArray := prog_9_method_55_code
def yX7_out : MethodName := ⟨RX7, "out", "(I)I"⟩
def RJ13 : String := "java/lang/Long"
def TJ13 : u_T := fun k => match k with
  | _ => ("", "", "", false)
def tyJ13 : Nat → FieldType := fun k => match k with
  | _ => .int
abbrev wsJ130 : List Cond := u_ws RJ13 TJ13 0
theorem nmJ13 : ∀ a, a < 0 → ∀ b, b < 0 → a ≠ b → (TJ13 a).2.1 ≠ (TJ13 b).2.1 := by decide +kernel
theorem tyJ13_ok : ∀ k, k < 0 → parseFieldDescriptor (TJ13 k).2.2.1 = some (tyJ13 k) := by decide +kernel
abbrev cJ13_bitCount_95d88 : ByteArray := prog_11_method_50_code
def yJ13_bitCount_95d88 : MethodName := ⟨RJ13, "bitCount", "(J)I"⟩
def RJ9 : String := "java/lang/Math"
def TJ9 : u_T := fun k => match k with
  | _ => ("", "", "", false)
def tyJ9 : Nat → FieldType := fun k => match k with
  | _ => .int
abbrev wsJ90 : List Cond := u_ws RJ9 TJ9 0
theorem nmJ9 : ∀ a, a < 0 → ∀ b, b < 0 → a ≠ b → (TJ9 a).2.1 ≠ (TJ9 b).2.1 := by decide +kernel
theorem tyJ9_ok : ∀ k, k < 0 → parseFieldDescriptor (TJ9 k).2.2.1 = some (tyJ9 k) := by decide +kernel
abbrev cJ9_max_7cf53 : ByteArray := prog_12_method_65_code
def yJ9_max_7cf53 : MethodName := ⟨RJ9, "max", "(II)I"⟩
abbrev cJ9_min_7cf53 : ByteArray := prog_12_method_69_code
def yJ9_min_7cf53 : MethodName := ⟨RJ9, "min", "(II)I"⟩
def RJ0 : String := "java/lang/String"
def TJ0 : u_T := fun k => match k with
  | _ => ("", "", "", false)
def tyJ0 : Nat → FieldType := fun k => match k with
  | _ => .int
abbrev wsJ00 : List Cond := u_ws RJ0 TJ0 0
theorem nmJ0 : ∀ a, a < 0 → ∀ b, b < 0 → a ≠ b → (TJ0 a).2.1 ≠ (TJ0 b).2.1 := by decide +kernel
theorem tyJ0_ok : ∀ k, k < 0 → parseFieldDescriptor (TJ0 k).2.2.1 = some (tyJ0 k) := by decide +kernel
def RJ7 : String := "java/util/Arrays"
def TJ7 : u_T := fun k => match k with
  | _ => ("", "", "", false)
def tyJ7 : Nat → FieldType := fun k => match k with
  | _ => .int
abbrev wsJ70 : List Cond := u_ws RJ7 TJ7 0
theorem nmJ7 : ∀ a, a < 0 → ∀ b, b < 0 → a ≠ b → (TJ7 a).2.1 ≠ (TJ7 b).2.1 := by decide +kernel
theorem tyJ7_ok : ∀ k, k < 0 → parseFieldDescriptor (TJ7 k).2.2.1 = some (tyJ7 k) := by decide +kernel
abbrev cJ7_fill_53178 : ByteArray := prog_16_method_103_code
def yJ7_fill_53178 : MethodName := ⟨RJ7, "fill", "([II)V"⟩
abbrev cJ7_fill_031fb : ByteArray := prog_16_method_109_code
def yJ7_fill_031fb : MethodName := ⟨RJ7, "fill", "([BB)V"⟩
def RL : String := "EndgameHouseLaw"
abbrev cL_distance : ByteArray := method_3_code
def yL_distance : MethodName := ⟨RL, "distance", "(LEndgameHouse;IIIII[J)I"⟩
abbrev cL_best : ByteArray := method_4_code
def yL_best : MethodName := ⟨RL, "best", "(LEndgameHouse;IIIII[J)I"⟩
abbrev cL_line : ByteArray := method_5_code
def yL_line : MethodName := ⟨RL, "line", "(LEndgameHouse;IIIII[J)I"⟩
abbrev cL_number : ByteArray := method_6_code
def yL_number : MethodName := ⟨RL, "number", "(LEndgameHouse;IIIII[J)I"⟩
abbrev cL_position : ByteArray := method_7_code
def yL_position : MethodName := ⟨RL, "position", "(LEndgameHouse;III[J)I"⟩
abbrev cL_count : ByteArray := method_8_code
def yL_count : MethodName := ⟨RL, "count", "(LEndgameHouse;III[J)I"⟩
abbrev cL_longest : ByteArray := method_9_code
def yL_longest : MethodName := ⟨RL, "longest", "(LEndgameHouse;III[J)I"⟩
abbrev cL_law : ByteArray := code
def yL_law : MethodName := ⟨RL, "law", "([I)Z"⟩
abbrev vwCl : List vw_C := [(RX0, TX0, 11), (RX1, TX1, 2), (RX2, TX2, 8), (RX3, TX3, 11), (RX4, TX4, 5), (RX5, TX5, 11), (RX6, TX6, 13), (RX7, TX7, 28)]
theorem inX0 : ∀ w ∈ wsX00, w ∈ lw_tbl := by decide +kernel
theorem inX1 : ∀ w ∈ wsX10, w ∈ lw_tbl := by decide +kernel
theorem inX2 : ∀ w ∈ wsX20, w ∈ lw_tbl := by decide +kernel
theorem inX3 : ∀ w ∈ wsX30, w ∈ lw_tbl := by decide +kernel
theorem inX4 : ∀ w ∈ wsX40, w ∈ lw_tbl := by decide +kernel
theorem inX5 : ∀ w ∈ wsX50, w ∈ lw_tbl := by decide +kernel
theorem inX6 : ∀ w ∈ wsX60, w ∈ lw_tbl := by decide +kernel
theorem inX7 : ∀ w ∈ wsX70, w ∈ lw_tbl := by decide +kernel
end
section
theorem dX7_init_0 : decode cX7_init 0 = .ok (.aload_n 0, 1) := by decide +kernel
theorem dX7_init_1 : decode cX7_init 1 = .ok (.invokespecial 1, 3) := by decide +kernel
theorem dX7_init_4 : decode cX7_init 4 = .ok (.aload_n 0, 1) := by decide +kernel
theorem dX7_init_5 : decode cX7_init 5 = .ok (.bipush 8, 2) := by decide +kernel
theorem dX7_init_7 : decode cX7_init 7 = .ok (.putfield 7, 3) := by decide +kernel
theorem dX7_init_10 : decode cX7_init 10 = .ok (.aload_n 0, 1) := by decide +kernel
theorem dX7_init_11 : decode cX7_init 11 = .ok (.bipush 64, 2) := by decide +kernel
theorem dX7_init_13 : decode cX7_init 13 = .ok (.putfield 13, 3) := by decide +kernel
theorem dX7_init_16 : decode cX7_init 16 = .ok (.aload_n 0, 1) := by decide +kernel
theorem dX7_init_17 : decode cX7_init 17 = .ok (.iconst 3, 1) := by decide +kernel
theorem dX7_init_18 : decode cX7_init 18 = .ok (.newarray .boolean, 2) := by decide +kernel
theorem dX7_init_20 : decode cX7_init 20 = .ok (.putfield 16, 3) := by decide +kernel
theorem dX7_init_23 : decode cX7_init 23 = .ok (.aload_n 0, 1) := by decide +kernel
theorem dX7_init_24 : decode cX7_init 24 = .ok (.ldc 20, 2) := by decide +kernel
theorem dX7_init_26 : decode cX7_init 26 = .ok (.newarray .byte, 2) := by decide +kernel
theorem dX7_init_28 : decode cX7_init 28 = .ok (.putfield 21, 3) := by decide +kernel
theorem dX7_init_31 : decode cX7_init 31 = .ok (.aload_n 0, 1) := by decide +kernel
theorem dX7_init_32 : decode cX7_init 32 = .ok (.ldc 25, 2) := by decide +kernel
theorem dX7_init_34 : decode cX7_init 34 = .ok (.newarray .int, 2) := by decide +kernel
theorem dX7_init_36 : decode cX7_init 36 = .ok (.putfield 26, 3) := by decide +kernel
theorem dX7_init_39 : decode cX7_init 39 = .ok (.aload_n 0, 1) := by decide +kernel
theorem dX7_init_40 : decode cX7_init 40 = .ok (.ldc 25, 2) := by decide +kernel
theorem dX7_init_42 : decode cX7_init 42 = .ok (.newarray .int, 2) := by decide +kernel
theorem dX7_init_44 : decode cX7_init 44 = .ok (.putfield 30, 3) := by decide +kernel
theorem dX7_init_47 : decode cX7_init 47 = .ok (.aload_n 0, 1) := by decide +kernel
theorem dX7_init_48 : decode cX7_init 48 = .ok (.iconst 3, 1) := by decide +kernel
theorem dX7_init_49 : decode cX7_init 49 = .ok (.newarray .int, 2) := by decide +kernel
theorem dX7_init_51 : decode cX7_init 51 = .ok (.putfield 33, 3) := by decide +kernel
theorem dX7_init_54 : decode cX7_init 54 = .ok (.aload_n 0, 1) := by decide +kernel
theorem dX7_init_55 : decode cX7_init 55 = .ok (.bipush 40, 2) := by decide +kernel
theorem dX7_init_57 : decode cX7_init 57 = .ok (.newarray .byte, 2) := by decide +kernel
theorem dX7_init_59 : decode cX7_init 59 = .ok (.putfield 36, 3) := by decide +kernel
theorem dX7_init_62 : decode cX7_init 62 = .ok (.aload_n 0, 1) := by decide +kernel
theorem dX7_init_63 : decode cX7_init 63 = .ok (.bipush 20, 2) := by decide +kernel
theorem dX7_init_65 : decode cX7_init 65 = .ok (.newarray .byte, 2) := by decide +kernel
theorem dX7_init_67 : decode cX7_init 67 = .ok (.putfield 39, 3) := by decide +kernel
theorem dX7_init_70 : decode cX7_init 70 = .ok (.aload_n 0, 1) := by decide +kernel
theorem dX7_init_71 : decode cX7_init 71 = .ok (.bipush 48, 2) := by decide +kernel
theorem dX7_init_73 : decode cX7_init 73 = .ok (.newarray .int, 2) := by decide +kernel
theorem dX7_init_75 : decode cX7_init 75 = .ok (.putfield 42, 3) := by decide +kernel
theorem dX7_init_78 : decode cX7_init 78 = .ok (.aload_n 0, 1) := by decide +kernel
theorem dX7_init_79 : decode cX7_init 79 = .ok (.bipush 48, 2) := by decide +kernel
theorem dX7_init_81 : decode cX7_init 81 = .ok (.newarray .int, 2) := by decide +kernel
theorem dX7_init_83 : decode cX7_init 83 = .ok (.putfield 45, 3) := by decide +kernel
theorem dX7_init_86 : decode cX7_init 86 = .ok (.aload_n 0, 1) := by decide +kernel
theorem dX7_init_87 : decode cX7_init 87 = .ok (.bipush 48, 2) := by decide +kernel
theorem dX7_init_89 : decode cX7_init 89 = .ok (.newarray .int, 2) := by decide +kernel
theorem dX7_init_91 : decode cX7_init 91 = .ok (.putfield 48, 3) := by decide +kernel
theorem dX7_init_94 : decode cX7_init 94 = .ok (.aload_n 0, 1) := by decide +kernel
theorem dX7_init_95 : decode cX7_init 95 = .ok (.bipush 48, 2) := by decide +kernel
theorem dX7_init_97 : decode cX7_init 97 = .ok (.newarray .int, 2) := by decide +kernel
theorem dX7_init_99 : decode cX7_init 99 = .ok (.putfield 51, 3) := by decide +kernel
theorem dX7_init_102 : decode cX7_init 102 = .ok (.aload_n 0, 1) := by decide +kernel
theorem dX7_init_103 : decode cX7_init 103 = .ok (.bipush 48, 2) := by decide +kernel
theorem dX7_init_105 : decode cX7_init 105 = .ok (.newarray .int, 2) := by decide +kernel
theorem dX7_init_107 : decode cX7_init 107 = .ok (.putfield 54, 3) := by decide +kernel
theorem dX7_init_110 : decode cX7_init 110 = .ok (.aload_n 0, 1) := by decide +kernel
theorem dX7_init_111 : decode cX7_init 111 = .ok (.bipush 48, 2) := by decide +kernel
theorem dX7_init_113 : decode cX7_init 113 = .ok (.newarray .int, 2) := by decide +kernel
theorem dX7_init_115 : decode cX7_init 115 = .ok (.putfield 57, 3) := by decide +kernel
theorem dX7_init_118 : decode cX7_init 118 = .ok (.aload_n 0, 1) := by decide +kernel
theorem dX7_init_119 : decode cX7_init 119 = .ok (.bipush 48, 2) := by decide +kernel
theorem dX7_init_121 : decode cX7_init 121 = .ok (.newarray .int, 2) := by decide +kernel
theorem dX7_init_123 : decode cX7_init 123 = .ok (.putfield 60, 3) := by decide +kernel
theorem dX7_init_126 : decode cX7_init 126 = .ok (.aload_n 0, 1) := by decide +kernel
theorem dX7_init_127 : decode cX7_init 127 = .ok (.bipush 48, 2) := by decide +kernel
theorem dX7_init_129 : decode cX7_init 129 = .ok (.newarray .int, 2) := by decide +kernel
theorem dX7_init_131 : decode cX7_init 131 = .ok (.putfield 63, 3) := by decide +kernel
theorem dX7_init_134 : decode cX7_init 134 = .ok (.aload_n 0, 1) := by decide +kernel
theorem dX7_init_135 : decode cX7_init 135 = .ok (.bipush 48, 2) := by decide +kernel
theorem dX7_init_137 : decode cX7_init 137 = .ok (.newarray .int, 2) := by decide +kernel
theorem dX7_init_139 : decode cX7_init 139 = .ok (.putfield 66, 3) := by decide +kernel
theorem dX7_init_142 : decode cX7_init 142 = .ok (.aload_n 0, 1) := by decide +kernel
theorem dX7_init_143 : decode cX7_init 143 = .ok (.bipush 48, 2) := by decide +kernel
theorem dX7_init_145 : decode cX7_init 145 = .ok (.newarray .int, 2) := by decide +kernel
theorem dX7_init_147 : decode cX7_init 147 = .ok (.putfield 69, 3) := by decide +kernel
theorem dX7_init_150 : decode cX7_init 150 = .ok (.aload_n 0, 1) := by decide +kernel
theorem dX7_init_151 : decode cX7_init 151 = .ok (.bipush 48, 2) := by decide +kernel
theorem dX7_init_153 : decode cX7_init 153 = .ok (.newarray .int, 2) := by decide +kernel
theorem dX7_init_155 : decode cX7_init 155 = .ok (.putfield 72, 3) := by decide +kernel
theorem dX7_init_158 : decode cX7_init 158 = .ok (.aload_n 0, 1) := by decide +kernel
theorem dX7_init_159 : decode cX7_init 159 = .ok (.iconst (-1), 1) := by decide +kernel
theorem dX7_init_160 : decode cX7_init 160 = .ok (.putfield 75, 3) := by decide +kernel
theorem dX7_init_163 : decode cX7_init 163 = .ok (.aload_n 0, 1) := by decide +kernel
theorem dX7_init_164 : decode cX7_init 164 = .ok (.sipush 640, 3) := by decide +kernel
theorem dX7_init_167 : decode cX7_init 167 = .ok (.newarray .int, 2) := by decide +kernel
theorem dX7_init_169 : decode cX7_init 169 = .ok (.putfield 78, 3) := by decide +kernel
theorem dX7_init_172 : decode cX7_init 172 = .ok (.return_, 1) := by decide +kernel
theorem dX7_thrown_0 : decode cX7_thrown 0 = .ok (.aload_n 0, 1) := by decide +kernel
theorem dX7_thrown_1 : decode cX7_thrown 1 = .ok (.getfield 81, 3) := by decide +kernel
theorem dX7_thrown_4 : decode cX7_thrown 4 = .ok (.ireturn, 1) := by decide +kernel
theorem dX7_in_0 : decode cX7_in 0 = .ok (.iload_n 0, 1) := by decide +kernel
theorem dX7_in_1 : decode cX7_in 1 = .ok (.iload_n 1, 1) := by decide +kernel
theorem dX7_in_2 : decode cX7_in 2 = .ok (.if_icmp .lt 12, 3) := by decide +kernel
theorem dX7_in_5 : decode cX7_in 5 = .ok (.iload_n 0, 1) := by decide +kernel
theorem dX7_in_6 : decode cX7_in 6 = .ok (.iload_n 2, 1) := by decide +kernel
theorem dX7_in_7 : decode cX7_in 7 = .ok (.if_icmp .gt 7, 3) := by decide +kernel
theorem dX7_in_10 : decode cX7_in 10 = .ok (.iconst 1, 1) := by decide +kernel
theorem dX7_in_11 : decode cX7_in 11 = .ok (.goto 4, 3) := by decide +kernel
theorem dX7_in_14 : decode cX7_in 14 = .ok (.iconst 0, 1) := by decide +kernel
theorem dX7_in_15 : decode cX7_in 15 = .ok (.ireturn, 1) := by decide +kernel
theorem dX7_isNext_0 : decode cX7_isNext 0 = .ok (.iload_n 1, 1) := by decide +kernel
theorem dX7_isNext_1 : decode cX7_isNext 1 = .ok (.aload_n 0, 1) := by decide +kernel
theorem dX7_isNext_2 : decode cX7_isNext 2 = .ok (.getfield 7, 3) := by decide +kernel
theorem dX7_isNext_5 : decode cX7_isNext 5 = .ok (.irem, 1) := by decide +kernel
theorem dX7_isNext_6 : decode cX7_isNext 6 = .ok (.iload_n 2, 1) := by decide +kernel
theorem dX7_isNext_7 : decode cX7_isNext 7 = .ok (.aload_n 0, 1) := by decide +kernel
theorem dX7_isNext_8 : decode cX7_isNext 8 = .ok (.getfield 7, 3) := by decide +kernel
theorem dX7_isNext_11 : decode cX7_isNext 11 = .ok (.irem, 1) := by decide +kernel
theorem dX7_isNext_12 : decode cX7_isNext 12 = .ok (.isub, 1) := by decide +kernel
theorem dX7_isNext_13 : decode cX7_isNext 13 = .ok (.istore_n 3, 1) := by decide +kernel
theorem dX7_isNext_14 : decode cX7_isNext 14 = .ok (.iload_n 1, 1) := by decide +kernel
theorem dX7_isNext_15 : decode cX7_isNext 15 = .ok (.aload_n 0, 1) := by decide +kernel
theorem dX7_isNext_16 : decode cX7_isNext 16 = .ok (.getfield 7, 3) := by decide +kernel
theorem dX7_isNext_19 : decode cX7_isNext 19 = .ok (.idiv, 1) := by decide +kernel
theorem dX7_isNext_20 : decode cX7_isNext 20 = .ok (.iload_n 2, 1) := by decide +kernel
theorem dX7_isNext_21 : decode cX7_isNext 21 = .ok (.aload_n 0, 1) := by decide +kernel
theorem dX7_isNext_22 : decode cX7_isNext 22 = .ok (.getfield 7, 3) := by decide +kernel
theorem dX7_isNext_25 : decode cX7_isNext 25 = .ok (.idiv, 1) := by decide +kernel
theorem dX7_isNext_26 : decode cX7_isNext 26 = .ok (.isub, 1) := by decide +kernel
theorem dX7_isNext_27 : decode cX7_isNext 27 = .ok (.istore 4, 2) := by decide +kernel
theorem dX7_isNext_29 : decode cX7_isNext 29 = .ok (.iload_n 1, 1) := by decide +kernel
theorem dX7_isNext_30 : decode cX7_isNext 30 = .ok (.iload_n 2, 1) := by decide +kernel
theorem dX7_isNext_31 : decode cX7_isNext 31 = .ok (.if_icmp .eq 26, 3) := by decide +kernel
theorem dX7_isNext_34 : decode cX7_isNext 34 = .ok (.iload_n 3, 1) := by decide +kernel
theorem dX7_isNext_35 : decode cX7_isNext 35 = .ok (.iconst (-1), 1) := by decide +kernel
theorem dX7_isNext_36 : decode cX7_isNext 36 = .ok (.iconst 1, 1) := by decide +kernel
theorem dX7_isNext_37 : decode cX7_isNext 37 = .ok (.invokestatic 84, 3) := by decide +kernel
theorem dX7_isNext_40 : decode cX7_isNext 40 = .ok (.ifCond .eq 17, 3) := by decide +kernel
theorem dX7_isNext_43 : decode cX7_isNext 43 = .ok (.iload 4, 2) := by decide +kernel
theorem dX7_isNext_45 : decode cX7_isNext 45 = .ok (.iconst (-1), 1) := by decide +kernel
theorem dX7_isNext_46 : decode cX7_isNext 46 = .ok (.iconst 1, 1) := by decide +kernel
theorem dX7_isNext_47 : decode cX7_isNext 47 = .ok (.invokestatic 84, 3) := by decide +kernel
theorem dX7_isNext_50 : decode cX7_isNext 50 = .ok (.ifCond .eq 7, 3) := by decide +kernel
theorem dX7_isNext_53 : decode cX7_isNext 53 = .ok (.iconst 1, 1) := by decide +kernel
theorem dX7_isNext_54 : decode cX7_isNext 54 = .ok (.goto 4, 3) := by decide +kernel
theorem dX7_isNext_57 : decode cX7_isNext 57 = .ok (.iconst 0, 1) := by decide +kernel
theorem dX7_isNext_58 : decode cX7_isNext 58 = .ok (.ireturn, 1) := by decide +kernel
theorem dX7_off_0 : decode cX7_off 0 = .ok (.iload_n 1, 1) := by decide +kernel
theorem dX7_off_1 : decode cX7_off 1 = .ok (.aload_n 0, 1) := by decide +kernel
theorem dX7_off_2 : decode cX7_off 2 = .ok (.getfield 7, 3) := by decide +kernel
theorem dX7_off_5 : decode cX7_off 5 = .ok (.irem, 1) := by decide +kernel
theorem dX7_off_6 : decode cX7_off 6 = .ok (.iload_n 2, 1) := by decide +kernel
theorem dX7_off_7 : decode cX7_off 7 = .ok (.iadd, 1) := by decide +kernel
theorem dX7_off_8 : decode cX7_off 8 = .ok (.istore 4, 2) := by decide +kernel
theorem dX7_off_10 : decode cX7_off 10 = .ok (.iload_n 1, 1) := by decide +kernel
theorem dX7_off_11 : decode cX7_off 11 = .ok (.aload_n 0, 1) := by decide +kernel
theorem dX7_off_12 : decode cX7_off 12 = .ok (.getfield 7, 3) := by decide +kernel
theorem dX7_off_15 : decode cX7_off 15 = .ok (.idiv, 1) := by decide +kernel
theorem dX7_off_16 : decode cX7_off 16 = .ok (.iload_n 3, 1) := by decide +kernel
theorem dX7_off_17 : decode cX7_off 17 = .ok (.iadd, 1) := by decide +kernel
theorem dX7_off_18 : decode cX7_off 18 = .ok (.istore 5, 2) := by decide +kernel
theorem dX7_off_20 : decode cX7_off 20 = .ok (.iload 4, 2) := by decide +kernel
theorem dX7_off_22 : decode cX7_off 22 = .ok (.iconst 0, 1) := by decide +kernel
theorem dX7_off_23 : decode cX7_off 23 = .ok (.aload_n 0, 1) := by decide +kernel
theorem dX7_off_24 : decode cX7_off 24 = .ok (.getfield 7, 3) := by decide +kernel
theorem dX7_off_27 : decode cX7_off 27 = .ok (.iconst 1, 1) := by decide +kernel
theorem dX7_off_28 : decode cX7_off 28 = .ok (.isub, 1) := by decide +kernel
theorem dX7_off_29 : decode cX7_off 29 = .ok (.invokestatic 84, 3) := by decide +kernel
theorem dX7_off_32 : decode cX7_off 32 = .ok (.ifCond .eq 31, 3) := by decide +kernel
theorem dX7_off_35 : decode cX7_off 35 = .ok (.iload 5, 2) := by decide +kernel
theorem dX7_off_37 : decode cX7_off 37 = .ok (.iconst 0, 1) := by decide +kernel
theorem dX7_off_38 : decode cX7_off 38 = .ok (.aload_n 0, 1) := by decide +kernel
theorem dX7_off_39 : decode cX7_off 39 = .ok (.getfield 7, 3) := by decide +kernel
theorem dX7_off_42 : decode cX7_off 42 = .ok (.iconst 1, 1) := by decide +kernel
theorem dX7_off_43 : decode cX7_off 43 = .ok (.isub, 1) := by decide +kernel
theorem dX7_off_44 : decode cX7_off 44 = .ok (.invokestatic 84, 3) := by decide +kernel
theorem dX7_off_47 : decode cX7_off 47 = .ok (.ifCond .eq 16, 3) := by decide +kernel
theorem dX7_off_50 : decode cX7_off 50 = .ok (.aload_n 0, 1) := by decide +kernel
theorem dX7_off_51 : decode cX7_off 51 = .ok (.getfield 7, 3) := by decide +kernel
theorem dX7_off_54 : decode cX7_off 54 = .ok (.iload 5, 2) := by decide +kernel
theorem dX7_off_56 : decode cX7_off 56 = .ok (.imul, 1) := by decide +kernel
theorem dX7_off_57 : decode cX7_off 57 = .ok (.iload 4, 2) := by decide +kernel
theorem dX7_off_59 : decode cX7_off 59 = .ok (.iadd, 1) := by decide +kernel
theorem dX7_off_60 : decode cX7_off 60 = .ok (.goto 4, 3) := by decide +kernel
theorem dX7_off_63 : decode cX7_off 63 = .ok (.iconst (-1), 1) := by decide +kernel
theorem dX7_off_64 : decode cX7_off 64 = .ok (.ireturn, 1) := by decide +kernel
theorem dX7_sign_0 : decode cX7_sign 0 = .ok (.iload_n 0, 1) := by decide +kernel
theorem dX7_sign_1 : decode cX7_sign 1 = .ok (.ifCond .le 7, 3) := by decide +kernel
theorem dX7_sign_4 : decode cX7_sign 4 = .ok (.iconst 1, 1) := by decide +kernel
theorem dX7_sign_5 : decode cX7_sign 5 = .ok (.goto 12, 3) := by decide +kernel
theorem dX7_sign_8 : decode cX7_sign 8 = .ok (.iload_n 0, 1) := by decide +kernel
theorem dX7_sign_9 : decode cX7_sign 9 = .ok (.ifCond .ge 7, 3) := by decide +kernel
theorem dX7_sign_12 : decode cX7_sign 12 = .ok (.iconst (-1), 1) := by decide +kernel
theorem dX7_sign_13 : decode cX7_sign 13 = .ok (.goto 4, 3) := by decide +kernel
theorem dX7_sign_16 : decode cX7_sign 16 = .ok (.iconst 0, 1) := by decide +kernel
theorem dX7_sign_17 : decode cX7_sign 17 = .ok (.ireturn, 1) := by decide +kernel
theorem dX7_attacks_0 : decode cX7_attacks 0 = .ok (.iload 5, 2) := by decide +kernel
theorem dX7_attacks_2 : decode cX7_attacks 2 = .ok (.aload_n 0, 1) := by decide +kernel
theorem dX7_attacks_3 : decode cX7_attacks 3 = .ok (.getfield 7, 3) := by decide +kernel
theorem dX7_attacks_6 : decode cX7_attacks 6 = .ok (.irem, 1) := by decide +kernel
theorem dX7_attacks_7 : decode cX7_attacks 7 = .ok (.iload 4, 2) := by decide +kernel
theorem dX7_attacks_9 : decode cX7_attacks 9 = .ok (.aload_n 0, 1) := by decide +kernel
theorem dX7_attacks_10 : decode cX7_attacks 10 = .ok (.getfield 7, 3) := by decide +kernel
theorem dX7_attacks_13 : decode cX7_attacks 13 = .ok (.irem, 1) := by decide +kernel
theorem dX7_attacks_14 : decode cX7_attacks 14 = .ok (.isub, 1) := by decide +kernel
theorem dX7_attacks_15 : decode cX7_attacks 15 = .ok (.istore 6, 2) := by decide +kernel
theorem dX7_attacks_17 : decode cX7_attacks 17 = .ok (.iload 5, 2) := by decide +kernel
theorem dX7_attacks_19 : decode cX7_attacks 19 = .ok (.aload_n 0, 1) := by decide +kernel
theorem dX7_attacks_20 : decode cX7_attacks 20 = .ok (.getfield 7, 3) := by decide +kernel
theorem dX7_attacks_23 : decode cX7_attacks 23 = .ok (.idiv, 1) := by decide +kernel
theorem dX7_attacks_24 : decode cX7_attacks 24 = .ok (.iload 4, 2) := by decide +kernel
theorem dX7_attacks_26 : decode cX7_attacks 26 = .ok (.aload_n 0, 1) := by decide +kernel
theorem dX7_attacks_27 : decode cX7_attacks 27 = .ok (.getfield 7, 3) := by decide +kernel
theorem dX7_attacks_30 : decode cX7_attacks 30 = .ok (.idiv, 1) := by decide +kernel
theorem dX7_attacks_31 : decode cX7_attacks 31 = .ok (.isub, 1) := by decide +kernel
theorem dX7_attacks_32 : decode cX7_attacks 32 = .ok (.istore 7, 2) := by decide +kernel
theorem dX7_attacks_34 : decode cX7_attacks 34 = .ok (.iload_n 1, 1) := by decide +kernel
theorem dX7_attacks_35 : decode cX7_attacks 35 = .ok (.iconst 2, 1) := by decide +kernel
theorem dX7_attacks_36 : decode cX7_attacks 36 = .ok (.if_icmp .ne 27, 3) := by decide +kernel
theorem dX7_attacks_39 : decode cX7_attacks 39 = .ok (.iload 7, 2) := by decide +kernel
theorem dX7_attacks_41 : decode cX7_attacks 41 = .ok (.iconst 1, 1) := by decide +kernel
theorem dX7_attacks_42 : decode cX7_attacks 42 = .ok (.if_icmp .ne 19, 3) := by decide +kernel
theorem dX7_attacks_45 : decode cX7_attacks 45 = .ok (.iload 6, 2) := by decide +kernel
theorem dX7_attacks_47 : decode cX7_attacks 47 = .ok (.iconst 1, 1) := by decide +kernel
theorem dX7_attacks_48 : decode cX7_attacks 48 = .ok (.if_icmp .eq 9, 3) := by decide +kernel
theorem dX7_attacks_51 : decode cX7_attacks 51 = .ok (.iload 6, 2) := by decide +kernel
theorem dX7_attacks_53 : decode cX7_attacks 53 = .ok (.iconst (-1), 1) := by decide +kernel
theorem dX7_attacks_54 : decode cX7_attacks 54 = .ok (.if_icmp .ne 7, 3) := by decide +kernel
theorem dX7_attacks_57 : decode cX7_attacks 57 = .ok (.iconst 1, 1) := by decide +kernel
theorem dX7_attacks_58 : decode cX7_attacks 58 = .ok (.goto 4, 3) := by decide +kernel
theorem dX7_attacks_61 : decode cX7_attacks 61 = .ok (.iconst 0, 1) := by decide +kernel
theorem dX7_attacks_62 : decode cX7_attacks 62 = .ok (.ireturn, 1) := by decide +kernel
theorem dX7_attacks_63 : decode cX7_attacks 63 = .ok (.iload 5, 2) := by decide +kernel
theorem dX7_attacks_65 : decode cX7_attacks 65 = .ok (.iload 4, 2) := by decide +kernel
theorem dX7_attacks_67 : decode cX7_attacks 67 = .ok (.if_icmp .eq 33, 3) := by decide +kernel
theorem dX7_attacks_70 : decode cX7_attacks 70 = .ok (.iload 6, 2) := by decide +kernel
theorem dX7_attacks_72 : decode cX7_attacks 72 = .ok (.ifCond .eq 30, 3) := by decide +kernel
theorem dX7_attacks_75 : decode cX7_attacks 75 = .ok (.iload 7, 2) := by decide +kernel
theorem dX7_attacks_77 : decode cX7_attacks 77 = .ok (.ifCond .eq 25, 3) := by decide +kernel
theorem dX7_attacks_80 : decode cX7_attacks 80 = .ok (.iload_n 1, 1) := by decide +kernel
theorem dX7_attacks_81 : decode cX7_attacks 81 = .ok (.iconst 1, 1) := by decide +kernel
theorem dX7_attacks_82 : decode cX7_attacks 82 = .ok (.if_icmp .eq 18, 3) := by decide +kernel
theorem dX7_attacks_85 : decode cX7_attacks 85 = .ok (.iload 6, 2) := by decide +kernel
theorem dX7_attacks_87 : decode cX7_attacks 87 = .ok (.iload 7, 2) := by decide +kernel
theorem dX7_attacks_89 : decode cX7_attacks 89 = .ok (.if_icmp .eq 13, 3) := by decide +kernel
theorem dX7_attacks_92 : decode cX7_attacks 92 = .ok (.iload 6, 2) := by decide +kernel
theorem dX7_attacks_94 : decode cX7_attacks 94 = .ok (.iload 7, 2) := by decide +kernel
theorem dX7_attacks_96 : decode cX7_attacks 96 = .ok (.ineg, 1) := by decide +kernel
theorem dX7_attacks_97 : decode cX7_attacks 97 = .ok (.if_icmp .eq 5, 3) := by decide +kernel
theorem dX7_attacks_100 : decode cX7_attacks 100 = .ok (.iconst 0, 1) := by decide +kernel
theorem dX7_attacks_101 : decode cX7_attacks 101 = .ok (.ireturn, 1) := by decide +kernel
theorem dX7_attacks_102 : decode cX7_attacks 102 = .ok (.aload_n 0, 1) := by decide +kernel
theorem dX7_attacks_103 : decode cX7_attacks 103 = .ok (.iload 4, 2) := by decide +kernel
theorem dX7_attacks_105 : decode cX7_attacks 105 = .ok (.iload 6, 2) := by decide +kernel
theorem dX7_attacks_107 : decode cX7_attacks 107 = .ok (.invokestatic 88, 3) := by decide +kernel
theorem dX7_attacks_110 : decode cX7_attacks 110 = .ok (.iload 7, 2) := by decide +kernel
theorem dX7_attacks_112 : decode cX7_attacks 112 = .ok (.invokestatic 88, 3) := by decide +kernel
theorem dX7_attacks_115 : decode cX7_attacks 115 = .ok (.invokevirtual 92, 3) := by decide +kernel
theorem dX7_attacks_118 : decode cX7_attacks 118 = .ok (.istore 8, 2) := by decide +kernel
theorem dX7_attacks_120 : decode cX7_attacks 120 = .ok (.iload 8, 2) := by decide +kernel
theorem dX7_attacks_122 : decode cX7_attacks 122 = .ok (.iload 5, 2) := by decide +kernel
theorem dX7_attacks_124 : decode cX7_attacks 124 = .ok (.if_icmp .eq 38, 3) := by decide +kernel
theorem dX7_attacks_127 : decode cX7_attacks 127 = .ok (.iload 8, 2) := by decide +kernel
theorem dX7_attacks_129 : decode cX7_attacks 129 = .ok (.iload_n 2, 1) := by decide +kernel
theorem dX7_attacks_130 : decode cX7_attacks 130 = .ok (.if_icmp .eq 9, 3) := by decide +kernel
theorem dX7_attacks_133 : decode cX7_attacks 133 = .ok (.iload 8, 2) := by decide +kernel
theorem dX7_attacks_135 : decode cX7_attacks 135 = .ok (.iload_n 3, 1) := by decide +kernel
theorem dX7_attacks_136 : decode cX7_attacks 136 = .ok (.if_icmp .ne 5, 3) := by decide +kernel
theorem dX7_attacks_139 : decode cX7_attacks 139 = .ok (.iconst 0, 1) := by decide +kernel
theorem dX7_attacks_140 : decode cX7_attacks 140 = .ok (.ireturn, 1) := by decide +kernel
theorem dX7_attacks_141 : decode cX7_attacks 141 = .ok (.aload_n 0, 1) := by decide +kernel
theorem dX7_attacks_142 : decode cX7_attacks 142 = .ok (.iload 8, 2) := by decide +kernel
theorem dX7_attacks_144 : decode cX7_attacks 144 = .ok (.iload 6, 2) := by decide +kernel
theorem dX7_attacks_146 : decode cX7_attacks 146 = .ok (.invokestatic 88, 3) := by decide +kernel
theorem dX7_attacks_149 : decode cX7_attacks 149 = .ok (.iload 7, 2) := by decide +kernel
theorem dX7_attacks_151 : decode cX7_attacks 151 = .ok (.invokestatic 88, 3) := by decide +kernel
theorem dX7_attacks_154 : decode cX7_attacks 154 = .ok (.invokevirtual 92, 3) := by decide +kernel
theorem dX7_attacks_157 : decode cX7_attacks 157 = .ok (.istore 8, 2) := by decide +kernel
theorem dX7_attacks_159 : decode cX7_attacks 159 = .ok (.goto (-39), 3) := by decide +kernel
theorem dX7_attacks_162 : decode cX7_attacks 162 = .ok (.iconst 1, 1) := by decide +kernel
theorem dX7_attacks_163 : decode cX7_attacks 163 = .ok (.ireturn, 1) := by decide +kernel
theorem dX7_legal_0 : decode cX7_legal 0 = .ok (.iload_n 2, 1) := by decide +kernel
theorem dX7_legal_1 : decode cX7_legal 1 = .ok (.iload_n 3, 1) := by decide +kernel
theorem dX7_legal_2 : decode cX7_legal 2 = .ok (.if_icmp .eq 24, 3) := by decide +kernel
theorem dX7_legal_5 : decode cX7_legal 5 = .ok (.iload_n 2, 1) := by decide +kernel
theorem dX7_legal_6 : decode cX7_legal 6 = .ok (.iload 4, 2) := by decide +kernel
theorem dX7_legal_8 : decode cX7_legal 8 = .ok (.if_icmp .eq 18, 3) := by decide +kernel
theorem dX7_legal_11 : decode cX7_legal 11 = .ok (.iload_n 3, 1) := by decide +kernel
theorem dX7_legal_12 : decode cX7_legal 12 = .ok (.iload 4, 2) := by decide +kernel
theorem dX7_legal_14 : decode cX7_legal 14 = .ok (.if_icmp .eq 12, 3) := by decide +kernel
theorem dX7_legal_17 : decode cX7_legal 17 = .ok (.aload_n 0, 1) := by decide +kernel
theorem dX7_legal_18 : decode cX7_legal 18 = .ok (.iload_n 2, 1) := by decide +kernel
theorem dX7_legal_19 : decode cX7_legal 19 = .ok (.iload_n 3, 1) := by decide +kernel
theorem dX7_legal_20 : decode cX7_legal 20 = .ok (.invokevirtual 96, 3) := by decide +kernel
theorem dX7_legal_23 : decode cX7_legal 23 = .ok (.ifCond .eq 5, 3) := by decide +kernel
theorem dX7_legal_26 : decode cX7_legal 26 = .ok (.iconst 0, 1) := by decide +kernel
theorem dX7_legal_27 : decode cX7_legal 27 = .ok (.ireturn, 1) := by decide +kernel
theorem dX7_legal_28 : decode cX7_legal 28 = .ok (.iload_n 1, 1) := by decide +kernel
theorem dX7_legal_29 : decode cX7_legal 29 = .ok (.iconst 2, 1) := by decide +kernel
theorem dX7_legal_30 : decode cX7_legal 30 = .ok (.if_icmp .ne 25, 3) := by decide +kernel
theorem dX7_legal_33 : decode cX7_legal 33 = .ok (.iload 4, 2) := by decide +kernel
theorem dX7_legal_35 : decode cX7_legal 35 = .ok (.aload_n 0, 1) := by decide +kernel
theorem dX7_legal_36 : decode cX7_legal 36 = .ok (.getfield 7, 3) := by decide +kernel
theorem dX7_legal_39 : decode cX7_legal 39 = .ok (.idiv, 1) := by decide +kernel
theorem dX7_legal_40 : decode cX7_legal 40 = .ok (.iconst 1, 1) := by decide +kernel
theorem dX7_legal_41 : decode cX7_legal 41 = .ok (.aload_n 0, 1) := by decide +kernel
theorem dX7_legal_42 : decode cX7_legal 42 = .ok (.getfield 7, 3) := by decide +kernel
theorem dX7_legal_45 : decode cX7_legal 45 = .ok (.iconst 2, 1) := by decide +kernel
theorem dX7_legal_46 : decode cX7_legal 46 = .ok (.isub, 1) := by decide +kernel
theorem dX7_legal_47 : decode cX7_legal 47 = .ok (.invokestatic 84, 3) := by decide +kernel
theorem dX7_legal_50 : decode cX7_legal 50 = .ok (.ifCond .ne 5, 3) := by decide +kernel
theorem dX7_legal_53 : decode cX7_legal 53 = .ok (.iconst 0, 1) := by decide +kernel
theorem dX7_legal_54 : decode cX7_legal 54 = .ok (.ireturn, 1) := by decide +kernel
theorem dX7_legal_55 : decode cX7_legal 55 = .ok (.iload 5, 2) := by decide +kernel
theorem dX7_legal_57 : decode cX7_legal 57 = .ok (.iconst 1, 1) := by decide +kernel
theorem dX7_legal_58 : decode cX7_legal 58 = .ok (.if_icmp .eq 16, 3) := by decide +kernel
theorem dX7_legal_61 : decode cX7_legal 61 = .ok (.aload_n 0, 1) := by decide +kernel
theorem dX7_legal_62 : decode cX7_legal 62 = .ok (.iload_n 1, 1) := by decide +kernel
theorem dX7_legal_63 : decode cX7_legal 63 = .ok (.iload_n 2, 1) := by decide +kernel
theorem dX7_legal_64 : decode cX7_legal 64 = .ok (.iload_n 3, 1) := by decide +kernel
theorem dX7_legal_65 : decode cX7_legal 65 = .ok (.iload 4, 2) := by decide +kernel
theorem dX7_legal_67 : decode cX7_legal 67 = .ok (.iload_n 3, 1) := by decide +kernel
theorem dX7_legal_68 : decode cX7_legal 68 = .ok (.invokevirtual 100, 3) := by decide +kernel
theorem dX7_legal_71 : decode cX7_legal 71 = .ok (.ifCond .ne 7, 3) := by decide +kernel
theorem dX7_legal_74 : decode cX7_legal 74 = .ok (.iconst 1, 1) := by decide +kernel
theorem dX7_legal_75 : decode cX7_legal 75 = .ok (.goto 4, 3) := by decide +kernel
theorem dX7_legal_78 : decode cX7_legal 78 = .ok (.iconst 0, 1) := by decide +kernel
theorem dX7_legal_79 : decode cX7_legal 79 = .ok (.ireturn, 1) := by decide +kernel
theorem dX7_areNumbers_0 : decode cX7_areNumbers 0 = .ok (.iload_n 1, 1) := by decide +kernel
theorem dX7_areNumbers_1 : decode cX7_areNumbers 1 = .ok (.iconst 0, 1) := by decide +kernel
theorem dX7_areNumbers_2 : decode cX7_areNumbers 2 = .ok (.iconst 2, 1) := by decide +kernel
theorem dX7_areNumbers_3 : decode cX7_areNumbers 3 = .ok (.invokestatic 84, 3) := by decide +kernel
theorem dX7_areNumbers_6 : decode cX7_areNumbers 6 = .ok (.ifCond .eq 60, 3) := by decide +kernel
theorem dX7_areNumbers_9 : decode cX7_areNumbers 9 = .ok (.iload_n 2, 1) := by decide +kernel
theorem dX7_areNumbers_10 : decode cX7_areNumbers 10 = .ok (.iconst 0, 1) := by decide +kernel
theorem dX7_areNumbers_11 : decode cX7_areNumbers 11 = .ok (.aload_n 0, 1) := by decide +kernel
theorem dX7_areNumbers_12 : decode cX7_areNumbers 12 = .ok (.getfield 13, 3) := by decide +kernel
theorem dX7_areNumbers_15 : decode cX7_areNumbers 15 = .ok (.iconst 1, 1) := by decide +kernel
theorem dX7_areNumbers_16 : decode cX7_areNumbers 16 = .ok (.isub, 1) := by decide +kernel
theorem dX7_areNumbers_17 : decode cX7_areNumbers 17 = .ok (.invokestatic 84, 3) := by decide +kernel
theorem dX7_areNumbers_20 : decode cX7_areNumbers 20 = .ok (.ifCond .eq 46, 3) := by decide +kernel
theorem dX7_areNumbers_23 : decode cX7_areNumbers 23 = .ok (.iload_n 3, 1) := by decide +kernel
theorem dX7_areNumbers_24 : decode cX7_areNumbers 24 = .ok (.iconst 0, 1) := by decide +kernel
theorem dX7_areNumbers_25 : decode cX7_areNumbers 25 = .ok (.aload_n 0, 1) := by decide +kernel
theorem dX7_areNumbers_26 : decode cX7_areNumbers 26 = .ok (.getfield 13, 3) := by decide +kernel
theorem dX7_areNumbers_29 : decode cX7_areNumbers 29 = .ok (.iconst 1, 1) := by decide +kernel
theorem dX7_areNumbers_30 : decode cX7_areNumbers 30 = .ok (.isub, 1) := by decide +kernel
theorem dX7_areNumbers_31 : decode cX7_areNumbers 31 = .ok (.invokestatic 84, 3) := by decide +kernel
theorem dX7_areNumbers_34 : decode cX7_areNumbers 34 = .ok (.ifCond .eq 32, 3) := by decide +kernel
theorem dX7_areNumbers_37 : decode cX7_areNumbers 37 = .ok (.iload 4, 2) := by decide +kernel
theorem dX7_areNumbers_39 : decode cX7_areNumbers 39 = .ok (.iconst 0, 1) := by decide +kernel
theorem dX7_areNumbers_40 : decode cX7_areNumbers 40 = .ok (.aload_n 0, 1) := by decide +kernel
theorem dX7_areNumbers_41 : decode cX7_areNumbers 41 = .ok (.getfield 13, 3) := by decide +kernel
theorem dX7_areNumbers_44 : decode cX7_areNumbers 44 = .ok (.iconst 1, 1) := by decide +kernel
theorem dX7_areNumbers_45 : decode cX7_areNumbers 45 = .ok (.isub, 1) := by decide +kernel
theorem dX7_areNumbers_46 : decode cX7_areNumbers 46 = .ok (.invokestatic 84, 3) := by decide +kernel
theorem dX7_areNumbers_49 : decode cX7_areNumbers 49 = .ok (.ifCond .eq 17, 3) := by decide +kernel
theorem dX7_areNumbers_52 : decode cX7_areNumbers 52 = .ok (.iload 5, 2) := by decide +kernel
theorem dX7_areNumbers_54 : decode cX7_areNumbers 54 = .ok (.iconst 0, 1) := by decide +kernel
theorem dX7_areNumbers_55 : decode cX7_areNumbers 55 = .ok (.iconst 1, 1) := by decide +kernel
theorem dX7_areNumbers_56 : decode cX7_areNumbers 56 = .ok (.invokestatic 84, 3) := by decide +kernel
theorem dX7_areNumbers_59 : decode cX7_areNumbers 59 = .ok (.ifCond .eq 7, 3) := by decide +kernel
theorem dX7_areNumbers_62 : decode cX7_areNumbers 62 = .ok (.iconst 1, 1) := by decide +kernel
theorem dX7_areNumbers_63 : decode cX7_areNumbers 63 = .ok (.goto 4, 3) := by decide +kernel
theorem dX7_areNumbers_66 : decode cX7_areNumbers 66 = .ok (.iconst 0, 1) := by decide +kernel
theorem dX7_areNumbers_67 : decode cX7_areNumbers 67 = .ok (.ireturn, 1) := by decide +kernel
theorem dX7_key_0 : decode cX7_key 0 = .ok (.iconst 2, 1) := by decide +kernel
theorem dX7_key_1 : decode cX7_key 1 = .ok (.iload_n 1, 1) := by decide +kernel
theorem dX7_key_2 : decode cX7_key 2 = .ok (.aload_n 0, 1) := by decide +kernel
theorem dX7_key_3 : decode cX7_key 3 = .ok (.getfield 13, 3) := by decide +kernel
theorem dX7_key_6 : decode cX7_key 6 = .ok (.imul, 1) := by decide +kernel
theorem dX7_key_7 : decode cX7_key 7 = .ok (.iload_n 2, 1) := by decide +kernel
theorem dX7_key_8 : decode cX7_key 8 = .ok (.iadd, 1) := by decide +kernel
theorem dX7_key_9 : decode cX7_key 9 = .ok (.aload_n 0, 1) := by decide +kernel
theorem dX7_key_10 : decode cX7_key 10 = .ok (.getfield 13, 3) := by decide +kernel
theorem dX7_key_13 : decode cX7_key 13 = .ok (.imul, 1) := by decide +kernel
theorem dX7_key_14 : decode cX7_key 14 = .ok (.iload_n 3, 1) := by decide +kernel
theorem dX7_key_15 : decode cX7_key 15 = .ok (.iadd, 1) := by decide +kernel
theorem dX7_key_16 : decode cX7_key 16 = .ok (.imul, 1) := by decide +kernel
theorem dX7_key_17 : decode cX7_key 17 = .ok (.iload 4, 2) := by decide +kernel
theorem dX7_key_19 : decode cX7_key 19 = .ok (.iadd, 1) := by decide +kernel
theorem dX7_key_20 : decode cX7_key 20 = .ok (.ireturn, 1) := by decide +kernel
theorem dX7_add_0 : decode cX7_add 0 = .ok (.aload_n 0, 1) := by decide +kernel
theorem dX7_add_1 : decode cX7_add 1 = .ok (.getfield 104, 3) := by decide +kernel
theorem dX7_add_4 : decode cX7_add 4 = .ok (.istore 8, 2) := by decide +kernel
theorem dX7_add_6 : decode cX7_add 6 = .ok (.iload 8, 2) := by decide +kernel
theorem dX7_add_8 : decode cX7_add 8 = .ok (.ifCond .le 160, 3) := by decide +kernel
theorem dX7_add_11 : decode cX7_add 11 = .ok (.aload_n 0, 1) := by decide +kernel
theorem dX7_add_12 : decode cX7_add 12 = .ok (.getfield 42, 3) := by decide +kernel
theorem dX7_add_15 : decode cX7_add 15 = .ok (.iload 8, 2) := by decide +kernel
theorem dX7_add_17 : decode cX7_add 17 = .ok (.iconst 1, 1) := by decide +kernel
theorem dX7_add_18 : decode cX7_add 18 = .ok (.isub, 1) := by decide +kernel
theorem dX7_add_19 : decode cX7_add 19 = .ok (.iaload, 1) := by decide +kernel
theorem dX7_add_20 : decode cX7_add 20 = .ok (.iload_n 1, 1) := by decide +kernel
theorem dX7_add_21 : decode cX7_add 21 = .ok (.if_icmp .gt 29, 3) := by decide +kernel
theorem dX7_add_24 : decode cX7_add 24 = .ok (.aload_n 0, 1) := by decide +kernel
theorem dX7_add_25 : decode cX7_add 25 = .ok (.getfield 42, 3) := by decide +kernel
theorem dX7_add_28 : decode cX7_add 28 = .ok (.iload 8, 2) := by decide +kernel
theorem dX7_add_30 : decode cX7_add 30 = .ok (.iconst 1, 1) := by decide +kernel
theorem dX7_add_31 : decode cX7_add 31 = .ok (.isub, 1) := by decide +kernel
theorem dX7_add_32 : decode cX7_add 32 = .ok (.iaload, 1) := by decide +kernel
theorem dX7_add_33 : decode cX7_add 33 = .ok (.iload_n 1, 1) := by decide +kernel
theorem dX7_add_34 : decode cX7_add 34 = .ok (.if_icmp .ne 134, 3) := by decide +kernel
theorem dX7_add_37 : decode cX7_add 37 = .ok (.aload_n 0, 1) := by decide +kernel
theorem dX7_add_38 : decode cX7_add 38 = .ok (.getfield 45, 3) := by decide +kernel
theorem dX7_add_41 : decode cX7_add 41 = .ok (.iload 8, 2) := by decide +kernel
theorem dX7_add_43 : decode cX7_add 43 = .ok (.iconst 1, 1) := by decide +kernel
theorem dX7_add_44 : decode cX7_add 44 = .ok (.isub, 1) := by decide +kernel
theorem dX7_add_45 : decode cX7_add 45 = .ok (.iaload, 1) := by decide +kernel
theorem dX7_add_46 : decode cX7_add 46 = .ok (.iload_n 2, 1) := by decide +kernel
theorem dX7_add_47 : decode cX7_add 47 = .ok (.if_icmp .le 121, 3) := by decide +kernel
theorem dX7_add_50 : decode cX7_add 50 = .ok (.aload_n 0, 1) := by decide +kernel
theorem dX7_add_51 : decode cX7_add 51 = .ok (.getfield 42, 3) := by decide +kernel
theorem dX7_add_54 : decode cX7_add 54 = .ok (.iload 8, 2) := by decide +kernel
theorem dX7_add_56 : decode cX7_add 56 = .ok (.aload_n 0, 1) := by decide +kernel
theorem dX7_add_57 : decode cX7_add 57 = .ok (.getfield 42, 3) := by decide +kernel
theorem dX7_add_60 : decode cX7_add 60 = .ok (.iload 8, 2) := by decide +kernel
theorem dX7_add_62 : decode cX7_add 62 = .ok (.iconst 1, 1) := by decide +kernel
theorem dX7_add_63 : decode cX7_add 63 = .ok (.isub, 1) := by decide +kernel
theorem dX7_add_64 : decode cX7_add 64 = .ok (.iaload, 1) := by decide +kernel
theorem dX7_add_65 : decode cX7_add 65 = .ok (.iastore, 1) := by decide +kernel
theorem dX7_add_66 : decode cX7_add 66 = .ok (.aload_n 0, 1) := by decide +kernel
theorem dX7_add_67 : decode cX7_add 67 = .ok (.getfield 45, 3) := by decide +kernel
theorem dX7_add_70 : decode cX7_add 70 = .ok (.iload 8, 2) := by decide +kernel
theorem dX7_add_72 : decode cX7_add 72 = .ok (.aload_n 0, 1) := by decide +kernel
theorem dX7_add_73 : decode cX7_add 73 = .ok (.getfield 45, 3) := by decide +kernel
theorem dX7_add_76 : decode cX7_add 76 = .ok (.iload 8, 2) := by decide +kernel
theorem dX7_add_78 : decode cX7_add 78 = .ok (.iconst 1, 1) := by decide +kernel
theorem dX7_add_79 : decode cX7_add 79 = .ok (.isub, 1) := by decide +kernel
theorem dX7_add_80 : decode cX7_add 80 = .ok (.iaload, 1) := by decide +kernel
theorem dX7_add_81 : decode cX7_add 81 = .ok (.iastore, 1) := by decide +kernel
theorem dX7_add_82 : decode cX7_add 82 = .ok (.aload_n 0, 1) := by decide +kernel
theorem dX7_add_83 : decode cX7_add 83 = .ok (.getfield 48, 3) := by decide +kernel
theorem dX7_add_86 : decode cX7_add 86 = .ok (.iload 8, 2) := by decide +kernel
theorem dX7_add_88 : decode cX7_add 88 = .ok (.aload_n 0, 1) := by decide +kernel
theorem dX7_add_89 : decode cX7_add 89 = .ok (.getfield 48, 3) := by decide +kernel
theorem dX7_add_92 : decode cX7_add 92 = .ok (.iload 8, 2) := by decide +kernel
theorem dX7_add_94 : decode cX7_add 94 = .ok (.iconst 1, 1) := by decide +kernel
theorem dX7_add_95 : decode cX7_add 95 = .ok (.isub, 1) := by decide +kernel
theorem dX7_add_96 : decode cX7_add 96 = .ok (.iaload, 1) := by decide +kernel
theorem dX7_add_97 : decode cX7_add 97 = .ok (.iastore, 1) := by decide +kernel
theorem dX7_add_98 : decode cX7_add 98 = .ok (.aload_n 0, 1) := by decide +kernel
theorem dX7_add_99 : decode cX7_add 99 = .ok (.getfield 51, 3) := by decide +kernel
theorem dX7_add_102 : decode cX7_add 102 = .ok (.iload 8, 2) := by decide +kernel
theorem dX7_add_104 : decode cX7_add 104 = .ok (.aload_n 0, 1) := by decide +kernel
theorem dX7_add_105 : decode cX7_add 105 = .ok (.getfield 51, 3) := by decide +kernel
theorem dX7_add_108 : decode cX7_add 108 = .ok (.iload 8, 2) := by decide +kernel
theorem dX7_add_110 : decode cX7_add 110 = .ok (.iconst 1, 1) := by decide +kernel
theorem dX7_add_111 : decode cX7_add 111 = .ok (.isub, 1) := by decide +kernel
theorem dX7_add_112 : decode cX7_add 112 = .ok (.iaload, 1) := by decide +kernel
theorem dX7_add_113 : decode cX7_add 113 = .ok (.iastore, 1) := by decide +kernel
theorem dX7_add_114 : decode cX7_add 114 = .ok (.aload_n 0, 1) := by decide +kernel
theorem dX7_add_115 : decode cX7_add 115 = .ok (.getfield 54, 3) := by decide +kernel
theorem dX7_add_118 : decode cX7_add 118 = .ok (.iload 8, 2) := by decide +kernel
theorem dX7_add_120 : decode cX7_add 120 = .ok (.aload_n 0, 1) := by decide +kernel
theorem dX7_add_121 : decode cX7_add 121 = .ok (.getfield 54, 3) := by decide +kernel
theorem dX7_add_124 : decode cX7_add 124 = .ok (.iload 8, 2) := by decide +kernel
theorem dX7_add_126 : decode cX7_add 126 = .ok (.iconst 1, 1) := by decide +kernel
theorem dX7_add_127 : decode cX7_add 127 = .ok (.isub, 1) := by decide +kernel
theorem dX7_add_128 : decode cX7_add 128 = .ok (.iaload, 1) := by decide +kernel
theorem dX7_add_129 : decode cX7_add 129 = .ok (.iastore, 1) := by decide +kernel
theorem dX7_add_130 : decode cX7_add 130 = .ok (.aload_n 0, 1) := by decide +kernel
theorem dX7_add_131 : decode cX7_add 131 = .ok (.getfield 57, 3) := by decide +kernel
theorem dX7_add_134 : decode cX7_add 134 = .ok (.iload 8, 2) := by decide +kernel
theorem dX7_add_136 : decode cX7_add 136 = .ok (.aload_n 0, 1) := by decide +kernel
theorem dX7_add_137 : decode cX7_add 137 = .ok (.getfield 57, 3) := by decide +kernel
theorem dX7_add_140 : decode cX7_add 140 = .ok (.iload 8, 2) := by decide +kernel
theorem dX7_add_142 : decode cX7_add 142 = .ok (.iconst 1, 1) := by decide +kernel
theorem dX7_add_143 : decode cX7_add 143 = .ok (.isub, 1) := by decide +kernel
theorem dX7_add_144 : decode cX7_add 144 = .ok (.iaload, 1) := by decide +kernel
theorem dX7_add_145 : decode cX7_add 145 = .ok (.iastore, 1) := by decide +kernel
theorem dX7_add_146 : decode cX7_add 146 = .ok (.aload_n 0, 1) := by decide +kernel
theorem dX7_add_147 : decode cX7_add 147 = .ok (.getfield 60, 3) := by decide +kernel
theorem dX7_add_150 : decode cX7_add 150 = .ok (.iload 8, 2) := by decide +kernel
theorem dX7_add_152 : decode cX7_add 152 = .ok (.aload_n 0, 1) := by decide +kernel
theorem dX7_add_153 : decode cX7_add 153 = .ok (.getfield 60, 3) := by decide +kernel
theorem dX7_add_156 : decode cX7_add 156 = .ok (.iload 8, 2) := by decide +kernel
theorem dX7_add_158 : decode cX7_add 158 = .ok (.iconst 1, 1) := by decide +kernel
theorem dX7_add_159 : decode cX7_add 159 = .ok (.isub, 1) := by decide +kernel
theorem dX7_add_160 : decode cX7_add 160 = .ok (.iaload, 1) := by decide +kernel
theorem dX7_add_161 : decode cX7_add 161 = .ok (.iastore, 1) := by decide +kernel
theorem dX7_add_162 : decode cX7_add 162 = .ok (.iinc 8 (-1), 3) := by decide +kernel
theorem dX7_add_165 : decode cX7_add 165 = .ok (.goto (-159), 3) := by decide +kernel
theorem dX7_add_168 : decode cX7_add 168 = .ok (.aload_n 0, 1) := by decide +kernel
theorem dX7_add_169 : decode cX7_add 169 = .ok (.getfield 42, 3) := by decide +kernel
theorem dX7_add_172 : decode cX7_add 172 = .ok (.iload 8, 2) := by decide +kernel
theorem dX7_add_174 : decode cX7_add 174 = .ok (.iload_n 1, 1) := by decide +kernel
theorem dX7_add_175 : decode cX7_add 175 = .ok (.iastore, 1) := by decide +kernel
theorem dX7_add_176 : decode cX7_add 176 = .ok (.aload_n 0, 1) := by decide +kernel
theorem dX7_add_177 : decode cX7_add 177 = .ok (.getfield 45, 3) := by decide +kernel
theorem dX7_add_180 : decode cX7_add 180 = .ok (.iload 8, 2) := by decide +kernel
theorem dX7_add_182 : decode cX7_add 182 = .ok (.iload_n 2, 1) := by decide +kernel
theorem dX7_add_183 : decode cX7_add 183 = .ok (.iastore, 1) := by decide +kernel
theorem dX7_add_184 : decode cX7_add 184 = .ok (.aload_n 0, 1) := by decide +kernel
theorem dX7_add_185 : decode cX7_add 185 = .ok (.getfield 48, 3) := by decide +kernel
theorem dX7_add_188 : decode cX7_add 188 = .ok (.iload 8, 2) := by decide +kernel
theorem dX7_add_190 : decode cX7_add 190 = .ok (.iload_n 3, 1) := by decide +kernel
theorem dX7_add_191 : decode cX7_add 191 = .ok (.iastore, 1) := by decide +kernel
theorem dX7_add_192 : decode cX7_add 192 = .ok (.aload_n 0, 1) := by decide +kernel
theorem dX7_add_193 : decode cX7_add 193 = .ok (.getfield 51, 3) := by decide +kernel
theorem dX7_add_196 : decode cX7_add 196 = .ok (.iload 8, 2) := by decide +kernel
theorem dX7_add_198 : decode cX7_add 198 = .ok (.iload 4, 2) := by decide +kernel
theorem dX7_add_200 : decode cX7_add 200 = .ok (.iastore, 1) := by decide +kernel
theorem dX7_add_201 : decode cX7_add 201 = .ok (.aload_n 0, 1) := by decide +kernel
theorem dX7_add_202 : decode cX7_add 202 = .ok (.getfield 54, 3) := by decide +kernel
theorem dX7_add_205 : decode cX7_add 205 = .ok (.iload 8, 2) := by decide +kernel
theorem dX7_add_207 : decode cX7_add 207 = .ok (.iload 5, 2) := by decide +kernel
theorem dX7_add_209 : decode cX7_add 209 = .ok (.iastore, 1) := by decide +kernel
theorem dX7_add_210 : decode cX7_add 210 = .ok (.aload_n 0, 1) := by decide +kernel
theorem dX7_add_211 : decode cX7_add 211 = .ok (.getfield 57, 3) := by decide +kernel
theorem dX7_add_214 : decode cX7_add 214 = .ok (.iload 8, 2) := by decide +kernel
theorem dX7_add_216 : decode cX7_add 216 = .ok (.iload 6, 2) := by decide +kernel
theorem dX7_add_218 : decode cX7_add 218 = .ok (.iastore, 1) := by decide +kernel
theorem dX7_add_219 : decode cX7_add 219 = .ok (.aload_n 0, 1) := by decide +kernel
theorem dX7_add_220 : decode cX7_add 220 = .ok (.getfield 60, 3) := by decide +kernel
theorem dX7_add_223 : decode cX7_add 223 = .ok (.iload 8, 2) := by decide +kernel
theorem dX7_add_225 : decode cX7_add 225 = .ok (.iload 7, 2) := by decide +kernel
theorem dX7_add_227 : decode cX7_add 227 = .ok (.iastore, 1) := by decide +kernel
theorem dX7_add_228 : decode cX7_add 228 = .ok (.aload_n 0, 1) := by decide +kernel
theorem dX7_add_229 : decode cX7_add 229 = .ok (.dup, 1) := by decide +kernel
theorem dX7_add_230 : decode cX7_add 230 = .ok (.getfield 104, 3) := by decide +kernel
theorem dX7_add_233 : decode cX7_add 233 = .ok (.iconst 1, 1) := by decide +kernel
theorem dX7_add_234 : decode cX7_add 234 = .ok (.iadd, 1) := by decide +kernel
theorem dX7_add_235 : decode cX7_add 235 = .ok (.putfield 104, 3) := by decide +kernel
theorem dX7_add_238 : decode cX7_add 238 = .ok (.return_, 1) := by decide +kernel
theorem dX7_find_0 : decode cX7_find 0 = .ok (.aload_n 0, 1) := by decide +kernel
theorem dX7_find_1 : decode cX7_find 1 = .ok (.iconst 0, 1) := by decide +kernel
theorem dX7_find_2 : decode cX7_find 2 = .ok (.putfield 104, 3) := by decide +kernel
theorem dX7_find_5 : decode cX7_find 5 = .ok (.iload 5, 2) := by decide +kernel
theorem dX7_find_7 : decode cX7_find 7 = .ok (.ifCond .ne 7, 3) := by decide +kernel
theorem dX7_find_10 : decode cX7_find 10 = .ok (.iload_n 2, 1) := by decide +kernel
theorem dX7_find_11 : decode cX7_find 11 = .ok (.goto 4, 3) := by decide +kernel
theorem dX7_find_14 : decode cX7_find 14 = .ok (.iload_n 3, 1) := by decide +kernel
theorem dX7_find_15 : decode cX7_find 15 = .ok (.istore 6, 2) := by decide +kernel
theorem dX7_find_17 : decode cX7_find 17 = .ok (.iconst (-1), 1) := by decide +kernel
theorem dX7_find_18 : decode cX7_find 18 = .ok (.istore 7, 2) := by decide +kernel
theorem dX7_find_20 : decode cX7_find 20 = .ok (.iload 7, 2) := by decide +kernel
theorem dX7_find_22 : decode cX7_find 22 = .ok (.iconst 1, 1) := by decide +kernel
theorem dX7_find_23 : decode cX7_find 23 = .ok (.if_icmp .gt 188, 3) := by decide +kernel
theorem dX7_find_26 : decode cX7_find 26 = .ok (.iconst (-1), 1) := by decide +kernel
theorem dX7_find_27 : decode cX7_find 27 = .ok (.istore 8, 2) := by decide +kernel
theorem dX7_find_29 : decode cX7_find 29 = .ok (.iload 8, 2) := by decide +kernel
theorem dX7_find_31 : decode cX7_find 31 = .ok (.iconst 1, 1) := by decide +kernel
theorem dX7_find_32 : decode cX7_find 32 = .ok (.if_icmp .gt 173, 3) := by decide +kernel
theorem dX7_find_35 : decode cX7_find 35 = .ok (.iload 7, 2) := by decide +kernel
theorem dX7_find_37 : decode cX7_find 37 = .ok (.ifCond .ne 12, 3) := by decide +kernel
theorem dX7_find_40 : decode cX7_find 40 = .ok (.iload 8, 2) := by decide +kernel
theorem dX7_find_42 : decode cX7_find 42 = .ok (.ifCond .ne 7, 3) := by decide +kernel
theorem dX7_find_45 : decode cX7_find 45 = .ok (.iconst (-1), 1) := by decide +kernel
theorem dX7_find_46 : decode cX7_find 46 = .ok (.goto 13, 3) := by decide +kernel
theorem dX7_find_49 : decode cX7_find 49 = .ok (.aload_n 0, 1) := by decide +kernel
theorem dX7_find_50 : decode cX7_find 50 = .ok (.iload 6, 2) := by decide +kernel
theorem dX7_find_52 : decode cX7_find 52 = .ok (.iload 7, 2) := by decide +kernel
theorem dX7_find_54 : decode cX7_find 54 = .ok (.iload 8, 2) := by decide +kernel
theorem dX7_find_56 : decode cX7_find 56 = .ok (.invokevirtual 92, 3) := by decide +kernel
theorem dX7_find_59 : decode cX7_find 59 = .ok (.istore 9, 2) := by decide +kernel
theorem dX7_find_61 : decode cX7_find 61 = .ok (.iload 9, 2) := by decide +kernel
theorem dX7_find_63 : decode cX7_find 63 = .ok (.iconst (-1), 1) := by decide +kernel
theorem dX7_find_64 : decode cX7_find 64 = .ok (.if_icmp .eq 135, 3) := by decide +kernel
theorem dX7_find_67 : decode cX7_find 67 = .ok (.iload 9, 2) := by decide +kernel
theorem dX7_find_69 : decode cX7_find 69 = .ok (.iload_n 2, 1) := by decide +kernel
theorem dX7_find_70 : decode cX7_find 70 = .ok (.if_icmp .eq 129, 3) := by decide +kernel
theorem dX7_find_73 : decode cX7_find 73 = .ok (.iload 9, 2) := by decide +kernel
theorem dX7_find_75 : decode cX7_find 75 = .ok (.iload_n 3, 1) := by decide +kernel
theorem dX7_find_76 : decode cX7_find 76 = .ok (.if_icmp .ne 6, 3) := by decide +kernel
theorem dX7_find_79 : decode cX7_find 79 = .ok (.goto 120, 3) := by decide +kernel
theorem dX7_find_82 : decode cX7_find 82 = .ok (.iload 5, 2) := by decide +kernel
theorem dX7_find_84 : decode cX7_find 84 = .ok (.ifCond .ne 38, 3) := by decide +kernel
theorem dX7_find_87 : decode cX7_find 87 = .ok (.iload 9, 2) := by decide +kernel
theorem dX7_find_89 : decode cX7_find 89 = .ok (.iload 4, 2) := by decide +kernel
theorem dX7_find_91 : decode cX7_find 91 = .ok (.if_icmp .eq 31, 3) := by decide +kernel
theorem dX7_find_94 : decode cX7_find 94 = .ok (.aload_n 0, 1) := by decide +kernel
theorem dX7_find_95 : decode cX7_find 95 = .ok (.iload_n 1, 1) := by decide +kernel
theorem dX7_find_96 : decode cX7_find 96 = .ok (.iload 9, 2) := by decide +kernel
theorem dX7_find_98 : decode cX7_find 98 = .ok (.iload_n 3, 1) := by decide +kernel
theorem dX7_find_99 : decode cX7_find 99 = .ok (.iload 4, 2) := by decide +kernel
theorem dX7_find_101 : decode cX7_find 101 = .ok (.iconst 1, 1) := by decide +kernel
theorem dX7_find_102 : decode cX7_find 102 = .ok (.invokevirtual 107, 3) := by decide +kernel
theorem dX7_find_105 : decode cX7_find 105 = .ok (.ifCond .eq 17, 3) := by decide +kernel
theorem dX7_find_108 : decode cX7_find 108 = .ok (.aload_n 0, 1) := by decide +kernel
theorem dX7_find_109 : decode cX7_find 109 = .ok (.iload_n 2, 1) := by decide +kernel
theorem dX7_find_110 : decode cX7_find 110 = .ok (.iload 9, 2) := by decide +kernel
theorem dX7_find_112 : decode cX7_find 112 = .ok (.iconst (-1), 1) := by decide +kernel
theorem dX7_find_113 : decode cX7_find 113 = .ok (.iload_n 1, 1) := by decide +kernel
theorem dX7_find_114 : decode cX7_find 114 = .ok (.iload 9, 2) := by decide +kernel
theorem dX7_find_116 : decode cX7_find 116 = .ok (.iload_n 3, 1) := by decide +kernel
theorem dX7_find_117 : decode cX7_find 117 = .ok (.iload 4, 2) := by decide +kernel
theorem dX7_find_119 : decode cX7_find 119 = .ok (.invokevirtual 110, 3) := by decide +kernel
theorem dX7_find_122 : decode cX7_find 122 = .ok (.iload 5, 2) := by decide +kernel
theorem dX7_find_124 : decode cX7_find 124 = .ok (.iconst 1, 1) := by decide +kernel
theorem dX7_find_125 : decode cX7_find 125 = .ok (.if_icmp .ne 33, 3) := by decide +kernel
theorem dX7_find_128 : decode cX7_find 128 = .ok (.iload 9, 2) := by decide +kernel
theorem dX7_find_130 : decode cX7_find 130 = .ok (.iload 4, 2) := by decide +kernel
theorem dX7_find_132 : decode cX7_find 132 = .ok (.if_icmp .ne 26, 3) := by decide +kernel
theorem dX7_find_135 : decode cX7_find 135 = .ok (.aload_n 0, 1) := by decide +kernel
theorem dX7_find_136 : decode cX7_find 136 = .ok (.iload 9, 2) := by decide +kernel
theorem dX7_find_138 : decode cX7_find 138 = .ok (.iload_n 2, 1) := by decide +kernel
theorem dX7_find_139 : decode cX7_find 139 = .ok (.invokevirtual 96, 3) := by decide +kernel
theorem dX7_find_142 : decode cX7_find 142 = .ok (.ifCond .ne 16, 3) := by decide +kernel
theorem dX7_find_145 : decode cX7_find 145 = .ok (.aload_n 0, 1) := by decide +kernel
theorem dX7_find_146 : decode cX7_find 146 = .ok (.iload_n 3, 1) := by decide +kernel
theorem dX7_find_147 : decode cX7_find 147 = .ok (.iload 9, 2) := by decide +kernel
theorem dX7_find_149 : decode cX7_find 149 = .ok (.iconst (-1), 1) := by decide +kernel
theorem dX7_find_150 : decode cX7_find 150 = .ok (.iconst (-1), 1) := by decide +kernel
theorem dX7_find_151 : decode cX7_find 151 = .ok (.iload_n 2, 1) := by decide +kernel
theorem dX7_find_152 : decode cX7_find 152 = .ok (.iload 9, 2) := by decide +kernel
theorem dX7_find_154 : decode cX7_find 154 = .ok (.iconst (-1), 1) := by decide +kernel
theorem dX7_find_155 : decode cX7_find 155 = .ok (.invokevirtual 110, 3) := by decide +kernel
theorem dX7_find_158 : decode cX7_find 158 = .ok (.iload 5, 2) := by decide +kernel
theorem dX7_find_160 : decode cX7_find 160 = .ok (.iconst 1, 1) := by decide +kernel
theorem dX7_find_161 : decode cX7_find 161 = .ok (.if_icmp .ne 38, 3) := by decide +kernel
theorem dX7_find_164 : decode cX7_find 164 = .ok (.iload 9, 2) := by decide +kernel
theorem dX7_find_166 : decode cX7_find 166 = .ok (.iload 4, 2) := by decide +kernel
theorem dX7_find_168 : decode cX7_find 168 = .ok (.if_icmp .eq 31, 3) := by decide +kernel
theorem dX7_find_171 : decode cX7_find 171 = .ok (.aload_n 0, 1) := by decide +kernel
theorem dX7_find_172 : decode cX7_find 172 = .ok (.iload_n 1, 1) := by decide +kernel
theorem dX7_find_173 : decode cX7_find 173 = .ok (.iload_n 2, 1) := by decide +kernel
theorem dX7_find_174 : decode cX7_find 174 = .ok (.iload 9, 2) := by decide +kernel
theorem dX7_find_176 : decode cX7_find 176 = .ok (.iload 4, 2) := by decide +kernel
theorem dX7_find_178 : decode cX7_find 178 = .ok (.iconst 0, 1) := by decide +kernel
theorem dX7_find_179 : decode cX7_find 179 = .ok (.invokevirtual 107, 3) := by decide +kernel
theorem dX7_find_182 : decode cX7_find 182 = .ok (.ifCond .eq 17, 3) := by decide +kernel
theorem dX7_find_185 : decode cX7_find 185 = .ok (.aload_n 0, 1) := by decide +kernel
theorem dX7_find_186 : decode cX7_find 186 = .ok (.iload_n 3, 1) := by decide +kernel
theorem dX7_find_187 : decode cX7_find 187 = .ok (.iload 9, 2) := by decide +kernel
theorem dX7_find_189 : decode cX7_find 189 = .ok (.iconst (-1), 1) := by decide +kernel
theorem dX7_find_190 : decode cX7_find 190 = .ok (.iload_n 1, 1) := by decide +kernel
theorem dX7_find_191 : decode cX7_find 191 = .ok (.iload_n 2, 1) := by decide +kernel
theorem dX7_find_192 : decode cX7_find 192 = .ok (.iload 9, 2) := by decide +kernel
theorem dX7_find_194 : decode cX7_find 194 = .ok (.iload 4, 2) := by decide +kernel
theorem dX7_find_196 : decode cX7_find 196 = .ok (.invokevirtual 110, 3) := by decide +kernel
theorem dX7_find_199 : decode cX7_find 199 = .ok (.iinc 8 1, 3) := by decide +kernel
theorem dX7_find_202 : decode cX7_find 202 = .ok (.goto (-173), 3) := by decide +kernel
theorem dX7_find_205 : decode cX7_find 205 = .ok (.iinc 7 1, 3) := by decide +kernel
theorem dX7_find_208 : decode cX7_find 208 = .ok (.goto (-188), 3) := by decide +kernel
theorem dX7_find_211 : decode cX7_find 211 = .ok (.iload 5, 2) := by decide +kernel
theorem dX7_find_213 : decode cX7_find 213 = .ok (.ifCond .ne 66, 3) := by decide +kernel
theorem dX7_find_216 : decode cX7_find 216 = .ok (.iload_n 1, 1) := by decide +kernel
theorem dX7_find_217 : decode cX7_find 217 = .ok (.iconst 2, 1) := by decide +kernel
theorem dX7_find_218 : decode cX7_find 218 = .ok (.if_icmp .ge 61, 3) := by decide +kernel
theorem dX7_find_221 : decode cX7_find 221 = .ok (.iconst 0, 1) := by decide +kernel
theorem dX7_find_222 : decode cX7_find 222 = .ok (.istore 7, 2) := by decide +kernel
theorem dX7_find_224 : decode cX7_find 224 = .ok (.iload 7, 2) := by decide +kernel
theorem dX7_find_226 : decode cX7_find 226 = .ok (.aload_n 0, 1) := by decide +kernel
theorem dX7_find_227 : decode cX7_find 227 = .ok (.getfield 13, 3) := by decide +kernel
theorem dX7_find_230 : decode cX7_find 230 = .ok (.if_icmp .ge 49, 3) := by decide +kernel
theorem dX7_find_233 : decode cX7_find 233 = .ok (.iload 7, 2) := by decide +kernel
theorem dX7_find_235 : decode cX7_find 235 = .ok (.iload_n 2, 1) := by decide +kernel
theorem dX7_find_236 : decode cX7_find 236 = .ok (.if_icmp .eq 37, 3) := by decide +kernel
theorem dX7_find_239 : decode cX7_find 239 = .ok (.iload 7, 2) := by decide +kernel
theorem dX7_find_241 : decode cX7_find 241 = .ok (.iload_n 3, 1) := by decide +kernel
theorem dX7_find_242 : decode cX7_find 242 = .ok (.if_icmp .eq 31, 3) := by decide +kernel
theorem dX7_find_245 : decode cX7_find 245 = .ok (.aload_n 0, 1) := by decide +kernel
theorem dX7_find_246 : decode cX7_find 246 = .ok (.iload_n 1, 1) := by decide +kernel
theorem dX7_find_247 : decode cX7_find 247 = .ok (.iload_n 2, 1) := by decide +kernel
theorem dX7_find_248 : decode cX7_find 248 = .ok (.iload_n 3, 1) := by decide +kernel
theorem dX7_find_249 : decode cX7_find 249 = .ok (.iload 4, 2) := by decide +kernel
theorem dX7_find_251 : decode cX7_find 251 = .ok (.iload 7, 2) := by decide +kernel
theorem dX7_find_253 : decode cX7_find 253 = .ok (.invokevirtual 100, 3) := by decide +kernel
theorem dX7_find_256 : decode cX7_find 256 = .ok (.ifCond .eq 17, 3) := by decide +kernel
theorem dX7_find_259 : decode cX7_find 259 = .ok (.aload_n 0, 1) := by decide +kernel
theorem dX7_find_260 : decode cX7_find 260 = .ok (.iload 4, 2) := by decide +kernel
theorem dX7_find_262 : decode cX7_find 262 = .ok (.iload 7, 2) := by decide +kernel
theorem dX7_find_264 : decode cX7_find 264 = .ok (.iconst (-1), 1) := by decide +kernel
theorem dX7_find_265 : decode cX7_find 265 = .ok (.iload_n 1, 1) := by decide +kernel
theorem dX7_find_266 : decode cX7_find 266 = .ok (.iload_n 2, 1) := by decide +kernel
theorem dX7_find_267 : decode cX7_find 267 = .ok (.iload_n 3, 1) := by decide +kernel
theorem dX7_find_268 : decode cX7_find 268 = .ok (.iload 7, 2) := by decide +kernel
theorem dX7_find_270 : decode cX7_find 270 = .ok (.invokevirtual 110, 3) := by decide +kernel
theorem dX7_find_273 : decode cX7_find 273 = .ok (.iinc 7 1, 3) := by decide +kernel
theorem dX7_find_276 : decode cX7_find 276 = .ok (.goto (-52), 3) := by decide +kernel
theorem dX7_find_279 : decode cX7_find 279 = .ok (.iload 5, 2) := by decide +kernel
theorem dX7_find_281 : decode cX7_find 281 = .ok (.ifCond .ne 16, 3) := by decide +kernel
theorem dX7_find_284 : decode cX7_find 284 = .ok (.iload_n 1, 1) := by decide +kernel
theorem dX7_find_285 : decode cX7_find 285 = .ok (.iconst 2, 1) := by decide +kernel
theorem dX7_find_286 : decode cX7_find 286 = .ok (.if_icmp .ne 11, 3) := by decide +kernel
theorem dX7_find_289 : decode cX7_find 289 = .ok (.aload_n 0, 1) := by decide +kernel
theorem dX7_find_290 : decode cX7_find 290 = .ok (.iload_n 2, 1) := by decide +kernel
theorem dX7_find_291 : decode cX7_find 291 = .ok (.iload_n 3, 1) := by decide +kernel
theorem dX7_find_292 : decode cX7_find 292 = .ok (.iload 4, 2) := by decide +kernel
theorem dX7_find_294 : decode cX7_find 294 = .ok (.invokevirtual 114, 3) := by decide +kernel
theorem dX7_find_297 : decode cX7_find 297 = .ok (.return_, 1) := by decide +kernel
theorem dX7_pawnMoves_0 : decode cX7_pawnMoves 0 = .ok (.iload_n 3, 1) := by decide +kernel
theorem dX7_pawnMoves_1 : decode cX7_pawnMoves 1 = .ok (.aload_n 0, 1) := by decide +kernel
theorem dX7_pawnMoves_2 : decode cX7_pawnMoves 2 = .ok (.getfield 7, 3) := by decide +kernel
theorem dX7_pawnMoves_5 : decode cX7_pawnMoves 5 = .ok (.iadd, 1) := by decide +kernel
theorem dX7_pawnMoves_6 : decode cX7_pawnMoves 6 = .ok (.istore 4, 2) := by decide +kernel
theorem dX7_pawnMoves_8 : decode cX7_pawnMoves 8 = .ok (.iload 4, 2) := by decide +kernel
theorem dX7_pawnMoves_10 : decode cX7_pawnMoves 10 = .ok (.iload_n 1, 1) := by decide +kernel
theorem dX7_pawnMoves_11 : decode cX7_pawnMoves 11 = .ok (.if_icmp .eq 9, 3) := by decide +kernel
theorem dX7_pawnMoves_14 : decode cX7_pawnMoves 14 = .ok (.iload 4, 2) := by decide +kernel
theorem dX7_pawnMoves_16 : decode cX7_pawnMoves 16 = .ok (.iload_n 2, 1) := by decide +kernel
theorem dX7_pawnMoves_17 : decode cX7_pawnMoves 17 = .ok (.if_icmp .ne 4, 3) := by decide +kernel
theorem dX7_pawnMoves_20 : decode cX7_pawnMoves 20 = .ok (.return_, 1) := by decide +kernel
theorem dX7_pawnMoves_21 : decode cX7_pawnMoves 21 = .ok (.iload 4, 2) := by decide +kernel
theorem dX7_pawnMoves_23 : decode cX7_pawnMoves 23 = .ok (.aload_n 0, 1) := by decide +kernel
theorem dX7_pawnMoves_24 : decode cX7_pawnMoves 24 = .ok (.getfield 7, 3) := by decide +kernel
theorem dX7_pawnMoves_27 : decode cX7_pawnMoves 27 = .ok (.idiv, 1) := by decide +kernel
theorem dX7_pawnMoves_28 : decode cX7_pawnMoves 28 = .ok (.aload_n 0, 1) := by decide +kernel
theorem dX7_pawnMoves_29 : decode cX7_pawnMoves 29 = .ok (.getfield 7, 3) := by decide +kernel
theorem dX7_pawnMoves_32 : decode cX7_pawnMoves 32 = .ok (.iconst 1, 1) := by decide +kernel
theorem dX7_pawnMoves_33 : decode cX7_pawnMoves 33 = .ok (.isub, 1) := by decide +kernel
theorem dX7_pawnMoves_34 : decode cX7_pawnMoves 34 = .ok (.if_icmp .ne 44, 3) := by decide +kernel
theorem dX7_pawnMoves_37 : decode cX7_pawnMoves 37 = .ok (.iconst 0, 1) := by decide +kernel
theorem dX7_pawnMoves_38 : decode cX7_pawnMoves 38 = .ok (.istore 5, 2) := by decide +kernel
theorem dX7_pawnMoves_40 : decode cX7_pawnMoves 40 = .ok (.iload 5, 2) := by decide +kernel
theorem dX7_pawnMoves_42 : decode cX7_pawnMoves 42 = .ok (.iconst 4, 1) := by decide +kernel
theorem dX7_pawnMoves_43 : decode cX7_pawnMoves 43 = .ok (.if_icmp .ge 34, 3) := by decide +kernel
theorem dX7_pawnMoves_46 : decode cX7_pawnMoves 46 = .ok (.aload_n 0, 1) := by decide +kernel
theorem dX7_pawnMoves_47 : decode cX7_pawnMoves 47 = .ok (.iload_n 3, 1) := by decide +kernel
theorem dX7_pawnMoves_48 : decode cX7_pawnMoves 48 = .ok (.iload 4, 2) := by decide +kernel
theorem dX7_pawnMoves_50 : decode cX7_pawnMoves 50 = .ok (.iload 5, 2) := by decide +kernel
theorem dX7_pawnMoves_52 : decode cX7_pawnMoves 52 = .ok (.iload 5, 2) := by decide +kernel
theorem dX7_pawnMoves_54 : decode cX7_pawnMoves 54 = .ok (.iconst 2, 1) := by decide +kernel
theorem dX7_pawnMoves_55 : decode cX7_pawnMoves 55 = .ok (.if_icmp .ge 8, 3) := by decide +kernel
theorem dX7_pawnMoves_58 : decode cX7_pawnMoves 58 = .ok (.iload 5, 2) := by decide +kernel
theorem dX7_pawnMoves_60 : decode cX7_pawnMoves 60 = .ok (.goto 4, 3) := by decide +kernel
theorem dX7_pawnMoves_63 : decode cX7_pawnMoves 63 = .ok (.iconst (-1), 1) := by decide +kernel
theorem dX7_pawnMoves_64 : decode cX7_pawnMoves 64 = .ok (.iload_n 1, 1) := by decide +kernel
theorem dX7_pawnMoves_65 : decode cX7_pawnMoves 65 = .ok (.iload_n 2, 1) := by decide +kernel
theorem dX7_pawnMoves_66 : decode cX7_pawnMoves 66 = .ok (.iload 4, 2) := by decide +kernel
theorem dX7_pawnMoves_68 : decode cX7_pawnMoves 68 = .ok (.invokevirtual 110, 3) := by decide +kernel
theorem dX7_pawnMoves_71 : decode cX7_pawnMoves 71 = .ok (.iinc 5 1, 3) := by decide +kernel
theorem dX7_pawnMoves_74 : decode cX7_pawnMoves 74 = .ok (.goto (-34), 3) := by decide +kernel
theorem dX7_pawnMoves_77 : decode cX7_pawnMoves 77 = .ok (.return_, 1) := by decide +kernel
theorem dX7_pawnMoves_78 : decode cX7_pawnMoves 78 = .ok (.aload_n 0, 1) := by decide +kernel
theorem dX7_pawnMoves_79 : decode cX7_pawnMoves 79 = .ok (.iload_n 3, 1) := by decide +kernel
theorem dX7_pawnMoves_80 : decode cX7_pawnMoves 80 = .ok (.iload 4, 2) := by decide +kernel
theorem dX7_pawnMoves_82 : decode cX7_pawnMoves 82 = .ok (.iconst (-1), 1) := by decide +kernel
theorem dX7_pawnMoves_83 : decode cX7_pawnMoves 83 = .ok (.iconst 2, 1) := by decide +kernel
theorem dX7_pawnMoves_84 : decode cX7_pawnMoves 84 = .ok (.iload_n 1, 1) := by decide +kernel
theorem dX7_pawnMoves_85 : decode cX7_pawnMoves 85 = .ok (.iload_n 2, 1) := by decide +kernel
theorem dX7_pawnMoves_86 : decode cX7_pawnMoves 86 = .ok (.iload 4, 2) := by decide +kernel
theorem dX7_pawnMoves_88 : decode cX7_pawnMoves 88 = .ok (.invokevirtual 110, 3) := by decide +kernel
theorem dX7_pawnMoves_91 : decode cX7_pawnMoves 91 = .ok (.iload 4, 2) := by decide +kernel
theorem dX7_pawnMoves_93 : decode cX7_pawnMoves 93 = .ok (.aload_n 0, 1) := by decide +kernel
theorem dX7_pawnMoves_94 : decode cX7_pawnMoves 94 = .ok (.getfield 7, 3) := by decide +kernel
theorem dX7_pawnMoves_97 : decode cX7_pawnMoves 97 = .ok (.iadd, 1) := by decide +kernel
theorem dX7_pawnMoves_98 : decode cX7_pawnMoves 98 = .ok (.istore 5, 2) := by decide +kernel
theorem dX7_pawnMoves_100 : decode cX7_pawnMoves 100 = .ok (.iload_n 3, 1) := by decide +kernel
theorem dX7_pawnMoves_101 : decode cX7_pawnMoves 101 = .ok (.aload_n 0, 1) := by decide +kernel
theorem dX7_pawnMoves_102 : decode cX7_pawnMoves 102 = .ok (.getfield 7, 3) := by decide +kernel
theorem dX7_pawnMoves_105 : decode cX7_pawnMoves 105 = .ok (.idiv, 1) := by decide +kernel
theorem dX7_pawnMoves_106 : decode cX7_pawnMoves 106 = .ok (.iconst 1, 1) := by decide +kernel
theorem dX7_pawnMoves_107 : decode cX7_pawnMoves 107 = .ok (.if_icmp .ne 44, 3) := by decide +kernel
theorem dX7_pawnMoves_110 : decode cX7_pawnMoves 110 = .ok (.iload 5, 2) := by decide +kernel
theorem dX7_pawnMoves_112 : decode cX7_pawnMoves 112 = .ok (.aload_n 0, 1) := by decide +kernel
theorem dX7_pawnMoves_113 : decode cX7_pawnMoves 113 = .ok (.getfield 7, 3) := by decide +kernel
theorem dX7_pawnMoves_116 : decode cX7_pawnMoves 116 = .ok (.idiv, 1) := by decide +kernel
theorem dX7_pawnMoves_117 : decode cX7_pawnMoves 117 = .ok (.aload_n 0, 1) := by decide +kernel
theorem dX7_pawnMoves_118 : decode cX7_pawnMoves 118 = .ok (.getfield 7, 3) := by decide +kernel
theorem dX7_pawnMoves_121 : decode cX7_pawnMoves 121 = .ok (.iconst 1, 1) := by decide +kernel
theorem dX7_pawnMoves_122 : decode cX7_pawnMoves 122 = .ok (.isub, 1) := by decide +kernel
theorem dX7_pawnMoves_123 : decode cX7_pawnMoves 123 = .ok (.if_icmp .ge 28, 3) := by decide +kernel
theorem dX7_pawnMoves_126 : decode cX7_pawnMoves 126 = .ok (.iload 5, 2) := by decide +kernel
theorem dX7_pawnMoves_128 : decode cX7_pawnMoves 128 = .ok (.iload_n 1, 1) := by decide +kernel
theorem dX7_pawnMoves_129 : decode cX7_pawnMoves 129 = .ok (.if_icmp .eq 22, 3) := by decide +kernel
theorem dX7_pawnMoves_132 : decode cX7_pawnMoves 132 = .ok (.iload 5, 2) := by decide +kernel
theorem dX7_pawnMoves_134 : decode cX7_pawnMoves 134 = .ok (.iload_n 2, 1) := by decide +kernel
theorem dX7_pawnMoves_135 : decode cX7_pawnMoves 135 = .ok (.if_icmp .eq 16, 3) := by decide +kernel
theorem dX7_pawnMoves_138 : decode cX7_pawnMoves 138 = .ok (.aload_n 0, 1) := by decide +kernel
theorem dX7_pawnMoves_139 : decode cX7_pawnMoves 139 = .ok (.iload_n 3, 1) := by decide +kernel
theorem dX7_pawnMoves_140 : decode cX7_pawnMoves 140 = .ok (.iload 5, 2) := by decide +kernel
theorem dX7_pawnMoves_142 : decode cX7_pawnMoves 142 = .ok (.iconst (-1), 1) := by decide +kernel
theorem dX7_pawnMoves_143 : decode cX7_pawnMoves 143 = .ok (.iconst 2, 1) := by decide +kernel
theorem dX7_pawnMoves_144 : decode cX7_pawnMoves 144 = .ok (.iload_n 1, 1) := by decide +kernel
theorem dX7_pawnMoves_145 : decode cX7_pawnMoves 145 = .ok (.iload_n 2, 1) := by decide +kernel
theorem dX7_pawnMoves_146 : decode cX7_pawnMoves 146 = .ok (.iload 5, 2) := by decide +kernel
theorem dX7_pawnMoves_148 : decode cX7_pawnMoves 148 = .ok (.invokevirtual 110, 3) := by decide +kernel
theorem dX7_pawnMoves_151 : decode cX7_pawnMoves 151 = .ok (.return_, 1) := by decide +kernel
theorem dX7_distanceOf_0 : decode cX7_distanceOf 0 = .ok (.iload_n 1, 1) := by decide +kernel
theorem dX7_distanceOf_1 : decode cX7_distanceOf 1 = .ok (.iconst (-1), 1) := by decide +kernel
theorem dX7_distanceOf_2 : decode cX7_distanceOf 2 = .ok (.if_icmp .ne 7, 3) := by decide +kernel
theorem dX7_distanceOf_5 : decode cX7_distanceOf 5 = .ok (.iconst (-1), 1) := by decide +kernel
theorem dX7_distanceOf_6 : decode cX7_distanceOf 6 = .ok (.goto 25, 3) := by decide +kernel
theorem dX7_distanceOf_9 : decode cX7_distanceOf 9 = .ok (.aload_n 0, 1) := by decide +kernel
theorem dX7_distanceOf_10 : decode cX7_distanceOf 10 = .ok (.getfield 21, 3) := by decide +kernel
theorem dX7_distanceOf_13 : decode cX7_distanceOf 13 = .ok (.ldc 118, 2) := by decide +kernel
theorem dX7_distanceOf_15 : decode cX7_distanceOf 15 = .ok (.iload_n 1, 1) := by decide +kernel
theorem dX7_distanceOf_16 : decode cX7_distanceOf 16 = .ok (.imul, 1) := by decide +kernel
theorem dX7_distanceOf_17 : decode cX7_distanceOf 17 = .ok (.aload_n 0, 1) := by decide +kernel
theorem dX7_distanceOf_18 : decode cX7_distanceOf 18 = .ok (.iload_n 2, 1) := by decide +kernel
theorem dX7_distanceOf_19 : decode cX7_distanceOf 19 = .ok (.iload_n 3, 1) := by decide +kernel
theorem dX7_distanceOf_20 : decode cX7_distanceOf 20 = .ok (.iload 4, 2) := by decide +kernel
theorem dX7_distanceOf_22 : decode cX7_distanceOf 22 = .ok (.iload 5, 2) := by decide +kernel
theorem dX7_distanceOf_24 : decode cX7_distanceOf 24 = .ok (.invokevirtual 119, 3) := by decide +kernel
theorem dX7_distanceOf_27 : decode cX7_distanceOf 27 = .ok (.iadd, 1) := by decide +kernel
theorem dX7_distanceOf_28 : decode cX7_distanceOf 28 = .ok (.baload, 1) := by decide +kernel
theorem dX7_distanceOf_29 : decode cX7_distanceOf 29 = .ok (.iconst 1, 1) := by decide +kernel
theorem dX7_distanceOf_30 : decode cX7_distanceOf 30 = .ok (.isub, 1) := by decide +kernel
theorem dX7_distanceOf_31 : decode cX7_distanceOf 31 = .ok (.ireturn, 1) := by decide +kernel
theorem dX7_after_0 : decode cX7_after 0 = .ok (.aload_n 0, 1) := by decide +kernel
theorem dX7_after_1 : decode cX7_after 1 = .ok (.aload_n 0, 1) := by decide +kernel
theorem dX7_after_2 : decode cX7_after 2 = .ok (.getfield 51, 3) := by decide +kernel
theorem dX7_after_5 : decode cX7_after 5 = .ok (.iload_n 1, 1) := by decide +kernel
theorem dX7_after_6 : decode cX7_after 6 = .ok (.iaload, 1) := by decide +kernel
theorem dX7_after_7 : decode cX7_after 7 = .ok (.aload_n 0, 1) := by decide +kernel
theorem dX7_after_8 : decode cX7_after 8 = .ok (.getfield 54, 3) := by decide +kernel
theorem dX7_after_11 : decode cX7_after 11 = .ok (.iload_n 1, 1) := by decide +kernel
theorem dX7_after_12 : decode cX7_after 12 = .ok (.iaload, 1) := by decide +kernel
theorem dX7_after_13 : decode cX7_after 13 = .ok (.aload_n 0, 1) := by decide +kernel
theorem dX7_after_14 : decode cX7_after 14 = .ok (.getfield 57, 3) := by decide +kernel
theorem dX7_after_17 : decode cX7_after 17 = .ok (.iload_n 1, 1) := by decide +kernel
theorem dX7_after_18 : decode cX7_after 18 = .ok (.iaload, 1) := by decide +kernel
theorem dX7_after_19 : decode cX7_after 19 = .ok (.aload_n 0, 1) := by decide +kernel
theorem dX7_after_20 : decode cX7_after 20 = .ok (.getfield 60, 3) := by decide +kernel
theorem dX7_after_23 : decode cX7_after 23 = .ok (.iload_n 1, 1) := by decide +kernel
theorem dX7_after_24 : decode cX7_after 24 = .ok (.iaload, 1) := by decide +kernel
theorem dX7_after_25 : decode cX7_after 25 = .ok (.iconst 1, 1) := by decide +kernel
theorem dX7_after_26 : decode cX7_after 26 = .ok (.iload_n 2, 1) := by decide +kernel
theorem dX7_after_27 : decode cX7_after 27 = .ok (.isub, 1) := by decide +kernel
theorem dX7_after_28 : decode cX7_after 28 = .ok (.invokevirtual 123, 3) := by decide +kernel
theorem dX7_after_31 : decode cX7_after 31 = .ok (.ireturn, 1) := by decide +kernel
theorem dX7_board_0 : decode cX7_board 0 = .ok (.aload_n 0, 1) := by decide +kernel
theorem dX7_board_1 : decode cX7_board 1 = .ok (.iconst 0, 1) := by decide +kernel
theorem dX7_board_2 : decode cX7_board 2 = .ok (.putfield 81, 3) := by decide +kernel
theorem dX7_board_5 : decode cX7_board 5 = .ok (.iload_n 1, 1) := by decide +kernel
theorem dX7_board_6 : decode cX7_board 6 = .ok (.iconst 4, 1) := by decide +kernel
theorem dX7_board_7 : decode cX7_board 7 = .ok (.bipush 8, 2) := by decide +kernel
theorem dX7_board_9 : decode cX7_board 9 = .ok (.invokestatic 84, 3) := by decide +kernel
theorem dX7_board_12 : decode cX7_board 12 = .ok (.ifCond .ne 5, 3) := by decide +kernel
theorem dX7_board_15 : decode cX7_board 15 = .ok (.iconst 0, 1) := by decide +kernel
theorem dX7_board_16 : decode cX7_board 16 = .ok (.ireturn, 1) := by decide +kernel
theorem dX7_board_17 : decode cX7_board 17 = .ok (.aload_n 0, 1) := by decide +kernel
theorem dX7_board_18 : decode cX7_board 18 = .ok (.iload_n 1, 1) := by decide +kernel
theorem dX7_board_19 : decode cX7_board 19 = .ok (.putfield 7, 3) := by decide +kernel
theorem dX7_board_22 : decode cX7_board 22 = .ok (.aload_n 0, 1) := by decide +kernel
theorem dX7_board_23 : decode cX7_board 23 = .ok (.iload_n 1, 1) := by decide +kernel
theorem dX7_board_24 : decode cX7_board 24 = .ok (.iload_n 1, 1) := by decide +kernel
theorem dX7_board_25 : decode cX7_board 25 = .ok (.imul, 1) := by decide +kernel
theorem dX7_board_26 : decode cX7_board 26 = .ok (.putfield 13, 3) := by decide +kernel
theorem dX7_board_29 : decode cX7_board 29 = .ok (.iconst 0, 1) := by decide +kernel
theorem dX7_board_30 : decode cX7_board 30 = .ok (.istore_n 2, 1) := by decide +kernel
theorem dX7_board_31 : decode cX7_board 31 = .ok (.iload_n 2, 1) := by decide +kernel
theorem dX7_board_32 : decode cX7_board 32 = .ok (.iconst 3, 1) := by decide +kernel
theorem dX7_board_33 : decode cX7_board 33 = .ok (.if_icmp .ge 16, 3) := by decide +kernel
theorem dX7_board_36 : decode cX7_board 36 = .ok (.aload_n 0, 1) := by decide +kernel
theorem dX7_board_37 : decode cX7_board 37 = .ok (.getfield 16, 3) := by decide +kernel
theorem dX7_board_40 : decode cX7_board 40 = .ok (.iload_n 2, 1) := by decide +kernel
theorem dX7_board_41 : decode cX7_board 41 = .ok (.iconst 0, 1) := by decide +kernel
theorem dX7_board_42 : decode cX7_board 42 = .ok (.bastore, 1) := by decide +kernel
theorem dX7_board_43 : decode cX7_board 43 = .ok (.iinc 2 1, 3) := by decide +kernel
theorem dX7_board_46 : decode cX7_board 46 = .ok (.goto (-15), 3) := by decide +kernel
theorem dX7_board_49 : decode cX7_board 49 = .ok (.aload_n 0, 1) := by decide +kernel
theorem dX7_board_50 : decode cX7_board 50 = .ok (.iconst (-1), 1) := by decide +kernel
theorem dX7_board_51 : decode cX7_board 51 = .ok (.putfield 75, 3) := by decide +kernel
theorem dX7_board_54 : decode cX7_board 54 = .ok (.iconst 1, 1) := by decide +kernel
theorem dX7_board_55 : decode cX7_board 55 = .ok (.ireturn, 1) := by decide +kernel
theorem dX7_make_0 : decode cX7_make 0 = .ok (.aload_n 0, 1) := by decide +kernel
theorem dX7_make_1 : decode cX7_make 1 = .ok (.iconst 0, 1) := by decide +kernel
theorem dX7_make_2 : decode cX7_make 2 = .ok (.putfield 81, 3) := by decide +kernel
theorem dX7_make_5 : decode cX7_make 5 = .ok (.iload_n 1, 1) := by decide +kernel
theorem dX7_make_6 : decode cX7_make 6 = .ok (.iconst 0, 1) := by decide +kernel
theorem dX7_make_7 : decode cX7_make 7 = .ok (.iconst 2, 1) := by decide +kernel
theorem dX7_make_8 : decode cX7_make 8 = .ok (.invokestatic 84, 3) := by decide +kernel
theorem dX7_make_11 : decode cX7_make 11 = .ok (.ifCond .ne 5, 3) := by decide +kernel
theorem dX7_make_14 : decode cX7_make 14 = .ok (.iconst (-1), 1) := by decide +kernel
theorem dX7_make_15 : decode cX7_make 15 = .ok (.ireturn, 1) := by decide +kernel
theorem dX7_make_16 : decode cX7_make 16 = .ok (.iload_n 1, 1) := by decide +kernel
theorem dX7_make_17 : decode cX7_make 17 = .ok (.iconst 2, 1) := by decide +kernel
theorem dX7_make_18 : decode cX7_make 18 = .ok (.if_icmp .ne 7, 3) := by decide +kernel
theorem dX7_make_21 : decode cX7_make 21 = .ok (.iconst 0, 1) := by decide +kernel
theorem dX7_make_22 : decode cX7_make 22 = .ok (.goto 4, 3) := by decide +kernel
theorem dX7_make_25 : decode cX7_make 25 = .ok (.iload_n 1, 1) := by decide +kernel
theorem dX7_make_26 : decode cX7_make 26 = .ok (.istore_n 2, 1) := by decide +kernel
theorem dX7_make_27 : decode cX7_make 27 = .ok (.iload_n 2, 1) := by decide +kernel
theorem dX7_make_28 : decode cX7_make 28 = .ok (.iload_n 1, 1) := by decide +kernel
theorem dX7_make_29 : decode cX7_make 29 = .ok (.if_icmp .gt 35, 3) := by decide +kernel
theorem dX7_make_32 : decode cX7_make 32 = .ok (.aload_n 0, 1) := by decide +kernel
theorem dX7_make_33 : decode cX7_make 33 = .ok (.getfield 16, 3) := by decide +kernel
theorem dX7_make_36 : decode cX7_make 36 = .ok (.iload_n 2, 1) := by decide +kernel
theorem dX7_make_37 : decode cX7_make 37 = .ok (.baload, 1) := by decide +kernel
theorem dX7_make_38 : decode cX7_make 38 = .ok (.ifCond .ne 20, 3) := by decide +kernel
theorem dX7_make_41 : decode cX7_make 41 = .ok (.aload_n 0, 1) := by decide +kernel
theorem dX7_make_42 : decode cX7_make 42 = .ok (.iload_n 2, 1) := by decide +kernel
theorem dX7_make_43 : decode cX7_make 43 = .ok (.invokevirtual 127, 3) := by decide +kernel
theorem dX7_make_46 : decode cX7_make 46 = .ok (.aload_n 0, 1) := by decide +kernel
theorem dX7_make_47 : decode cX7_make 47 = .ok (.iload_n 2, 1) := by decide +kernel
theorem dX7_make_48 : decode cX7_make 48 = .ok (.invokevirtual 131, 3) := by decide +kernel
theorem dX7_make_51 : decode cX7_make 51 = .ok (.aload_n 0, 1) := by decide +kernel
theorem dX7_make_52 : decode cX7_make 52 = .ok (.getfield 16, 3) := by decide +kernel
theorem dX7_make_55 : decode cX7_make 55 = .ok (.iload_n 2, 1) := by decide +kernel
theorem dX7_make_56 : decode cX7_make 56 = .ok (.iconst 1, 1) := by decide +kernel
theorem dX7_make_57 : decode cX7_make 57 = .ok (.bastore, 1) := by decide +kernel
theorem dX7_make_58 : decode cX7_make 58 = .ok (.iinc 2 1, 3) := by decide +kernel
theorem dX7_make_61 : decode cX7_make 61 = .ok (.goto (-34), 3) := by decide +kernel
theorem dX7_make_64 : decode cX7_make 64 = .ok (.aload_n 0, 1) := by decide +kernel
theorem dX7_make_65 : decode cX7_make 65 = .ok (.getfield 33, 3) := by decide +kernel
theorem dX7_make_68 : decode cX7_make 68 = .ok (.iload_n 1, 1) := by decide +kernel
theorem dX7_make_69 : decode cX7_make 69 = .ok (.iaload, 1) := by decide +kernel
theorem dX7_make_70 : decode cX7_make 70 = .ok (.ireturn, 1) := by decide +kernel
theorem dX7_decide_0 : decode cX7_decide 0 = .ok (.aload_n 0, 1) := by decide +kernel
theorem dX7_decide_1 : decode cX7_decide 1 = .ok (.getfield 21, 3) := by decide +kernel
theorem dX7_decide_4 : decode cX7_decide 4 = .ok (.ldc 118, 2) := by decide +kernel
theorem dX7_decide_6 : decode cX7_decide 6 = .ok (.iload_n 1, 1) := by decide +kernel
theorem dX7_decide_7 : decode cX7_decide 7 = .ok (.imul, 1) := by decide +kernel
theorem dX7_decide_8 : decode cX7_decide 8 = .ok (.aload_n 0, 1) := by decide +kernel
theorem dX7_decide_9 : decode cX7_decide 9 = .ok (.iload_n 2, 1) := by decide +kernel
theorem dX7_decide_10 : decode cX7_decide 10 = .ok (.iload_n 3, 1) := by decide +kernel
theorem dX7_decide_11 : decode cX7_decide 11 = .ok (.iload 4, 2) := by decide +kernel
theorem dX7_decide_13 : decode cX7_decide 13 = .ok (.iload 5, 2) := by decide +kernel
theorem dX7_decide_15 : decode cX7_decide 15 = .ok (.invokevirtual 119, 3) := by decide +kernel
theorem dX7_decide_18 : decode cX7_decide 18 = .ok (.iadd, 1) := by decide +kernel
theorem dX7_decide_19 : decode cX7_decide 19 = .ok (.iload 6, 2) := by decide +kernel
theorem dX7_decide_21 : decode cX7_decide 21 = .ok (.iconst 1, 1) := by decide +kernel
theorem dX7_decide_22 : decode cX7_decide 22 = .ok (.iadd, 1) := by decide +kernel
theorem dX7_decide_23 : decode cX7_decide 23 = .ok (.i2b, 1) := by decide +kernel
theorem dX7_decide_24 : decode cX7_decide 24 = .ok (.bastore, 1) := by decide +kernel
theorem dX7_decide_25 : decode cX7_decide 25 = .ok (.aload_n 0, 1) := by decide +kernel
theorem dX7_decide_26 : decode cX7_decide 26 = .ok (.iconst 1, 1) := by decide +kernel
theorem dX7_decide_27 : decode cX7_decide 27 = .ok (.putfield 134, 3) := by decide +kernel
theorem dX7_decide_30 : decode cX7_decide 30 = .ok (.return_, 1) := by decide +kernel
theorem dX7_isOpen_0 : decode cX7_isOpen 0 = .ok (.aload_n 0, 1) := by decide +kernel
theorem dX7_isOpen_1 : decode cX7_isOpen 1 = .ok (.iload_n 1, 1) := by decide +kernel
theorem dX7_isOpen_2 : decode cX7_isOpen 2 = .ok (.iload_n 2, 1) := by decide +kernel
theorem dX7_isOpen_3 : decode cX7_isOpen 3 = .ok (.iload_n 3, 1) := by decide +kernel
theorem dX7_isOpen_4 : decode cX7_isOpen 4 = .ok (.iload 4, 2) := by decide +kernel
theorem dX7_isOpen_6 : decode cX7_isOpen 6 = .ok (.iload 5, 2) := by decide +kernel
theorem dX7_isOpen_8 : decode cX7_isOpen 8 = .ok (.invokevirtual 107, 3) := by decide +kernel
theorem dX7_isOpen_11 : decode cX7_isOpen 11 = .ok (.ifCond .eq 30, 3) := by decide +kernel
theorem dX7_isOpen_14 : decode cX7_isOpen 14 = .ok (.aload_n 0, 1) := by decide +kernel
theorem dX7_isOpen_15 : decode cX7_isOpen 15 = .ok (.getfield 21, 3) := by decide +kernel
theorem dX7_isOpen_18 : decode cX7_isOpen 18 = .ok (.ldc 118, 2) := by decide +kernel
theorem dX7_isOpen_20 : decode cX7_isOpen 20 = .ok (.iload_n 1, 1) := by decide +kernel
theorem dX7_isOpen_21 : decode cX7_isOpen 21 = .ok (.imul, 1) := by decide +kernel
theorem dX7_isOpen_22 : decode cX7_isOpen 22 = .ok (.aload_n 0, 1) := by decide +kernel
theorem dX7_isOpen_23 : decode cX7_isOpen 23 = .ok (.iload_n 2, 1) := by decide +kernel
theorem dX7_isOpen_24 : decode cX7_isOpen 24 = .ok (.iload_n 3, 1) := by decide +kernel
theorem dX7_isOpen_25 : decode cX7_isOpen 25 = .ok (.iload 4, 2) := by decide +kernel
theorem dX7_isOpen_27 : decode cX7_isOpen 27 = .ok (.iload 5, 2) := by decide +kernel
theorem dX7_isOpen_29 : decode cX7_isOpen 29 = .ok (.invokevirtual 119, 3) := by decide +kernel
theorem dX7_isOpen_32 : decode cX7_isOpen 32 = .ok (.iadd, 1) := by decide +kernel
theorem dX7_isOpen_33 : decode cX7_isOpen 33 = .ok (.baload, 1) := by decide +kernel
theorem dX7_isOpen_34 : decode cX7_isOpen 34 = .ok (.ifCond .ne 7, 3) := by decide +kernel
theorem dX7_isOpen_37 : decode cX7_isOpen 37 = .ok (.iconst 1, 1) := by decide +kernel
theorem dX7_isOpen_38 : decode cX7_isOpen 38 = .ok (.goto 4, 3) := by decide +kernel
theorem dX7_isOpen_41 : decode cX7_isOpen 41 = .ok (.iconst 0, 1) := by decide +kernel
theorem dX7_isOpen_42 : decode cX7_isOpen 42 = .ok (.ireturn, 1) := by decide +kernel
theorem dX7_layers_0 : decode cX7_layers 0 = .ok (.iconst 2, 1) := by decide +kernel
theorem dX7_layers_1 : decode cX7_layers 1 = .ok (.aload_n 0, 1) := by decide +kernel
theorem dX7_layers_2 : decode cX7_layers 2 = .ok (.getfield 13, 3) := by decide +kernel
theorem dX7_layers_5 : decode cX7_layers 5 = .ok (.imul, 1) := by decide +kernel
theorem dX7_layers_6 : decode cX7_layers 6 = .ok (.aload_n 0, 1) := by decide +kernel
theorem dX7_layers_7 : decode cX7_layers 7 = .ok (.getfield 13, 3) := by decide +kernel
theorem dX7_layers_10 : decode cX7_layers 10 = .ok (.imul, 1) := by decide +kernel
theorem dX7_layers_11 : decode cX7_layers 11 = .ok (.aload_n 0, 1) := by decide +kernel
theorem dX7_layers_12 : decode cX7_layers 12 = .ok (.getfield 13, 3) := by decide +kernel
theorem dX7_layers_15 : decode cX7_layers 15 = .ok (.imul, 1) := by decide +kernel
theorem dX7_layers_16 : decode cX7_layers 16 = .ok (.istore_n 2, 1) := by decide +kernel
theorem dX7_layers_17 : decode cX7_layers 17 = .ok (.iconst 0, 1) := by decide +kernel
theorem dX7_layers_18 : decode cX7_layers 18 = .ok (.istore_n 3, 1) := by decide +kernel
theorem dX7_layers_19 : decode cX7_layers 19 = .ok (.iload_n 3, 1) := by decide +kernel
theorem dX7_layers_20 : decode cX7_layers 20 = .ok (.iload_n 2, 1) := by decide +kernel
theorem dX7_layers_21 : decode cX7_layers 21 = .ok (.if_icmp .ge 21, 3) := by decide +kernel
theorem dX7_layers_24 : decode cX7_layers 24 = .ok (.aload_n 0, 1) := by decide +kernel
theorem dX7_layers_25 : decode cX7_layers 25 = .ok (.getfield 21, 3) := by decide +kernel
theorem dX7_layers_28 : decode cX7_layers 28 = .ok (.ldc 118, 2) := by decide +kernel
theorem dX7_layers_30 : decode cX7_layers 30 = .ok (.iload_n 1, 1) := by decide +kernel
theorem dX7_layers_31 : decode cX7_layers 31 = .ok (.imul, 1) := by decide +kernel
theorem dX7_layers_32 : decode cX7_layers 32 = .ok (.iload_n 3, 1) := by decide +kernel
theorem dX7_layers_33 : decode cX7_layers 33 = .ok (.iadd, 1) := by decide +kernel
theorem dX7_layers_34 : decode cX7_layers 34 = .ok (.iconst 0, 1) := by decide +kernel
theorem dX7_layers_35 : decode cX7_layers 35 = .ok (.bastore, 1) := by decide +kernel
theorem dX7_layers_36 : decode cX7_layers 36 = .ok (.iinc 3 1, 3) := by decide +kernel
theorem dX7_layers_39 : decode cX7_layers 39 = .ok (.goto (-20), 3) := by decide +kernel
theorem dX7_layers_42 : decode cX7_layers 42 = .ok (.iconst 0, 1) := by decide +kernel
theorem dX7_layers_43 : decode cX7_layers 43 = .ok (.istore_n 3, 1) := by decide +kernel
theorem dX7_layers_44 : decode cX7_layers 44 = .ok (.iload_n 3, 1) := by decide +kernel
theorem dX7_layers_45 : decode cX7_layers 45 = .ok (.aload_n 0, 1) := by decide +kernel
theorem dX7_layers_46 : decode cX7_layers 46 = .ok (.getfield 13, 3) := by decide +kernel
theorem dX7_layers_49 : decode cX7_layers 49 = .ok (.if_icmp .ge 104, 3) := by decide +kernel
theorem dX7_layers_52 : decode cX7_layers 52 = .ok (.iconst 0, 1) := by decide +kernel
theorem dX7_layers_53 : decode cX7_layers 53 = .ok (.istore 4, 2) := by decide +kernel
theorem dX7_layers_55 : decode cX7_layers 55 = .ok (.iload 4, 2) := by decide +kernel
theorem dX7_layers_57 : decode cX7_layers 57 = .ok (.aload_n 0, 1) := by decide +kernel
theorem dX7_layers_58 : decode cX7_layers 58 = .ok (.getfield 13, 3) := by decide +kernel
theorem dX7_layers_61 : decode cX7_layers 61 = .ok (.if_icmp .ge 86, 3) := by decide +kernel
theorem dX7_layers_64 : decode cX7_layers 64 = .ok (.iconst 0, 1) := by decide +kernel
theorem dX7_layers_65 : decode cX7_layers 65 = .ok (.istore 5, 2) := by decide +kernel
theorem dX7_layers_67 : decode cX7_layers 67 = .ok (.iload 5, 2) := by decide +kernel
theorem dX7_layers_69 : decode cX7_layers 69 = .ok (.aload_n 0, 1) := by decide +kernel
theorem dX7_layers_70 : decode cX7_layers 70 = .ok (.getfield 13, 3) := by decide +kernel
theorem dX7_layers_73 : decode cX7_layers 73 = .ok (.if_icmp .ge 68, 3) := by decide +kernel
theorem dX7_layers_76 : decode cX7_layers 76 = .ok (.aload_n 0, 1) := by decide +kernel
theorem dX7_layers_77 : decode cX7_layers 77 = .ok (.iload_n 1, 1) := by decide +kernel
theorem dX7_layers_78 : decode cX7_layers 78 = .ok (.iload_n 3, 1) := by decide +kernel
theorem dX7_layers_79 : decode cX7_layers 79 = .ok (.iload 4, 2) := by decide +kernel
theorem dX7_layers_81 : decode cX7_layers 81 = .ok (.iload 5, 2) := by decide +kernel
theorem dX7_layers_83 : decode cX7_layers 83 = .ok (.iconst 1, 1) := by decide +kernel
theorem dX7_layers_84 : decode cX7_layers 84 = .ok (.invokevirtual 107, 3) := by decide +kernel
theorem dX7_layers_87 : decode cX7_layers 87 = .ok (.ifCond .eq 48, 3) := by decide +kernel
theorem dX7_layers_90 : decode cX7_layers 90 = .ok (.aload_n 0, 1) := by decide +kernel
theorem dX7_layers_91 : decode cX7_layers 91 = .ok (.iload_n 1, 1) := by decide +kernel
theorem dX7_layers_92 : decode cX7_layers 92 = .ok (.iload_n 3, 1) := by decide +kernel
theorem dX7_layers_93 : decode cX7_layers 93 = .ok (.iload 4, 2) := by decide +kernel
theorem dX7_layers_95 : decode cX7_layers 95 = .ok (.iload 5, 2) := by decide +kernel
theorem dX7_layers_97 : decode cX7_layers 97 = .ok (.iload 4, 2) := by decide +kernel
theorem dX7_layers_99 : decode cX7_layers 99 = .ok (.invokevirtual 100, 3) := by decide +kernel
theorem dX7_layers_102 : decode cX7_layers 102 = .ok (.ifCond .eq 33, 3) := by decide +kernel
theorem dX7_layers_105 : decode cX7_layers 105 = .ok (.aload_n 0, 1) := by decide +kernel
theorem dX7_layers_106 : decode cX7_layers 106 = .ok (.iload_n 1, 1) := by decide +kernel
theorem dX7_layers_107 : decode cX7_layers 107 = .ok (.iload_n 3, 1) := by decide +kernel
theorem dX7_layers_108 : decode cX7_layers 108 = .ok (.iload 4, 2) := by decide +kernel
theorem dX7_layers_110 : decode cX7_layers 110 = .ok (.iload 5, 2) := by decide +kernel
theorem dX7_layers_112 : decode cX7_layers 112 = .ok (.iconst 1, 1) := by decide +kernel
theorem dX7_layers_113 : decode cX7_layers 113 = .ok (.invokevirtual 138, 3) := by decide +kernel
theorem dX7_layers_116 : decode cX7_layers 116 = .ok (.aload_n 0, 1) := by decide +kernel
theorem dX7_layers_117 : decode cX7_layers 117 = .ok (.getfield 104, 3) := by decide +kernel
theorem dX7_layers_120 : decode cX7_layers 120 = .ok (.ifCond .ne 15, 3) := by decide +kernel
theorem dX7_layers_123 : decode cX7_layers 123 = .ok (.aload_n 0, 1) := by decide +kernel
theorem dX7_layers_124 : decode cX7_layers 124 = .ok (.iload_n 1, 1) := by decide +kernel
theorem dX7_layers_125 : decode cX7_layers 125 = .ok (.iload_n 3, 1) := by decide +kernel
theorem dX7_layers_126 : decode cX7_layers 126 = .ok (.iload 4, 2) := by decide +kernel
theorem dX7_layers_128 : decode cX7_layers 128 = .ok (.iload 5, 2) := by decide +kernel
theorem dX7_layers_130 : decode cX7_layers 130 = .ok (.iconst 1, 1) := by decide +kernel
theorem dX7_layers_131 : decode cX7_layers 131 = .ok (.iconst 0, 1) := by decide +kernel
theorem dX7_layers_132 : decode cX7_layers 132 = .ok (.invokevirtual 142, 3) := by decide +kernel
theorem dX7_layers_135 : decode cX7_layers 135 = .ok (.iinc 5 1, 3) := by decide +kernel
theorem dX7_layers_138 : decode cX7_layers 138 = .ok (.goto (-71), 3) := by decide +kernel
theorem dX7_layers_141 : decode cX7_layers 141 = .ok (.iinc 4 1, 3) := by decide +kernel
theorem dX7_layers_144 : decode cX7_layers 144 = .ok (.goto (-89), 3) := by decide +kernel
theorem dX7_layers_147 : decode cX7_layers 147 = .ok (.iinc 3 1, 3) := by decide +kernel
theorem dX7_layers_150 : decode cX7_layers 150 = .ok (.goto (-106), 3) := by decide +kernel
theorem dX7_layers_153 : decode cX7_layers 153 = .ok (.iconst 0, 1) := by decide +kernel
theorem dX7_layers_154 : decode cX7_layers 154 = .ok (.istore_n 3, 1) := by decide +kernel
theorem dX7_layers_155 : decode cX7_layers 155 = .ok (.iconst 1, 1) := by decide +kernel
theorem dX7_layers_156 : decode cX7_layers 156 = .ok (.istore 4, 2) := by decide +kernel
theorem dX7_layers_158 : decode cX7_layers 158 = .ok (.iload_n 3, 1) := by decide +kernel
theorem dX7_layers_159 : decode cX7_layers 159 = .ok (.iconst 2, 1) := by decide +kernel
theorem dX7_layers_160 : decode cX7_layers 160 = .ok (.if_icmp .lt 15, 3) := by decide +kernel
theorem dX7_layers_163 : decode cX7_layers 163 = .ok (.iload 4, 2) := by decide +kernel
theorem dX7_layers_165 : decode cX7_layers 165 = .ok (.bipush 100, 2) := by decide +kernel
theorem dX7_layers_167 : decode cX7_layers 167 = .ok (.if_icmp .ge 60, 3) := by decide +kernel
theorem dX7_layers_170 : decode cX7_layers 170 = .ok (.iload_n 1, 1) := by decide +kernel
theorem dX7_layers_171 : decode cX7_layers 171 = .ok (.iconst 2, 1) := by decide +kernel
theorem dX7_layers_172 : decode cX7_layers 172 = .ok (.if_icmp .ne 55, 3) := by decide +kernel
theorem dX7_layers_175 : decode cX7_layers 175 = .ok (.aload_n 0, 1) := by decide +kernel
theorem dX7_layers_176 : decode cX7_layers 176 = .ok (.iconst 0, 1) := by decide +kernel
theorem dX7_layers_177 : decode cX7_layers 177 = .ok (.putfield 134, 3) := by decide +kernel
theorem dX7_layers_180 : decode cX7_layers 180 = .ok (.aload_n 0, 1) := by decide +kernel
theorem dX7_layers_181 : decode cX7_layers 181 = .ok (.iload_n 1, 1) := by decide +kernel
theorem dX7_layers_182 : decode cX7_layers 182 = .ok (.iload 4, 2) := by decide +kernel
theorem dX7_layers_184 : decode cX7_layers 184 = .ok (.invokevirtual 146, 3) := by decide +kernel
theorem dX7_layers_187 : decode cX7_layers 187 = .ok (.iload_n 1, 1) := by decide +kernel
theorem dX7_layers_188 : decode cX7_layers 188 = .ok (.iconst 2, 1) := by decide +kernel
theorem dX7_layers_189 : decode cX7_layers 189 = .ok (.if_icmp .ne 17, 3) := by decide +kernel
theorem dX7_layers_192 : decode cX7_layers 192 = .ok (.iload 4, 2) := by decide +kernel
theorem dX7_layers_194 : decode cX7_layers 194 = .ok (.iconst 2, 1) := by decide +kernel
theorem dX7_layers_195 : decode cX7_layers 195 = .ok (.irem, 1) := by decide +kernel
theorem dX7_layers_196 : decode cX7_layers 196 = .ok (.iconst 1, 1) := by decide +kernel
theorem dX7_layers_197 : decode cX7_layers 197 = .ok (.if_icmp .ne 9, 3) := by decide +kernel
theorem dX7_layers_200 : decode cX7_layers 200 = .ok (.aload_n 0, 1) := by decide +kernel
theorem dX7_layers_201 : decode cX7_layers 201 = .ok (.iload 4, 2) := by decide +kernel
theorem dX7_layers_203 : decode cX7_layers 203 = .ok (.invokevirtual 150, 3) := by decide +kernel
theorem dX7_layers_206 : decode cX7_layers 206 = .ok (.aload_n 0, 1) := by decide +kernel
theorem dX7_layers_207 : decode cX7_layers 207 = .ok (.getfield 134, 3) := by decide +kernel
theorem dX7_layers_210 : decode cX7_layers 210 = .ok (.ifCond .eq 7, 3) := by decide +kernel
theorem dX7_layers_213 : decode cX7_layers 213 = .ok (.iconst 0, 1) := by decide +kernel
theorem dX7_layers_214 : decode cX7_layers 214 = .ok (.goto 6, 3) := by decide +kernel
theorem dX7_layers_217 : decode cX7_layers 217 = .ok (.iload_n 3, 1) := by decide +kernel
theorem dX7_layers_218 : decode cX7_layers 218 = .ok (.iconst 1, 1) := by decide +kernel
theorem dX7_layers_219 : decode cX7_layers 219 = .ok (.iadd, 1) := by decide +kernel
theorem dX7_layers_220 : decode cX7_layers 220 = .ok (.istore_n 3, 1) := by decide +kernel
theorem dX7_layers_221 : decode cX7_layers 221 = .ok (.iinc 4 1, 3) := by decide +kernel
theorem dX7_layers_224 : decode cX7_layers 224 = .ok (.goto (-66), 3) := by decide +kernel
theorem dX7_layers_227 : decode cX7_layers 227 = .ok (.return_, 1) := by decide +kernel
theorem dX7_layer_0 : decode cX7_layer 0 = .ok (.iload_n 2, 1) := by decide +kernel
theorem dX7_layer_1 : decode cX7_layer 1 = .ok (.iconst 2, 1) := by decide +kernel
theorem dX7_layer_2 : decode cX7_layer 2 = .ok (.irem, 1) := by decide +kernel
theorem dX7_layer_3 : decode cX7_layer 3 = .ok (.istore_n 3, 1) := by decide +kernel
theorem dX7_layer_4 : decode cX7_layer 4 = .ok (.iconst 0, 1) := by decide +kernel
theorem dX7_layer_5 : decode cX7_layer 5 = .ok (.istore 4, 2) := by decide +kernel
theorem dX7_layer_7 : decode cX7_layer 7 = .ok (.iload 4, 2) := by decide +kernel
theorem dX7_layer_9 : decode cX7_layer 9 = .ok (.aload_n 0, 1) := by decide +kernel
theorem dX7_layer_10 : decode cX7_layer 10 = .ok (.getfield 13, 3) := by decide +kernel
theorem dX7_layer_13 : decode cX7_layer 13 = .ok (.if_icmp .ge 102, 3) := by decide +kernel
theorem dX7_layer_16 : decode cX7_layer 16 = .ok (.iconst 0, 1) := by decide +kernel
theorem dX7_layer_17 : decode cX7_layer 17 = .ok (.istore 5, 2) := by decide +kernel
theorem dX7_layer_19 : decode cX7_layer 19 = .ok (.iload 5, 2) := by decide +kernel
theorem dX7_layer_21 : decode cX7_layer 21 = .ok (.aload_n 0, 1) := by decide +kernel
theorem dX7_layer_22 : decode cX7_layer 22 = .ok (.getfield 13, 3) := by decide +kernel
theorem dX7_layer_25 : decode cX7_layer 25 = .ok (.if_icmp .ge 84, 3) := by decide +kernel
theorem dX7_layer_28 : decode cX7_layer 28 = .ok (.iconst 0, 1) := by decide +kernel
theorem dX7_layer_29 : decode cX7_layer 29 = .ok (.istore 6, 2) := by decide +kernel
theorem dX7_layer_31 : decode cX7_layer 31 = .ok (.iload 6, 2) := by decide +kernel
theorem dX7_layer_33 : decode cX7_layer 33 = .ok (.aload_n 0, 1) := by decide +kernel
theorem dX7_layer_34 : decode cX7_layer 34 = .ok (.getfield 13, 3) := by decide +kernel
theorem dX7_layer_37 : decode cX7_layer 37 = .ok (.if_icmp .ge 66, 3) := by decide +kernel
theorem dX7_layer_40 : decode cX7_layer 40 = .ok (.aload_n 0, 1) := by decide +kernel
theorem dX7_layer_41 : decode cX7_layer 41 = .ok (.getfield 21, 3) := by decide +kernel
theorem dX7_layer_44 : decode cX7_layer 44 = .ok (.ldc 118, 2) := by decide +kernel
theorem dX7_layer_46 : decode cX7_layer 46 = .ok (.iload_n 1, 1) := by decide +kernel
theorem dX7_layer_47 : decode cX7_layer 47 = .ok (.imul, 1) := by decide +kernel
theorem dX7_layer_48 : decode cX7_layer 48 = .ok (.aload_n 0, 1) := by decide +kernel
theorem dX7_layer_49 : decode cX7_layer 49 = .ok (.iload 4, 2) := by decide +kernel
theorem dX7_layer_51 : decode cX7_layer 51 = .ok (.iload 5, 2) := by decide +kernel
theorem dX7_layer_53 : decode cX7_layer 53 = .ok (.iload 6, 2) := by decide +kernel
theorem dX7_layer_55 : decode cX7_layer 55 = .ok (.iload_n 3, 1) := by decide +kernel
theorem dX7_layer_56 : decode cX7_layer 56 = .ok (.invokevirtual 119, 3) := by decide +kernel
theorem dX7_layer_59 : decode cX7_layer 59 = .ok (.iadd, 1) := by decide +kernel
theorem dX7_layer_60 : decode cX7_layer 60 = .ok (.baload, 1) := by decide +kernel
theorem dX7_layer_61 : decode cX7_layer 61 = .ok (.iload_n 2, 1) := by decide +kernel
theorem dX7_layer_62 : decode cX7_layer 62 = .ok (.if_icmp .ne 35, 3) := by decide +kernel
theorem dX7_layer_65 : decode cX7_layer 65 = .ok (.iload_n 3, 1) := by decide +kernel
theorem dX7_layer_66 : decode cX7_layer 66 = .ok (.iconst 1, 1) := by decide +kernel
theorem dX7_layer_67 : decode cX7_layer 67 = .ok (.if_icmp .ne 18, 3) := by decide +kernel
theorem dX7_layer_70 : decode cX7_layer 70 = .ok (.aload_n 0, 1) := by decide +kernel
theorem dX7_layer_71 : decode cX7_layer 71 = .ok (.iload_n 1, 1) := by decide +kernel
theorem dX7_layer_72 : decode cX7_layer 72 = .ok (.iload 4, 2) := by decide +kernel
theorem dX7_layer_74 : decode cX7_layer 74 = .ok (.iload 5, 2) := by decide +kernel
theorem dX7_layer_76 : decode cX7_layer 76 = .ok (.iload 6, 2) := by decide +kernel
theorem dX7_layer_78 : decode cX7_layer 78 = .ok (.iload_n 2, 1) := by decide +kernel
theorem dX7_layer_79 : decode cX7_layer 79 = .ok (.invokevirtual 153, 3) := by decide +kernel
theorem dX7_layer_82 : decode cX7_layer 82 = .ok (.goto 15, 3) := by decide +kernel
theorem dX7_layer_85 : decode cX7_layer 85 = .ok (.aload_n 0, 1) := by decide +kernel
theorem dX7_layer_86 : decode cX7_layer 86 = .ok (.iload_n 1, 1) := by decide +kernel
theorem dX7_layer_87 : decode cX7_layer 87 = .ok (.iload 4, 2) := by decide +kernel
theorem dX7_layer_89 : decode cX7_layer 89 = .ok (.iload 5, 2) := by decide +kernel
theorem dX7_layer_91 : decode cX7_layer 91 = .ok (.iload 6, 2) := by decide +kernel
theorem dX7_layer_93 : decode cX7_layer 93 = .ok (.iload_n 2, 1) := by decide +kernel
theorem dX7_layer_94 : decode cX7_layer 94 = .ok (.invokevirtual 156, 3) := by decide +kernel
theorem dX7_layer_97 : decode cX7_layer 97 = .ok (.iinc 6 1, 3) := by decide +kernel
theorem dX7_layer_100 : decode cX7_layer 100 = .ok (.goto (-69), 3) := by decide +kernel
theorem dX7_layer_103 : decode cX7_layer 103 = .ok (.iinc 5 1, 3) := by decide +kernel
theorem dX7_layer_106 : decode cX7_layer 106 = .ok (.goto (-87), 3) := by decide +kernel
theorem dX7_layer_109 : decode cX7_layer 109 = .ok (.iinc 4 1, 3) := by decide +kernel
theorem dX7_layer_112 : decode cX7_layer 112 = .ok (.goto (-105), 3) := by decide +kernel
theorem dX7_layer_115 : decode cX7_layer 115 = .ok (.return_, 1) := by decide +kernel
theorem dX7_backWhite_0 : decode cX7_backWhite 0 = .ok (.iconst (-1), 1) := by decide +kernel
theorem dX7_backWhite_1 : decode cX7_backWhite 1 = .ok (.istore 6, 2) := by decide +kernel
theorem dX7_backWhite_3 : decode cX7_backWhite 3 = .ok (.iload 6, 2) := by decide +kernel
theorem dX7_backWhite_5 : decode cX7_backWhite 5 = .ok (.iconst 1, 1) := by decide +kernel
theorem dX7_backWhite_6 : decode cX7_backWhite 6 = .ok (.if_icmp .gt 181, 3) := by decide +kernel
theorem dX7_backWhite_9 : decode cX7_backWhite 9 = .ok (.iconst (-1), 1) := by decide +kernel
theorem dX7_backWhite_10 : decode cX7_backWhite 10 = .ok (.istore 7, 2) := by decide +kernel
theorem dX7_backWhite_12 : decode cX7_backWhite 12 = .ok (.iload 7, 2) := by decide +kernel
theorem dX7_backWhite_14 : decode cX7_backWhite 14 = .ok (.iconst 1, 1) := by decide +kernel
theorem dX7_backWhite_15 : decode cX7_backWhite 15 = .ok (.if_icmp .gt 166, 3) := by decide +kernel
theorem dX7_backWhite_18 : decode cX7_backWhite 18 = .ok (.iload 6, 2) := by decide +kernel
theorem dX7_backWhite_20 : decode cX7_backWhite 20 = .ok (.ifCond .ne 12, 3) := by decide +kernel
theorem dX7_backWhite_23 : decode cX7_backWhite 23 = .ok (.iload 7, 2) := by decide +kernel
theorem dX7_backWhite_25 : decode cX7_backWhite 25 = .ok (.ifCond .ne 7, 3) := by decide +kernel
theorem dX7_backWhite_28 : decode cX7_backWhite 28 = .ok (.iconst (-1), 1) := by decide +kernel
theorem dX7_backWhite_29 : decode cX7_backWhite 29 = .ok (.goto 12, 3) := by decide +kernel
theorem dX7_backWhite_32 : decode cX7_backWhite 32 = .ok (.aload_n 0, 1) := by decide +kernel
theorem dX7_backWhite_33 : decode cX7_backWhite 33 = .ok (.iload_n 2, 1) := by decide +kernel
theorem dX7_backWhite_34 : decode cX7_backWhite 34 = .ok (.iload 6, 2) := by decide +kernel
theorem dX7_backWhite_36 : decode cX7_backWhite 36 = .ok (.iload 7, 2) := by decide +kernel
theorem dX7_backWhite_38 : decode cX7_backWhite 38 = .ok (.invokevirtual 92, 3) := by decide +kernel
theorem dX7_backWhite_41 : decode cX7_backWhite 41 = .ok (.istore 8, 2) := by decide +kernel
theorem dX7_backWhite_43 : decode cX7_backWhite 43 = .ok (.iload 8, 2) := by decide +kernel
theorem dX7_backWhite_45 : decode cX7_backWhite 45 = .ok (.iconst (-1), 1) := by decide +kernel
theorem dX7_backWhite_46 : decode cX7_backWhite 46 = .ok (.if_icmp .eq 30, 3) := by decide +kernel
theorem dX7_backWhite_49 : decode cX7_backWhite 49 = .ok (.aload_n 0, 1) := by decide +kernel
theorem dX7_backWhite_50 : decode cX7_backWhite 50 = .ok (.iload_n 1, 1) := by decide +kernel
theorem dX7_backWhite_51 : decode cX7_backWhite 51 = .ok (.iload 8, 2) := by decide +kernel
theorem dX7_backWhite_53 : decode cX7_backWhite 53 = .ok (.iload_n 3, 1) := by decide +kernel
theorem dX7_backWhite_54 : decode cX7_backWhite 54 = .ok (.iload 4, 2) := by decide +kernel
theorem dX7_backWhite_56 : decode cX7_backWhite 56 = .ok (.iconst 0, 1) := by decide +kernel
theorem dX7_backWhite_57 : decode cX7_backWhite 57 = .ok (.invokevirtual 159, 3) := by decide +kernel
theorem dX7_backWhite_60 : decode cX7_backWhite 60 = .ok (.ifCond .eq 16, 3) := by decide +kernel
theorem dX7_backWhite_63 : decode cX7_backWhite 63 = .ok (.aload_n 0, 1) := by decide +kernel
theorem dX7_backWhite_64 : decode cX7_backWhite 64 = .ok (.iload_n 1, 1) := by decide +kernel
theorem dX7_backWhite_65 : decode cX7_backWhite 65 = .ok (.iload 8, 2) := by decide +kernel
theorem dX7_backWhite_67 : decode cX7_backWhite 67 = .ok (.iload_n 3, 1) := by decide +kernel
theorem dX7_backWhite_68 : decode cX7_backWhite 68 = .ok (.iload 4, 2) := by decide +kernel
theorem dX7_backWhite_70 : decode cX7_backWhite 70 = .ok (.iconst 0, 1) := by decide +kernel
theorem dX7_backWhite_71 : decode cX7_backWhite 71 = .ok (.iload 5, 2) := by decide +kernel
theorem dX7_backWhite_73 : decode cX7_backWhite 73 = .ok (.invokevirtual 142, 3) := by decide +kernel
theorem dX7_backWhite_76 : decode cX7_backWhite 76 = .ok (.iload_n 1, 1) := by decide +kernel
theorem dX7_backWhite_77 : decode cX7_backWhite 77 = .ok (.iconst 2, 1) := by decide +kernel
theorem dX7_backWhite_78 : decode cX7_backWhite 78 = .ok (.if_icmp .ge 97, 3) := by decide +kernel
theorem dX7_backWhite_81 : decode cX7_backWhite 81 = .ok (.iload 6, 2) := by decide +kernel
theorem dX7_backWhite_83 : decode cX7_backWhite 83 = .ok (.ifCond .ne 8, 3) := by decide +kernel
theorem dX7_backWhite_86 : decode cX7_backWhite 86 = .ok (.iload 7, 2) := by decide +kernel
theorem dX7_backWhite_88 : decode cX7_backWhite 88 = .ok (.ifCond .eq 87, 3) := by decide +kernel
theorem dX7_backWhite_91 : decode cX7_backWhite 91 = .ok (.iload_n 1, 1) := by decide +kernel
theorem dX7_backWhite_92 : decode cX7_backWhite 92 = .ok (.ifCond .eq 13, 3) := by decide +kernel
theorem dX7_backWhite_95 : decode cX7_backWhite 95 = .ok (.iload 6, 2) := by decide +kernel
theorem dX7_backWhite_97 : decode cX7_backWhite 97 = .ok (.ifCond .eq 8, 3) := by decide +kernel
theorem dX7_backWhite_100 : decode cX7_backWhite 100 = .ok (.iload 7, 2) := by decide +kernel
theorem dX7_backWhite_102 : decode cX7_backWhite 102 = .ok (.ifCond .ne 73, 3) := by decide +kernel
theorem dX7_backWhite_105 : decode cX7_backWhite 105 = .ok (.aload_n 0, 1) := by decide +kernel
theorem dX7_backWhite_106 : decode cX7_backWhite 106 = .ok (.iload 4, 2) := by decide +kernel
theorem dX7_backWhite_108 : decode cX7_backWhite 108 = .ok (.iload 6, 2) := by decide +kernel
theorem dX7_backWhite_110 : decode cX7_backWhite 110 = .ok (.iload 7, 2) := by decide +kernel
theorem dX7_backWhite_112 : decode cX7_backWhite 112 = .ok (.invokevirtual 92, 3) := by decide +kernel
theorem dX7_backWhite_115 : decode cX7_backWhite 115 = .ok (.istore 9, 2) := by decide +kernel
theorem dX7_backWhite_117 : decode cX7_backWhite 117 = .ok (.iload 9, 2) := by decide +kernel
theorem dX7_backWhite_119 : decode cX7_backWhite 119 = .ok (.iconst (-1), 1) := by decide +kernel
theorem dX7_backWhite_120 : decode cX7_backWhite 120 = .ok (.if_icmp .eq 55, 3) := by decide +kernel
theorem dX7_backWhite_123 : decode cX7_backWhite 123 = .ok (.iload 9, 2) := by decide +kernel
theorem dX7_backWhite_125 : decode cX7_backWhite 125 = .ok (.iload_n 2, 1) := by decide +kernel
theorem dX7_backWhite_126 : decode cX7_backWhite 126 = .ok (.if_icmp .eq 49, 3) := by decide +kernel
theorem dX7_backWhite_129 : decode cX7_backWhite 129 = .ok (.iload 9, 2) := by decide +kernel
theorem dX7_backWhite_131 : decode cX7_backWhite 131 = .ok (.iload_n 3, 1) := by decide +kernel
theorem dX7_backWhite_132 : decode cX7_backWhite 132 = .ok (.if_icmp .eq 43, 3) := by decide +kernel
theorem dX7_backWhite_135 : decode cX7_backWhite 135 = .ok (.aload_n 0, 1) := by decide +kernel
theorem dX7_backWhite_136 : decode cX7_backWhite 136 = .ok (.iload_n 1, 1) := by decide +kernel
theorem dX7_backWhite_137 : decode cX7_backWhite 137 = .ok (.iload_n 2, 1) := by decide +kernel
theorem dX7_backWhite_138 : decode cX7_backWhite 138 = .ok (.iload_n 3, 1) := by decide +kernel
theorem dX7_backWhite_139 : decode cX7_backWhite 139 = .ok (.iload 9, 2) := by decide +kernel
theorem dX7_backWhite_141 : decode cX7_backWhite 141 = .ok (.iconst 0, 1) := by decide +kernel
theorem dX7_backWhite_142 : decode cX7_backWhite 142 = .ok (.invokevirtual 159, 3) := by decide +kernel
theorem dX7_backWhite_145 : decode cX7_backWhite 145 = .ok (.ifCond .eq 15, 3) := by decide +kernel
theorem dX7_backWhite_148 : decode cX7_backWhite 148 = .ok (.aload_n 0, 1) := by decide +kernel
theorem dX7_backWhite_149 : decode cX7_backWhite 149 = .ok (.iload_n 1, 1) := by decide +kernel
theorem dX7_backWhite_150 : decode cX7_backWhite 150 = .ok (.iload_n 2, 1) := by decide +kernel
theorem dX7_backWhite_151 : decode cX7_backWhite 151 = .ok (.iload_n 3, 1) := by decide +kernel
theorem dX7_backWhite_152 : decode cX7_backWhite 152 = .ok (.iload 9, 2) := by decide +kernel
theorem dX7_backWhite_154 : decode cX7_backWhite 154 = .ok (.iconst 0, 1) := by decide +kernel
theorem dX7_backWhite_155 : decode cX7_backWhite 155 = .ok (.iload 5, 2) := by decide +kernel
theorem dX7_backWhite_157 : decode cX7_backWhite 157 = .ok (.invokevirtual 142, 3) := by decide +kernel
theorem dX7_backWhite_160 : decode cX7_backWhite 160 = .ok (.aload_n 0, 1) := by decide +kernel
theorem dX7_backWhite_161 : decode cX7_backWhite 161 = .ok (.iload 9, 2) := by decide +kernel
theorem dX7_backWhite_163 : decode cX7_backWhite 163 = .ok (.iload 6, 2) := by decide +kernel
theorem dX7_backWhite_165 : decode cX7_backWhite 165 = .ok (.iload 7, 2) := by decide +kernel
theorem dX7_backWhite_167 : decode cX7_backWhite 167 = .ok (.invokevirtual 92, 3) := by decide +kernel
theorem dX7_backWhite_170 : decode cX7_backWhite 170 = .ok (.istore 9, 2) := by decide +kernel
theorem dX7_backWhite_172 : decode cX7_backWhite 172 = .ok (.goto (-55), 3) := by decide +kernel
theorem dX7_backWhite_175 : decode cX7_backWhite 175 = .ok (.iinc 7 1, 3) := by decide +kernel
theorem dX7_backWhite_178 : decode cX7_backWhite 178 = .ok (.goto (-166), 3) := by decide +kernel
theorem dX7_backWhite_181 : decode cX7_backWhite 181 = .ok (.iinc 6 1, 3) := by decide +kernel
theorem dX7_backWhite_184 : decode cX7_backWhite 184 = .ok (.goto (-181), 3) := by decide +kernel
theorem dX7_backWhite_187 : decode cX7_backWhite 187 = .ok (.iload_n 1, 1) := by decide +kernel
theorem dX7_backWhite_188 : decode cX7_backWhite 188 = .ok (.iconst 2, 1) := by decide +kernel
theorem dX7_backWhite_189 : decode cX7_backWhite 189 = .ok (.if_icmp .ne 117, 3) := by decide +kernel
theorem dX7_backWhite_192 : decode cX7_backWhite 192 = .ok (.iload 4, 2) := by decide +kernel
theorem dX7_backWhite_194 : decode cX7_backWhite 194 = .ok (.aload_n 0, 1) := by decide +kernel
theorem dX7_backWhite_195 : decode cX7_backWhite 195 = .ok (.getfield 7, 3) := by decide +kernel
theorem dX7_backWhite_198 : decode cX7_backWhite 198 = .ok (.isub, 1) := by decide +kernel
theorem dX7_backWhite_199 : decode cX7_backWhite 199 = .ok (.istore 6, 2) := by decide +kernel
theorem dX7_backWhite_201 : decode cX7_backWhite 201 = .ok (.iload 6, 2) := by decide +kernel
theorem dX7_backWhite_203 : decode cX7_backWhite 203 = .ok (.ifCond .lt 19, 3) := by decide +kernel
theorem dX7_backWhite_206 : decode cX7_backWhite 206 = .ok (.iload 6, 2) := by decide +kernel
theorem dX7_backWhite_208 : decode cX7_backWhite 208 = .ok (.iload_n 2, 1) := by decide +kernel
theorem dX7_backWhite_209 : decode cX7_backWhite 209 = .ok (.if_icmp .eq 13, 3) := by decide +kernel
theorem dX7_backWhite_212 : decode cX7_backWhite 212 = .ok (.iload 6, 2) := by decide +kernel
theorem dX7_backWhite_214 : decode cX7_backWhite 214 = .ok (.iload_n 3, 1) := by decide +kernel
theorem dX7_backWhite_215 : decode cX7_backWhite 215 = .ok (.if_icmp .eq 7, 3) := by decide +kernel
theorem dX7_backWhite_218 : decode cX7_backWhite 218 = .ok (.iconst 1, 1) := by decide +kernel
theorem dX7_backWhite_219 : decode cX7_backWhite 219 = .ok (.goto 4, 3) := by decide +kernel
theorem dX7_backWhite_222 : decode cX7_backWhite 222 = .ok (.iconst 0, 1) := by decide +kernel
theorem dX7_backWhite_223 : decode cX7_backWhite 223 = .ok (.istore 7, 2) := by decide +kernel
theorem dX7_backWhite_225 : decode cX7_backWhite 225 = .ok (.iload 7, 2) := by decide +kernel
theorem dX7_backWhite_227 : decode cX7_backWhite 227 = .ok (.ifCond .eq 28, 3) := by decide +kernel
theorem dX7_backWhite_230 : decode cX7_backWhite 230 = .ok (.aload_n 0, 1) := by decide +kernel
theorem dX7_backWhite_231 : decode cX7_backWhite 231 = .ok (.iload_n 1, 1) := by decide +kernel
theorem dX7_backWhite_232 : decode cX7_backWhite 232 = .ok (.iload_n 2, 1) := by decide +kernel
theorem dX7_backWhite_233 : decode cX7_backWhite 233 = .ok (.iload_n 3, 1) := by decide +kernel
theorem dX7_backWhite_234 : decode cX7_backWhite 234 = .ok (.iload 6, 2) := by decide +kernel
theorem dX7_backWhite_236 : decode cX7_backWhite 236 = .ok (.iconst 0, 1) := by decide +kernel
theorem dX7_backWhite_237 : decode cX7_backWhite 237 = .ok (.invokevirtual 159, 3) := by decide +kernel
theorem dX7_backWhite_240 : decode cX7_backWhite 240 = .ok (.ifCond .eq 15, 3) := by decide +kernel
theorem dX7_backWhite_243 : decode cX7_backWhite 243 = .ok (.aload_n 0, 1) := by decide +kernel
theorem dX7_backWhite_244 : decode cX7_backWhite 244 = .ok (.iload_n 1, 1) := by decide +kernel
theorem dX7_backWhite_245 : decode cX7_backWhite 245 = .ok (.iload_n 2, 1) := by decide +kernel
theorem dX7_backWhite_246 : decode cX7_backWhite 246 = .ok (.iload_n 3, 1) := by decide +kernel
theorem dX7_backWhite_247 : decode cX7_backWhite 247 = .ok (.iload 6, 2) := by decide +kernel
theorem dX7_backWhite_249 : decode cX7_backWhite 249 = .ok (.iconst 0, 1) := by decide +kernel
theorem dX7_backWhite_250 : decode cX7_backWhite 250 = .ok (.iload 5, 2) := by decide +kernel
theorem dX7_backWhite_252 : decode cX7_backWhite 252 = .ok (.invokevirtual 142, 3) := by decide +kernel
theorem dX7_backWhite_255 : decode cX7_backWhite 255 = .ok (.iload 7, 2) := by decide +kernel
theorem dX7_backWhite_257 : decode cX7_backWhite 257 = .ok (.ifCond .eq 49, 3) := by decide +kernel
theorem dX7_backWhite_260 : decode cX7_backWhite 260 = .ok (.iload 4, 2) := by decide +kernel
theorem dX7_backWhite_262 : decode cX7_backWhite 262 = .ok (.aload_n 0, 1) := by decide +kernel
theorem dX7_backWhite_263 : decode cX7_backWhite 263 = .ok (.getfield 7, 3) := by decide +kernel
theorem dX7_backWhite_266 : decode cX7_backWhite 266 = .ok (.idiv, 1) := by decide +kernel
theorem dX7_backWhite_267 : decode cX7_backWhite 267 = .ok (.iconst 3, 1) := by decide +kernel
theorem dX7_backWhite_268 : decode cX7_backWhite 268 = .ok (.if_icmp .ne 38, 3) := by decide +kernel
theorem dX7_backWhite_271 : decode cX7_backWhite 271 = .ok (.aload_n 0, 1) := by decide +kernel
theorem dX7_backWhite_272 : decode cX7_backWhite 272 = .ok (.iload_n 1, 1) := by decide +kernel
theorem dX7_backWhite_273 : decode cX7_backWhite 273 = .ok (.iload_n 2, 1) := by decide +kernel
theorem dX7_backWhite_274 : decode cX7_backWhite 274 = .ok (.iload_n 3, 1) := by decide +kernel
theorem dX7_backWhite_275 : decode cX7_backWhite 275 = .ok (.iload 6, 2) := by decide +kernel
theorem dX7_backWhite_277 : decode cX7_backWhite 277 = .ok (.aload_n 0, 1) := by decide +kernel
theorem dX7_backWhite_278 : decode cX7_backWhite 278 = .ok (.getfield 7, 3) := by decide +kernel
theorem dX7_backWhite_281 : decode cX7_backWhite 281 = .ok (.isub, 1) := by decide +kernel
theorem dX7_backWhite_282 : decode cX7_backWhite 282 = .ok (.iconst 0, 1) := by decide +kernel
theorem dX7_backWhite_283 : decode cX7_backWhite 283 = .ok (.invokevirtual 159, 3) := by decide +kernel
theorem dX7_backWhite_286 : decode cX7_backWhite 286 = .ok (.ifCond .eq 20, 3) := by decide +kernel
theorem dX7_backWhite_289 : decode cX7_backWhite 289 = .ok (.aload_n 0, 1) := by decide +kernel
theorem dX7_backWhite_290 : decode cX7_backWhite 290 = .ok (.iload_n 1, 1) := by decide +kernel
theorem dX7_backWhite_291 : decode cX7_backWhite 291 = .ok (.iload_n 2, 1) := by decide +kernel
theorem dX7_backWhite_292 : decode cX7_backWhite 292 = .ok (.iload_n 3, 1) := by decide +kernel
theorem dX7_backWhite_293 : decode cX7_backWhite 293 = .ok (.iload 6, 2) := by decide +kernel
theorem dX7_backWhite_295 : decode cX7_backWhite 295 = .ok (.aload_n 0, 1) := by decide +kernel
theorem dX7_backWhite_296 : decode cX7_backWhite 296 = .ok (.getfield 7, 3) := by decide +kernel
theorem dX7_backWhite_299 : decode cX7_backWhite 299 = .ok (.isub, 1) := by decide +kernel
theorem dX7_backWhite_300 : decode cX7_backWhite 300 = .ok (.iconst 0, 1) := by decide +kernel
theorem dX7_backWhite_301 : decode cX7_backWhite 301 = .ok (.iload 5, 2) := by decide +kernel
theorem dX7_backWhite_303 : decode cX7_backWhite 303 = .ok (.invokevirtual 142, 3) := by decide +kernel
theorem dX7_backWhite_306 : decode cX7_backWhite 306 = .ok (.return_, 1) := by decide +kernel
theorem dX7_backBlack_0 : decode cX7_backBlack 0 = .ok (.iconst (-1), 1) := by decide +kernel
theorem dX7_backBlack_1 : decode cX7_backBlack 1 = .ok (.istore 6, 2) := by decide +kernel
theorem dX7_backBlack_3 : decode cX7_backBlack 3 = .ok (.iload 6, 2) := by decide +kernel
theorem dX7_backBlack_5 : decode cX7_backBlack 5 = .ok (.iconst 1, 1) := by decide +kernel
theorem dX7_backBlack_6 : decode cX7_backBlack 6 = .ok (.if_icmp .gt 95, 3) := by decide +kernel
theorem dX7_backBlack_9 : decode cX7_backBlack 9 = .ok (.iconst (-1), 1) := by decide +kernel
theorem dX7_backBlack_10 : decode cX7_backBlack 10 = .ok (.istore 7, 2) := by decide +kernel
theorem dX7_backBlack_12 : decode cX7_backBlack 12 = .ok (.iload 7, 2) := by decide +kernel
theorem dX7_backBlack_14 : decode cX7_backBlack 14 = .ok (.iconst 1, 1) := by decide +kernel
theorem dX7_backBlack_15 : decode cX7_backBlack 15 = .ok (.if_icmp .gt 80, 3) := by decide +kernel
theorem dX7_backBlack_18 : decode cX7_backBlack 18 = .ok (.iload 6, 2) := by decide +kernel
theorem dX7_backBlack_20 : decode cX7_backBlack 20 = .ok (.ifCond .ne 12, 3) := by decide +kernel
theorem dX7_backBlack_23 : decode cX7_backBlack 23 = .ok (.iload 7, 2) := by decide +kernel
theorem dX7_backBlack_25 : decode cX7_backBlack 25 = .ok (.ifCond .ne 7, 3) := by decide +kernel
theorem dX7_backBlack_28 : decode cX7_backBlack 28 = .ok (.iconst (-1), 1) := by decide +kernel
theorem dX7_backBlack_29 : decode cX7_backBlack 29 = .ok (.goto 12, 3) := by decide +kernel
theorem dX7_backBlack_32 : decode cX7_backBlack 32 = .ok (.aload_n 0, 1) := by decide +kernel
theorem dX7_backBlack_33 : decode cX7_backBlack 33 = .ok (.iload_n 3, 1) := by decide +kernel
theorem dX7_backBlack_34 : decode cX7_backBlack 34 = .ok (.iload 6, 2) := by decide +kernel
theorem dX7_backBlack_36 : decode cX7_backBlack 36 = .ok (.iload 7, 2) := by decide +kernel
theorem dX7_backBlack_38 : decode cX7_backBlack 38 = .ok (.invokevirtual 92, 3) := by decide +kernel
theorem dX7_backBlack_41 : decode cX7_backBlack 41 = .ok (.istore 8, 2) := by decide +kernel
theorem dX7_backBlack_43 : decode cX7_backBlack 43 = .ok (.iload 8, 2) := by decide +kernel
theorem dX7_backBlack_45 : decode cX7_backBlack 45 = .ok (.iconst (-1), 1) := by decide +kernel
theorem dX7_backBlack_46 : decode cX7_backBlack 46 = .ok (.if_icmp .eq 43, 3) := by decide +kernel
theorem dX7_backBlack_49 : decode cX7_backBlack 49 = .ok (.aload_n 0, 1) := by decide +kernel
theorem dX7_backBlack_50 : decode cX7_backBlack 50 = .ok (.iload_n 1, 1) := by decide +kernel
theorem dX7_backBlack_51 : decode cX7_backBlack 51 = .ok (.iload_n 2, 1) := by decide +kernel
theorem dX7_backBlack_52 : decode cX7_backBlack 52 = .ok (.iload 8, 2) := by decide +kernel
theorem dX7_backBlack_54 : decode cX7_backBlack 54 = .ok (.iload 4, 2) := by decide +kernel
theorem dX7_backBlack_56 : decode cX7_backBlack 56 = .ok (.iconst 1, 1) := by decide +kernel
theorem dX7_backBlack_57 : decode cX7_backBlack 57 = .ok (.invokevirtual 159, 3) := by decide +kernel
theorem dX7_backBlack_60 : decode cX7_backBlack 60 = .ok (.ifCond .eq 29, 3) := by decide +kernel
theorem dX7_backBlack_63 : decode cX7_backBlack 63 = .ok (.aload_n 0, 1) := by decide +kernel
theorem dX7_backBlack_64 : decode cX7_backBlack 64 = .ok (.iload_n 1, 1) := by decide +kernel
theorem dX7_backBlack_65 : decode cX7_backBlack 65 = .ok (.iload_n 2, 1) := by decide +kernel
theorem dX7_backBlack_66 : decode cX7_backBlack 66 = .ok (.iload 8, 2) := by decide +kernel
theorem dX7_backBlack_68 : decode cX7_backBlack 68 = .ok (.iload 4, 2) := by decide +kernel
theorem dX7_backBlack_70 : decode cX7_backBlack 70 = .ok (.invokevirtual 162, 3) := by decide +kernel
theorem dX7_backBlack_73 : decode cX7_backBlack 73 = .ok (.ifCond .eq 16, 3) := by decide +kernel
theorem dX7_backBlack_76 : decode cX7_backBlack 76 = .ok (.aload_n 0, 1) := by decide +kernel
theorem dX7_backBlack_77 : decode cX7_backBlack 77 = .ok (.iload_n 1, 1) := by decide +kernel
theorem dX7_backBlack_78 : decode cX7_backBlack 78 = .ok (.iload_n 2, 1) := by decide +kernel
theorem dX7_backBlack_79 : decode cX7_backBlack 79 = .ok (.iload 8, 2) := by decide +kernel
theorem dX7_backBlack_81 : decode cX7_backBlack 81 = .ok (.iload 4, 2) := by decide +kernel
theorem dX7_backBlack_83 : decode cX7_backBlack 83 = .ok (.iconst 1, 1) := by decide +kernel
theorem dX7_backBlack_84 : decode cX7_backBlack 84 = .ok (.iload 5, 2) := by decide +kernel
theorem dX7_backBlack_86 : decode cX7_backBlack 86 = .ok (.invokevirtual 142, 3) := by decide +kernel
theorem dX7_backBlack_89 : decode cX7_backBlack 89 = .ok (.iinc 7 1, 3) := by decide +kernel
theorem dX7_backBlack_92 : decode cX7_backBlack 92 = .ok (.goto (-80), 3) := by decide +kernel
theorem dX7_backBlack_95 : decode cX7_backBlack 95 = .ok (.iinc 6 1, 3) := by decide +kernel
theorem dX7_backBlack_98 : decode cX7_backBlack 98 = .ok (.goto (-95), 3) := by decide +kernel
theorem dX7_backBlack_101 : decode cX7_backBlack 101 = .ok (.return_, 1) := by decide +kernel
theorem dX7_allDecided_0 : decode cX7_allDecided 0 = .ok (.aload_n 0, 1) := by decide +kernel
theorem dX7_allDecided_1 : decode cX7_allDecided 1 = .ok (.iload_n 1, 1) := by decide +kernel
theorem dX7_allDecided_2 : decode cX7_allDecided 2 = .ok (.iload_n 2, 1) := by decide +kernel
theorem dX7_allDecided_3 : decode cX7_allDecided 3 = .ok (.iload_n 3, 1) := by decide +kernel
theorem dX7_allDecided_4 : decode cX7_allDecided 4 = .ok (.iload 4, 2) := by decide +kernel
theorem dX7_allDecided_6 : decode cX7_allDecided 6 = .ok (.iconst 1, 1) := by decide +kernel
theorem dX7_allDecided_7 : decode cX7_allDecided 7 = .ok (.invokevirtual 138, 3) := by decide +kernel
theorem dX7_allDecided_10 : decode cX7_allDecided 10 = .ok (.iconst 0, 1) := by decide +kernel
theorem dX7_allDecided_11 : decode cX7_allDecided 11 = .ok (.istore 5, 2) := by decide +kernel
theorem dX7_allDecided_13 : decode cX7_allDecided 13 = .ok (.iload 5, 2) := by decide +kernel
theorem dX7_allDecided_15 : decode cX7_allDecided 15 = .ok (.aload_n 0, 1) := by decide +kernel
theorem dX7_allDecided_16 : decode cX7_allDecided 16 = .ok (.getfield 104, 3) := by decide +kernel
theorem dX7_allDecided_19 : decode cX7_allDecided 19 = .ok (.if_icmp .ge 22, 3) := by decide +kernel
theorem dX7_allDecided_22 : decode cX7_allDecided 22 = .ok (.aload_n 0, 1) := by decide +kernel
theorem dX7_allDecided_23 : decode cX7_allDecided 23 = .ok (.iload 5, 2) := by decide +kernel
theorem dX7_allDecided_25 : decode cX7_allDecided 25 = .ok (.iconst 1, 1) := by decide +kernel
theorem dX7_allDecided_26 : decode cX7_allDecided 26 = .ok (.invokevirtual 166, 3) := by decide +kernel
theorem dX7_allDecided_29 : decode cX7_allDecided 29 = .ok (.iconst (-1), 1) := by decide +kernel
theorem dX7_allDecided_30 : decode cX7_allDecided 30 = .ok (.if_icmp .ne 5, 3) := by decide +kernel
theorem dX7_allDecided_33 : decode cX7_allDecided 33 = .ok (.iconst 0, 1) := by decide +kernel
theorem dX7_allDecided_34 : decode cX7_allDecided 34 = .ok (.ireturn, 1) := by decide +kernel
theorem dX7_allDecided_35 : decode cX7_allDecided 35 = .ok (.iinc 5 1, 3) := by decide +kernel
theorem dX7_allDecided_38 : decode cX7_allDecided 38 = .ok (.goto (-25), 3) := by decide +kernel
theorem dX7_allDecided_41 : decode cX7_allDecided 41 = .ok (.aload_n 0, 1) := by decide +kernel
theorem dX7_allDecided_42 : decode cX7_allDecided 42 = .ok (.getfield 104, 3) := by decide +kernel
theorem dX7_allDecided_45 : decode cX7_allDecided 45 = .ok (.ifCond .le 7, 3) := by decide +kernel
theorem dX7_allDecided_48 : decode cX7_allDecided 48 = .ok (.iconst 1, 1) := by decide +kernel
theorem dX7_allDecided_49 : decode cX7_allDecided 49 = .ok (.goto 4, 3) := by decide +kernel
theorem dX7_allDecided_52 : decode cX7_allDecided 52 = .ok (.iconst 0, 1) := by decide +kernel
theorem dX7_allDecided_53 : decode cX7_allDecided 53 = .ok (.ireturn, 1) := by decide +kernel
theorem dX7_promotions_0 : decode cX7_promotions 0 = .ok (.iconst 0, 1) := by decide +kernel
theorem dX7_promotions_1 : decode cX7_promotions 1 = .ok (.istore_n 2, 1) := by decide +kernel
theorem dX7_promotions_2 : decode cX7_promotions 2 = .ok (.iload_n 2, 1) := by decide +kernel
theorem dX7_promotions_3 : decode cX7_promotions 3 = .ok (.aload_n 0, 1) := by decide +kernel
theorem dX7_promotions_4 : decode cX7_promotions 4 = .ok (.getfield 13, 3) := by decide +kernel
theorem dX7_promotions_7 : decode cX7_promotions 7 = .ok (.if_icmp .ge 138, 3) := by decide +kernel
theorem dX7_promotions_10 : decode cX7_promotions 10 = .ok (.iconst 0, 1) := by decide +kernel
theorem dX7_promotions_11 : decode cX7_promotions 11 = .ok (.istore_n 3, 1) := by decide +kernel
theorem dX7_promotions_12 : decode cX7_promotions 12 = .ok (.iload_n 3, 1) := by decide +kernel
theorem dX7_promotions_13 : decode cX7_promotions 13 = .ok (.aload_n 0, 1) := by decide +kernel
theorem dX7_promotions_14 : decode cX7_promotions 14 = .ok (.getfield 13, 3) := by decide +kernel
theorem dX7_promotions_17 : decode cX7_promotions 17 = .ok (.if_icmp .ge 122, 3) := by decide +kernel
theorem dX7_promotions_20 : decode cX7_promotions 20 = .ok (.aload_n 0, 1) := by decide +kernel
theorem dX7_promotions_21 : decode cX7_promotions 21 = .ok (.getfield 13, 3) := by decide +kernel
theorem dX7_promotions_24 : decode cX7_promotions 24 = .ok (.iconst 2, 1) := by decide +kernel
theorem dX7_promotions_25 : decode cX7_promotions 25 = .ok (.aload_n 0, 1) := by decide +kernel
theorem dX7_promotions_26 : decode cX7_promotions 26 = .ok (.getfield 7, 3) := by decide +kernel
theorem dX7_promotions_29 : decode cX7_promotions 29 = .ok (.imul, 1) := by decide +kernel
theorem dX7_promotions_30 : decode cX7_promotions 30 = .ok (.isub, 1) := by decide +kernel
theorem dX7_promotions_31 : decode cX7_promotions 31 = .ok (.istore 4, 2) := by decide +kernel
theorem dX7_promotions_33 : decode cX7_promotions 33 = .ok (.iload 4, 2) := by decide +kernel
theorem dX7_promotions_35 : decode cX7_promotions 35 = .ok (.aload_n 0, 1) := by decide +kernel
theorem dX7_promotions_36 : decode cX7_promotions 36 = .ok (.getfield 13, 3) := by decide +kernel
theorem dX7_promotions_39 : decode cX7_promotions 39 = .ok (.aload_n 0, 1) := by decide +kernel
theorem dX7_promotions_40 : decode cX7_promotions 40 = .ok (.getfield 7, 3) := by decide +kernel
theorem dX7_promotions_43 : decode cX7_promotions 43 = .ok (.isub, 1) := by decide +kernel
theorem dX7_promotions_44 : decode cX7_promotions 44 = .ok (.if_icmp .ge 89, 3) := by decide +kernel
theorem dX7_promotions_47 : decode cX7_promotions 47 = .ok (.iload 4, 2) := by decide +kernel
theorem dX7_promotions_49 : decode cX7_promotions 49 = .ok (.aload_n 0, 1) := by decide +kernel
theorem dX7_promotions_50 : decode cX7_promotions 50 = .ok (.getfield 7, 3) := by decide +kernel
theorem dX7_promotions_53 : decode cX7_promotions 53 = .ok (.iadd, 1) := by decide +kernel
theorem dX7_promotions_54 : decode cX7_promotions 54 = .ok (.istore 5, 2) := by decide +kernel
theorem dX7_promotions_56 : decode cX7_promotions 56 = .ok (.iload 5, 2) := by decide +kernel
theorem dX7_promotions_58 : decode cX7_promotions 58 = .ok (.iload_n 2, 1) := by decide +kernel
theorem dX7_promotions_59 : decode cX7_promotions 59 = .ok (.if_icmp .eq 68, 3) := by decide +kernel
theorem dX7_promotions_62 : decode cX7_promotions 62 = .ok (.iload 5, 2) := by decide +kernel
theorem dX7_promotions_64 : decode cX7_promotions 64 = .ok (.iload_n 3, 1) := by decide +kernel
theorem dX7_promotions_65 : decode cX7_promotions 65 = .ok (.if_icmp .eq 62, 3) := by decide +kernel
theorem dX7_promotions_68 : decode cX7_promotions 68 = .ok (.aload_n 0, 1) := by decide +kernel
theorem dX7_promotions_69 : decode cX7_promotions 69 = .ok (.iconst 2, 1) := by decide +kernel
theorem dX7_promotions_70 : decode cX7_promotions 70 = .ok (.iload_n 2, 1) := by decide +kernel
theorem dX7_promotions_71 : decode cX7_promotions 71 = .ok (.iload_n 3, 1) := by decide +kernel
theorem dX7_promotions_72 : decode cX7_promotions 72 = .ok (.iload 4, 2) := by decide +kernel
theorem dX7_promotions_74 : decode cX7_promotions 74 = .ok (.iconst 0, 1) := by decide +kernel
theorem dX7_promotions_75 : decode cX7_promotions 75 = .ok (.invokevirtual 159, 3) := by decide +kernel
theorem dX7_promotions_78 : decode cX7_promotions 78 = .ok (.ifCond .ne 6, 3) := by decide +kernel
theorem dX7_promotions_81 : decode cX7_promotions 81 = .ok (.goto 46, 3) := by decide +kernel
theorem dX7_promotions_84 : decode cX7_promotions 84 = .ok (.aload_n 0, 1) := by decide +kernel
theorem dX7_promotions_85 : decode cX7_promotions 85 = .ok (.iconst 0, 1) := by decide +kernel
theorem dX7_promotions_86 : decode cX7_promotions 86 = .ok (.iload_n 2, 1) := by decide +kernel
theorem dX7_promotions_87 : decode cX7_promotions 87 = .ok (.iload_n 3, 1) := by decide +kernel
theorem dX7_promotions_88 : decode cX7_promotions 88 = .ok (.iload 5, 2) := by decide +kernel
theorem dX7_promotions_90 : decode cX7_promotions 90 = .ok (.iconst 1, 1) := by decide +kernel
theorem dX7_promotions_91 : decode cX7_promotions 91 = .ok (.invokevirtual 123, 3) := by decide +kernel
theorem dX7_promotions_94 : decode cX7_promotions 94 = .ok (.iload_n 1, 1) := by decide +kernel
theorem dX7_promotions_95 : decode cX7_promotions 95 = .ok (.iconst 1, 1) := by decide +kernel
theorem dX7_promotions_96 : decode cX7_promotions 96 = .ok (.isub, 1) := by decide +kernel
theorem dX7_promotions_97 : decode cX7_promotions 97 = .ok (.if_icmp .eq 19, 3) := by decide +kernel
theorem dX7_promotions_100 : decode cX7_promotions 100 = .ok (.aload_n 0, 1) := by decide +kernel
theorem dX7_promotions_101 : decode cX7_promotions 101 = .ok (.iconst 1, 1) := by decide +kernel
theorem dX7_promotions_102 : decode cX7_promotions 102 = .ok (.iload_n 2, 1) := by decide +kernel
theorem dX7_promotions_103 : decode cX7_promotions 103 = .ok (.iload_n 3, 1) := by decide +kernel
theorem dX7_promotions_104 : decode cX7_promotions 104 = .ok (.iload 5, 2) := by decide +kernel
theorem dX7_promotions_106 : decode cX7_promotions 106 = .ok (.iconst 1, 1) := by decide +kernel
theorem dX7_promotions_107 : decode cX7_promotions 107 = .ok (.invokevirtual 123, 3) := by decide +kernel
theorem dX7_promotions_110 : decode cX7_promotions 110 = .ok (.iload_n 1, 1) := by decide +kernel
theorem dX7_promotions_111 : decode cX7_promotions 111 = .ok (.iconst 1, 1) := by decide +kernel
theorem dX7_promotions_112 : decode cX7_promotions 112 = .ok (.isub, 1) := by decide +kernel
theorem dX7_promotions_113 : decode cX7_promotions 113 = .ok (.if_icmp .ne 14, 3) := by decide +kernel
theorem dX7_promotions_116 : decode cX7_promotions 116 = .ok (.aload_n 0, 1) := by decide +kernel
theorem dX7_promotions_117 : decode cX7_promotions 117 = .ok (.iconst 2, 1) := by decide +kernel
theorem dX7_promotions_118 : decode cX7_promotions 118 = .ok (.iload_n 2, 1) := by decide +kernel
theorem dX7_promotions_119 : decode cX7_promotions 119 = .ok (.iload_n 3, 1) := by decide +kernel
theorem dX7_promotions_120 : decode cX7_promotions 120 = .ok (.iload 4, 2) := by decide +kernel
theorem dX7_promotions_122 : decode cX7_promotions 122 = .ok (.iconst 0, 1) := by decide +kernel
theorem dX7_promotions_123 : decode cX7_promotions 123 = .ok (.iload_n 1, 1) := by decide +kernel
theorem dX7_promotions_124 : decode cX7_promotions 124 = .ok (.invokevirtual 142, 3) := by decide +kernel
theorem dX7_promotions_127 : decode cX7_promotions 127 = .ok (.iinc 4 1, 3) := by decide +kernel
theorem dX7_promotions_130 : decode cX7_promotions 130 = .ok (.goto (-97), 3) := by decide +kernel
theorem dX7_promotions_133 : decode cX7_promotions 133 = .ok (.iinc 3 1, 3) := by decide +kernel
theorem dX7_promotions_136 : decode cX7_promotions 136 = .ok (.goto (-124), 3) := by decide +kernel
theorem dX7_promotions_139 : decode cX7_promotions 139 = .ok (.iinc 2 1, 3) := by decide +kernel
theorem dX7_promotions_142 : decode cX7_promotions 142 = .ok (.goto (-140), 3) := by decide +kernel
theorem dX7_promotions_145 : decode cX7_promotions 145 = .ok (.return_, 1) := by decide +kernel
theorem dX7_image_0 : decode cX7_image 0 = .ok (.iload_n 1, 1) := by decide +kernel
theorem dX7_image_1 : decode cX7_image 1 = .ok (.aload_n 0, 1) := by decide +kernel
theorem dX7_image_2 : decode cX7_image 2 = .ok (.getfield 7, 3) := by decide +kernel
theorem dX7_image_5 : decode cX7_image 5 = .ok (.irem, 1) := by decide +kernel
theorem dX7_image_6 : decode cX7_image 6 = .ok (.istore_n 3, 1) := by decide +kernel
theorem dX7_image_7 : decode cX7_image 7 = .ok (.iload_n 1, 1) := by decide +kernel
theorem dX7_image_8 : decode cX7_image 8 = .ok (.aload_n 0, 1) := by decide +kernel
theorem dX7_image_9 : decode cX7_image 9 = .ok (.getfield 7, 3) := by decide +kernel
theorem dX7_image_12 : decode cX7_image 12 = .ok (.idiv, 1) := by decide +kernel
theorem dX7_image_13 : decode cX7_image 13 = .ok (.istore 4, 2) := by decide +kernel
theorem dX7_image_15 : decode cX7_image 15 = .ok (.iload_n 2, 1) := by decide +kernel
theorem dX7_image_16 : decode cX7_image 16 = .ok (.iconst 4, 1) := by decide +kernel
theorem dX7_image_17 : decode cX7_image 17 = .ok (.iand, 1) := by decide +kernel
theorem dX7_image_18 : decode cX7_image 18 = .ok (.ifCond .eq 13, 3) := by decide +kernel
theorem dX7_image_21 : decode cX7_image 21 = .ok (.iload_n 3, 1) := by decide +kernel
theorem dX7_image_22 : decode cX7_image 22 = .ok (.istore 5, 2) := by decide +kernel
theorem dX7_image_24 : decode cX7_image 24 = .ok (.iload 4, 2) := by decide +kernel
theorem dX7_image_26 : decode cX7_image 26 = .ok (.istore_n 3, 1) := by decide +kernel
theorem dX7_image_27 : decode cX7_image 27 = .ok (.iload 5, 2) := by decide +kernel
theorem dX7_image_29 : decode cX7_image 29 = .ok (.istore 4, 2) := by decide +kernel
theorem dX7_image_31 : decode cX7_image 31 = .ok (.iload_n 2, 1) := by decide +kernel
theorem dX7_image_32 : decode cX7_image 32 = .ok (.iconst 1, 1) := by decide +kernel
theorem dX7_image_33 : decode cX7_image 33 = .ok (.iand, 1) := by decide +kernel
theorem dX7_image_34 : decode cX7_image 34 = .ok (.ifCond .eq 14, 3) := by decide +kernel
theorem dX7_image_37 : decode cX7_image 37 = .ok (.aload_n 0, 1) := by decide +kernel
theorem dX7_image_38 : decode cX7_image 38 = .ok (.getfield 7, 3) := by decide +kernel
theorem dX7_image_41 : decode cX7_image 41 = .ok (.iconst 1, 1) := by decide +kernel
theorem dX7_image_42 : decode cX7_image 42 = .ok (.isub, 1) := by decide +kernel
theorem dX7_image_43 : decode cX7_image 43 = .ok (.iload_n 3, 1) := by decide +kernel
theorem dX7_image_44 : decode cX7_image 44 = .ok (.isub, 1) := by decide +kernel
theorem dX7_image_45 : decode cX7_image 45 = .ok (.goto 4, 3) := by decide +kernel
theorem dX7_image_48 : decode cX7_image 48 = .ok (.iload_n 3, 1) := by decide +kernel
theorem dX7_image_49 : decode cX7_image 49 = .ok (.istore_n 3, 1) := by decide +kernel
theorem dX7_image_50 : decode cX7_image 50 = .ok (.iload_n 2, 1) := by decide +kernel
theorem dX7_image_51 : decode cX7_image 51 = .ok (.iconst 2, 1) := by decide +kernel
theorem dX7_image_52 : decode cX7_image 52 = .ok (.iand, 1) := by decide +kernel
theorem dX7_image_53 : decode cX7_image 53 = .ok (.ifCond .eq 15, 3) := by decide +kernel
theorem dX7_image_56 : decode cX7_image 56 = .ok (.aload_n 0, 1) := by decide +kernel
theorem dX7_image_57 : decode cX7_image 57 = .ok (.getfield 7, 3) := by decide +kernel
theorem dX7_image_60 : decode cX7_image 60 = .ok (.iconst 1, 1) := by decide +kernel
theorem dX7_image_61 : decode cX7_image 61 = .ok (.isub, 1) := by decide +kernel
theorem dX7_image_62 : decode cX7_image 62 = .ok (.iload 4, 2) := by decide +kernel
theorem dX7_image_64 : decode cX7_image 64 = .ok (.isub, 1) := by decide +kernel
theorem dX7_image_65 : decode cX7_image 65 = .ok (.goto 5, 3) := by decide +kernel
theorem dX7_image_68 : decode cX7_image 68 = .ok (.iload 4, 2) := by decide +kernel
theorem dX7_image_70 : decode cX7_image 70 = .ok (.istore 4, 2) := by decide +kernel
theorem dX7_image_72 : decode cX7_image 72 = .ok (.aload_n 0, 1) := by decide +kernel
theorem dX7_image_73 : decode cX7_image 73 = .ok (.getfield 7, 3) := by decide +kernel
theorem dX7_image_76 : decode cX7_image 76 = .ok (.iload 4, 2) := by decide +kernel
theorem dX7_image_78 : decode cX7_image 78 = .ok (.imul, 1) := by decide +kernel
theorem dX7_image_79 : decode cX7_image 79 = .ok (.iload_n 3, 1) := by decide +kernel
theorem dX7_image_80 : decode cX7_image 80 = .ok (.iadd, 1) := by decide +kernel
theorem dX7_image_81 : decode cX7_image 81 = .ok (.ireturn, 1) := by decide +kernel
theorem dX7_least_0 : decode cX7_least 0 = .ok (.aload_n 0, 1) := by decide +kernel
theorem dX7_least_1 : decode cX7_least 1 = .ok (.iload_n 2, 1) := by decide +kernel
theorem dX7_least_2 : decode cX7_least 2 = .ok (.iload_n 3, 1) := by decide +kernel
theorem dX7_least_3 : decode cX7_least 3 = .ok (.iload 4, 2) := by decide +kernel
theorem dX7_least_5 : decode cX7_least 5 = .ok (.iload 5, 2) := by decide +kernel
theorem dX7_least_7 : decode cX7_least 7 = .ok (.invokevirtual 119, 3) := by decide +kernel
theorem dX7_least_10 : decode cX7_least 10 = .ok (.istore 6, 2) := by decide +kernel
theorem dX7_least_12 : decode cX7_least 12 = .ok (.iconst 1, 1) := by decide +kernel
theorem dX7_least_13 : decode cX7_least 13 = .ok (.istore 7, 2) := by decide +kernel
theorem dX7_least_15 : decode cX7_least 15 = .ok (.iload 7, 2) := by decide +kernel
theorem dX7_least_17 : decode cX7_least 17 = .ok (.iload_n 1, 1) := by decide +kernel
theorem dX7_least_18 : decode cX7_least 18 = .ok (.iconst 2, 1) := by decide +kernel
theorem dX7_least_19 : decode cX7_least 19 = .ok (.if_icmp .ne 7, 3) := by decide +kernel
theorem dX7_least_22 : decode cX7_least 22 = .ok (.iconst 2, 1) := by decide +kernel
theorem dX7_least_23 : decode cX7_least 23 = .ok (.goto 5, 3) := by decide +kernel
theorem dX7_least_26 : decode cX7_least 26 = .ok (.bipush 8, 2) := by decide +kernel
theorem dX7_least_28 : decode cX7_least 28 = .ok (.if_icmp .ge 55, 3) := by decide +kernel
theorem dX7_least_31 : decode cX7_least 31 = .ok (.aload_n 0, 1) := by decide +kernel
theorem dX7_least_32 : decode cX7_least 32 = .ok (.aload_n 0, 1) := by decide +kernel
theorem dX7_least_33 : decode cX7_least 33 = .ok (.iload_n 2, 1) := by decide +kernel
theorem dX7_least_34 : decode cX7_least 34 = .ok (.iload 7, 2) := by decide +kernel
theorem dX7_least_36 : decode cX7_least 36 = .ok (.invokevirtual 170, 3) := by decide +kernel
theorem dX7_least_39 : decode cX7_least 39 = .ok (.aload_n 0, 1) := by decide +kernel
theorem dX7_least_40 : decode cX7_least 40 = .ok (.iload_n 3, 1) := by decide +kernel
theorem dX7_least_41 : decode cX7_least 41 = .ok (.iload 7, 2) := by decide +kernel
theorem dX7_least_43 : decode cX7_least 43 = .ok (.invokevirtual 170, 3) := by decide +kernel
theorem dX7_least_46 : decode cX7_least 46 = .ok (.aload_n 0, 1) := by decide +kernel
theorem dX7_least_47 : decode cX7_least 47 = .ok (.iload 4, 2) := by decide +kernel
theorem dX7_least_49 : decode cX7_least 49 = .ok (.iload 7, 2) := by decide +kernel
theorem dX7_least_51 : decode cX7_least 51 = .ok (.invokevirtual 170, 3) := by decide +kernel
theorem dX7_least_54 : decode cX7_least 54 = .ok (.iload 5, 2) := by decide +kernel
theorem dX7_least_56 : decode cX7_least 56 = .ok (.invokevirtual 119, 3) := by decide +kernel
theorem dX7_least_59 : decode cX7_least 59 = .ok (.istore 8, 2) := by decide +kernel
theorem dX7_least_61 : decode cX7_least 61 = .ok (.iload 8, 2) := by decide +kernel
theorem dX7_least_63 : decode cX7_least 63 = .ok (.iload 6, 2) := by decide +kernel
theorem dX7_least_65 : decode cX7_least 65 = .ok (.if_icmp .ge 8, 3) := by decide +kernel
theorem dX7_least_68 : decode cX7_least 68 = .ok (.iload 8, 2) := by decide +kernel
theorem dX7_least_70 : decode cX7_least 70 = .ok (.goto 5, 3) := by decide +kernel
theorem dX7_least_73 : decode cX7_least 73 = .ok (.iload 6, 2) := by decide +kernel
theorem dX7_least_75 : decode cX7_least 75 = .ok (.istore 6, 2) := by decide +kernel
theorem dX7_least_77 : decode cX7_least 77 = .ok (.iinc 7 1, 3) := by decide +kernel
theorem dX7_least_80 : decode cX7_least 80 = .ok (.goto (-65), 3) := by decide +kernel
theorem dX7_least_83 : decode cX7_least 83 = .ok (.iload 6, 2) := by decide +kernel
theorem dX7_least_85 : decode cX7_least 85 = .ok (.ireturn, 1) := by decide +kernel
theorem dX7_numbers_0 : decode cX7_numbers 0 = .ok (.iconst 0, 1) := by decide +kernel
theorem dX7_numbers_1 : decode cX7_numbers 1 = .ok (.istore_n 2, 1) := by decide +kernel
theorem dX7_numbers_2 : decode cX7_numbers 2 = .ok (.iload_n 2, 1) := by decide +kernel
theorem dX7_numbers_3 : decode cX7_numbers 3 = .ok (.sipush 16384, 3) := by decide +kernel
theorem dX7_numbers_6 : decode cX7_numbers 6 = .ok (.if_icmp .ge 22, 3) := by decide +kernel
theorem dX7_numbers_9 : decode cX7_numbers 9 = .ok (.aload_n 0, 1) := by decide +kernel
theorem dX7_numbers_10 : decode cX7_numbers 10 = .ok (.getfield 26, 3) := by decide +kernel
theorem dX7_numbers_13 : decode cX7_numbers 13 = .ok (.sipush 16384, 3) := by decide +kernel
theorem dX7_numbers_16 : decode cX7_numbers 16 = .ok (.iload_n 1, 1) := by decide +kernel
theorem dX7_numbers_17 : decode cX7_numbers 17 = .ok (.imul, 1) := by decide +kernel
theorem dX7_numbers_18 : decode cX7_numbers 18 = .ok (.iload_n 2, 1) := by decide +kernel
theorem dX7_numbers_19 : decode cX7_numbers 19 = .ok (.iadd, 1) := by decide +kernel
theorem dX7_numbers_20 : decode cX7_numbers 20 = .ok (.iconst 0, 1) := by decide +kernel
theorem dX7_numbers_21 : decode cX7_numbers 21 = .ok (.iastore, 1) := by decide +kernel
theorem dX7_numbers_22 : decode cX7_numbers 22 = .ok (.iinc 2 1, 3) := by decide +kernel
theorem dX7_numbers_25 : decode cX7_numbers 25 = .ok (.goto (-23), 3) := by decide +kernel
theorem dX7_numbers_28 : decode cX7_numbers 28 = .ok (.iconst 0, 1) := by decide +kernel
theorem dX7_numbers_29 : decode cX7_numbers 29 = .ok (.istore_n 2, 1) := by decide +kernel
theorem dX7_numbers_30 : decode cX7_numbers 30 = .ok (.iconst 2, 1) := by decide +kernel
theorem dX7_numbers_31 : decode cX7_numbers 31 = .ok (.aload_n 0, 1) := by decide +kernel
theorem dX7_numbers_32 : decode cX7_numbers 32 = .ok (.getfield 13, 3) := by decide +kernel
theorem dX7_numbers_35 : decode cX7_numbers 35 = .ok (.imul, 1) := by decide +kernel
theorem dX7_numbers_36 : decode cX7_numbers 36 = .ok (.aload_n 0, 1) := by decide +kernel
theorem dX7_numbers_37 : decode cX7_numbers 37 = .ok (.getfield 13, 3) := by decide +kernel
theorem dX7_numbers_40 : decode cX7_numbers 40 = .ok (.imul, 1) := by decide +kernel
theorem dX7_numbers_41 : decode cX7_numbers 41 = .ok (.aload_n 0, 1) := by decide +kernel
theorem dX7_numbers_42 : decode cX7_numbers 42 = .ok (.getfield 13, 3) := by decide +kernel
theorem dX7_numbers_45 : decode cX7_numbers 45 = .ok (.imul, 1) := by decide +kernel
theorem dX7_numbers_46 : decode cX7_numbers 46 = .ok (.istore_n 3, 1) := by decide +kernel
theorem dX7_numbers_47 : decode cX7_numbers 47 = .ok (.iconst 0, 1) := by decide +kernel
theorem dX7_numbers_48 : decode cX7_numbers 48 = .ok (.istore 4, 2) := by decide +kernel
theorem dX7_numbers_50 : decode cX7_numbers 50 = .ok (.iload 4, 2) := by decide +kernel
theorem dX7_numbers_52 : decode cX7_numbers 52 = .ok (.iload_n 3, 1) := by decide +kernel
theorem dX7_numbers_53 : decode cX7_numbers 53 = .ok (.if_icmp .ge 144, 3) := by decide +kernel
theorem dX7_numbers_56 : decode cX7_numbers 56 = .ok (.iload 4, 2) := by decide +kernel
theorem dX7_numbers_58 : decode cX7_numbers 58 = .ok (.bipush 31, 2) := by decide +kernel
theorem dX7_numbers_60 : decode cX7_numbers 60 = .ok (.iand, 1) := by decide +kernel
theorem dX7_numbers_61 : decode cX7_numbers 61 = .ok (.ifCond .ne 19, 3) := by decide +kernel
theorem dX7_numbers_64 : decode cX7_numbers 64 = .ok (.aload_n 0, 1) := by decide +kernel
theorem dX7_numbers_65 : decode cX7_numbers 65 = .ok (.getfield 30, 3) := by decide +kernel
theorem dX7_numbers_68 : decode cX7_numbers 68 = .ok (.sipush 16384, 3) := by decide +kernel
theorem dX7_numbers_71 : decode cX7_numbers 71 = .ok (.iload_n 1, 1) := by decide +kernel
theorem dX7_numbers_72 : decode cX7_numbers 72 = .ok (.imul, 1) := by decide +kernel
theorem dX7_numbers_73 : decode cX7_numbers 73 = .ok (.iload 4, 2) := by decide +kernel
theorem dX7_numbers_75 : decode cX7_numbers 75 = .ok (.iconst 5, 1) := by decide +kernel
theorem dX7_numbers_76 : decode cX7_numbers 76 = .ok (.ishr, 1) := by decide +kernel
theorem dX7_numbers_77 : decode cX7_numbers 77 = .ok (.iadd, 1) := by decide +kernel
theorem dX7_numbers_78 : decode cX7_numbers 78 = .ok (.iload_n 2, 1) := by decide +kernel
theorem dX7_numbers_79 : decode cX7_numbers 79 = .ok (.iastore, 1) := by decide +kernel
theorem dX7_numbers_80 : decode cX7_numbers 80 = .ok (.iload 4, 2) := by decide +kernel
theorem dX7_numbers_82 : decode cX7_numbers 82 = .ok (.iconst 1, 1) := by decide +kernel
theorem dX7_numbers_83 : decode cX7_numbers 83 = .ok (.iand, 1) := by decide +kernel
theorem dX7_numbers_84 : decode cX7_numbers 84 = .ok (.istore 5, 2) := by decide +kernel
theorem dX7_numbers_86 : decode cX7_numbers 86 = .ok (.iload 4, 2) := by decide +kernel
theorem dX7_numbers_88 : decode cX7_numbers 88 = .ok (.iconst 2, 1) := by decide +kernel
theorem dX7_numbers_89 : decode cX7_numbers 89 = .ok (.idiv, 1) := by decide +kernel
theorem dX7_numbers_90 : decode cX7_numbers 90 = .ok (.aload_n 0, 1) := by decide +kernel
theorem dX7_numbers_91 : decode cX7_numbers 91 = .ok (.getfield 13, 3) := by decide +kernel
theorem dX7_numbers_94 : decode cX7_numbers 94 = .ok (.irem, 1) := by decide +kernel
theorem dX7_numbers_95 : decode cX7_numbers 95 = .ok (.istore 6, 2) := by decide +kernel
theorem dX7_numbers_97 : decode cX7_numbers 97 = .ok (.iload 4, 2) := by decide +kernel
theorem dX7_numbers_99 : decode cX7_numbers 99 = .ok (.iconst 2, 1) := by decide +kernel
theorem dX7_numbers_100 : decode cX7_numbers 100 = .ok (.idiv, 1) := by decide +kernel
theorem dX7_numbers_101 : decode cX7_numbers 101 = .ok (.aload_n 0, 1) := by decide +kernel
theorem dX7_numbers_102 : decode cX7_numbers 102 = .ok (.getfield 13, 3) := by decide +kernel
theorem dX7_numbers_105 : decode cX7_numbers 105 = .ok (.idiv, 1) := by decide +kernel
theorem dX7_numbers_106 : decode cX7_numbers 106 = .ok (.aload_n 0, 1) := by decide +kernel
theorem dX7_numbers_107 : decode cX7_numbers 107 = .ok (.getfield 13, 3) := by decide +kernel
theorem dX7_numbers_110 : decode cX7_numbers 110 = .ok (.irem, 1) := by decide +kernel
theorem dX7_numbers_111 : decode cX7_numbers 111 = .ok (.istore 7, 2) := by decide +kernel
theorem dX7_numbers_113 : decode cX7_numbers 113 = .ok (.iload 4, 2) := by decide +kernel
theorem dX7_numbers_115 : decode cX7_numbers 115 = .ok (.iconst 2, 1) := by decide +kernel
theorem dX7_numbers_116 : decode cX7_numbers 116 = .ok (.idiv, 1) := by decide +kernel
theorem dX7_numbers_117 : decode cX7_numbers 117 = .ok (.aload_n 0, 1) := by decide +kernel
theorem dX7_numbers_118 : decode cX7_numbers 118 = .ok (.getfield 13, 3) := by decide +kernel
theorem dX7_numbers_121 : decode cX7_numbers 121 = .ok (.idiv, 1) := by decide +kernel
theorem dX7_numbers_122 : decode cX7_numbers 122 = .ok (.aload_n 0, 1) := by decide +kernel
theorem dX7_numbers_123 : decode cX7_numbers 123 = .ok (.getfield 13, 3) := by decide +kernel
theorem dX7_numbers_126 : decode cX7_numbers 126 = .ok (.idiv, 1) := by decide +kernel
theorem dX7_numbers_127 : decode cX7_numbers 127 = .ok (.istore 8, 2) := by decide +kernel
theorem dX7_numbers_129 : decode cX7_numbers 129 = .ok (.aload_n 0, 1) := by decide +kernel
theorem dX7_numbers_130 : decode cX7_numbers 130 = .ok (.iload_n 1, 1) := by decide +kernel
theorem dX7_numbers_131 : decode cX7_numbers 131 = .ok (.iload 8, 2) := by decide +kernel
theorem dX7_numbers_133 : decode cX7_numbers 133 = .ok (.iload 7, 2) := by decide +kernel
theorem dX7_numbers_135 : decode cX7_numbers 135 = .ok (.iload 6, 2) := by decide +kernel
theorem dX7_numbers_137 : decode cX7_numbers 137 = .ok (.iload 5, 2) := by decide +kernel
theorem dX7_numbers_139 : decode cX7_numbers 139 = .ok (.invokevirtual 107, 3) := by decide +kernel
theorem dX7_numbers_142 : decode cX7_numbers 142 = .ok (.ifCond .eq 49, 3) := by decide +kernel
theorem dX7_numbers_145 : decode cX7_numbers 145 = .ok (.aload_n 0, 1) := by decide +kernel
theorem dX7_numbers_146 : decode cX7_numbers 146 = .ok (.iload_n 1, 1) := by decide +kernel
theorem dX7_numbers_147 : decode cX7_numbers 147 = .ok (.iload 8, 2) := by decide +kernel
theorem dX7_numbers_149 : decode cX7_numbers 149 = .ok (.iload 7, 2) := by decide +kernel
theorem dX7_numbers_151 : decode cX7_numbers 151 = .ok (.iload 6, 2) := by decide +kernel
theorem dX7_numbers_153 : decode cX7_numbers 153 = .ok (.iload 5, 2) := by decide +kernel
theorem dX7_numbers_155 : decode cX7_numbers 155 = .ok (.invokevirtual 173, 3) := by decide +kernel
theorem dX7_numbers_158 : decode cX7_numbers 158 = .ok (.iload 4, 2) := by decide +kernel
theorem dX7_numbers_160 : decode cX7_numbers 160 = .ok (.if_icmp .ne 31, 3) := by decide +kernel
theorem dX7_numbers_163 : decode cX7_numbers 163 = .ok (.aload_n 0, 1) := by decide +kernel
theorem dX7_numbers_164 : decode cX7_numbers 164 = .ok (.getfield 26, 3) := by decide +kernel
theorem dX7_numbers_167 : decode cX7_numbers 167 = .ok (.sipush 16384, 3) := by decide +kernel
theorem dX7_numbers_170 : decode cX7_numbers 170 = .ok (.iload_n 1, 1) := by decide +kernel
theorem dX7_numbers_171 : decode cX7_numbers 171 = .ok (.imul, 1) := by decide +kernel
theorem dX7_numbers_172 : decode cX7_numbers 172 = .ok (.iload 4, 2) := by decide +kernel
theorem dX7_numbers_174 : decode cX7_numbers 174 = .ok (.iconst 5, 1) := by decide +kernel
theorem dX7_numbers_175 : decode cX7_numbers 175 = .ok (.ishr, 1) := by decide +kernel
theorem dX7_numbers_176 : decode cX7_numbers 176 = .ok (.iadd, 1) := by decide +kernel
theorem dX7_numbers_177 : decode cX7_numbers 177 = .ok (.dup2, 1) := by decide +kernel
theorem dX7_numbers_178 : decode cX7_numbers 178 = .ok (.iaload, 1) := by decide +kernel
theorem dX7_numbers_179 : decode cX7_numbers 179 = .ok (.iconst 1, 1) := by decide +kernel
theorem dX7_numbers_180 : decode cX7_numbers 180 = .ok (.iload 4, 2) := by decide +kernel
theorem dX7_numbers_182 : decode cX7_numbers 182 = .ok (.bipush 31, 2) := by decide +kernel
theorem dX7_numbers_184 : decode cX7_numbers 184 = .ok (.iand, 1) := by decide +kernel
theorem dX7_numbers_185 : decode cX7_numbers 185 = .ok (.ishl, 1) := by decide +kernel
theorem dX7_numbers_186 : decode cX7_numbers 186 = .ok (.ior, 1) := by decide +kernel
theorem dX7_numbers_187 : decode cX7_numbers 187 = .ok (.iastore, 1) := by decide +kernel
theorem dX7_numbers_188 : decode cX7_numbers 188 = .ok (.iinc 2 1, 3) := by decide +kernel
theorem dX7_numbers_191 : decode cX7_numbers 191 = .ok (.iinc 4 1, 3) := by decide +kernel
theorem dX7_numbers_194 : decode cX7_numbers 194 = .ok (.goto (-144), 3) := by decide +kernel
theorem dX7_numbers_197 : decode cX7_numbers 197 = .ok (.aload_n 0, 1) := by decide +kernel
theorem dX7_numbers_198 : decode cX7_numbers 198 = .ok (.getfield 33, 3) := by decide +kernel
theorem dX7_numbers_201 : decode cX7_numbers 201 = .ok (.iload_n 1, 1) := by decide +kernel
theorem dX7_numbers_202 : decode cX7_numbers 202 = .ok (.iload_n 2, 1) := by decide +kernel
theorem dX7_numbers_203 : decode cX7_numbers 203 = .ok (.iastore, 1) := by decide +kernel
theorem dX7_numbers_204 : decode cX7_numbers 204 = .ok (.return_, 1) := by decide +kernel
theorem dX7_isCanon_0 : decode cX7_isCanon 0 = .ok (.aload_n 0, 1) := by decide +kernel
theorem dX7_isCanon_1 : decode cX7_isCanon 1 = .ok (.getfield 26, 3) := by decide +kernel
theorem dX7_isCanon_4 : decode cX7_isCanon 4 = .ok (.sipush 16384, 3) := by decide +kernel
theorem dX7_isCanon_7 : decode cX7_isCanon 7 = .ok (.iload_n 1, 1) := by decide +kernel
theorem dX7_isCanon_8 : decode cX7_isCanon 8 = .ok (.imul, 1) := by decide +kernel
theorem dX7_isCanon_9 : decode cX7_isCanon 9 = .ok (.iload_n 2, 1) := by decide +kernel
theorem dX7_isCanon_10 : decode cX7_isCanon 10 = .ok (.iconst 5, 1) := by decide +kernel
theorem dX7_isCanon_11 : decode cX7_isCanon 11 = .ok (.ishr, 1) := by decide +kernel
theorem dX7_isCanon_12 : decode cX7_isCanon 12 = .ok (.iadd, 1) := by decide +kernel
theorem dX7_isCanon_13 : decode cX7_isCanon 13 = .ok (.iaload, 1) := by decide +kernel
theorem dX7_isCanon_14 : decode cX7_isCanon 14 = .ok (.iload_n 2, 1) := by decide +kernel
theorem dX7_isCanon_15 : decode cX7_isCanon 15 = .ok (.bipush 31, 2) := by decide +kernel
theorem dX7_isCanon_17 : decode cX7_isCanon 17 = .ok (.iand, 1) := by decide +kernel
theorem dX7_isCanon_18 : decode cX7_isCanon 18 = .ok (.ishr, 1) := by decide +kernel
theorem dX7_isCanon_19 : decode cX7_isCanon 19 = .ok (.iconst 1, 1) := by decide +kernel
theorem dX7_isCanon_20 : decode cX7_isCanon 20 = .ok (.iand, 1) := by decide +kernel
theorem dX7_isCanon_21 : decode cX7_isCanon 21 = .ok (.ifCond .eq 7, 3) := by decide +kernel
theorem dX7_isCanon_24 : decode cX7_isCanon 24 = .ok (.iconst 1, 1) := by decide +kernel
theorem dX7_isCanon_25 : decode cX7_isCanon 25 = .ok (.goto 4, 3) := by decide +kernel
theorem dX7_isCanon_28 : decode cX7_isCanon 28 = .ok (.iconst 0, 1) := by decide +kernel
theorem dX7_isCanon_29 : decode cX7_isCanon 29 = .ok (.ireturn, 1) := by decide +kernel
theorem dX7_numberOf_0 : decode cX7_numberOf 0 = .ok (.aload_n 0, 1) := by decide +kernel
theorem dX7_numberOf_1 : decode cX7_numberOf 1 = .ok (.getfield 30, 3) := by decide +kernel
theorem dX7_numberOf_4 : decode cX7_numberOf 4 = .ok (.sipush 16384, 3) := by decide +kernel
theorem dX7_numberOf_7 : decode cX7_numberOf 7 = .ok (.iload_n 1, 1) := by decide +kernel
theorem dX7_numberOf_8 : decode cX7_numberOf 8 = .ok (.imul, 1) := by decide +kernel
theorem dX7_numberOf_9 : decode cX7_numberOf 9 = .ok (.iload_n 2, 1) := by decide +kernel
theorem dX7_numberOf_10 : decode cX7_numberOf 10 = .ok (.iconst 5, 1) := by decide +kernel
theorem dX7_numberOf_11 : decode cX7_numberOf 11 = .ok (.ishr, 1) := by decide +kernel
theorem dX7_numberOf_12 : decode cX7_numberOf 12 = .ok (.iadd, 1) := by decide +kernel
theorem dX7_numberOf_13 : decode cX7_numberOf 13 = .ok (.iaload, 1) := by decide +kernel
theorem dX7_numberOf_14 : decode cX7_numberOf 14 = .ok (.istore_n 3, 1) := by decide +kernel
theorem dX7_numberOf_15 : decode cX7_numberOf 15 = .ok (.iload_n 2, 1) := by decide +kernel
theorem dX7_numberOf_16 : decode cX7_numberOf 16 = .ok (.bipush (-32), 2) := by decide +kernel
theorem dX7_numberOf_18 : decode cX7_numberOf 18 = .ok (.iand, 1) := by decide +kernel
theorem dX7_numberOf_19 : decode cX7_numberOf 19 = .ok (.istore 4, 2) := by decide +kernel
theorem dX7_numberOf_21 : decode cX7_numberOf 21 = .ok (.iload 4, 2) := by decide +kernel
theorem dX7_numberOf_23 : decode cX7_numberOf 23 = .ok (.iload_n 2, 1) := by decide +kernel
theorem dX7_numberOf_24 : decode cX7_numberOf 24 = .ok (.if_icmp .ge 27, 3) := by decide +kernel
theorem dX7_numberOf_27 : decode cX7_numberOf 27 = .ok (.iload_n 3, 1) := by decide +kernel
theorem dX7_numberOf_28 : decode cX7_numberOf 28 = .ok (.aload_n 0, 1) := by decide +kernel
theorem dX7_numberOf_29 : decode cX7_numberOf 29 = .ok (.iload_n 1, 1) := by decide +kernel
theorem dX7_numberOf_30 : decode cX7_numberOf 30 = .ok (.iload 4, 2) := by decide +kernel
theorem dX7_numberOf_32 : decode cX7_numberOf 32 = .ok (.invokevirtual 176, 3) := by decide +kernel
theorem dX7_numberOf_35 : decode cX7_numberOf 35 = .ok (.ifCond .eq 7, 3) := by decide +kernel
theorem dX7_numberOf_38 : decode cX7_numberOf 38 = .ok (.iconst 1, 1) := by decide +kernel
theorem dX7_numberOf_39 : decode cX7_numberOf 39 = .ok (.goto 4, 3) := by decide +kernel
theorem dX7_numberOf_42 : decode cX7_numberOf 42 = .ok (.iconst 0, 1) := by decide +kernel
theorem dX7_numberOf_43 : decode cX7_numberOf 43 = .ok (.iadd, 1) := by decide +kernel
theorem dX7_numberOf_44 : decode cX7_numberOf 44 = .ok (.istore_n 3, 1) := by decide +kernel
theorem dX7_numberOf_45 : decode cX7_numberOf 45 = .ok (.iinc 4 1, 3) := by decide +kernel
theorem dX7_numberOf_48 : decode cX7_numberOf 48 = .ok (.goto (-27), 3) := by decide +kernel
theorem dX7_numberOf_51 : decode cX7_numberOf 51 = .ok (.iload_n 3, 1) := by decide +kernel
theorem dX7_numberOf_52 : decode cX7_numberOf 52 = .ok (.ireturn, 1) := by decide +kernel
theorem dX7_isMade_0 : decode cX7_isMade 0 = .ok (.iload_n 1, 1) := by decide +kernel
theorem dX7_isMade_1 : decode cX7_isMade 1 = .ok (.iconst 0, 1) := by decide +kernel
theorem dX7_isMade_2 : decode cX7_isMade 2 = .ok (.iconst 2, 1) := by decide +kernel
theorem dX7_isMade_3 : decode cX7_isMade 3 = .ok (.invokestatic 84, 3) := by decide +kernel
theorem dX7_isMade_6 : decode cX7_isMade 6 = .ok (.ifCond .eq 16, 3) := by decide +kernel
theorem dX7_isMade_9 : decode cX7_isMade 9 = .ok (.aload_n 0, 1) := by decide +kernel
theorem dX7_isMade_10 : decode cX7_isMade 10 = .ok (.getfield 16, 3) := by decide +kernel
theorem dX7_isMade_13 : decode cX7_isMade 13 = .ok (.iload_n 1, 1) := by decide +kernel
theorem dX7_isMade_14 : decode cX7_isMade 14 = .ok (.baload, 1) := by decide +kernel
theorem dX7_isMade_15 : decode cX7_isMade 15 = .ok (.ifCond .eq 7, 3) := by decide +kernel
theorem dX7_isMade_18 : decode cX7_isMade 18 = .ok (.iconst 1, 1) := by decide +kernel
theorem dX7_isMade_19 : decode cX7_isMade 19 = .ok (.goto 4, 3) := by decide +kernel
theorem dX7_isMade_22 : decode cX7_isMade 22 = .ok (.iconst 0, 1) := by decide +kernel
theorem dX7_isMade_23 : decode cX7_isMade 23 = .ok (.ireturn, 1) := by decide +kernel
theorem dX7_may_0 : decode cX7_may 0 = .ok (.aload_n 0, 1) := by decide +kernel
theorem dX7_may_1 : decode cX7_may 1 = .ok (.iload_n 1, 1) := by decide +kernel
theorem dX7_may_2 : decode cX7_may 2 = .ok (.ifCond .eq 7, 3) := by decide +kernel
theorem dX7_may_5 : decode cX7_may 5 = .ok (.iconst 0, 1) := by decide +kernel
theorem dX7_may_6 : decode cX7_may 6 = .ok (.goto 4, 3) := by decide +kernel
theorem dX7_may_9 : decode cX7_may 9 = .ok (.iconst 1, 1) := by decide +kernel
theorem dX7_may_10 : decode cX7_may 10 = .ok (.putfield 81, 3) := by decide +kernel
theorem dX7_may_13 : decode cX7_may 13 = .ok (.iload_n 1, 1) := by decide +kernel
theorem dX7_may_14 : decode cX7_may 14 = .ok (.ireturn, 1) := by decide +kernel
theorem dX7_mayAsk_0 : decode cX7_mayAsk 0 = .ok (.aload_n 0, 1) := by decide +kernel
theorem dX7_mayAsk_1 : decode cX7_mayAsk 1 = .ok (.aload_n 0, 1) := by decide +kernel
theorem dX7_mayAsk_2 : decode cX7_mayAsk 2 = .ok (.iload_n 1, 1) := by decide +kernel
theorem dX7_mayAsk_3 : decode cX7_mayAsk 3 = .ok (.invokevirtual 179, 3) := by decide +kernel
theorem dX7_mayAsk_6 : decode cX7_mayAsk 6 = .ok (.ifCond .eq 35, 3) := by decide +kernel
theorem dX7_mayAsk_9 : decode cX7_mayAsk 9 = .ok (.aload_n 0, 1) := by decide +kernel
theorem dX7_mayAsk_10 : decode cX7_mayAsk 10 = .ok (.iload_n 1, 1) := by decide +kernel
theorem dX7_mayAsk_11 : decode cX7_mayAsk 11 = .ok (.iload_n 2, 1) := by decide +kernel
theorem dX7_mayAsk_12 : decode cX7_mayAsk 12 = .ok (.iload_n 3, 1) := by decide +kernel
theorem dX7_mayAsk_13 : decode cX7_mayAsk 13 = .ok (.iload 4, 2) := by decide +kernel
theorem dX7_mayAsk_15 : decode cX7_mayAsk 15 = .ok (.iload 5, 2) := by decide +kernel
theorem dX7_mayAsk_17 : decode cX7_mayAsk 17 = .ok (.invokevirtual 183, 3) := by decide +kernel
theorem dX7_mayAsk_20 : decode cX7_mayAsk 20 = .ok (.ifCond .eq 21, 3) := by decide +kernel
theorem dX7_mayAsk_23 : decode cX7_mayAsk 23 = .ok (.aload_n 0, 1) := by decide +kernel
theorem dX7_mayAsk_24 : decode cX7_mayAsk 24 = .ok (.iload_n 1, 1) := by decide +kernel
theorem dX7_mayAsk_25 : decode cX7_mayAsk 25 = .ok (.iload_n 2, 1) := by decide +kernel
theorem dX7_mayAsk_26 : decode cX7_mayAsk 26 = .ok (.iload_n 3, 1) := by decide +kernel
theorem dX7_mayAsk_27 : decode cX7_mayAsk 27 = .ok (.iload 4, 2) := by decide +kernel
theorem dX7_mayAsk_29 : decode cX7_mayAsk 29 = .ok (.iload 5, 2) := by decide +kernel
theorem dX7_mayAsk_31 : decode cX7_mayAsk 31 = .ok (.invokevirtual 107, 3) := by decide +kernel
theorem dX7_mayAsk_34 : decode cX7_mayAsk 34 = .ok (.ifCond .eq 7, 3) := by decide +kernel
theorem dX7_mayAsk_37 : decode cX7_mayAsk 37 = .ok (.iconst 1, 1) := by decide +kernel
theorem dX7_mayAsk_38 : decode cX7_mayAsk 38 = .ok (.goto 4, 3) := by decide +kernel
theorem dX7_mayAsk_41 : decode cX7_mayAsk 41 = .ok (.iconst 0, 1) := by decide +kernel
theorem dX7_mayAsk_42 : decode cX7_mayAsk 42 = .ok (.invokevirtual 186, 3) := by decide +kernel
theorem dX7_mayAsk_45 : decode cX7_mayAsk 45 = .ok (.ireturn, 1) := by decide +kernel
theorem dX7_isLegal_0 : decode cX7_isLegal 0 = .ok (.aload_n 0, 1) := by decide +kernel
theorem dX7_isLegal_1 : decode cX7_isLegal 1 = .ok (.iconst 0, 1) := by decide +kernel
theorem dX7_isLegal_2 : decode cX7_isLegal 2 = .ok (.putfield 81, 3) := by decide +kernel
theorem dX7_isLegal_5 : decode cX7_isLegal 5 = .ok (.aload_n 0, 1) := by decide +kernel
theorem dX7_isLegal_6 : decode cX7_isLegal 6 = .ok (.iload_n 1, 1) := by decide +kernel
theorem dX7_isLegal_7 : decode cX7_isLegal 7 = .ok (.iload_n 2, 1) := by decide +kernel
theorem dX7_isLegal_8 : decode cX7_isLegal 8 = .ok (.iload_n 3, 1) := by decide +kernel
theorem dX7_isLegal_9 : decode cX7_isLegal 9 = .ok (.iload 4, 2) := by decide +kernel
theorem dX7_isLegal_11 : decode cX7_isLegal 11 = .ok (.iload 5, 2) := by decide +kernel
theorem dX7_isLegal_13 : decode cX7_isLegal 13 = .ok (.invokevirtual 183, 3) := by decide +kernel
theorem dX7_isLegal_16 : decode cX7_isLegal 16 = .ok (.ifCond .eq 21, 3) := by decide +kernel
theorem dX7_isLegal_19 : decode cX7_isLegal 19 = .ok (.aload_n 0, 1) := by decide +kernel
theorem dX7_isLegal_20 : decode cX7_isLegal 20 = .ok (.iload_n 1, 1) := by decide +kernel
theorem dX7_isLegal_21 : decode cX7_isLegal 21 = .ok (.iload_n 2, 1) := by decide +kernel
theorem dX7_isLegal_22 : decode cX7_isLegal 22 = .ok (.iload_n 3, 1) := by decide +kernel
theorem dX7_isLegal_23 : decode cX7_isLegal 23 = .ok (.iload 4, 2) := by decide +kernel
theorem dX7_isLegal_25 : decode cX7_isLegal 25 = .ok (.iload 5, 2) := by decide +kernel
theorem dX7_isLegal_27 : decode cX7_isLegal 27 = .ok (.invokevirtual 107, 3) := by decide +kernel
theorem dX7_isLegal_30 : decode cX7_isLegal 30 = .ok (.ifCond .eq 7, 3) := by decide +kernel
theorem dX7_isLegal_33 : decode cX7_isLegal 33 = .ok (.iconst 1, 1) := by decide +kernel
theorem dX7_isLegal_34 : decode cX7_isLegal 34 = .ok (.goto 4, 3) := by decide +kernel
theorem dX7_isLegal_37 : decode cX7_isLegal 37 = .ok (.iconst 0, 1) := by decide +kernel
theorem dX7_isLegal_38 : decode cX7_isLegal 38 = .ok (.ireturn, 1) := by decide +kernel
theorem dX7_moves_0 : decode cX7_moves 0 = .ok (.aload_n 0, 1) := by decide +kernel
theorem dX7_moves_1 : decode cX7_moves 1 = .ok (.iconst 0, 1) := by decide +kernel
theorem dX7_moves_2 : decode cX7_moves 2 = .ok (.putfield 81, 3) := by decide +kernel
theorem dX7_moves_5 : decode cX7_moves 5 = .ok (.aload_n 0, 1) := by decide +kernel
theorem dX7_moves_6 : decode cX7_moves 6 = .ok (.iload_n 1, 1) := by decide +kernel
theorem dX7_moves_7 : decode cX7_moves 7 = .ok (.iload_n 2, 1) := by decide +kernel
theorem dX7_moves_8 : decode cX7_moves 8 = .ok (.iload_n 3, 1) := by decide +kernel
theorem dX7_moves_9 : decode cX7_moves 9 = .ok (.iload 4, 2) := by decide +kernel
theorem dX7_moves_11 : decode cX7_moves 11 = .ok (.iload 5, 2) := by decide +kernel
theorem dX7_moves_13 : decode cX7_moves 13 = .ok (.invokevirtual 183, 3) := by decide +kernel
theorem dX7_moves_16 : decode cX7_moves 16 = .ok (.ifCond .eq 17, 3) := by decide +kernel
theorem dX7_moves_19 : decode cX7_moves 19 = .ok (.aload_n 0, 1) := by decide +kernel
theorem dX7_moves_20 : decode cX7_moves 20 = .ok (.iload_n 1, 1) := by decide +kernel
theorem dX7_moves_21 : decode cX7_moves 21 = .ok (.iload_n 2, 1) := by decide +kernel
theorem dX7_moves_22 : decode cX7_moves 22 = .ok (.iload_n 3, 1) := by decide +kernel
theorem dX7_moves_23 : decode cX7_moves 23 = .ok (.iload 4, 2) := by decide +kernel
theorem dX7_moves_25 : decode cX7_moves 25 = .ok (.iload 5, 2) := by decide +kernel
theorem dX7_moves_27 : decode cX7_moves 27 = .ok (.invokevirtual 107, 3) := by decide +kernel
theorem dX7_moves_30 : decode cX7_moves 30 = .ok (.ifCond .ne 5, 3) := by decide +kernel
theorem dX7_moves_33 : decode cX7_moves 33 = .ok (.iconst (-1), 1) := by decide +kernel
theorem dX7_moves_34 : decode cX7_moves 34 = .ok (.ireturn, 1) := by decide +kernel
theorem dX7_moves_35 : decode cX7_moves 35 = .ok (.aload_n 0, 1) := by decide +kernel
theorem dX7_moves_36 : decode cX7_moves 36 = .ok (.iload_n 1, 1) := by decide +kernel
theorem dX7_moves_37 : decode cX7_moves 37 = .ok (.iload_n 2, 1) := by decide +kernel
theorem dX7_moves_38 : decode cX7_moves 38 = .ok (.iload_n 3, 1) := by decide +kernel
theorem dX7_moves_39 : decode cX7_moves 39 = .ok (.iload 4, 2) := by decide +kernel
theorem dX7_moves_41 : decode cX7_moves 41 = .ok (.iload 5, 2) := by decide +kernel
theorem dX7_moves_43 : decode cX7_moves 43 = .ok (.invokevirtual 138, 3) := by decide +kernel
theorem dX7_moves_46 : decode cX7_moves 46 = .ok (.aload_n 0, 1) := by decide +kernel
theorem dX7_moves_47 : decode cX7_moves 47 = .ok (.getfield 104, 3) := by decide +kernel
theorem dX7_moves_50 : decode cX7_moves 50 = .ok (.ireturn, 1) := by decide +kernel
theorem dX7_distance_0 : decode cX7_distance 0 = .ok (.aload_n 0, 1) := by decide +kernel
theorem dX7_distance_1 : decode cX7_distance 1 = .ok (.iload_n 1, 1) := by decide +kernel
theorem dX7_distance_2 : decode cX7_distance 2 = .ok (.iload_n 2, 1) := by decide +kernel
theorem dX7_distance_3 : decode cX7_distance 3 = .ok (.iload_n 3, 1) := by decide +kernel
theorem dX7_distance_4 : decode cX7_distance 4 = .ok (.iload 4, 2) := by decide +kernel
theorem dX7_distance_6 : decode cX7_distance 6 = .ok (.iload 5, 2) := by decide +kernel
theorem dX7_distance_8 : decode cX7_distance 8 = .ok (.invokevirtual 190, 3) := by decide +kernel
theorem dX7_distance_11 : decode cX7_distance 11 = .ok (.ifCond .eq 17, 3) := by decide +kernel
theorem dX7_distance_14 : decode cX7_distance 14 = .ok (.aload_n 0, 1) := by decide +kernel
theorem dX7_distance_15 : decode cX7_distance 15 = .ok (.iload_n 1, 1) := by decide +kernel
theorem dX7_distance_16 : decode cX7_distance 16 = .ok (.iload_n 2, 1) := by decide +kernel
theorem dX7_distance_17 : decode cX7_distance 17 = .ok (.iload_n 3, 1) := by decide +kernel
theorem dX7_distance_18 : decode cX7_distance 18 = .ok (.iload 4, 2) := by decide +kernel
theorem dX7_distance_20 : decode cX7_distance 20 = .ok (.iload 5, 2) := by decide +kernel
theorem dX7_distance_22 : decode cX7_distance 22 = .ok (.invokevirtual 123, 3) := by decide +kernel
theorem dX7_distance_25 : decode cX7_distance 25 = .ok (.goto 4, 3) := by decide +kernel
theorem dX7_distance_28 : decode cX7_distance 28 = .ok (.iconst 0, 1) := by decide +kernel
theorem dX7_distance_29 : decode cX7_distance 29 = .ok (.ireturn, 1) := by decide +kernel
theorem dX7_isBest_0 : decode cX7_isBest 0 = .ok (.aload_n 0, 1) := by decide +kernel
theorem dX7_isBest_1 : decode cX7_isBest 1 = .ok (.iload_n 1, 1) := by decide +kernel
theorem dX7_isBest_2 : decode cX7_isBest 2 = .ok (.iload_n 2, 1) := by decide +kernel
theorem dX7_isBest_3 : decode cX7_isBest 3 = .ok (.invokevirtual 166, 3) := by decide +kernel
theorem dX7_isBest_6 : decode cX7_isBest 6 = .ok (.istore 4, 2) := by decide +kernel
theorem dX7_isBest_8 : decode cX7_isBest 8 = .ok (.iload_n 3, 1) := by decide +kernel
theorem dX7_isBest_9 : decode cX7_isBest 9 = .ok (.iconst (-1), 1) := by decide +kernel
theorem dX7_isBest_10 : decode cX7_isBest 10 = .ok (.if_icmp .ne 15, 3) := by decide +kernel
theorem dX7_isBest_13 : decode cX7_isBest 13 = .ok (.iload 4, 2) := by decide +kernel
theorem dX7_isBest_15 : decode cX7_isBest 15 = .ok (.iconst (-1), 1) := by decide +kernel
theorem dX7_isBest_16 : decode cX7_isBest 16 = .ok (.if_icmp .ne 7, 3) := by decide +kernel
theorem dX7_isBest_19 : decode cX7_isBest 19 = .ok (.iconst 1, 1) := by decide +kernel
theorem dX7_isBest_20 : decode cX7_isBest 20 = .ok (.goto 4, 3) := by decide +kernel
theorem dX7_isBest_23 : decode cX7_isBest 23 = .ok (.iconst 0, 1) := by decide +kernel
theorem dX7_isBest_24 : decode cX7_isBest 24 = .ok (.ireturn, 1) := by decide +kernel
theorem dX7_isBest_25 : decode cX7_isBest 25 = .ok (.iload 4, 2) := by decide +kernel
theorem dX7_isBest_27 : decode cX7_isBest 27 = .ok (.iload_n 3, 1) := by decide +kernel
theorem dX7_isBest_28 : decode cX7_isBest 28 = .ok (.iconst 1, 1) := by decide +kernel
theorem dX7_isBest_29 : decode cX7_isBest 29 = .ok (.isub, 1) := by decide +kernel
theorem dX7_isBest_30 : decode cX7_isBest 30 = .ok (.if_icmp .ne 7, 3) := by decide +kernel
theorem dX7_isBest_33 : decode cX7_isBest 33 = .ok (.iconst 1, 1) := by decide +kernel
theorem dX7_isBest_34 : decode cX7_isBest 34 = .ok (.goto 4, 3) := by decide +kernel
theorem dX7_isBest_37 : decode cX7_isBest 37 = .ok (.iconst 0, 1) := by decide +kernel
theorem dX7_isBest_38 : decode cX7_isBest 38 = .ok (.ireturn, 1) := by decide +kernel
theorem dX7_best_0 : decode cX7_best 0 = .ok (.aload_n 0, 1) := by decide +kernel
theorem dX7_best_1 : decode cX7_best 1 = .ok (.iload_n 1, 1) := by decide +kernel
theorem dX7_best_2 : decode cX7_best 2 = .ok (.iload_n 2, 1) := by decide +kernel
theorem dX7_best_3 : decode cX7_best 3 = .ok (.iload_n 3, 1) := by decide +kernel
theorem dX7_best_4 : decode cX7_best 4 = .ok (.iload 4, 2) := by decide +kernel
theorem dX7_best_6 : decode cX7_best 6 = .ok (.iload 5, 2) := by decide +kernel
theorem dX7_best_8 : decode cX7_best 8 = .ok (.invokevirtual 190, 3) := by decide +kernel
theorem dX7_best_11 : decode cX7_best 11 = .ok (.ifCond .ne 5, 3) := by decide +kernel
theorem dX7_best_14 : decode cX7_best 14 = .ok (.iconst 0, 1) := by decide +kernel
theorem dX7_best_15 : decode cX7_best 15 = .ok (.ireturn, 1) := by decide +kernel
theorem dX7_best_16 : decode cX7_best 16 = .ok (.aload_n 0, 1) := by decide +kernel
theorem dX7_best_17 : decode cX7_best 17 = .ok (.iload_n 1, 1) := by decide +kernel
theorem dX7_best_18 : decode cX7_best 18 = .ok (.iload_n 2, 1) := by decide +kernel
theorem dX7_best_19 : decode cX7_best 19 = .ok (.iload_n 3, 1) := by decide +kernel
theorem dX7_best_20 : decode cX7_best 20 = .ok (.iload 4, 2) := by decide +kernel
theorem dX7_best_22 : decode cX7_best 22 = .ok (.iload 5, 2) := by decide +kernel
theorem dX7_best_24 : decode cX7_best 24 = .ok (.invokevirtual 123, 3) := by decide +kernel
theorem dX7_best_27 : decode cX7_best 27 = .ok (.istore 6, 2) := by decide +kernel
theorem dX7_best_29 : decode cX7_best 29 = .ok (.aload_n 0, 1) := by decide +kernel
theorem dX7_best_30 : decode cX7_best 30 = .ok (.iload_n 1, 1) := by decide +kernel
theorem dX7_best_31 : decode cX7_best 31 = .ok (.iload_n 2, 1) := by decide +kernel
theorem dX7_best_32 : decode cX7_best 32 = .ok (.iload_n 3, 1) := by decide +kernel
theorem dX7_best_33 : decode cX7_best 33 = .ok (.iload 4, 2) := by decide +kernel
theorem dX7_best_35 : decode cX7_best 35 = .ok (.iload 5, 2) := by decide +kernel
theorem dX7_best_37 : decode cX7_best 37 = .ok (.invokevirtual 138, 3) := by decide +kernel
theorem dX7_best_40 : decode cX7_best 40 = .ok (.aload_n 0, 1) := by decide +kernel
theorem dX7_best_41 : decode cX7_best 41 = .ok (.iconst 0, 1) := by decide +kernel
theorem dX7_best_42 : decode cX7_best 42 = .ok (.putfield 193, 3) := by decide +kernel
theorem dX7_best_45 : decode cX7_best 45 = .ok (.iconst 0, 1) := by decide +kernel
end
section
theorem dX7_best_46 : decode cX7_best 46 = .ok (.istore 7, 2) := by decide +kernel
theorem dX7_best_48 : decode cX7_best 48 = .ok (.iload 7, 2) := by decide +kernel
theorem dX7_best_50 : decode cX7_best 50 = .ok (.aload_n 0, 1) := by decide +kernel
theorem dX7_best_51 : decode cX7_best 51 = .ok (.getfield 104, 3) := by decide +kernel
theorem dX7_best_54 : decode cX7_best 54 = .ok (.if_icmp .ge 97, 3) := by decide +kernel
theorem dX7_best_57 : decode cX7_best 57 = .ok (.aload_n 0, 1) := by decide +kernel
theorem dX7_best_58 : decode cX7_best 58 = .ok (.iload 7, 2) := by decide +kernel
theorem dX7_best_60 : decode cX7_best 60 = .ok (.iload 5, 2) := by decide +kernel
theorem dX7_best_62 : decode cX7_best 62 = .ok (.iload 6, 2) := by decide +kernel
theorem dX7_best_64 : decode cX7_best 64 = .ok (.invokevirtual 196, 3) := by decide +kernel
theorem dX7_best_67 : decode cX7_best 67 = .ok (.ifCond .eq 78, 3) := by decide +kernel
theorem dX7_best_70 : decode cX7_best 70 = .ok (.aload_n 0, 1) := by decide +kernel
theorem dX7_best_71 : decode cX7_best 71 = .ok (.getfield 63, 3) := by decide +kernel
theorem dX7_best_74 : decode cX7_best 74 = .ok (.aload_n 0, 1) := by decide +kernel
theorem dX7_best_75 : decode cX7_best 75 = .ok (.getfield 193, 3) := by decide +kernel
theorem dX7_best_78 : decode cX7_best 78 = .ok (.aload_n 0, 1) := by decide +kernel
theorem dX7_best_79 : decode cX7_best 79 = .ok (.getfield 42, 3) := by decide +kernel
theorem dX7_best_82 : decode cX7_best 82 = .ok (.iload 7, 2) := by decide +kernel
theorem dX7_best_84 : decode cX7_best 84 = .ok (.iaload, 1) := by decide +kernel
theorem dX7_best_85 : decode cX7_best 85 = .ok (.iastore, 1) := by decide +kernel
theorem dX7_best_86 : decode cX7_best 86 = .ok (.aload_n 0, 1) := by decide +kernel
theorem dX7_best_87 : decode cX7_best 87 = .ok (.getfield 66, 3) := by decide +kernel
theorem dX7_best_90 : decode cX7_best 90 = .ok (.aload_n 0, 1) := by decide +kernel
theorem dX7_best_91 : decode cX7_best 91 = .ok (.getfield 193, 3) := by decide +kernel
theorem dX7_best_94 : decode cX7_best 94 = .ok (.aload_n 0, 1) := by decide +kernel
theorem dX7_best_95 : decode cX7_best 95 = .ok (.getfield 45, 3) := by decide +kernel
theorem dX7_best_98 : decode cX7_best 98 = .ok (.iload 7, 2) := by decide +kernel
theorem dX7_best_100 : decode cX7_best 100 = .ok (.iaload, 1) := by decide +kernel
theorem dX7_best_101 : decode cX7_best 101 = .ok (.iastore, 1) := by decide +kernel
theorem dX7_best_102 : decode cX7_best 102 = .ok (.aload_n 0, 1) := by decide +kernel
theorem dX7_best_103 : decode cX7_best 103 = .ok (.getfield 69, 3) := by decide +kernel
theorem dX7_best_106 : decode cX7_best 106 = .ok (.aload_n 0, 1) := by decide +kernel
theorem dX7_best_107 : decode cX7_best 107 = .ok (.getfield 193, 3) := by decide +kernel
theorem dX7_best_110 : decode cX7_best 110 = .ok (.aload_n 0, 1) := by decide +kernel
theorem dX7_best_111 : decode cX7_best 111 = .ok (.getfield 48, 3) := by decide +kernel
theorem dX7_best_114 : decode cX7_best 114 = .ok (.iload 7, 2) := by decide +kernel
theorem dX7_best_116 : decode cX7_best 116 = .ok (.iaload, 1) := by decide +kernel
theorem dX7_best_117 : decode cX7_best 117 = .ok (.iastore, 1) := by decide +kernel
theorem dX7_best_118 : decode cX7_best 118 = .ok (.aload_n 0, 1) := by decide +kernel
theorem dX7_best_119 : decode cX7_best 119 = .ok (.getfield 72, 3) := by decide +kernel
theorem dX7_best_122 : decode cX7_best 122 = .ok (.aload_n 0, 1) := by decide +kernel
theorem dX7_best_123 : decode cX7_best 123 = .ok (.getfield 193, 3) := by decide +kernel
theorem dX7_best_126 : decode cX7_best 126 = .ok (.aload_n 0, 1) := by decide +kernel
theorem dX7_best_127 : decode cX7_best 127 = .ok (.iload 7, 2) := by decide +kernel
theorem dX7_best_129 : decode cX7_best 129 = .ok (.iload 5, 2) := by decide +kernel
theorem dX7_best_131 : decode cX7_best 131 = .ok (.invokevirtual 166, 3) := by decide +kernel
theorem dX7_best_134 : decode cX7_best 134 = .ok (.iastore, 1) := by decide +kernel
theorem dX7_best_135 : decode cX7_best 135 = .ok (.aload_n 0, 1) := by decide +kernel
theorem dX7_best_136 : decode cX7_best 136 = .ok (.dup, 1) := by decide +kernel
theorem dX7_best_137 : decode cX7_best 137 = .ok (.getfield 193, 3) := by decide +kernel
theorem dX7_best_140 : decode cX7_best 140 = .ok (.iconst 1, 1) := by decide +kernel
theorem dX7_best_141 : decode cX7_best 141 = .ok (.iadd, 1) := by decide +kernel
theorem dX7_best_142 : decode cX7_best 142 = .ok (.putfield 193, 3) := by decide +kernel
theorem dX7_best_145 : decode cX7_best 145 = .ok (.iinc 7 1, 3) := by decide +kernel
theorem dX7_best_148 : decode cX7_best 148 = .ok (.goto (-100), 3) := by decide +kernel
theorem dX7_best_151 : decode cX7_best 151 = .ok (.aload_n 0, 1) := by decide +kernel
theorem dX7_best_152 : decode cX7_best 152 = .ok (.getfield 193, 3) := by decide +kernel
theorem dX7_best_155 : decode cX7_best 155 = .ok (.ireturn, 1) := by decide +kernel
theorem dX7_move_0 : decode cX7_move 0 = .ok (.aload_n 0, 1) := by decide +kernel
theorem dX7_move_1 : decode cX7_move 1 = .ok (.iconst 0, 1) := by decide +kernel
theorem dX7_move_2 : decode cX7_move 2 = .ok (.putfield 81, 3) := by decide +kernel
theorem dX7_move_5 : decode cX7_move 5 = .ok (.iload_n 1, 1) := by decide +kernel
theorem dX7_move_6 : decode cX7_move 6 = .ok (.iconst 0, 1) := by decide +kernel
theorem dX7_move_7 : decode cX7_move 7 = .ok (.aload_n 0, 1) := by decide +kernel
theorem dX7_move_8 : decode cX7_move 8 = .ok (.getfield 193, 3) := by decide +kernel
theorem dX7_move_11 : decode cX7_move 11 = .ok (.iconst 1, 1) := by decide +kernel
theorem dX7_move_12 : decode cX7_move 12 = .ok (.isub, 1) := by decide +kernel
theorem dX7_move_13 : decode cX7_move 13 = .ok (.invokestatic 84, 3) := by decide +kernel
theorem dX7_move_16 : decode cX7_move 16 = .ok (.ifCond .ne 5, 3) := by decide +kernel
theorem dX7_move_19 : decode cX7_move 19 = .ok (.iconst (-1), 1) := by decide +kernel
theorem dX7_move_20 : decode cX7_move 20 = .ok (.ireturn, 1) := by decide +kernel
theorem dX7_move_21 : decode cX7_move 21 = .ok (.iload_n 2, 1) := by decide +kernel
theorem dX7_move_22 : decode cX7_move 22 = .ok (.ifCond .ne 12, 3) := by decide +kernel
theorem dX7_move_25 : decode cX7_move 25 = .ok (.aload_n 0, 1) := by decide +kernel
theorem dX7_move_26 : decode cX7_move 26 = .ok (.getfield 63, 3) := by decide +kernel
theorem dX7_move_29 : decode cX7_move 29 = .ok (.iload_n 1, 1) := by decide +kernel
theorem dX7_move_30 : decode cX7_move 30 = .ok (.iaload, 1) := by decide +kernel
theorem dX7_move_31 : decode cX7_move 31 = .ok (.goto 46, 3) := by decide +kernel
theorem dX7_move_34 : decode cX7_move 34 = .ok (.iload_n 2, 1) := by decide +kernel
theorem dX7_move_35 : decode cX7_move 35 = .ok (.iconst 1, 1) := by decide +kernel
theorem dX7_move_36 : decode cX7_move 36 = .ok (.if_icmp .ne 12, 3) := by decide +kernel
theorem dX7_move_39 : decode cX7_move 39 = .ok (.aload_n 0, 1) := by decide +kernel
theorem dX7_move_40 : decode cX7_move 40 = .ok (.getfield 66, 3) := by decide +kernel
theorem dX7_move_43 : decode cX7_move 43 = .ok (.iload_n 1, 1) := by decide +kernel
theorem dX7_move_44 : decode cX7_move 44 = .ok (.iaload, 1) := by decide +kernel
theorem dX7_move_45 : decode cX7_move 45 = .ok (.goto 32, 3) := by decide +kernel
theorem dX7_move_48 : decode cX7_move 48 = .ok (.iload_n 2, 1) := by decide +kernel
theorem dX7_move_49 : decode cX7_move 49 = .ok (.iconst 2, 1) := by decide +kernel
theorem dX7_move_50 : decode cX7_move 50 = .ok (.if_icmp .ne 12, 3) := by decide +kernel
theorem dX7_move_53 : decode cX7_move 53 = .ok (.aload_n 0, 1) := by decide +kernel
theorem dX7_move_54 : decode cX7_move 54 = .ok (.getfield 69, 3) := by decide +kernel
theorem dX7_move_57 : decode cX7_move 57 = .ok (.iload_n 1, 1) := by decide +kernel
theorem dX7_move_58 : decode cX7_move 58 = .ok (.iaload, 1) := by decide +kernel
theorem dX7_move_59 : decode cX7_move 59 = .ok (.goto 18, 3) := by decide +kernel
theorem dX7_move_62 : decode cX7_move 62 = .ok (.iload_n 2, 1) := by decide +kernel
theorem dX7_move_63 : decode cX7_move 63 = .ok (.iconst 3, 1) := by decide +kernel
theorem dX7_move_64 : decode cX7_move 64 = .ok (.if_icmp .ne 12, 3) := by decide +kernel
theorem dX7_move_67 : decode cX7_move 67 = .ok (.aload_n 0, 1) := by decide +kernel
theorem dX7_move_68 : decode cX7_move 68 = .ok (.getfield 72, 3) := by decide +kernel
theorem dX7_move_71 : decode cX7_move 71 = .ok (.iload_n 1, 1) := by decide +kernel
theorem dX7_move_72 : decode cX7_move 72 = .ok (.iaload, 1) := by decide +kernel
theorem dX7_move_73 : decode cX7_move 73 = .ok (.goto 4, 3) := by decide +kernel
theorem dX7_move_76 : decode cX7_move 76 = .ok (.iconst (-1), 1) := by decide +kernel
theorem dX7_move_77 : decode cX7_move 77 = .ok (.ireturn, 1) := by decide +kernel
theorem dX7_keep_0 : decode cX7_keep 0 = .ok (.aload_n 0, 1) := by decide +kernel
theorem dX7_keep_1 : decode cX7_keep 1 = .ok (.getfield 78, 3) := by decide +kernel
theorem dX7_keep_4 : decode cX7_keep 4 = .ok (.iconst 5, 1) := by decide +kernel
theorem dX7_keep_5 : decode cX7_keep 5 = .ok (.iload_n 1, 1) := by decide +kernel
theorem dX7_keep_6 : decode cX7_keep 6 = .ok (.imul, 1) := by decide +kernel
theorem dX7_keep_7 : decode cX7_keep 7 = .ok (.iload_n 2, 1) := by decide +kernel
theorem dX7_keep_8 : decode cX7_keep 8 = .ok (.iastore, 1) := by decide +kernel
theorem dX7_keep_9 : decode cX7_keep 9 = .ok (.aload_n 0, 1) := by decide +kernel
theorem dX7_keep_10 : decode cX7_keep 10 = .ok (.getfield 78, 3) := by decide +kernel
theorem dX7_keep_13 : decode cX7_keep 13 = .ok (.iconst 5, 1) := by decide +kernel
theorem dX7_keep_14 : decode cX7_keep 14 = .ok (.iload_n 1, 1) := by decide +kernel
theorem dX7_keep_15 : decode cX7_keep 15 = .ok (.imul, 1) := by decide +kernel
theorem dX7_keep_16 : decode cX7_keep 16 = .ok (.iconst 1, 1) := by decide +kernel
theorem dX7_keep_17 : decode cX7_keep 17 = .ok (.iadd, 1) := by decide +kernel
theorem dX7_keep_18 : decode cX7_keep 18 = .ok (.iload_n 3, 1) := by decide +kernel
theorem dX7_keep_19 : decode cX7_keep 19 = .ok (.iastore, 1) := by decide +kernel
theorem dX7_keep_20 : decode cX7_keep 20 = .ok (.aload_n 0, 1) := by decide +kernel
theorem dX7_keep_21 : decode cX7_keep 21 = .ok (.getfield 78, 3) := by decide +kernel
theorem dX7_keep_24 : decode cX7_keep 24 = .ok (.iconst 5, 1) := by decide +kernel
theorem dX7_keep_25 : decode cX7_keep 25 = .ok (.iload_n 1, 1) := by decide +kernel
theorem dX7_keep_26 : decode cX7_keep 26 = .ok (.imul, 1) := by decide +kernel
theorem dX7_keep_27 : decode cX7_keep 27 = .ok (.iconst 2, 1) := by decide +kernel
theorem dX7_keep_28 : decode cX7_keep 28 = .ok (.iadd, 1) := by decide +kernel
theorem dX7_keep_29 : decode cX7_keep 29 = .ok (.iload 4, 2) := by decide +kernel
theorem dX7_keep_31 : decode cX7_keep 31 = .ok (.iastore, 1) := by decide +kernel
theorem dX7_keep_32 : decode cX7_keep 32 = .ok (.aload_n 0, 1) := by decide +kernel
theorem dX7_keep_33 : decode cX7_keep 33 = .ok (.getfield 78, 3) := by decide +kernel
theorem dX7_keep_36 : decode cX7_keep 36 = .ok (.iconst 5, 1) := by decide +kernel
theorem dX7_keep_37 : decode cX7_keep 37 = .ok (.iload_n 1, 1) := by decide +kernel
theorem dX7_keep_38 : decode cX7_keep 38 = .ok (.imul, 1) := by decide +kernel
theorem dX7_keep_39 : decode cX7_keep 39 = .ok (.iconst 3, 1) := by decide +kernel
theorem dX7_keep_40 : decode cX7_keep 40 = .ok (.iadd, 1) := by decide +kernel
theorem dX7_keep_41 : decode cX7_keep 41 = .ok (.iload 5, 2) := by decide +kernel
theorem dX7_keep_43 : decode cX7_keep 43 = .ok (.iastore, 1) := by decide +kernel
theorem dX7_keep_44 : decode cX7_keep 44 = .ok (.aload_n 0, 1) := by decide +kernel
theorem dX7_keep_45 : decode cX7_keep 45 = .ok (.getfield 78, 3) := by decide +kernel
theorem dX7_keep_48 : decode cX7_keep 48 = .ok (.iconst 5, 1) := by decide +kernel
theorem dX7_keep_49 : decode cX7_keep 49 = .ok (.iload_n 1, 1) := by decide +kernel
theorem dX7_keep_50 : decode cX7_keep 50 = .ok (.imul, 1) := by decide +kernel
theorem dX7_keep_51 : decode cX7_keep 51 = .ok (.iconst 4, 1) := by decide +kernel
theorem dX7_keep_52 : decode cX7_keep 52 = .ok (.iadd, 1) := by decide +kernel
theorem dX7_keep_53 : decode cX7_keep 53 = .ok (.iload 6, 2) := by decide +kernel
theorem dX7_keep_55 : decode cX7_keep 55 = .ok (.iastore, 1) := by decide +kernel
theorem dX7_keep_56 : decode cX7_keep 56 = .ok (.return_, 1) := by decide +kernel
theorem dX7_line_0 : decode cX7_line 0 = .ok (.aload_n 0, 1) := by decide +kernel
theorem dX7_line_1 : decode cX7_line 1 = .ok (.iload_n 1, 1) := by decide +kernel
theorem dX7_line_2 : decode cX7_line 2 = .ok (.iload_n 2, 1) := by decide +kernel
theorem dX7_line_3 : decode cX7_line 3 = .ok (.iload_n 3, 1) := by decide +kernel
theorem dX7_line_4 : decode cX7_line 4 = .ok (.iload 4, 2) := by decide +kernel
theorem dX7_line_6 : decode cX7_line 6 = .ok (.iload 5, 2) := by decide +kernel
theorem dX7_line_8 : decode cX7_line 8 = .ok (.invokevirtual 190, 3) := by decide +kernel
theorem dX7_line_11 : decode cX7_line 11 = .ok (.ifCond .ne 5, 3) := by decide +kernel
theorem dX7_line_14 : decode cX7_line 14 = .ok (.iconst 0, 1) := by decide +kernel
theorem dX7_line_15 : decode cX7_line 15 = .ok (.ireturn, 1) := by decide +kernel
theorem dX7_line_16 : decode cX7_line 16 = .ok (.aload_n 0, 1) := by decide +kernel
theorem dX7_line_17 : decode cX7_line 17 = .ok (.iload_n 1, 1) := by decide +kernel
theorem dX7_line_18 : decode cX7_line 18 = .ok (.iload_n 2, 1) := by decide +kernel
theorem dX7_line_19 : decode cX7_line 19 = .ok (.iload_n 3, 1) := by decide +kernel
theorem dX7_line_20 : decode cX7_line 20 = .ok (.iload 4, 2) := by decide +kernel
theorem dX7_line_22 : decode cX7_line 22 = .ok (.iload 5, 2) := by decide +kernel
theorem dX7_line_24 : decode cX7_line 24 = .ok (.invokevirtual 123, 3) := by decide +kernel
theorem dX7_line_27 : decode cX7_line 27 = .ok (.istore 6, 2) := by decide +kernel
theorem dX7_line_29 : decode cX7_line 29 = .ok (.aload_n 0, 1) := by decide +kernel
theorem dX7_line_30 : decode cX7_line 30 = .ok (.iconst 0, 1) := by decide +kernel
theorem dX7_line_31 : decode cX7_line 31 = .ok (.iload_n 1, 1) := by decide +kernel
theorem dX7_line_32 : decode cX7_line 32 = .ok (.iload_n 2, 1) := by decide +kernel
theorem dX7_line_33 : decode cX7_line 33 = .ok (.iload_n 3, 1) := by decide +kernel
theorem dX7_line_34 : decode cX7_line 34 = .ok (.iload 4, 2) := by decide +kernel
theorem dX7_line_36 : decode cX7_line 36 = .ok (.iload 5, 2) := by decide +kernel
theorem dX7_line_38 : decode cX7_line 38 = .ok (.invokevirtual 199, 3) := by decide +kernel
theorem dX7_line_41 : decode cX7_line 41 = .ok (.iload 6, 2) := by decide +kernel
theorem dX7_line_43 : decode cX7_line 43 = .ok (.iconst (-1), 1) := by decide +kernel
theorem dX7_line_44 : decode cX7_line 44 = .ok (.if_icmp .ne 7, 3) := by decide +kernel
theorem dX7_line_47 : decode cX7_line 47 = .ok (.iconst 0, 1) := by decide +kernel
theorem dX7_line_48 : decode cX7_line 48 = .ok (.goto 5, 3) := by decide +kernel
theorem dX7_line_51 : decode cX7_line 51 = .ok (.iload 6, 2) := by decide +kernel
theorem dX7_line_53 : decode cX7_line 53 = .ok (.istore 7, 2) := by decide +kernel
theorem dX7_line_55 : decode cX7_line 55 = .ok (.iconst 0, 1) := by decide +kernel
theorem dX7_line_56 : decode cX7_line 56 = .ok (.istore 8, 2) := by decide +kernel
theorem dX7_line_58 : decode cX7_line 58 = .ok (.iload 8, 2) := by decide +kernel
theorem dX7_line_60 : decode cX7_line 60 = .ok (.iload 7, 2) := by decide +kernel
theorem dX7_line_62 : decode cX7_line 62 = .ok (.if_icmp .ge 135, 3) := by decide +kernel
theorem dX7_line_65 : decode cX7_line 65 = .ok (.aload_n 0, 1) := by decide +kernel
theorem dX7_line_66 : decode cX7_line 66 = .ok (.getfield 78, 3) := by decide +kernel
theorem dX7_line_69 : decode cX7_line 69 = .ok (.iconst 5, 1) := by decide +kernel
theorem dX7_line_70 : decode cX7_line 70 = .ok (.iload 8, 2) := by decide +kernel
theorem dX7_line_72 : decode cX7_line 72 = .ok (.imul, 1) := by decide +kernel
theorem dX7_line_73 : decode cX7_line 73 = .ok (.iconst 4, 1) := by decide +kernel
theorem dX7_line_74 : decode cX7_line 74 = .ok (.iadd, 1) := by decide +kernel
theorem dX7_line_75 : decode cX7_line 75 = .ok (.iaload, 1) := by decide +kernel
theorem dX7_line_76 : decode cX7_line 76 = .ok (.istore 9, 2) := by decide +kernel
theorem dX7_line_78 : decode cX7_line 78 = .ok (.aload_n 0, 1) := by decide +kernel
theorem dX7_line_79 : decode cX7_line 79 = .ok (.aload_n 0, 1) := by decide +kernel
theorem dX7_line_80 : decode cX7_line 80 = .ok (.getfield 78, 3) := by decide +kernel
theorem dX7_line_83 : decode cX7_line 83 = .ok (.iconst 5, 1) := by decide +kernel
theorem dX7_line_84 : decode cX7_line 84 = .ok (.iload 8, 2) := by decide +kernel
theorem dX7_line_86 : decode cX7_line 86 = .ok (.imul, 1) := by decide +kernel
theorem dX7_line_87 : decode cX7_line 87 = .ok (.iaload, 1) := by decide +kernel
theorem dX7_line_88 : decode cX7_line 88 = .ok (.aload_n 0, 1) := by decide +kernel
theorem dX7_line_89 : decode cX7_line 89 = .ok (.getfield 78, 3) := by decide +kernel
theorem dX7_line_92 : decode cX7_line 92 = .ok (.iconst 5, 1) := by decide +kernel
theorem dX7_line_93 : decode cX7_line 93 = .ok (.iload 8, 2) := by decide +kernel
theorem dX7_line_95 : decode cX7_line 95 = .ok (.imul, 1) := by decide +kernel
theorem dX7_line_96 : decode cX7_line 96 = .ok (.iconst 1, 1) := by decide +kernel
theorem dX7_line_97 : decode cX7_line 97 = .ok (.iadd, 1) := by decide +kernel
theorem dX7_line_98 : decode cX7_line 98 = .ok (.iaload, 1) := by decide +kernel
theorem dX7_line_99 : decode cX7_line 99 = .ok (.aload_n 0, 1) := by decide +kernel
theorem dX7_line_100 : decode cX7_line 100 = .ok (.getfield 78, 3) := by decide +kernel
theorem dX7_line_103 : decode cX7_line 103 = .ok (.iconst 5, 1) := by decide +kernel
theorem dX7_line_104 : decode cX7_line 104 = .ok (.iload 8, 2) := by decide +kernel
theorem dX7_line_106 : decode cX7_line 106 = .ok (.imul, 1) := by decide +kernel
theorem dX7_line_107 : decode cX7_line 107 = .ok (.iconst 2, 1) := by decide +kernel
theorem dX7_line_108 : decode cX7_line 108 = .ok (.iadd, 1) := by decide +kernel
theorem dX7_line_109 : decode cX7_line 109 = .ok (.iaload, 1) := by decide +kernel
theorem dX7_line_110 : decode cX7_line 110 = .ok (.aload_n 0, 1) := by decide +kernel
theorem dX7_line_111 : decode cX7_line 111 = .ok (.getfield 78, 3) := by decide +kernel
theorem dX7_line_114 : decode cX7_line 114 = .ok (.iconst 5, 1) := by decide +kernel
theorem dX7_line_115 : decode cX7_line 115 = .ok (.iload 8, 2) := by decide +kernel
theorem dX7_line_117 : decode cX7_line 117 = .ok (.imul, 1) := by decide +kernel
theorem dX7_line_118 : decode cX7_line 118 = .ok (.iconst 3, 1) := by decide +kernel
theorem dX7_line_119 : decode cX7_line 119 = .ok (.iadd, 1) := by decide +kernel
theorem dX7_line_120 : decode cX7_line 120 = .ok (.iaload, 1) := by decide +kernel
theorem dX7_line_121 : decode cX7_line 121 = .ok (.iload 9, 2) := by decide +kernel
theorem dX7_line_123 : decode cX7_line 123 = .ok (.invokevirtual 138, 3) := by decide +kernel
theorem dX7_line_126 : decode cX7_line 126 = .ok (.iconst 0, 1) := by decide +kernel
theorem dX7_line_127 : decode cX7_line 127 = .ok (.istore 10, 2) := by decide +kernel
theorem dX7_line_129 : decode cX7_line 129 = .ok (.aload_n 0, 1) := by decide +kernel
theorem dX7_line_130 : decode cX7_line 130 = .ok (.iload 10, 2) := by decide +kernel
theorem dX7_line_132 : decode cX7_line 132 = .ok (.iload 9, 2) := by decide +kernel
theorem dX7_line_134 : decode cX7_line 134 = .ok (.iload 6, 2) := by decide +kernel
theorem dX7_line_136 : decode cX7_line 136 = .ok (.iload 8, 2) := by decide +kernel
theorem dX7_line_138 : decode cX7_line 138 = .ok (.isub, 1) := by decide +kernel
theorem dX7_line_139 : decode cX7_line 139 = .ok (.invokevirtual 196, 3) := by decide +kernel
theorem dX7_line_142 : decode cX7_line 142 = .ok (.ifCond .ne 9, 3) := by decide +kernel
theorem dX7_line_145 : decode cX7_line 145 = .ok (.iinc 10 1, 3) := by decide +kernel
theorem dX7_line_148 : decode cX7_line 148 = .ok (.goto (-19), 3) := by decide +kernel
theorem dX7_line_151 : decode cX7_line 151 = .ok (.aload_n 0, 1) := by decide +kernel
theorem dX7_line_152 : decode cX7_line 152 = .ok (.iload 8, 2) := by decide +kernel
theorem dX7_line_154 : decode cX7_line 154 = .ok (.iconst 1, 1) := by decide +kernel
theorem dX7_line_155 : decode cX7_line 155 = .ok (.iadd, 1) := by decide +kernel
theorem dX7_line_156 : decode cX7_line 156 = .ok (.aload_n 0, 1) := by decide +kernel
theorem dX7_line_157 : decode cX7_line 157 = .ok (.getfield 51, 3) := by decide +kernel
theorem dX7_line_160 : decode cX7_line 160 = .ok (.iload 10, 2) := by decide +kernel
theorem dX7_line_162 : decode cX7_line 162 = .ok (.iaload, 1) := by decide +kernel
theorem dX7_line_163 : decode cX7_line 163 = .ok (.aload_n 0, 1) := by decide +kernel
theorem dX7_line_164 : decode cX7_line 164 = .ok (.getfield 54, 3) := by decide +kernel
theorem dX7_line_167 : decode cX7_line 167 = .ok (.iload 10, 2) := by decide +kernel
theorem dX7_line_169 : decode cX7_line 169 = .ok (.iaload, 1) := by decide +kernel
theorem dX7_line_170 : decode cX7_line 170 = .ok (.aload_n 0, 1) := by decide +kernel
theorem dX7_line_171 : decode cX7_line 171 = .ok (.getfield 57, 3) := by decide +kernel
theorem dX7_line_174 : decode cX7_line 174 = .ok (.iload 10, 2) := by decide +kernel
theorem dX7_line_176 : decode cX7_line 176 = .ok (.iaload, 1) := by decide +kernel
theorem dX7_line_177 : decode cX7_line 177 = .ok (.aload_n 0, 1) := by decide +kernel
theorem dX7_line_178 : decode cX7_line 178 = .ok (.getfield 60, 3) := by decide +kernel
theorem dX7_line_181 : decode cX7_line 181 = .ok (.iload 10, 2) := by decide +kernel
theorem dX7_line_183 : decode cX7_line 183 = .ok (.iaload, 1) := by decide +kernel
theorem dX7_line_184 : decode cX7_line 184 = .ok (.iconst 1, 1) := by decide +kernel
theorem dX7_line_185 : decode cX7_line 185 = .ok (.iload 9, 2) := by decide +kernel
theorem dX7_line_187 : decode cX7_line 187 = .ok (.isub, 1) := by decide +kernel
theorem dX7_line_188 : decode cX7_line 188 = .ok (.invokevirtual 199, 3) := by decide +kernel
theorem dX7_line_191 : decode cX7_line 191 = .ok (.iinc 8 1, 3) := by decide +kernel
theorem dX7_line_194 : decode cX7_line 194 = .ok (.goto (-136), 3) := by decide +kernel
theorem dX7_line_197 : decode cX7_line 197 = .ok (.aload_n 0, 1) := by decide +kernel
theorem dX7_line_198 : decode cX7_line 198 = .ok (.iload 7, 2) := by decide +kernel
theorem dX7_line_200 : decode cX7_line 200 = .ok (.putfield 75, 3) := by decide +kernel
theorem dX7_line_203 : decode cX7_line 203 = .ok (.iload 7, 2) := by decide +kernel
theorem dX7_line_205 : decode cX7_line 205 = .ok (.ireturn, 1) := by decide +kernel
theorem dX7_ply_0 : decode cX7_ply 0 = .ok (.aload_n 0, 1) := by decide +kernel
theorem dX7_ply_1 : decode cX7_ply 1 = .ok (.iconst 0, 1) := by decide +kernel
theorem dX7_ply_2 : decode cX7_ply 2 = .ok (.putfield 81, 3) := by decide +kernel
theorem dX7_ply_5 : decode cX7_ply 5 = .ok (.iload_n 1, 1) := by decide +kernel
theorem dX7_ply_6 : decode cX7_ply 6 = .ok (.iconst 0, 1) := by decide +kernel
theorem dX7_ply_7 : decode cX7_ply 7 = .ok (.aload_n 0, 1) := by decide +kernel
theorem dX7_ply_8 : decode cX7_ply 8 = .ok (.getfield 75, 3) := by decide +kernel
theorem dX7_ply_11 : decode cX7_ply 11 = .ok (.invokestatic 84, 3) := by decide +kernel
theorem dX7_ply_14 : decode cX7_ply 14 = .ok (.ifCond .eq 25, 3) := by decide +kernel
theorem dX7_ply_17 : decode cX7_ply 17 = .ok (.iload_n 2, 1) := by decide +kernel
theorem dX7_ply_18 : decode cX7_ply 18 = .ok (.iconst 0, 1) := by decide +kernel
theorem dX7_ply_19 : decode cX7_ply 19 = .ok (.iconst 4, 1) := by decide +kernel
theorem dX7_ply_20 : decode cX7_ply 20 = .ok (.invokestatic 84, 3) := by decide +kernel
theorem dX7_ply_23 : decode cX7_ply 23 = .ok (.ifCond .eq 16, 3) := by decide +kernel
theorem dX7_ply_26 : decode cX7_ply 26 = .ok (.aload_n 0, 1) := by decide +kernel
theorem dX7_ply_27 : decode cX7_ply 27 = .ok (.getfield 78, 3) := by decide +kernel
theorem dX7_ply_30 : decode cX7_ply 30 = .ok (.iconst 5, 1) := by decide +kernel
theorem dX7_ply_31 : decode cX7_ply 31 = .ok (.iload_n 1, 1) := by decide +kernel
theorem dX7_ply_32 : decode cX7_ply 32 = .ok (.imul, 1) := by decide +kernel
theorem dX7_ply_33 : decode cX7_ply 33 = .ok (.iload_n 2, 1) := by decide +kernel
theorem dX7_ply_34 : decode cX7_ply 34 = .ok (.iadd, 1) := by decide +kernel
theorem dX7_ply_35 : decode cX7_ply 35 = .ok (.iaload, 1) := by decide +kernel
theorem dX7_ply_36 : decode cX7_ply 36 = .ok (.goto 4, 3) := by decide +kernel
theorem dX7_ply_39 : decode cX7_ply 39 = .ok (.iconst (-1), 1) := by decide +kernel
theorem dX7_ply_40 : decode cX7_ply 40 = .ok (.ireturn, 1) := by decide +kernel
theorem dX7_number_0 : decode cX7_number 0 = .ok (.aload_n 0, 1) := by decide +kernel
theorem dX7_number_1 : decode cX7_number 1 = .ok (.iload_n 1, 1) := by decide +kernel
theorem dX7_number_2 : decode cX7_number 2 = .ok (.iload_n 2, 1) := by decide +kernel
theorem dX7_number_3 : decode cX7_number 3 = .ok (.iload_n 3, 1) := by decide +kernel
theorem dX7_number_4 : decode cX7_number 4 = .ok (.iload 4, 2) := by decide +kernel
theorem dX7_number_6 : decode cX7_number 6 = .ok (.iload 5, 2) := by decide +kernel
theorem dX7_number_8 : decode cX7_number 8 = .ok (.invokevirtual 190, 3) := by decide +kernel
theorem dX7_number_11 : decode cX7_number 11 = .ok (.ifCond .ne 5, 3) := by decide +kernel
theorem dX7_number_14 : decode cX7_number 14 = .ok (.iconst 0, 1) := by decide +kernel
theorem dX7_number_15 : decode cX7_number 15 = .ok (.ireturn, 1) := by decide +kernel
theorem dX7_number_16 : decode cX7_number 16 = .ok (.aload_n 0, 1) := by decide +kernel
theorem dX7_number_17 : decode cX7_number 17 = .ok (.iload_n 1, 1) := by decide +kernel
theorem dX7_number_18 : decode cX7_number 18 = .ok (.aload_n 0, 1) := by decide +kernel
theorem dX7_number_19 : decode cX7_number 19 = .ok (.iload_n 1, 1) := by decide +kernel
theorem dX7_number_20 : decode cX7_number 20 = .ok (.iload_n 2, 1) := by decide +kernel
theorem dX7_number_21 : decode cX7_number 21 = .ok (.iload_n 3, 1) := by decide +kernel
theorem dX7_number_22 : decode cX7_number 22 = .ok (.iload 4, 2) := by decide +kernel
theorem dX7_number_24 : decode cX7_number 24 = .ok (.iload 5, 2) := by decide +kernel
theorem dX7_number_26 : decode cX7_number 26 = .ok (.invokevirtual 173, 3) := by decide +kernel
theorem dX7_number_29 : decode cX7_number 29 = .ok (.invokevirtual 202, 3) := by decide +kernel
theorem dX7_number_32 : decode cX7_number 32 = .ok (.ireturn, 1) := by decide +kernel
theorem dX7_position_0 : decode cX7_position 0 = .ok (.aload_n 0, 1) := by decide +kernel
theorem dX7_position_1 : decode cX7_position 1 = .ok (.aload_n 0, 1) := by decide +kernel
theorem dX7_position_2 : decode cX7_position 2 = .ok (.iload_n 1, 1) := by decide +kernel
theorem dX7_position_3 : decode cX7_position 3 = .ok (.invokevirtual 179, 3) := by decide +kernel
theorem dX7_position_6 : decode cX7_position 6 = .ok (.invokevirtual 186, 3) := by decide +kernel
theorem dX7_position_9 : decode cX7_position 9 = .ok (.ifCond .ne 5, 3) := by decide +kernel
theorem dX7_position_12 : decode cX7_position 12 = .ok (.iconst 0, 1) := by decide +kernel
theorem dX7_position_13 : decode cX7_position 13 = .ok (.ireturn, 1) := by decide +kernel
theorem dX7_position_14 : decode cX7_position 14 = .ok (.iload_n 2, 1) := by decide +kernel
theorem dX7_position_15 : decode cX7_position 15 = .ok (.iconst 0, 1) := by decide +kernel
theorem dX7_position_16 : decode cX7_position 16 = .ok (.aload_n 0, 1) := by decide +kernel
theorem dX7_position_17 : decode cX7_position 17 = .ok (.getfield 33, 3) := by decide +kernel
theorem dX7_position_20 : decode cX7_position 20 = .ok (.iload_n 1, 1) := by decide +kernel
theorem dX7_position_21 : decode cX7_position 21 = .ok (.iaload, 1) := by decide +kernel
theorem dX7_position_22 : decode cX7_position 22 = .ok (.iconst 1, 1) := by decide +kernel
theorem dX7_position_23 : decode cX7_position 23 = .ok (.isub, 1) := by decide +kernel
theorem dX7_position_24 : decode cX7_position 24 = .ok (.invokestatic 84, 3) := by decide +kernel
theorem dX7_position_27 : decode cX7_position 27 = .ok (.ifCond .ne 5, 3) := by decide +kernel
theorem dX7_position_30 : decode cX7_position 30 = .ok (.iconst (-1), 1) := by decide +kernel
theorem dX7_position_31 : decode cX7_position 31 = .ok (.ireturn, 1) := by decide +kernel
theorem dX7_position_32 : decode cX7_position 32 = .ok (.iconst 0, 1) := by decide +kernel
theorem dX7_position_33 : decode cX7_position 33 = .ok (.istore 4, 2) := by decide +kernel
theorem dX7_position_35 : decode cX7_position 35 = .ok (.iconst 2, 1) := by decide +kernel
theorem dX7_position_36 : decode cX7_position 36 = .ok (.aload_n 0, 1) := by decide +kernel
theorem dX7_position_37 : decode cX7_position 37 = .ok (.getfield 13, 3) := by decide +kernel
theorem dX7_position_40 : decode cX7_position 40 = .ok (.imul, 1) := by decide +kernel
theorem dX7_position_41 : decode cX7_position 41 = .ok (.aload_n 0, 1) := by decide +kernel
theorem dX7_position_42 : decode cX7_position 42 = .ok (.getfield 13, 3) := by decide +kernel
theorem dX7_position_45 : decode cX7_position 45 = .ok (.imul, 1) := by decide +kernel
theorem dX7_position_46 : decode cX7_position 46 = .ok (.aload_n 0, 1) := by decide +kernel
theorem dX7_position_47 : decode cX7_position 47 = .ok (.getfield 13, 3) := by decide +kernel
theorem dX7_position_50 : decode cX7_position 50 = .ok (.imul, 1) := by decide +kernel
theorem dX7_position_51 : decode cX7_position 51 = .ok (.iconst 1, 1) := by decide +kernel
theorem dX7_position_52 : decode cX7_position 52 = .ok (.isub, 1) := by decide +kernel
theorem dX7_position_53 : decode cX7_position 53 = .ok (.iconst 5, 1) := by decide +kernel
theorem dX7_position_54 : decode cX7_position 54 = .ok (.ishr, 1) := by decide +kernel
theorem dX7_position_55 : decode cX7_position 55 = .ok (.istore 5, 2) := by decide +kernel
theorem dX7_position_57 : decode cX7_position 57 = .ok (.iload 4, 2) := by decide +kernel
theorem dX7_position_59 : decode cX7_position 59 = .ok (.iload 5, 2) := by decide +kernel
theorem dX7_position_61 : decode cX7_position 61 = .ok (.if_icmp .ge 47, 3) := by decide +kernel
theorem dX7_position_64 : decode cX7_position 64 = .ok (.iload 4, 2) := by decide +kernel
theorem dX7_position_66 : decode cX7_position 66 = .ok (.iload 5, 2) := by decide +kernel
theorem dX7_position_68 : decode cX7_position 68 = .ok (.iadd, 1) := by decide +kernel
theorem dX7_position_69 : decode cX7_position 69 = .ok (.iconst 1, 1) := by decide +kernel
theorem dX7_position_70 : decode cX7_position 70 = .ok (.iadd, 1) := by decide +kernel
theorem dX7_position_71 : decode cX7_position 71 = .ok (.iconst 2, 1) := by decide +kernel
theorem dX7_position_72 : decode cX7_position 72 = .ok (.idiv, 1) := by decide +kernel
theorem dX7_position_73 : decode cX7_position 73 = .ok (.istore 6, 2) := by decide +kernel
theorem dX7_position_75 : decode cX7_position 75 = .ok (.aload_n 0, 1) := by decide +kernel
theorem dX7_position_76 : decode cX7_position 76 = .ok (.getfield 30, 3) := by decide +kernel
theorem dX7_position_79 : decode cX7_position 79 = .ok (.sipush 16384, 3) := by decide +kernel
theorem dX7_position_82 : decode cX7_position 82 = .ok (.iload_n 1, 1) := by decide +kernel
theorem dX7_position_83 : decode cX7_position 83 = .ok (.imul, 1) := by decide +kernel
theorem dX7_position_84 : decode cX7_position 84 = .ok (.iload 6, 2) := by decide +kernel
theorem dX7_position_86 : decode cX7_position 86 = .ok (.iadd, 1) := by decide +kernel
theorem dX7_position_87 : decode cX7_position 87 = .ok (.iaload, 1) := by decide +kernel
theorem dX7_position_88 : decode cX7_position 88 = .ok (.iload_n 2, 1) := by decide +kernel
theorem dX7_position_89 : decode cX7_position 89 = .ok (.if_icmp .gt 10, 3) := by decide +kernel
theorem dX7_position_92 : decode cX7_position 92 = .ok (.iload 6, 2) := by decide +kernel
theorem dX7_position_94 : decode cX7_position 94 = .ok (.istore 4, 2) := by decide +kernel
theorem dX7_position_96 : decode cX7_position 96 = .ok (.goto 9, 3) := by decide +kernel
theorem dX7_position_99 : decode cX7_position 99 = .ok (.iload 6, 2) := by decide +kernel
theorem dX7_position_101 : decode cX7_position 101 = .ok (.iconst 1, 1) := by decide +kernel
theorem dX7_position_102 : decode cX7_position 102 = .ok (.isub, 1) := by decide +kernel
theorem dX7_position_103 : decode cX7_position 103 = .ok (.istore 5, 2) := by decide +kernel
theorem dX7_position_105 : decode cX7_position 105 = .ok (.goto (-48), 3) := by decide +kernel
theorem dX7_position_108 : decode cX7_position 108 = .ok (.iload_n 2, 1) := by decide +kernel
theorem dX7_position_109 : decode cX7_position 109 = .ok (.aload_n 0, 1) := by decide +kernel
theorem dX7_position_110 : decode cX7_position 110 = .ok (.getfield 30, 3) := by decide +kernel
theorem dX7_position_113 : decode cX7_position 113 = .ok (.sipush 16384, 3) := by decide +kernel
theorem dX7_position_116 : decode cX7_position 116 = .ok (.iload_n 1, 1) := by decide +kernel
theorem dX7_position_117 : decode cX7_position 117 = .ok (.imul, 1) := by decide +kernel
theorem dX7_position_118 : decode cX7_position 118 = .ok (.iload 4, 2) := by decide +kernel
theorem dX7_position_120 : decode cX7_position 120 = .ok (.iadd, 1) := by decide +kernel
theorem dX7_position_121 : decode cX7_position 121 = .ok (.iaload, 1) := by decide +kernel
theorem dX7_position_122 : decode cX7_position 122 = .ok (.isub, 1) := by decide +kernel
theorem dX7_position_123 : decode cX7_position 123 = .ok (.istore 6, 2) := by decide +kernel
theorem dX7_position_125 : decode cX7_position 125 = .ok (.bipush 32, 2) := by decide +kernel
theorem dX7_position_127 : decode cX7_position 127 = .ok (.iload 4, 2) := by decide +kernel
theorem dX7_position_129 : decode cX7_position 129 = .ok (.imul, 1) := by decide +kernel
theorem dX7_position_130 : decode cX7_position 130 = .ok (.istore 7, 2) := by decide +kernel
theorem dX7_position_132 : decode cX7_position 132 = .ok (.iload 6, 2) := by decide +kernel
theorem dX7_position_134 : decode cX7_position 134 = .ok (.ifCond .gt 13, 3) := by decide +kernel
theorem dX7_position_137 : decode cX7_position 137 = .ok (.aload_n 0, 1) := by decide +kernel
theorem dX7_position_138 : decode cX7_position 138 = .ok (.iload_n 1, 1) := by decide +kernel
theorem dX7_position_139 : decode cX7_position 139 = .ok (.iload 7, 2) := by decide +kernel
theorem dX7_position_141 : decode cX7_position 141 = .ok (.invokevirtual 176, 3) := by decide +kernel
theorem dX7_position_144 : decode cX7_position 144 = .ok (.ifCond .ne 29, 3) := by decide +kernel
theorem dX7_position_147 : decode cX7_position 147 = .ok (.iload 6, 2) := by decide +kernel
theorem dX7_position_149 : decode cX7_position 149 = .ok (.aload_n 0, 1) := by decide +kernel
theorem dX7_position_150 : decode cX7_position 150 = .ok (.iload_n 1, 1) := by decide +kernel
theorem dX7_position_151 : decode cX7_position 151 = .ok (.iload 7, 2) := by decide +kernel
theorem dX7_position_153 : decode cX7_position 153 = .ok (.invokevirtual 176, 3) := by decide +kernel
theorem dX7_position_156 : decode cX7_position 156 = .ok (.ifCond .eq 7, 3) := by decide +kernel
theorem dX7_position_159 : decode cX7_position 159 = .ok (.iconst 1, 1) := by decide +kernel
theorem dX7_position_160 : decode cX7_position 160 = .ok (.goto 4, 3) := by decide +kernel
theorem dX7_position_163 : decode cX7_position 163 = .ok (.iconst 0, 1) := by decide +kernel
theorem dX7_position_164 : decode cX7_position 164 = .ok (.isub, 1) := by decide +kernel
theorem dX7_position_165 : decode cX7_position 165 = .ok (.istore 6, 2) := by decide +kernel
theorem dX7_position_167 : decode cX7_position 167 = .ok (.iinc 7 1, 3) := by decide +kernel
theorem dX7_position_170 : decode cX7_position 170 = .ok (.goto (-38), 3) := by decide +kernel
theorem dX7_position_173 : decode cX7_position 173 = .ok (.iload_n 3, 1) := by decide +kernel
theorem dX7_position_174 : decode cX7_position 174 = .ok (.tableswitch 94 0 4 #[34, 49, 64, 74, 79], 34) := by decide +kernel
theorem dX7_position_208 : decode cX7_position 208 = .ok (.iload 7, 2) := by decide +kernel
theorem dX7_position_210 : decode cX7_position 210 = .ok (.iconst 2, 1) := by decide +kernel
theorem dX7_position_211 : decode cX7_position 211 = .ok (.idiv, 1) := by decide +kernel
theorem dX7_position_212 : decode cX7_position 212 = .ok (.aload_n 0, 1) := by decide +kernel
theorem dX7_position_213 : decode cX7_position 213 = .ok (.getfield 13, 3) := by decide +kernel
theorem dX7_position_216 : decode cX7_position 216 = .ok (.idiv, 1) := by decide +kernel
theorem dX7_position_217 : decode cX7_position 217 = .ok (.aload_n 0, 1) := by decide +kernel
theorem dX7_position_218 : decode cX7_position 218 = .ok (.getfield 13, 3) := by decide +kernel
theorem dX7_position_221 : decode cX7_position 221 = .ok (.idiv, 1) := by decide +kernel
theorem dX7_position_222 : decode cX7_position 222 = .ok (.ireturn, 1) := by decide +kernel
theorem dX7_position_223 : decode cX7_position 223 = .ok (.iload 7, 2) := by decide +kernel
theorem dX7_position_225 : decode cX7_position 225 = .ok (.iconst 2, 1) := by decide +kernel
theorem dX7_position_226 : decode cX7_position 226 = .ok (.idiv, 1) := by decide +kernel
theorem dX7_position_227 : decode cX7_position 227 = .ok (.aload_n 0, 1) := by decide +kernel
theorem dX7_position_228 : decode cX7_position 228 = .ok (.getfield 13, 3) := by decide +kernel
theorem dX7_position_231 : decode cX7_position 231 = .ok (.idiv, 1) := by decide +kernel
theorem dX7_position_232 : decode cX7_position 232 = .ok (.aload_n 0, 1) := by decide +kernel
theorem dX7_position_233 : decode cX7_position 233 = .ok (.getfield 13, 3) := by decide +kernel
theorem dX7_position_236 : decode cX7_position 236 = .ok (.irem, 1) := by decide +kernel
theorem dX7_position_237 : decode cX7_position 237 = .ok (.ireturn, 1) := by decide +kernel
theorem dX7_position_238 : decode cX7_position 238 = .ok (.iload 7, 2) := by decide +kernel
theorem dX7_position_240 : decode cX7_position 240 = .ok (.iconst 2, 1) := by decide +kernel
theorem dX7_position_241 : decode cX7_position 241 = .ok (.idiv, 1) := by decide +kernel
theorem dX7_position_242 : decode cX7_position 242 = .ok (.aload_n 0, 1) := by decide +kernel
theorem dX7_position_243 : decode cX7_position 243 = .ok (.getfield 13, 3) := by decide +kernel
theorem dX7_position_246 : decode cX7_position 246 = .ok (.irem, 1) := by decide +kernel
theorem dX7_position_247 : decode cX7_position 247 = .ok (.ireturn, 1) := by decide +kernel
theorem dX7_position_248 : decode cX7_position 248 = .ok (.iload 7, 2) := by decide +kernel
theorem dX7_position_250 : decode cX7_position 250 = .ok (.iconst 1, 1) := by decide +kernel
theorem dX7_position_251 : decode cX7_position 251 = .ok (.iand, 1) := by decide +kernel
theorem dX7_position_252 : decode cX7_position 252 = .ok (.ireturn, 1) := by decide +kernel
theorem dX7_position_253 : decode cX7_position 253 = .ok (.aload_n 0, 1) := by decide +kernel
theorem dX7_position_254 : decode cX7_position 254 = .ok (.getfield 21, 3) := by decide +kernel
theorem dX7_position_257 : decode cX7_position 257 = .ok (.ldc 118, 2) := by decide +kernel
theorem dX7_position_259 : decode cX7_position 259 = .ok (.iload_n 1, 1) := by decide +kernel
theorem dX7_position_260 : decode cX7_position 260 = .ok (.imul, 1) := by decide +kernel
theorem dX7_position_261 : decode cX7_position 261 = .ok (.iload 7, 2) := by decide +kernel
theorem dX7_position_263 : decode cX7_position 263 = .ok (.iadd, 1) := by decide +kernel
theorem dX7_position_264 : decode cX7_position 264 = .ok (.baload, 1) := by decide +kernel
theorem dX7_position_265 : decode cX7_position 265 = .ok (.iconst 1, 1) := by decide +kernel
theorem dX7_position_266 : decode cX7_position 266 = .ok (.isub, 1) := by decide +kernel
theorem dX7_position_267 : decode cX7_position 267 = .ok (.ireturn, 1) := by decide +kernel
theorem dX7_position_268 : decode cX7_position 268 = .ok (.iconst (-1), 1) := by decide +kernel
theorem dX7_position_269 : decode cX7_position 269 = .ok (.ireturn, 1) := by decide +kernel
theorem dX7_isSqueezed_0 : decode cX7_isSqueezed 0 = .ok (.iload_n 2, 1) := by decide +kernel
theorem dX7_isSqueezed_1 : decode cX7_isSqueezed 1 = .ok (.iconst 1, 1) := by decide +kernel
theorem dX7_isSqueezed_2 : decode cX7_isSqueezed 2 = .ok (.iand, 1) := by decide +kernel
theorem dX7_isSqueezed_3 : decode cX7_isSqueezed 3 = .ok (.istore_n 3, 1) := by decide +kernel
theorem dX7_isSqueezed_4 : decode cX7_isSqueezed 4 = .ok (.iload_n 2, 1) := by decide +kernel
theorem dX7_isSqueezed_5 : decode cX7_isSqueezed 5 = .ok (.iconst 2, 1) := by decide +kernel
theorem dX7_isSqueezed_6 : decode cX7_isSqueezed 6 = .ok (.idiv, 1) := by decide +kernel
theorem dX7_isSqueezed_7 : decode cX7_isSqueezed 7 = .ok (.aload_n 0, 1) := by decide +kernel
theorem dX7_isSqueezed_8 : decode cX7_isSqueezed 8 = .ok (.getfield 13, 3) := by decide +kernel
theorem dX7_isSqueezed_11 : decode cX7_isSqueezed 11 = .ok (.idiv, 1) := by decide +kernel
theorem dX7_isSqueezed_12 : decode cX7_isSqueezed 12 = .ok (.aload_n 0, 1) := by decide +kernel
theorem dX7_isSqueezed_13 : decode cX7_isSqueezed 13 = .ok (.getfield 13, 3) := by decide +kernel
theorem dX7_isSqueezed_16 : decode cX7_isSqueezed 16 = .ok (.idiv, 1) := by decide +kernel
theorem dX7_isSqueezed_17 : decode cX7_isSqueezed 17 = .ok (.istore 4, 2) := by decide +kernel
theorem dX7_isSqueezed_19 : decode cX7_isSqueezed 19 = .ok (.iload_n 2, 1) := by decide +kernel
theorem dX7_isSqueezed_20 : decode cX7_isSqueezed 20 = .ok (.iconst 2, 1) := by decide +kernel
theorem dX7_isSqueezed_21 : decode cX7_isSqueezed 21 = .ok (.idiv, 1) := by decide +kernel
theorem dX7_isSqueezed_22 : decode cX7_isSqueezed 22 = .ok (.aload_n 0, 1) := by decide +kernel
theorem dX7_isSqueezed_23 : decode cX7_isSqueezed 23 = .ok (.getfield 13, 3) := by decide +kernel
theorem dX7_isSqueezed_26 : decode cX7_isSqueezed 26 = .ok (.idiv, 1) := by decide +kernel
theorem dX7_isSqueezed_27 : decode cX7_isSqueezed 27 = .ok (.aload_n 0, 1) := by decide +kernel
theorem dX7_isSqueezed_28 : decode cX7_isSqueezed 28 = .ok (.getfield 13, 3) := by decide +kernel
theorem dX7_isSqueezed_31 : decode cX7_isSqueezed 31 = .ok (.irem, 1) := by decide +kernel
theorem dX7_isSqueezed_32 : decode cX7_isSqueezed 32 = .ok (.istore 5, 2) := by decide +kernel
theorem dX7_isSqueezed_34 : decode cX7_isSqueezed 34 = .ok (.iload_n 2, 1) := by decide +kernel
theorem dX7_isSqueezed_35 : decode cX7_isSqueezed 35 = .ok (.iconst 2, 1) := by decide +kernel
theorem dX7_isSqueezed_36 : decode cX7_isSqueezed 36 = .ok (.idiv, 1) := by decide +kernel
theorem dX7_isSqueezed_37 : decode cX7_isSqueezed 37 = .ok (.aload_n 0, 1) := by decide +kernel
theorem dX7_isSqueezed_38 : decode cX7_isSqueezed 38 = .ok (.getfield 13, 3) := by decide +kernel
theorem dX7_isSqueezed_41 : decode cX7_isSqueezed 41 = .ok (.irem, 1) := by decide +kernel
theorem dX7_isSqueezed_42 : decode cX7_isSqueezed 42 = .ok (.istore 6, 2) := by decide +kernel
theorem dX7_isSqueezed_44 : decode cX7_isSqueezed 44 = .ok (.aload_n 0, 1) := by decide +kernel
theorem dX7_isSqueezed_45 : decode cX7_isSqueezed 45 = .ok (.iload_n 1, 1) := by decide +kernel
theorem dX7_isSqueezed_46 : decode cX7_isSqueezed 46 = .ok (.iload 4, 2) := by decide +kernel
theorem dX7_isSqueezed_48 : decode cX7_isSqueezed 48 = .ok (.iload 5, 2) := by decide +kernel
theorem dX7_isSqueezed_50 : decode cX7_isSqueezed 50 = .ok (.iload 6, 2) := by decide +kernel
theorem dX7_isSqueezed_52 : decode cX7_isSqueezed 52 = .ok (.iconst 1, 1) := by decide +kernel
theorem dX7_isSqueezed_53 : decode cX7_isSqueezed 53 = .ok (.iload_n 3, 1) := by decide +kernel
theorem dX7_isSqueezed_54 : decode cX7_isSqueezed 54 = .ok (.isub, 1) := by decide +kernel
theorem dX7_isSqueezed_55 : decode cX7_isSqueezed 55 = .ok (.invokevirtual 107, 3) := by decide +kernel
theorem dX7_isSqueezed_58 : decode cX7_isSqueezed 58 = .ok (.ifCond .ne 5, 3) := by decide +kernel
theorem dX7_isSqueezed_61 : decode cX7_isSqueezed 61 = .ok (.iconst 0, 1) := by decide +kernel
theorem dX7_isSqueezed_62 : decode cX7_isSqueezed 62 = .ok (.ireturn, 1) := by decide +kernel
theorem dX7_isSqueezed_63 : decode cX7_isSqueezed 63 = .ok (.aload_n 0, 1) := by decide +kernel
theorem dX7_isSqueezed_64 : decode cX7_isSqueezed 64 = .ok (.getfield 21, 3) := by decide +kernel
theorem dX7_isSqueezed_67 : decode cX7_isSqueezed 67 = .ok (.ldc 118, 2) := by decide +kernel
theorem dX7_isSqueezed_69 : decode cX7_isSqueezed 69 = .ok (.iload_n 1, 1) := by decide +kernel
theorem dX7_isSqueezed_70 : decode cX7_isSqueezed 70 = .ok (.imul, 1) := by decide +kernel
theorem dX7_isSqueezed_71 : decode cX7_isSqueezed 71 = .ok (.iload_n 2, 1) := by decide +kernel
theorem dX7_isSqueezed_72 : decode cX7_isSqueezed 72 = .ok (.iadd, 1) := by decide +kernel
theorem dX7_isSqueezed_73 : decode cX7_isSqueezed 73 = .ok (.baload, 1) := by decide +kernel
theorem dX7_isSqueezed_74 : decode cX7_isSqueezed 74 = .ok (.ifCond .le 7, 3) := by decide +kernel
theorem dX7_isSqueezed_77 : decode cX7_isSqueezed 77 = .ok (.iconst 1, 1) := by decide +kernel
theorem dX7_isSqueezed_78 : decode cX7_isSqueezed 78 = .ok (.goto 4, 3) := by decide +kernel
theorem dX7_isSqueezed_81 : decode cX7_isSqueezed 81 = .ok (.iconst 0, 1) := by decide +kernel
theorem dX7_isSqueezed_82 : decode cX7_isSqueezed 82 = .ok (.istore 7, 2) := by decide +kernel
theorem dX7_isSqueezed_84 : decode cX7_isSqueezed 84 = .ok (.aload_n 0, 1) := by decide +kernel
theorem dX7_isSqueezed_85 : decode cX7_isSqueezed 85 = .ok (.getfield 21, 3) := by decide +kernel
theorem dX7_isSqueezed_88 : decode cX7_isSqueezed 88 = .ok (.ldc 118, 2) := by decide +kernel
theorem dX7_isSqueezed_90 : decode cX7_isSqueezed 90 = .ok (.iload_n 1, 1) := by decide +kernel
theorem dX7_isSqueezed_91 : decode cX7_isSqueezed 91 = .ok (.imul, 1) := by decide +kernel
theorem dX7_isSqueezed_92 : decode cX7_isSqueezed 92 = .ok (.iload_n 2, 1) := by decide +kernel
theorem dX7_isSqueezed_93 : decode cX7_isSqueezed 93 = .ok (.iconst 1, 1) := by decide +kernel
theorem dX7_isSqueezed_94 : decode cX7_isSqueezed 94 = .ok (.ixor, 1) := by decide +kernel
theorem dX7_isSqueezed_95 : decode cX7_isSqueezed 95 = .ok (.iadd, 1) := by decide +kernel
theorem dX7_isSqueezed_96 : decode cX7_isSqueezed 96 = .ok (.baload, 1) := by decide +kernel
theorem dX7_isSqueezed_97 : decode cX7_isSqueezed 97 = .ok (.ifCond .le 7, 3) := by decide +kernel
theorem dX7_isSqueezed_100 : decode cX7_isSqueezed 100 = .ok (.iconst 1, 1) := by decide +kernel
theorem dX7_isSqueezed_101 : decode cX7_isSqueezed 101 = .ok (.goto 4, 3) := by decide +kernel
theorem dX7_isSqueezed_104 : decode cX7_isSqueezed 104 = .ok (.iconst 0, 1) := by decide +kernel
theorem dX7_isSqueezed_105 : decode cX7_isSqueezed 105 = .ok (.istore 8, 2) := by decide +kernel
theorem dX7_isSqueezed_107 : decode cX7_isSqueezed 107 = .ok (.iload_n 3, 1) := by decide +kernel
theorem dX7_isSqueezed_108 : decode cX7_isSqueezed 108 = .ok (.ifCond .ne 21, 3) := by decide +kernel
theorem dX7_isSqueezed_111 : decode cX7_isSqueezed 111 = .ok (.iload 7, 2) := by decide +kernel
theorem dX7_isSqueezed_113 : decode cX7_isSqueezed 113 = .ok (.ifCond .ne 12, 3) := by decide +kernel
theorem dX7_isSqueezed_116 : decode cX7_isSqueezed 116 = .ok (.iload 8, 2) := by decide +kernel
theorem dX7_isSqueezed_118 : decode cX7_isSqueezed 118 = .ok (.ifCond .eq 7, 3) := by decide +kernel
theorem dX7_isSqueezed_121 : decode cX7_isSqueezed 121 = .ok (.iconst 1, 1) := by decide +kernel
theorem dX7_isSqueezed_122 : decode cX7_isSqueezed 122 = .ok (.goto 22, 3) := by decide +kernel
theorem dX7_isSqueezed_125 : decode cX7_isSqueezed 125 = .ok (.iconst 0, 1) := by decide +kernel
theorem dX7_isSqueezed_126 : decode cX7_isSqueezed 126 = .ok (.goto 18, 3) := by decide +kernel
theorem dX7_isSqueezed_129 : decode cX7_isSqueezed 129 = .ok (.iload 7, 2) := by decide +kernel
theorem dX7_isSqueezed_131 : decode cX7_isSqueezed 131 = .ok (.ifCond .eq 12, 3) := by decide +kernel
theorem dX7_isSqueezed_134 : decode cX7_isSqueezed 134 = .ok (.iload 8, 2) := by decide +kernel
theorem dX7_isSqueezed_136 : decode cX7_isSqueezed 136 = .ok (.ifCond .ne 7, 3) := by decide +kernel
theorem dX7_isSqueezed_139 : decode cX7_isSqueezed 139 = .ok (.iconst 1, 1) := by decide +kernel
theorem dX7_isSqueezed_140 : decode cX7_isSqueezed 140 = .ok (.goto 4, 3) := by decide +kernel
theorem dX7_isSqueezed_143 : decode cX7_isSqueezed 143 = .ok (.iconst 0, 1) := by decide +kernel
theorem dX7_isSqueezed_144 : decode cX7_isSqueezed 144 = .ok (.ireturn, 1) := by decide +kernel
theorem dX7_count_0 : decode cX7_count 0 = .ok (.aload_n 0, 1) := by decide +kernel
theorem dX7_count_1 : decode cX7_count 1 = .ok (.aload_n 0, 1) := by decide +kernel
theorem dX7_count_2 : decode cX7_count 2 = .ok (.iload_n 1, 1) := by decide +kernel
theorem dX7_count_3 : decode cX7_count 3 = .ok (.invokevirtual 179, 3) := by decide +kernel
theorem dX7_count_6 : decode cX7_count 6 = .ok (.ifCond .eq 16, 3) := by decide +kernel
theorem dX7_count_9 : decode cX7_count 9 = .ok (.iload_n 2, 1) := by decide +kernel
theorem dX7_count_10 : decode cX7_count 10 = .ok (.iconst 0, 1) := by decide +kernel
theorem dX7_count_11 : decode cX7_count 11 = .ok (.iconst 1, 1) := by decide +kernel
theorem dX7_count_12 : decode cX7_count 12 = .ok (.invokestatic 84, 3) := by decide +kernel
theorem dX7_count_15 : decode cX7_count 15 = .ok (.ifCond .eq 7, 3) := by decide +kernel
theorem dX7_count_18 : decode cX7_count 18 = .ok (.iconst 1, 1) := by decide +kernel
theorem dX7_count_19 : decode cX7_count 19 = .ok (.goto 4, 3) := by decide +kernel
theorem dX7_count_22 : decode cX7_count 22 = .ok (.iconst 0, 1) := by decide +kernel
theorem dX7_count_23 : decode cX7_count 23 = .ok (.invokevirtual 186, 3) := by decide +kernel
theorem dX7_count_26 : decode cX7_count 26 = .ok (.ifCond .ne 5, 3) := by decide +kernel
theorem dX7_count_29 : decode cX7_count 29 = .ok (.iconst 0, 1) := by decide +kernel
theorem dX7_count_30 : decode cX7_count 30 = .ok (.ireturn, 1) := by decide +kernel
theorem dX7_count_31 : decode cX7_count 31 = .ok (.iconst 2, 1) := by decide +kernel
theorem dX7_count_32 : decode cX7_count 32 = .ok (.aload_n 0, 1) := by decide +kernel
theorem dX7_count_33 : decode cX7_count 33 = .ok (.getfield 13, 3) := by decide +kernel
theorem dX7_count_36 : decode cX7_count 36 = .ok (.imul, 1) := by decide +kernel
theorem dX7_count_37 : decode cX7_count 37 = .ok (.aload_n 0, 1) := by decide +kernel
theorem dX7_count_38 : decode cX7_count 38 = .ok (.getfield 13, 3) := by decide +kernel
theorem dX7_count_41 : decode cX7_count 41 = .ok (.imul, 1) := by decide +kernel
theorem dX7_count_42 : decode cX7_count 42 = .ok (.aload_n 0, 1) := by decide +kernel
theorem dX7_count_43 : decode cX7_count 43 = .ok (.getfield 13, 3) := by decide +kernel
theorem dX7_count_46 : decode cX7_count 46 = .ok (.imul, 1) := by decide +kernel
theorem dX7_count_47 : decode cX7_count 47 = .ok (.istore 4, 2) := by decide +kernel
theorem dX7_count_49 : decode cX7_count 49 = .ok (.iconst 0, 1) := by decide +kernel
theorem dX7_count_50 : decode cX7_count 50 = .ok (.istore 5, 2) := by decide +kernel
theorem dX7_count_52 : decode cX7_count 52 = .ok (.iload_n 2, 1) := by decide +kernel
theorem dX7_count_53 : decode cX7_count 53 = .ok (.istore 6, 2) := by decide +kernel
theorem dX7_count_55 : decode cX7_count 55 = .ok (.iload 6, 2) := by decide +kernel
theorem dX7_count_57 : decode cX7_count 57 = .ok (.iload 4, 2) := by decide +kernel
theorem dX7_count_59 : decode cX7_count 59 = .ok (.if_icmp .ge 86, 3) := by decide +kernel
theorem dX7_count_62 : decode cX7_count 62 = .ok (.aload_n 0, 1) := by decide +kernel
theorem dX7_count_63 : decode cX7_count 63 = .ok (.iload_n 1, 1) := by decide +kernel
theorem dX7_count_64 : decode cX7_count 64 = .ok (.iload 6, 2) := by decide +kernel
theorem dX7_count_66 : decode cX7_count 66 = .ok (.invokevirtual 176, 3) := by decide +kernel
theorem dX7_count_69 : decode cX7_count 69 = .ok (.ifCond .eq 70, 3) := by decide +kernel
theorem dX7_count_72 : decode cX7_count 72 = .ok (.iload_n 3, 1) := by decide +kernel
theorem dX7_count_73 : decode cX7_count 73 = .ok (.bipush (-2), 2) := by decide +kernel
theorem dX7_count_75 : decode cX7_count 75 = .ok (.if_icmp .eq 42, 3) := by decide +kernel
theorem dX7_count_78 : decode cX7_count 78 = .ok (.iload_n 3, 1) := by decide +kernel
theorem dX7_count_79 : decode cX7_count 79 = .ok (.bipush (-3), 2) := by decide +kernel
theorem dX7_count_81 : decode cX7_count 81 = .ok (.if_icmp .ne 13, 3) := by decide +kernel
theorem dX7_count_84 : decode cX7_count 84 = .ok (.aload_n 0, 1) := by decide +kernel
theorem dX7_count_85 : decode cX7_count 85 = .ok (.iload_n 1, 1) := by decide +kernel
theorem dX7_count_86 : decode cX7_count 86 = .ok (.iload 6, 2) := by decide +kernel
theorem dX7_count_88 : decode cX7_count 88 = .ok (.invokevirtual 205, 3) := by decide +kernel
theorem dX7_count_91 : decode cX7_count 91 = .ok (.ifCond .ne 26, 3) := by decide +kernel
theorem dX7_count_94 : decode cX7_count 94 = .ok (.iload_n 3, 1) := by decide +kernel
theorem dX7_count_95 : decode cX7_count 95 = .ok (.iconst (-1), 1) := by decide +kernel
theorem dX7_count_96 : decode cX7_count 96 = .ok (.if_icmp .lt 25, 3) := by decide +kernel
theorem dX7_count_99 : decode cX7_count 99 = .ok (.aload_n 0, 1) := by decide +kernel
theorem dX7_count_100 : decode cX7_count 100 = .ok (.getfield 21, 3) := by decide +kernel
theorem dX7_count_103 : decode cX7_count 103 = .ok (.ldc 118, 2) := by decide +kernel
theorem dX7_count_105 : decode cX7_count 105 = .ok (.iload_n 1, 1) := by decide +kernel
theorem dX7_count_106 : decode cX7_count 106 = .ok (.imul, 1) := by decide +kernel
theorem dX7_count_107 : decode cX7_count 107 = .ok (.iload 6, 2) := by decide +kernel
theorem dX7_count_109 : decode cX7_count 109 = .ok (.iadd, 1) := by decide +kernel
theorem dX7_count_110 : decode cX7_count 110 = .ok (.baload, 1) := by decide +kernel
theorem dX7_count_111 : decode cX7_count 111 = .ok (.iconst 1, 1) := by decide +kernel
theorem dX7_count_112 : decode cX7_count 112 = .ok (.isub, 1) := by decide +kernel
theorem dX7_count_113 : decode cX7_count 113 = .ok (.iload_n 3, 1) := by decide +kernel
theorem dX7_count_114 : decode cX7_count 114 = .ok (.if_icmp .ne 7, 3) := by decide +kernel
theorem dX7_count_117 : decode cX7_count 117 = .ok (.iconst 1, 1) := by decide +kernel
theorem dX7_count_118 : decode cX7_count 118 = .ok (.goto 4, 3) := by decide +kernel
theorem dX7_count_121 : decode cX7_count 121 = .ok (.iconst 0, 1) := by decide +kernel
theorem dX7_count_122 : decode cX7_count 122 = .ok (.istore 7, 2) := by decide +kernel
theorem dX7_count_124 : decode cX7_count 124 = .ok (.iload 5, 2) := by decide +kernel
theorem dX7_count_126 : decode cX7_count 126 = .ok (.iload 7, 2) := by decide +kernel
theorem dX7_count_128 : decode cX7_count 128 = .ok (.ifCond .eq 7, 3) := by decide +kernel
theorem dX7_count_131 : decode cX7_count 131 = .ok (.iconst 1, 1) := by decide +kernel
theorem dX7_count_132 : decode cX7_count 132 = .ok (.goto 4, 3) := by decide +kernel
theorem dX7_count_135 : decode cX7_count 135 = .ok (.iconst 0, 1) := by decide +kernel
theorem dX7_count_136 : decode cX7_count 136 = .ok (.iadd, 1) := by decide +kernel
theorem dX7_count_137 : decode cX7_count 137 = .ok (.istore 5, 2) := by decide +kernel
theorem dX7_count_139 : decode cX7_count 139 = .ok (.iinc 6 2, 3) := by decide +kernel
theorem dX7_count_142 : decode cX7_count 142 = .ok (.goto (-87), 3) := by decide +kernel
theorem dX7_count_145 : decode cX7_count 145 = .ok (.iload 5, 2) := by decide +kernel
theorem dX7_count_147 : decode cX7_count 147 = .ok (.ireturn, 1) := by decide +kernel
theorem dX7_longest_0 : decode cX7_longest 0 = .ok (.aload_n 0, 1) := by decide +kernel
theorem dX7_longest_1 : decode cX7_longest 1 = .ok (.aload_n 0, 1) := by decide +kernel
theorem dX7_longest_2 : decode cX7_longest 2 = .ok (.iload_n 1, 1) := by decide +kernel
theorem dX7_longest_3 : decode cX7_longest 3 = .ok (.invokevirtual 179, 3) := by decide +kernel
theorem dX7_longest_6 : decode cX7_longest 6 = .ok (.ifCond .eq 16, 3) := by decide +kernel
theorem dX7_longest_9 : decode cX7_longest 9 = .ok (.iload_n 2, 1) := by decide +kernel
theorem dX7_longest_10 : decode cX7_longest 10 = .ok (.iconst 0, 1) := by decide +kernel
theorem dX7_longest_11 : decode cX7_longest 11 = .ok (.iconst 1, 1) := by decide +kernel
theorem dX7_longest_12 : decode cX7_longest 12 = .ok (.invokestatic 84, 3) := by decide +kernel
theorem dX7_longest_15 : decode cX7_longest 15 = .ok (.ifCond .eq 7, 3) := by decide +kernel
theorem dX7_longest_18 : decode cX7_longest 18 = .ok (.iconst 1, 1) := by decide +kernel
theorem dX7_longest_19 : decode cX7_longest 19 = .ok (.goto 4, 3) := by decide +kernel
theorem dX7_longest_22 : decode cX7_longest 22 = .ok (.iconst 0, 1) := by decide +kernel
theorem dX7_longest_23 : decode cX7_longest 23 = .ok (.invokevirtual 186, 3) := by decide +kernel
theorem dX7_longest_26 : decode cX7_longest 26 = .ok (.ifCond .ne 5, 3) := by decide +kernel
theorem dX7_longest_29 : decode cX7_longest 29 = .ok (.iconst 0, 1) := by decide +kernel
theorem dX7_longest_30 : decode cX7_longest 30 = .ok (.ireturn, 1) := by decide +kernel
theorem dX7_longest_31 : decode cX7_longest 31 = .ok (.iconst 2, 1) := by decide +kernel
theorem dX7_longest_32 : decode cX7_longest 32 = .ok (.aload_n 0, 1) := by decide +kernel
theorem dX7_longest_33 : decode cX7_longest 33 = .ok (.getfield 13, 3) := by decide +kernel
theorem dX7_longest_36 : decode cX7_longest 36 = .ok (.imul, 1) := by decide +kernel
theorem dX7_longest_37 : decode cX7_longest 37 = .ok (.aload_n 0, 1) := by decide +kernel
theorem dX7_longest_38 : decode cX7_longest 38 = .ok (.getfield 13, 3) := by decide +kernel
theorem dX7_longest_41 : decode cX7_longest 41 = .ok (.imul, 1) := by decide +kernel
theorem dX7_longest_42 : decode cX7_longest 42 = .ok (.aload_n 0, 1) := by decide +kernel
theorem dX7_longest_43 : decode cX7_longest 43 = .ok (.getfield 13, 3) := by decide +kernel
theorem dX7_longest_46 : decode cX7_longest 46 = .ok (.imul, 1) := by decide +kernel
theorem dX7_longest_47 : decode cX7_longest 47 = .ok (.istore 4, 2) := by decide +kernel
theorem dX7_longest_49 : decode cX7_longest 49 = .ok (.iconst (-1), 1) := by decide +kernel
theorem dX7_longest_50 : decode cX7_longest 50 = .ok (.istore 5, 2) := by decide +kernel
theorem dX7_longest_52 : decode cX7_longest 52 = .ok (.iconst (-1), 1) := by decide +kernel
theorem dX7_longest_53 : decode cX7_longest 53 = .ok (.istore 6, 2) := by decide +kernel
theorem dX7_longest_55 : decode cX7_longest 55 = .ok (.iload_n 2, 1) := by decide +kernel
theorem dX7_longest_56 : decode cX7_longest 56 = .ok (.istore 7, 2) := by decide +kernel
theorem dX7_longest_58 : decode cX7_longest 58 = .ok (.iload 7, 2) := by decide +kernel
theorem dX7_longest_60 : decode cX7_longest 60 = .ok (.iload 4, 2) := by decide +kernel
theorem dX7_longest_62 : decode cX7_longest 62 = .ok (.if_icmp .ge 58, 3) := by decide +kernel
theorem dX7_longest_65 : decode cX7_longest 65 = .ok (.aload_n 0, 1) := by decide +kernel
theorem dX7_longest_66 : decode cX7_longest 66 = .ok (.iload_n 1, 1) := by decide +kernel
theorem dX7_longest_67 : decode cX7_longest 67 = .ok (.iload 7, 2) := by decide +kernel
theorem dX7_longest_69 : decode cX7_longest 69 = .ok (.invokevirtual 176, 3) := by decide +kernel
theorem dX7_longest_72 : decode cX7_longest 72 = .ok (.ifCond .eq 42, 3) := by decide +kernel
theorem dX7_longest_75 : decode cX7_longest 75 = .ok (.aload_n 0, 1) := by decide +kernel
theorem dX7_longest_76 : decode cX7_longest 76 = .ok (.getfield 21, 3) := by decide +kernel
theorem dX7_longest_79 : decode cX7_longest 79 = .ok (.ldc 118, 2) := by decide +kernel
theorem dX7_longest_81 : decode cX7_longest 81 = .ok (.iload_n 1, 1) := by decide +kernel
theorem dX7_longest_82 : decode cX7_longest 82 = .ok (.imul, 1) := by decide +kernel
theorem dX7_longest_83 : decode cX7_longest 83 = .ok (.iload 7, 2) := by decide +kernel
theorem dX7_longest_85 : decode cX7_longest 85 = .ok (.iadd, 1) := by decide +kernel
theorem dX7_longest_86 : decode cX7_longest 86 = .ok (.baload, 1) := by decide +kernel
theorem dX7_longest_87 : decode cX7_longest 87 = .ok (.iconst 1, 1) := by decide +kernel
theorem dX7_longest_88 : decode cX7_longest 88 = .ok (.isub, 1) := by decide +kernel
theorem dX7_longest_89 : decode cX7_longest 89 = .ok (.iload 5, 2) := by decide +kernel
theorem dX7_longest_91 : decode cX7_longest 91 = .ok (.if_icmp .le 23, 3) := by decide +kernel
theorem dX7_longest_94 : decode cX7_longest 94 = .ok (.aload_n 0, 1) := by decide +kernel
theorem dX7_longest_95 : decode cX7_longest 95 = .ok (.getfield 21, 3) := by decide +kernel
theorem dX7_longest_98 : decode cX7_longest 98 = .ok (.ldc 118, 2) := by decide +kernel
theorem dX7_longest_100 : decode cX7_longest 100 = .ok (.iload_n 1, 1) := by decide +kernel
theorem dX7_longest_101 : decode cX7_longest 101 = .ok (.imul, 1) := by decide +kernel
theorem dX7_longest_102 : decode cX7_longest 102 = .ok (.iload 7, 2) := by decide +kernel
theorem dX7_longest_104 : decode cX7_longest 104 = .ok (.iadd, 1) := by decide +kernel
theorem dX7_longest_105 : decode cX7_longest 105 = .ok (.baload, 1) := by decide +kernel
theorem dX7_longest_106 : decode cX7_longest 106 = .ok (.iconst 1, 1) := by decide +kernel
theorem dX7_longest_107 : decode cX7_longest 107 = .ok (.isub, 1) := by decide +kernel
theorem dX7_longest_108 : decode cX7_longest 108 = .ok (.istore 5, 2) := by decide +kernel
theorem dX7_longest_110 : decode cX7_longest 110 = .ok (.iload 7, 2) := by decide +kernel
theorem dX7_longest_112 : decode cX7_longest 112 = .ok (.istore 6, 2) := by decide +kernel
theorem dX7_longest_114 : decode cX7_longest 114 = .ok (.iinc 7 2, 3) := by decide +kernel
theorem dX7_longest_117 : decode cX7_longest 117 = .ok (.goto (-59), 3) := by decide +kernel
theorem dX7_longest_120 : decode cX7_longest 120 = .ok (.iload_n 3, 1) := by decide +kernel
theorem dX7_longest_121 : decode cX7_longest 121 = .ok (.ifCond .ne 8, 3) := by decide +kernel
theorem dX7_longest_124 : decode cX7_longest 124 = .ok (.iload 5, 2) := by decide +kernel
theorem dX7_longest_126 : decode cX7_longest 126 = .ok (.goto 25, 3) := by decide +kernel
theorem dX7_longest_129 : decode cX7_longest 129 = .ok (.iload_n 3, 1) := by decide +kernel
theorem dX7_longest_130 : decode cX7_longest 130 = .ok (.iconst 1, 1) := by decide +kernel
theorem dX7_longest_131 : decode cX7_longest 131 = .ok (.if_icmp .ne 19, 3) := by decide +kernel
theorem dX7_longest_134 : decode cX7_longest 134 = .ok (.iload 6, 2) := by decide +kernel
theorem dX7_longest_136 : decode cX7_longest 136 = .ok (.iconst (-1), 1) := by decide +kernel
theorem dX7_longest_137 : decode cX7_longest 137 = .ok (.if_icmp .eq 13, 3) := by decide +kernel
theorem dX7_longest_140 : decode cX7_longest 140 = .ok (.aload_n 0, 1) := by decide +kernel
theorem dX7_longest_141 : decode cX7_longest 141 = .ok (.iload_n 1, 1) := by decide +kernel
theorem dX7_longest_142 : decode cX7_longest 142 = .ok (.iload 6, 2) := by decide +kernel
theorem dX7_longest_144 : decode cX7_longest 144 = .ok (.invokevirtual 202, 3) := by decide +kernel
theorem dX7_longest_147 : decode cX7_longest 147 = .ok (.goto 4, 3) := by decide +kernel
theorem dX7_longest_150 : decode cX7_longest 150 = .ok (.iconst (-1), 1) := by decide +kernel
theorem dX7_longest_151 : decode cX7_longest 151 = .ok (.ireturn, 1) := by decide +kernel
theorem dX7_feed_0 : decode cX7_feed 0 = .ok (.aload_n 0, 1) := by decide +kernel
theorem dX7_feed_1 : decode cX7_feed 1 = .ok (.iconst 0, 1) := by decide +kernel
theorem dX7_feed_2 : decode cX7_feed 2 = .ok (.putfield 81, 3) := by decide +kernel
theorem dX7_feed_5 : decode cX7_feed 5 = .ok (.aload_n 0, 1) := by decide +kernel
theorem dX7_feed_6 : decode cX7_feed 6 = .ok (.getfield 208, 3) := by decide +kernel
theorem dX7_feed_9 : decode cX7_feed 9 = .ok (.bipush 20, 2) := by decide +kernel
theorem dX7_feed_11 : decode cX7_feed 11 = .ok (.iadd, 1) := by decide +kernel
theorem dX7_feed_12 : decode cX7_feed 12 = .ok (.bipush 40, 2) := by decide +kernel
theorem dX7_feed_14 : decode cX7_feed 14 = .ok (.if_icmp .le 5, 3) := by decide +kernel
theorem dX7_feed_17 : decode cX7_feed 17 = .ok (.iconst (-1), 1) := by decide +kernel
theorem dX7_feed_18 : decode cX7_feed 18 = .ok (.ireturn, 1) := by decide +kernel
theorem dX7_feed_19 : decode cX7_feed 19 = .ok (.aload_n 0, 1) := by decide +kernel
theorem dX7_feed_20 : decode cX7_feed 20 = .ok (.iload_n 1, 1) := by decide +kernel
theorem dX7_feed_21 : decode cX7_feed 21 = .ok (.invokevirtual 211, 3) := by decide +kernel
theorem dX7_feed_24 : decode cX7_feed 24 = .ok (.aload_n 0, 1) := by decide +kernel
theorem dX7_feed_25 : decode cX7_feed 25 = .ok (.iload_n 2, 1) := by decide +kernel
theorem dX7_feed_26 : decode cX7_feed 26 = .ok (.invokevirtual 211, 3) := by decide +kernel
theorem dX7_feed_29 : decode cX7_feed 29 = .ok (.aload_n 0, 1) := by decide +kernel
theorem dX7_feed_30 : decode cX7_feed 30 = .ok (.iload_n 3, 1) := by decide +kernel
theorem dX7_feed_31 : decode cX7_feed 31 = .ok (.invokevirtual 211, 3) := by decide +kernel
theorem dX7_feed_34 : decode cX7_feed 34 = .ok (.aload_n 0, 1) := by decide +kernel
theorem dX7_feed_35 : decode cX7_feed 35 = .ok (.iload 4, 2) := by decide +kernel
theorem dX7_feed_37 : decode cX7_feed 37 = .ok (.invokevirtual 211, 3) := by decide +kernel
theorem dX7_feed_40 : decode cX7_feed 40 = .ok (.aload_n 0, 1) := by decide +kernel
theorem dX7_feed_41 : decode cX7_feed 41 = .ok (.iload 5, 2) := by decide +kernel
theorem dX7_feed_43 : decode cX7_feed 43 = .ok (.invokevirtual 211, 3) := by decide +kernel
theorem dX7_feed_46 : decode cX7_feed 46 = .ok (.aload_n 0, 1) := by decide +kernel
theorem dX7_feed_47 : decode cX7_feed 47 = .ok (.getfield 208, 3) := by decide +kernel
theorem dX7_feed_50 : decode cX7_feed 50 = .ok (.ireturn, 1) := by decide +kernel
theorem dX7_four_0 : decode cX7_four 0 = .ok (.bipush 24, 2) := by decide +kernel
theorem dX7_four_2 : decode cX7_four 2 = .ok (.istore_n 2, 1) := by decide +kernel
theorem dX7_four_3 : decode cX7_four 3 = .ok (.iload_n 2, 1) := by decide +kernel
theorem dX7_four_4 : decode cX7_four 4 = .ok (.ifCond .lt 32, 3) := by decide +kernel
theorem dX7_four_7 : decode cX7_four 7 = .ok (.aload_n 0, 1) := by decide +kernel
theorem dX7_four_8 : decode cX7_four 8 = .ok (.getfield 36, 3) := by decide +kernel
theorem dX7_four_11 : decode cX7_four 11 = .ok (.aload_n 0, 1) := by decide +kernel
theorem dX7_four_12 : decode cX7_four 12 = .ok (.getfield 208, 3) := by decide +kernel
theorem dX7_four_15 : decode cX7_four 15 = .ok (.iload_n 1, 1) := by decide +kernel
theorem dX7_four_16 : decode cX7_four 16 = .ok (.iload_n 2, 1) := by decide +kernel
theorem dX7_four_17 : decode cX7_four 17 = .ok (.ishr, 1) := by decide +kernel
theorem dX7_four_18 : decode cX7_four 18 = .ok (.i2b, 1) := by decide +kernel
theorem dX7_four_19 : decode cX7_four 19 = .ok (.bastore, 1) := by decide +kernel
theorem dX7_four_20 : decode cX7_four 20 = .ok (.aload_n 0, 1) := by decide +kernel
theorem dX7_four_21 : decode cX7_four 21 = .ok (.dup, 1) := by decide +kernel
theorem dX7_four_22 : decode cX7_four 22 = .ok (.getfield 208, 3) := by decide +kernel
theorem dX7_four_25 : decode cX7_four 25 = .ok (.iconst 1, 1) := by decide +kernel
theorem dX7_four_26 : decode cX7_four 26 = .ok (.iadd, 1) := by decide +kernel
theorem dX7_four_27 : decode cX7_four 27 = .ok (.putfield 208, 3) := by decide +kernel
theorem dX7_four_30 : decode cX7_four 30 = .ok (.iinc 2 (-8), 3) := by decide +kernel
theorem dX7_four_33 : decode cX7_four 33 = .ok (.goto (-30), 3) := by decide +kernel
theorem dX7_four_36 : decode cX7_four 36 = .ok (.return_, 1) := by decide +kernel
theorem dX7_squareAt_0 : decode cX7_squareAt 0 = .ok (.aload_n 0, 1) := by decide +kernel
theorem dX7_squareAt_1 : decode cX7_squareAt 1 = .ok (.getfield 36, 3) := by decide +kernel
theorem dX7_squareAt_4 : decode cX7_squareAt 4 = .ok (.iload_n 1, 1) := by decide +kernel
theorem dX7_squareAt_5 : decode cX7_squareAt 5 = .ok (.baload, 1) := by decide +kernel
theorem dX7_squareAt_6 : decode cX7_squareAt 6 = .ok (.bipush 97, 2) := by decide +kernel
theorem dX7_squareAt_8 : decode cX7_squareAt 8 = .ok (.isub, 1) := by decide +kernel
theorem dX7_squareAt_9 : decode cX7_squareAt 9 = .ok (.istore_n 2, 1) := by decide +kernel
theorem dX7_squareAt_10 : decode cX7_squareAt 10 = .ok (.aload_n 0, 1) := by decide +kernel
theorem dX7_squareAt_11 : decode cX7_squareAt 11 = .ok (.getfield 36, 3) := by decide +kernel
theorem dX7_squareAt_14 : decode cX7_squareAt 14 = .ok (.iload_n 1, 1) := by decide +kernel
theorem dX7_squareAt_15 : decode cX7_squareAt 15 = .ok (.iconst 1, 1) := by decide +kernel
theorem dX7_squareAt_16 : decode cX7_squareAt 16 = .ok (.iadd, 1) := by decide +kernel
theorem dX7_squareAt_17 : decode cX7_squareAt 17 = .ok (.baload, 1) := by decide +kernel
theorem dX7_squareAt_18 : decode cX7_squareAt 18 = .ok (.bipush 49, 2) := by decide +kernel
theorem dX7_squareAt_20 : decode cX7_squareAt 20 = .ok (.isub, 1) := by decide +kernel
theorem dX7_squareAt_21 : decode cX7_squareAt 21 = .ok (.istore_n 3, 1) := by decide +kernel
theorem dX7_squareAt_22 : decode cX7_squareAt 22 = .ok (.iload_n 2, 1) := by decide +kernel
theorem dX7_squareAt_23 : decode cX7_squareAt 23 = .ok (.iconst 0, 1) := by decide +kernel
theorem dX7_squareAt_24 : decode cX7_squareAt 24 = .ok (.aload_n 0, 1) := by decide +kernel
theorem dX7_squareAt_25 : decode cX7_squareAt 25 = .ok (.getfield 7, 3) := by decide +kernel
theorem dX7_squareAt_28 : decode cX7_squareAt 28 = .ok (.iconst 1, 1) := by decide +kernel
theorem dX7_squareAt_29 : decode cX7_squareAt 29 = .ok (.isub, 1) := by decide +kernel
theorem dX7_squareAt_30 : decode cX7_squareAt 30 = .ok (.invokestatic 84, 3) := by decide +kernel
theorem dX7_squareAt_33 : decode cX7_squareAt 33 = .ok (.ifCond .eq 28, 3) := by decide +kernel
theorem dX7_squareAt_36 : decode cX7_squareAt 36 = .ok (.iload_n 3, 1) := by decide +kernel
theorem dX7_squareAt_37 : decode cX7_squareAt 37 = .ok (.iconst 0, 1) := by decide +kernel
theorem dX7_squareAt_38 : decode cX7_squareAt 38 = .ok (.aload_n 0, 1) := by decide +kernel
theorem dX7_squareAt_39 : decode cX7_squareAt 39 = .ok (.getfield 7, 3) := by decide +kernel
theorem dX7_squareAt_42 : decode cX7_squareAt 42 = .ok (.iconst 1, 1) := by decide +kernel
theorem dX7_squareAt_43 : decode cX7_squareAt 43 = .ok (.isub, 1) := by decide +kernel
theorem dX7_squareAt_44 : decode cX7_squareAt 44 = .ok (.invokestatic 84, 3) := by decide +kernel
theorem dX7_squareAt_47 : decode cX7_squareAt 47 = .ok (.ifCond .eq 14, 3) := by decide +kernel
theorem dX7_squareAt_50 : decode cX7_squareAt 50 = .ok (.aload_n 0, 1) := by decide +kernel
theorem dX7_squareAt_51 : decode cX7_squareAt 51 = .ok (.getfield 7, 3) := by decide +kernel
theorem dX7_squareAt_54 : decode cX7_squareAt 54 = .ok (.iload_n 3, 1) := by decide +kernel
theorem dX7_squareAt_55 : decode cX7_squareAt 55 = .ok (.imul, 1) := by decide +kernel
theorem dX7_squareAt_56 : decode cX7_squareAt 56 = .ok (.iload_n 2, 1) := by decide +kernel
theorem dX7_squareAt_57 : decode cX7_squareAt 57 = .ok (.iadd, 1) := by decide +kernel
theorem dX7_squareAt_58 : decode cX7_squareAt 58 = .ok (.goto 4, 3) := by decide +kernel
theorem dX7_squareAt_61 : decode cX7_squareAt 61 = .ok (.iconst (-1), 1) := by decide +kernel
theorem dX7_squareAt_62 : decode cX7_squareAt 62 = .ok (.ireturn, 1) := by decide +kernel
theorem dX7_read_0 : decode cX7_read 0 = .ok (.aload_n 0, 1) := by decide +kernel
theorem dX7_read_1 : decode cX7_read 1 = .ok (.iconst 0, 1) := by decide +kernel
theorem dX7_read_2 : decode cX7_read 2 = .ok (.putfield 81, 3) := by decide +kernel
theorem dX7_read_5 : decode cX7_read 5 = .ok (.iload_n 1, 1) := by decide +kernel
theorem dX7_read_6 : decode cX7_read 6 = .ok (.iconst 0, 1) := by decide +kernel
theorem dX7_read_7 : decode cX7_read 7 = .ok (.aload_n 0, 1) := by decide +kernel
theorem dX7_read_8 : decode cX7_read 8 = .ok (.getfield 208, 3) := by decide +kernel
theorem dX7_read_11 : decode cX7_read 11 = .ok (.invokestatic 84, 3) := by decide +kernel
theorem dX7_read_14 : decode cX7_read 14 = .ok (.ifCond .ne 6, 3) := by decide +kernel
theorem dX7_read_17 : decode cX7_read 17 = .ok (.bipush (-2), 2) := by decide +kernel
theorem dX7_read_19 : decode cX7_read 19 = .ok (.ireturn, 1) := by decide +kernel
theorem dX7_read_20 : decode cX7_read 20 = .ok (.aload_n 0, 1) := by decide +kernel
theorem dX7_read_21 : decode cX7_read 21 = .ok (.iconst 0, 1) := by decide +kernel
theorem dX7_read_22 : decode cX7_read 22 = .ok (.putfield 208, 3) := by decide +kernel
theorem dX7_read_25 : decode cX7_read 25 = .ok (.iload_n 1, 1) := by decide +kernel
theorem dX7_read_26 : decode cX7_read 26 = .ok (.bipush 13, 2) := by decide +kernel
theorem dX7_read_28 : decode cX7_read 28 = .ok (.if_icmp .ne 61, 3) := by decide +kernel
theorem dX7_read_31 : decode cX7_read 31 = .ok (.aload_n 0, 1) := by decide +kernel
theorem dX7_read_32 : decode cX7_read 32 = .ok (.getfield 36, 3) := by decide +kernel
theorem dX7_read_35 : decode cX7_read 35 = .ok (.iconst 0, 1) := by decide +kernel
theorem dX7_read_36 : decode cX7_read 36 = .ok (.baload, 1) := by decide +kernel
theorem dX7_read_37 : decode cX7_read 37 = .ok (.bipush 75, 2) := by decide +kernel
theorem dX7_read_39 : decode cX7_read 39 = .ok (.if_icmp .ne 50, 3) := by decide +kernel
theorem dX7_read_42 : decode cX7_read 42 = .ok (.aload_n 0, 1) := by decide +kernel
theorem dX7_read_43 : decode cX7_read 43 = .ok (.getfield 36, 3) := by decide +kernel
theorem dX7_read_46 : decode cX7_read 46 = .ok (.iconst 3, 1) := by decide +kernel
theorem dX7_read_47 : decode cX7_read 47 = .ok (.baload, 1) := by decide +kernel
theorem dX7_read_48 : decode cX7_read 48 = .ok (.bipush 32, 2) := by decide +kernel
theorem dX7_read_50 : decode cX7_read 50 = .ok (.if_icmp .ne 39, 3) := by decide +kernel
theorem dX7_read_53 : decode cX7_read 53 = .ok (.aload_n 0, 1) := by decide +kernel
theorem dX7_read_54 : decode cX7_read 54 = .ok (.getfield 36, 3) := by decide +kernel
theorem dX7_read_57 : decode cX7_read 57 = .ok (.bipush 7, 2) := by decide +kernel
theorem dX7_read_59 : decode cX7_read 59 = .ok (.baload, 1) := by decide +kernel
theorem dX7_read_60 : decode cX7_read 60 = .ok (.bipush 32, 2) := by decide +kernel
theorem dX7_read_62 : decode cX7_read 62 = .ok (.if_icmp .ne 27, 3) := by decide +kernel
theorem dX7_read_65 : decode cX7_read 65 = .ok (.aload_n 0, 1) := by decide +kernel
theorem dX7_read_66 : decode cX7_read 66 = .ok (.getfield 36, 3) := by decide +kernel
theorem dX7_read_69 : decode cX7_read 69 = .ok (.bipush 8, 2) := by decide +kernel
theorem dX7_read_71 : decode cX7_read 71 = .ok (.baload, 1) := by decide +kernel
theorem dX7_read_72 : decode cX7_read 72 = .ok (.bipush 107, 2) := by decide +kernel
theorem dX7_read_74 : decode cX7_read 74 = .ok (.if_icmp .ne 15, 3) := by decide +kernel
theorem dX7_read_77 : decode cX7_read 77 = .ok (.aload_n 0, 1) := by decide +kernel
theorem dX7_read_78 : decode cX7_read 78 = .ok (.getfield 36, 3) := by decide +kernel
theorem dX7_read_81 : decode cX7_read 81 = .ok (.bipush 11, 2) := by decide +kernel
theorem dX7_read_83 : decode cX7_read 83 = .ok (.baload, 1) := by decide +kernel
theorem dX7_read_84 : decode cX7_read 84 = .ok (.bipush 32, 2) := by decide +kernel
theorem dX7_read_86 : decode cX7_read 86 = .ok (.if_icmp .eq 5, 3) := by decide +kernel
theorem dX7_read_89 : decode cX7_read 89 = .ok (.iconst (-1), 1) := by decide +kernel
theorem dX7_read_90 : decode cX7_read 90 = .ok (.ireturn, 1) := by decide +kernel
theorem dX7_read_91 : decode cX7_read 91 = .ok (.aload_n 0, 1) := by decide +kernel
theorem dX7_read_92 : decode cX7_read 92 = .ok (.getfield 36, 3) := by decide +kernel
theorem dX7_read_95 : decode cX7_read 95 = .ok (.iconst 4, 1) := by decide +kernel
theorem dX7_read_96 : decode cX7_read 96 = .ok (.baload, 1) := by decide +kernel
theorem dX7_read_97 : decode cX7_read 97 = .ok (.bipush 81, 2) := by decide +kernel
theorem dX7_read_99 : decode cX7_read 99 = .ok (.if_icmp .ne 7, 3) := by decide +kernel
theorem dX7_read_102 : decode cX7_read 102 = .ok (.iconst 0, 1) := by decide +kernel
theorem dX7_read_103 : decode cX7_read 103 = .ok (.goto 34, 3) := by decide +kernel
theorem dX7_read_106 : decode cX7_read 106 = .ok (.aload_n 0, 1) := by decide +kernel
theorem dX7_read_107 : decode cX7_read 107 = .ok (.getfield 36, 3) := by decide +kernel
theorem dX7_read_110 : decode cX7_read 110 = .ok (.iconst 4, 1) := by decide +kernel
theorem dX7_read_111 : decode cX7_read 111 = .ok (.baload, 1) := by decide +kernel
theorem dX7_read_112 : decode cX7_read 112 = .ok (.bipush 82, 2) := by decide +kernel
theorem dX7_read_114 : decode cX7_read 114 = .ok (.if_icmp .ne 7, 3) := by decide +kernel
theorem dX7_read_117 : decode cX7_read 117 = .ok (.iconst 1, 1) := by decide +kernel
theorem dX7_read_118 : decode cX7_read 118 = .ok (.goto 19, 3) := by decide +kernel
theorem dX7_read_121 : decode cX7_read 121 = .ok (.aload_n 0, 1) := by decide +kernel
theorem dX7_read_122 : decode cX7_read 122 = .ok (.getfield 36, 3) := by decide +kernel
theorem dX7_read_125 : decode cX7_read 125 = .ok (.iconst 4, 1) := by decide +kernel
theorem dX7_read_126 : decode cX7_read 126 = .ok (.baload, 1) := by decide +kernel
theorem dX7_read_127 : decode cX7_read 127 = .ok (.bipush 80, 2) := by decide +kernel
theorem dX7_read_129 : decode cX7_read 129 = .ok (.if_icmp .ne 7, 3) := by decide +kernel
theorem dX7_read_132 : decode cX7_read 132 = .ok (.iconst 2, 1) := by decide +kernel
theorem dX7_read_133 : decode cX7_read 133 = .ok (.goto 4, 3) := by decide +kernel
theorem dX7_read_136 : decode cX7_read 136 = .ok (.iconst (-1), 1) := by decide +kernel
theorem dX7_read_137 : decode cX7_read 137 = .ok (.istore_n 2, 1) := by decide +kernel
theorem dX7_read_138 : decode cX7_read 138 = .ok (.aload_n 0, 1) := by decide +kernel
theorem dX7_read_139 : decode cX7_read 139 = .ok (.getfield 36, 3) := by decide +kernel
theorem dX7_read_142 : decode cX7_read 142 = .ok (.bipush 12, 2) := by decide +kernel
theorem dX7_read_144 : decode cX7_read 144 = .ok (.baload, 1) := by decide +kernel
theorem dX7_read_145 : decode cX7_read 145 = .ok (.bipush 119, 2) := by decide +kernel
theorem dX7_read_147 : decode cX7_read 147 = .ok (.if_icmp .ne 7, 3) := by decide +kernel
theorem dX7_read_150 : decode cX7_read 150 = .ok (.iconst 0, 1) := by decide +kernel
theorem dX7_read_151 : decode cX7_read 151 = .ok (.goto 20, 3) := by decide +kernel
theorem dX7_read_154 : decode cX7_read 154 = .ok (.aload_n 0, 1) := by decide +kernel
theorem dX7_read_155 : decode cX7_read 155 = .ok (.getfield 36, 3) := by decide +kernel
theorem dX7_read_158 : decode cX7_read 158 = .ok (.bipush 12, 2) := by decide +kernel
theorem dX7_read_160 : decode cX7_read 160 = .ok (.baload, 1) := by decide +kernel
theorem dX7_read_161 : decode cX7_read 161 = .ok (.bipush 98, 2) := by decide +kernel
theorem dX7_read_163 : decode cX7_read 163 = .ok (.if_icmp .ne 7, 3) := by decide +kernel
theorem dX7_read_166 : decode cX7_read 166 = .ok (.iconst 1, 1) := by decide +kernel
theorem dX7_read_167 : decode cX7_read 167 = .ok (.goto 4, 3) := by decide +kernel
theorem dX7_read_170 : decode cX7_read 170 = .ok (.iconst (-1), 1) := by decide +kernel
theorem dX7_read_171 : decode cX7_read 171 = .ok (.istore_n 3, 1) := by decide +kernel
theorem dX7_read_172 : decode cX7_read 172 = .ok (.aload_n 0, 1) := by decide +kernel
theorem dX7_read_173 : decode cX7_read 173 = .ok (.iconst 1, 1) := by decide +kernel
theorem dX7_read_174 : decode cX7_read 174 = .ok (.invokevirtual 214, 3) := by decide +kernel
theorem dX7_read_177 : decode cX7_read 177 = .ok (.istore 4, 2) := by decide +kernel
theorem dX7_read_179 : decode cX7_read 179 = .ok (.aload_n 0, 1) := by decide +kernel
theorem dX7_read_180 : decode cX7_read 180 = .ok (.iconst 5, 1) := by decide +kernel
theorem dX7_read_181 : decode cX7_read 181 = .ok (.invokevirtual 214, 3) := by decide +kernel
theorem dX7_read_184 : decode cX7_read 184 = .ok (.istore 5, 2) := by decide +kernel
theorem dX7_read_186 : decode cX7_read 186 = .ok (.aload_n 0, 1) := by decide +kernel
theorem dX7_read_187 : decode cX7_read 187 = .ok (.bipush 9, 2) := by decide +kernel
theorem dX7_read_189 : decode cX7_read 189 = .ok (.invokevirtual 214, 3) := by decide +kernel
theorem dX7_read_192 : decode cX7_read 192 = .ok (.istore 6, 2) := by decide +kernel
theorem dX7_read_194 : decode cX7_read 194 = .ok (.aload_n 0, 1) := by decide +kernel
theorem dX7_read_195 : decode cX7_read 195 = .ok (.iload_n 2, 1) := by decide +kernel
theorem dX7_read_196 : decode cX7_read 196 = .ok (.iload 4, 2) := by decide +kernel
theorem dX7_read_198 : decode cX7_read 198 = .ok (.iload 6, 2) := by decide +kernel
theorem dX7_read_200 : decode cX7_read 200 = .ok (.iload 5, 2) := by decide +kernel
theorem dX7_read_202 : decode cX7_read 202 = .ok (.iload_n 3, 1) := by decide +kernel
theorem dX7_read_203 : decode cX7_read 203 = .ok (.invokevirtual 183, 3) := by decide +kernel
theorem dX7_read_206 : decode cX7_read 206 = .ok (.ifCond .eq 18, 3) := by decide +kernel
theorem dX7_read_209 : decode cX7_read 209 = .ok (.aload_n 0, 1) := by decide +kernel
theorem dX7_read_210 : decode cX7_read 210 = .ok (.iload_n 2, 1) := by decide +kernel
theorem dX7_read_211 : decode cX7_read 211 = .ok (.iload 4, 2) := by decide +kernel
theorem dX7_read_213 : decode cX7_read 213 = .ok (.iload 6, 2) := by decide +kernel
theorem dX7_read_215 : decode cX7_read 215 = .ok (.iload 5, 2) := by decide +kernel
theorem dX7_read_217 : decode cX7_read 217 = .ok (.iload_n 3, 1) := by decide +kernel
theorem dX7_read_218 : decode cX7_read 218 = .ok (.invokevirtual 107, 3) := by decide +kernel
theorem dX7_read_221 : decode cX7_read 221 = .ok (.ifCond .ne 5, 3) := by decide +kernel
theorem dX7_read_224 : decode cX7_read 224 = .ok (.iconst (-1), 1) := by decide +kernel
theorem dX7_read_225 : decode cX7_read 225 = .ok (.ireturn, 1) := by decide +kernel
theorem dX7_read_226 : decode cX7_read 226 = .ok (.aload_n 0, 1) := by decide +kernel
theorem dX7_read_227 : decode cX7_read 227 = .ok (.iload 4, 2) := by decide +kernel
theorem dX7_read_229 : decode cX7_read 229 = .ok (.iload 6, 2) := by decide +kernel
theorem dX7_read_231 : decode cX7_read 231 = .ok (.iload 5, 2) := by decide +kernel
theorem dX7_read_233 : decode cX7_read 233 = .ok (.iload_n 3, 1) := by decide +kernel
theorem dX7_read_234 : decode cX7_read 234 = .ok (.invokevirtual 119, 3) := by decide +kernel
theorem dX7_read_237 : decode cX7_read 237 = .ok (.iconst 2, 1) := by decide +kernel
theorem dX7_read_238 : decode cX7_read 238 = .ok (.aload_n 0, 1) := by decide +kernel
theorem dX7_read_239 : decode cX7_read 239 = .ok (.getfield 13, 3) := by decide +kernel
theorem dX7_read_242 : decode cX7_read 242 = .ok (.imul, 1) := by decide +kernel
theorem dX7_read_243 : decode cX7_read 243 = .ok (.aload_n 0, 1) := by decide +kernel
theorem dX7_read_244 : decode cX7_read 244 = .ok (.getfield 13, 3) := by decide +kernel
theorem dX7_read_247 : decode cX7_read 247 = .ok (.imul, 1) := by decide +kernel
theorem dX7_read_248 : decode cX7_read 248 = .ok (.aload_n 0, 1) := by decide +kernel
theorem dX7_read_249 : decode cX7_read 249 = .ok (.getfield 13, 3) := by decide +kernel
theorem dX7_read_252 : decode cX7_read 252 = .ok (.imul, 1) := by decide +kernel
theorem dX7_read_253 : decode cX7_read 253 = .ok (.iload_n 2, 1) := by decide +kernel
theorem dX7_read_254 : decode cX7_read 254 = .ok (.imul, 1) := by decide +kernel
theorem dX7_read_255 : decode cX7_read 255 = .ok (.iadd, 1) := by decide +kernel
theorem dX7_read_256 : decode cX7_read 256 = .ok (.ireturn, 1) := by decide +kernel
theorem dX7_tell_0 : decode cX7_tell 0 = .ok (.aload_n 0, 1) := by decide +kernel
theorem dX7_tell_1 : decode cX7_tell 1 = .ok (.getfield 39, 3) := by decide +kernel
theorem dX7_tell_4 : decode cX7_tell 4 = .ok (.aload_n 0, 1) := by decide +kernel
theorem dX7_tell_5 : decode cX7_tell 5 = .ok (.getfield 217, 3) := by decide +kernel
theorem dX7_tell_8 : decode cX7_tell 8 = .ok (.iload_n 1, 1) := by decide +kernel
theorem dX7_tell_9 : decode cX7_tell 9 = .ok (.i2b, 1) := by decide +kernel
theorem dX7_tell_10 : decode cX7_tell 10 = .ok (.bastore, 1) := by decide +kernel
theorem dX7_tell_11 : decode cX7_tell 11 = .ok (.aload_n 0, 1) := by decide +kernel
theorem dX7_tell_12 : decode cX7_tell 12 = .ok (.dup, 1) := by decide +kernel
theorem dX7_tell_13 : decode cX7_tell 13 = .ok (.getfield 217, 3) := by decide +kernel
theorem dX7_tell_16 : decode cX7_tell 16 = .ok (.iconst 1, 1) := by decide +kernel
theorem dX7_tell_17 : decode cX7_tell 17 = .ok (.iadd, 1) := by decide +kernel
theorem dX7_tell_18 : decode cX7_tell 18 = .ok (.putfield 217, 3) := by decide +kernel
theorem dX7_tell_21 : decode cX7_tell 21 = .ok (.return_, 1) := by decide +kernel
theorem dX7_tellSquare_0 : decode cX7_tellSquare 0 = .ok (.aload_n 0, 1) := by decide +kernel
theorem dX7_tellSquare_1 : decode cX7_tellSquare 1 = .ok (.bipush 97, 2) := by decide +kernel
theorem dX7_tellSquare_3 : decode cX7_tellSquare 3 = .ok (.iload_n 1, 1) := by decide +kernel
theorem dX7_tellSquare_4 : decode cX7_tellSquare 4 = .ok (.aload_n 0, 1) := by decide +kernel
theorem dX7_tellSquare_5 : decode cX7_tellSquare 5 = .ok (.getfield 7, 3) := by decide +kernel
theorem dX7_tellSquare_8 : decode cX7_tellSquare 8 = .ok (.irem, 1) := by decide +kernel
theorem dX7_tellSquare_9 : decode cX7_tellSquare 9 = .ok (.iadd, 1) := by decide +kernel
theorem dX7_tellSquare_10 : decode cX7_tellSquare 10 = .ok (.invokevirtual 220, 3) := by decide +kernel
theorem dX7_tellSquare_13 : decode cX7_tellSquare 13 = .ok (.aload_n 0, 1) := by decide +kernel
theorem dX7_tellSquare_14 : decode cX7_tellSquare 14 = .ok (.bipush 49, 2) := by decide +kernel
theorem dX7_tellSquare_16 : decode cX7_tellSquare 16 = .ok (.iload_n 1, 1) := by decide +kernel
theorem dX7_tellSquare_17 : decode cX7_tellSquare 17 = .ok (.aload_n 0, 1) := by decide +kernel
theorem dX7_tellSquare_18 : decode cX7_tellSquare 18 = .ok (.getfield 7, 3) := by decide +kernel
theorem dX7_tellSquare_21 : decode cX7_tellSquare 21 = .ok (.idiv, 1) := by decide +kernel
theorem dX7_tellSquare_22 : decode cX7_tellSquare 22 = .ok (.iadd, 1) := by decide +kernel
theorem dX7_tellSquare_23 : decode cX7_tellSquare 23 = .ok (.invokevirtual 220, 3) := by decide +kernel
theorem dX7_tellSquare_26 : decode cX7_tellSquare 26 = .ok (.return_, 1) := by decide +kernel
theorem dX7_show_0 : decode cX7_show 0 = .ok (.aload_n 0, 1) := by decide +kernel
theorem dX7_show_1 : decode cX7_show 1 = .ok (.iconst 0, 1) := by decide +kernel
theorem dX7_show_2 : decode cX7_show 2 = .ok (.putfield 81, 3) := by decide +kernel
theorem dX7_show_5 : decode cX7_show 5 = .ok (.aload_n 0, 1) := by decide +kernel
theorem dX7_show_6 : decode cX7_show 6 = .ok (.iload_n 1, 1) := by decide +kernel
theorem dX7_show_7 : decode cX7_show 7 = .ok (.iload_n 2, 1) := by decide +kernel
theorem dX7_show_8 : decode cX7_show 8 = .ok (.iload_n 3, 1) := by decide +kernel
theorem dX7_show_9 : decode cX7_show 9 = .ok (.iload 4, 2) := by decide +kernel
theorem dX7_show_11 : decode cX7_show 11 = .ok (.iload 5, 2) := by decide +kernel
theorem dX7_show_13 : decode cX7_show 13 = .ok (.invokevirtual 183, 3) := by decide +kernel
theorem dX7_show_16 : decode cX7_show 16 = .ok (.ifCond .eq 17, 3) := by decide +kernel
theorem dX7_show_19 : decode cX7_show 19 = .ok (.aload_n 0, 1) := by decide +kernel
theorem dX7_show_20 : decode cX7_show 20 = .ok (.iload_n 1, 1) := by decide +kernel
theorem dX7_show_21 : decode cX7_show 21 = .ok (.iload_n 2, 1) := by decide +kernel
theorem dX7_show_22 : decode cX7_show 22 = .ok (.iload_n 3, 1) := by decide +kernel
theorem dX7_show_23 : decode cX7_show 23 = .ok (.iload 4, 2) := by decide +kernel
theorem dX7_show_25 : decode cX7_show 25 = .ok (.iload 5, 2) := by decide +kernel
theorem dX7_show_27 : decode cX7_show 27 = .ok (.invokevirtual 107, 3) := by decide +kernel
theorem dX7_show_30 : decode cX7_show 30 = .ok (.ifCond .ne 5, 3) := by decide +kernel
theorem dX7_show_33 : decode cX7_show 33 = .ok (.iconst (-1), 1) := by decide +kernel
theorem dX7_show_34 : decode cX7_show 34 = .ok (.ireturn, 1) := by decide +kernel
theorem dX7_show_35 : decode cX7_show 35 = .ok (.aload_n 0, 1) := by decide +kernel
theorem dX7_show_36 : decode cX7_show 36 = .ok (.iconst 0, 1) := by decide +kernel
theorem dX7_show_37 : decode cX7_show 37 = .ok (.putfield 217, 3) := by decide +kernel
theorem dX7_show_40 : decode cX7_show 40 = .ok (.aload_n 0, 1) := by decide +kernel
theorem dX7_show_41 : decode cX7_show 41 = .ok (.bipush 75, 2) := by decide +kernel
theorem dX7_show_43 : decode cX7_show 43 = .ok (.invokevirtual 220, 3) := by decide +kernel
theorem dX7_show_46 : decode cX7_show 46 = .ok (.aload_n 0, 1) := by decide +kernel
theorem dX7_show_47 : decode cX7_show 47 = .ok (.iload_n 2, 1) := by decide +kernel
theorem dX7_show_48 : decode cX7_show 48 = .ok (.invokevirtual 223, 3) := by decide +kernel
theorem dX7_show_51 : decode cX7_show 51 = .ok (.aload_n 0, 1) := by decide +kernel
theorem dX7_show_52 : decode cX7_show 52 = .ok (.bipush 32, 2) := by decide +kernel
theorem dX7_show_54 : decode cX7_show 54 = .ok (.invokevirtual 220, 3) := by decide +kernel
theorem dX7_show_57 : decode cX7_show 57 = .ok (.aload_n 0, 1) := by decide +kernel
theorem dX7_show_58 : decode cX7_show 58 = .ok (.iload_n 1, 1) := by decide +kernel
theorem dX7_show_59 : decode cX7_show 59 = .ok (.ifCond .ne 8, 3) := by decide +kernel
theorem dX7_show_62 : decode cX7_show 62 = .ok (.bipush 81, 2) := by decide +kernel
theorem dX7_show_64 : decode cX7_show 64 = .ok (.goto 15, 3) := by decide +kernel
theorem dX7_show_67 : decode cX7_show 67 = .ok (.iload_n 1, 1) := by decide +kernel
theorem dX7_show_68 : decode cX7_show 68 = .ok (.iconst 1, 1) := by decide +kernel
theorem dX7_show_69 : decode cX7_show 69 = .ok (.if_icmp .ne 8, 3) := by decide +kernel
theorem dX7_show_72 : decode cX7_show 72 = .ok (.bipush 82, 2) := by decide +kernel
theorem dX7_show_74 : decode cX7_show 74 = .ok (.goto 5, 3) := by decide +kernel
theorem dX7_show_77 : decode cX7_show 77 = .ok (.bipush 80, 2) := by decide +kernel
theorem dX7_show_79 : decode cX7_show 79 = .ok (.invokevirtual 220, 3) := by decide +kernel
theorem dX7_show_82 : decode cX7_show 82 = .ok (.aload_n 0, 1) := by decide +kernel
theorem dX7_show_83 : decode cX7_show 83 = .ok (.iload 4, 2) := by decide +kernel
theorem dX7_show_85 : decode cX7_show 85 = .ok (.invokevirtual 223, 3) := by decide +kernel
theorem dX7_show_88 : decode cX7_show 88 = .ok (.aload_n 0, 1) := by decide +kernel
theorem dX7_show_89 : decode cX7_show 89 = .ok (.bipush 32, 2) := by decide +kernel
theorem dX7_show_91 : decode cX7_show 91 = .ok (.invokevirtual 220, 3) := by decide +kernel
theorem dX7_show_94 : decode cX7_show 94 = .ok (.aload_n 0, 1) := by decide +kernel
theorem dX7_show_95 : decode cX7_show 95 = .ok (.bipush 107, 2) := by decide +kernel
theorem dX7_show_97 : decode cX7_show 97 = .ok (.invokevirtual 220, 3) := by decide +kernel
theorem dX7_show_100 : decode cX7_show 100 = .ok (.aload_n 0, 1) := by decide +kernel
theorem dX7_show_101 : decode cX7_show 101 = .ok (.iload_n 3, 1) := by decide +kernel
theorem dX7_show_102 : decode cX7_show 102 = .ok (.invokevirtual 223, 3) := by decide +kernel
theorem dX7_show_105 : decode cX7_show 105 = .ok (.aload_n 0, 1) := by decide +kernel
theorem dX7_show_106 : decode cX7_show 106 = .ok (.bipush 32, 2) := by decide +kernel
theorem dX7_show_108 : decode cX7_show 108 = .ok (.invokevirtual 220, 3) := by decide +kernel
theorem dX7_show_111 : decode cX7_show 111 = .ok (.aload_n 0, 1) := by decide +kernel
theorem dX7_show_112 : decode cX7_show 112 = .ok (.iload 5, 2) := by decide +kernel
theorem dX7_show_114 : decode cX7_show 114 = .ok (.ifCond .ne 8, 3) := by decide +kernel
theorem dX7_show_117 : decode cX7_show 117 = .ok (.bipush 119, 2) := by decide +kernel
theorem dX7_show_119 : decode cX7_show 119 = .ok (.goto 5, 3) := by decide +kernel
theorem dX7_show_122 : decode cX7_show 122 = .ok (.bipush 98, 2) := by decide +kernel
theorem dX7_show_124 : decode cX7_show 124 = .ok (.invokevirtual 220, 3) := by decide +kernel
theorem dX7_show_127 : decode cX7_show 127 = .ok (.aload_n 0, 1) := by decide +kernel
theorem dX7_show_128 : decode cX7_show 128 = .ok (.getfield 217, 3) := by decide +kernel
theorem dX7_show_131 : decode cX7_show 131 = .ok (.ireturn, 1) := by decide +kernel
theorem dX7_out_0 : decode cX7_out 0 = .ok (.aload_n 0, 1) := by decide +kernel
theorem dX7_out_1 : decode cX7_out 1 = .ok (.iconst 0, 1) := by decide +kernel
theorem dX7_out_2 : decode cX7_out 2 = .ok (.putfield 81, 3) := by decide +kernel
theorem dX7_out_5 : decode cX7_out 5 = .ok (.iload_n 1, 1) := by decide +kernel
theorem dX7_out_6 : decode cX7_out 6 = .ok (.iconst 0, 1) := by decide +kernel
theorem dX7_out_7 : decode cX7_out 7 = .ok (.aload_n 0, 1) := by decide +kernel
theorem dX7_out_8 : decode cX7_out 8 = .ok (.getfield 217, 3) := by decide +kernel
theorem dX7_out_11 : decode cX7_out 11 = .ok (.iconst 1, 1) := by decide +kernel
theorem dX7_out_12 : decode cX7_out 12 = .ok (.isub, 1) := by decide +kernel
theorem dX7_out_13 : decode cX7_out 13 = .ok (.invokestatic 84, 3) := by decide +kernel
theorem dX7_out_16 : decode cX7_out 16 = .ok (.ifCond .eq 16, 3) := by decide +kernel
theorem dX7_out_19 : decode cX7_out 19 = .ok (.aload_n 0, 1) := by decide +kernel
theorem dX7_out_20 : decode cX7_out 20 = .ok (.getfield 39, 3) := by decide +kernel
theorem dX7_out_23 : decode cX7_out 23 = .ok (.iload_n 1, 1) := by decide +kernel
theorem dX7_out_24 : decode cX7_out 24 = .ok (.baload, 1) := by decide +kernel
theorem dX7_out_25 : decode cX7_out 25 = .ok (.sipush 255, 3) := by decide +kernel
theorem dX7_out_28 : decode cX7_out 28 = .ok (.iand, 1) := by decide +kernel
theorem dX7_out_29 : decode cX7_out 29 = .ok (.goto 4, 3) := by decide +kernel
theorem dX7_out_32 : decode cX7_out 32 = .ok (.iconst (-1), 1) := by decide +kernel
theorem dX7_out_33 : decode cX7_out 33 = .ok (.ireturn, 1) := by decide +kernel
theorem dX6_init_0 : decode cX6_init 0 = .ok (.aload_n 0, 1) := by decide +kernel
theorem dX6_init_1 : decode cX6_init 1 = .ok (.invokespecial 1, 3) := by decide +kernel
theorem dX6_init_4 : decode cX6_init 4 = .ok (.aload_n 0, 1) := by decide +kernel
theorem dX6_init_5 : decode cX6_init 5 = .ok (.bipush 9, 2) := by decide +kernel
theorem dX6_init_7 : decode cX6_init 7 = .ok (.anewarray 9, 3) := by decide +kernel
theorem dX6_init_10 : decode cX6_init 10 = .ok (.putfield 11, 3) := by decide +kernel
theorem dX6_init_13 : decode cX6_init 13 = .ok (.aload_n 0, 1) := by decide +kernel
theorem dX6_init_14 : decode cX6_init 14 = .ok (.iconst 3, 1) := by decide +kernel
theorem dX6_init_15 : decode cX6_init 15 = .ok (.newarray .boolean, 2) := by decide +kernel
theorem dX6_init_17 : decode cX6_init 17 = .ok (.putfield 15, 3) := by decide +kernel
theorem dX6_init_20 : decode cX6_init 20 = .ok (.aload_n 0, 1) := by decide +kernel
theorem dX6_init_21 : decode cX6_init 21 = .ok (.new 19, 3) := by decide +kernel
theorem dX6_init_24 : decode cX6_init 24 = .ok (.dup, 1) := by decide +kernel
theorem dX6_init_25 : decode cX6_init 25 = .ok (.invokespecial 21, 3) := by decide +kernel
theorem dX6_init_28 : decode cX6_init 28 = .ok (.putfield 22, 3) := by decide +kernel
theorem dX6_init_31 : decode cX6_init 31 = .ok (.aload_n 0, 1) := by decide +kernel
theorem dX6_init_32 : decode cX6_init 32 = .ok (.new 26, 3) := by decide +kernel
theorem dX6_init_35 : decode cX6_init 35 = .ok (.dup, 1) := by decide +kernel
theorem dX6_init_36 : decode cX6_init 36 = .ok (.invokespecial 28, 3) := by decide +kernel
theorem dX6_init_39 : decode cX6_init 39 = .ok (.putfield 29, 3) := by decide +kernel
theorem dX6_init_42 : decode cX6_init 42 = .ok (.aload_n 0, 1) := by decide +kernel
theorem dX6_init_43 : decode cX6_init 43 = .ok (.new 19, 3) := by decide +kernel
theorem dX6_init_46 : decode cX6_init 46 = .ok (.dup, 1) := by decide +kernel
theorem dX6_init_47 : decode cX6_init 47 = .ok (.invokespecial 21, 3) := by decide +kernel
theorem dX6_init_50 : decode cX6_init 50 = .ok (.putfield 33, 3) := by decide +kernel
theorem dX6_init_53 : decode cX6_init 53 = .ok (.aload_n 0, 1) := by decide +kernel
theorem dX6_init_54 : decode cX6_init 54 = .ok (.new 26, 3) := by decide +kernel
theorem dX6_init_57 : decode cX6_init 57 = .ok (.dup, 1) := by decide +kernel
theorem dX6_init_58 : decode cX6_init 58 = .ok (.invokespecial 28, 3) := by decide +kernel
theorem dX6_init_61 : decode cX6_init 61 = .ok (.putfield 36, 3) := by decide +kernel
theorem dX6_init_64 : decode cX6_init 64 = .ok (.aload_n 0, 1) := by decide +kernel
theorem dX6_init_65 : decode cX6_init 65 = .ok (.sipush 635, 3) := by decide +kernel
theorem dX6_init_68 : decode cX6_init 68 = .ok (.newarray .int, 2) := by decide +kernel
theorem dX6_init_70 : decode cX6_init 70 = .ok (.putfield 39, 3) := by decide +kernel
theorem dX6_init_73 : decode cX6_init 73 = .ok (.aload_n 0, 1) := by decide +kernel
theorem dX6_init_74 : decode cX6_init 74 = .ok (.bipush 40, 2) := by decide +kernel
theorem dX6_init_76 : decode cX6_init 76 = .ok (.newarray .int, 2) := by decide +kernel
theorem dX6_init_78 : decode cX6_init 78 = .ok (.putfield 43, 3) := by decide +kernel
theorem dX6_init_81 : decode cX6_init 81 = .ok (.aload_n 0, 1) := by decide +kernel
theorem dX6_init_82 : decode cX6_init 82 = .ok (.bipush 13, 2) := by decide +kernel
theorem dX6_init_84 : decode cX6_init 84 = .ok (.newarray .int, 2) := by decide +kernel
theorem dX6_init_86 : decode cX6_init 86 = .ok (.putfield 46, 3) := by decide +kernel
theorem dX6_init_89 : decode cX6_init 89 = .ok (.aload_n 0, 1) := by decide +kernel
theorem dX6_init_90 : decode cX6_init 90 = .ok (.new 9, 3) := by decide +kernel
theorem dX6_init_93 : decode cX6_init 93 = .ok (.dup, 1) := by decide +kernel
theorem dX6_init_94 : decode cX6_init 94 = .ok (.bipush 8, 2) := by decide +kernel
theorem dX6_init_96 : decode cX6_init 96 = .ok (.invokespecial 49, 3) := by decide +kernel
theorem dX6_init_99 : decode cX6_init 99 = .ok (.putfield 52, 3) := by decide +kernel
theorem dX6_init_102 : decode cX6_init 102 = .ok (.aload_n 0, 1) := by decide +kernel
theorem dX6_init_103 : decode cX6_init 103 = .ok (.getfield 11, 3) := by decide +kernel
theorem dX6_init_106 : decode cX6_init 106 = .ok (.bipush 8, 2) := by decide +kernel
theorem dX6_init_108 : decode cX6_init 108 = .ok (.aload_n 0, 1) := by decide +kernel
theorem dX6_init_109 : decode cX6_init 109 = .ok (.getfield 52, 3) := by decide +kernel
theorem dX6_init_112 : decode cX6_init 112 = .ok (.aastore, 1) := by decide +kernel
theorem dX6_init_113 : decode cX6_init 113 = .ok (.return_, 1) := by decide +kernel
theorem dX6_board_0 : decode cX6_board 0 = .ok (.iload_n 1, 1) := by decide +kernel
theorem dX6_board_1 : decode cX6_board 1 = .ok (.iconst 4, 1) := by decide +kernel
theorem dX6_board_2 : decode cX6_board 2 = .ok (.if_icmp .lt 9, 3) := by decide +kernel
theorem dX6_board_5 : decode cX6_board 5 = .ok (.iload_n 1, 1) := by decide +kernel
theorem dX6_board_6 : decode cX6_board 6 = .ok (.bipush 8, 2) := by decide +kernel
theorem dX6_board_8 : decode cX6_board 8 = .ok (.if_icmp .le 5, 3) := by decide +kernel
theorem dX6_board_11 : decode cX6_board 11 = .ok (.iconst 0, 1) := by decide +kernel
theorem dX6_board_12 : decode cX6_board 12 = .ok (.ireturn, 1) := by decide +kernel
theorem dX6_board_13 : decode cX6_board 13 = .ok (.aload_n 0, 1) := by decide +kernel
theorem dX6_board_14 : decode cX6_board 14 = .ok (.getfield 11, 3) := by decide +kernel
theorem dX6_board_17 : decode cX6_board 17 = .ok (.iload_n 1, 1) := by decide +kernel
theorem dX6_board_18 : decode cX6_board 18 = .ok (.aaload, 1) := by decide +kernel
theorem dX6_board_19 : decode cX6_board 19 = .ok (.ifnonnull 17, 3) := by decide +kernel
theorem dX6_board_22 : decode cX6_board 22 = .ok (.aload_n 0, 1) := by decide +kernel
theorem dX6_board_23 : decode cX6_board 23 = .ok (.getfield 11, 3) := by decide +kernel
theorem dX6_board_26 : decode cX6_board 26 = .ok (.iload_n 1, 1) := by decide +kernel
theorem dX6_board_27 : decode cX6_board 27 = .ok (.new 9, 3) := by decide +kernel
theorem dX6_board_30 : decode cX6_board 30 = .ok (.dup, 1) := by decide +kernel
theorem dX6_board_31 : decode cX6_board 31 = .ok (.iload_n 1, 1) := by decide +kernel
theorem dX6_board_32 : decode cX6_board 32 = .ok (.invokespecial 49, 3) := by decide +kernel
theorem dX6_board_35 : decode cX6_board 35 = .ok (.aastore, 1) := by decide +kernel
theorem dX6_board_36 : decode cX6_board 36 = .ok (.aload_n 0, 1) := by decide +kernel
theorem dX6_board_37 : decode cX6_board 37 = .ok (.aload_n 0, 1) := by decide +kernel
theorem dX6_board_38 : decode cX6_board 38 = .ok (.getfield 11, 3) := by decide +kernel
theorem dX6_board_41 : decode cX6_board 41 = .ok (.iload_n 1, 1) := by decide +kernel
theorem dX6_board_42 : decode cX6_board 42 = .ok (.aaload, 1) := by decide +kernel
theorem dX6_board_43 : decode cX6_board 43 = .ok (.putfield 52, 3) := by decide +kernel
theorem dX6_board_46 : decode cX6_board 46 = .ok (.iconst 0, 1) := by decide +kernel
theorem dX6_board_47 : decode cX6_board 47 = .ok (.istore_n 2, 1) := by decide +kernel
theorem dX6_board_48 : decode cX6_board 48 = .ok (.iload_n 2, 1) := by decide +kernel
theorem dX6_board_49 : decode cX6_board 49 = .ok (.iconst 3, 1) := by decide +kernel
theorem dX6_board_50 : decode cX6_board 50 = .ok (.if_icmp .ge 16, 3) := by decide +kernel
theorem dX6_board_53 : decode cX6_board 53 = .ok (.aload_n 0, 1) := by decide +kernel
theorem dX6_board_54 : decode cX6_board 54 = .ok (.getfield 15, 3) := by decide +kernel
theorem dX6_board_57 : decode cX6_board 57 = .ok (.iload_n 2, 1) := by decide +kernel
theorem dX6_board_58 : decode cX6_board 58 = .ok (.iconst 0, 1) := by decide +kernel
theorem dX6_board_59 : decode cX6_board 59 = .ok (.bastore, 1) := by decide +kernel
theorem dX6_board_60 : decode cX6_board 60 = .ok (.iinc 2 1, 3) := by decide +kernel
theorem dX6_board_63 : decode cX6_board 63 = .ok (.goto (-15), 3) := by decide +kernel
theorem dX6_board_66 : decode cX6_board 66 = .ok (.aload_n 0, 1) := by decide +kernel
theorem dX6_board_67 : decode cX6_board 67 = .ok (.iconst 0, 1) := by decide +kernel
theorem dX6_board_68 : decode cX6_board 68 = .ok (.putfield 56, 3) := by decide +kernel
theorem dX6_board_71 : decode cX6_board 71 = .ok (.iconst 1, 1) := by decide +kernel
theorem dX6_board_72 : decode cX6_board 72 = .ok (.ireturn, 1) := by decide +kernel
theorem dX6_make_0 : decode cX6_make 0 = .ok (.iload_n 1, 1) := by decide +kernel
theorem dX6_make_1 : decode cX6_make 1 = .ok (.ifCond .lt 8, 3) := by decide +kernel
theorem dX6_make_4 : decode cX6_make 4 = .ok (.iload_n 1, 1) := by decide +kernel
theorem dX6_make_5 : decode cX6_make 5 = .ok (.iconst 2, 1) := by decide +kernel
theorem dX6_make_6 : decode cX6_make 6 = .ok (.if_icmp .le 5, 3) := by decide +kernel
theorem dX6_make_9 : decode cX6_make 9 = .ok (.iconst (-1), 1) := by decide +kernel
theorem dX6_make_10 : decode cX6_make 10 = .ok (.ireturn, 1) := by decide +kernel
theorem dX6_make_11 : decode cX6_make 11 = .ok (.iload_n 1, 1) := by decide +kernel
theorem dX6_make_12 : decode cX6_make 12 = .ok (.iconst 2, 1) := by decide +kernel
theorem dX6_make_13 : decode cX6_make 13 = .ok (.if_icmp .ne 35, 3) := by decide +kernel
theorem dX6_make_16 : decode cX6_make 16 = .ok (.aload_n 0, 1) := by decide +kernel
theorem dX6_make_17 : decode cX6_make 17 = .ok (.getfield 52, 3) := by decide +kernel
theorem dX6_make_20 : decode cX6_make 20 = .ok (.iconst 0, 1) := by decide +kernel
theorem dX6_make_21 : decode cX6_make 21 = .ok (.invokevirtual 60, 3) := by decide +kernel
theorem dX6_make_24 : decode cX6_make 24 = .ok (.pop, 1) := by decide +kernel
theorem dX6_make_25 : decode cX6_make 25 = .ok (.aload_n 0, 1) := by decide +kernel
theorem dX6_make_26 : decode cX6_make 26 = .ok (.getfield 52, 3) := by decide +kernel
theorem dX6_make_29 : decode cX6_make 29 = .ok (.iconst 1, 1) := by decide +kernel
theorem dX6_make_30 : decode cX6_make 30 = .ok (.invokevirtual 60, 3) := by decide +kernel
theorem dX6_make_33 : decode cX6_make 33 = .ok (.pop, 1) := by decide +kernel
theorem dX6_make_34 : decode cX6_make 34 = .ok (.aload_n 0, 1) := by decide +kernel
theorem dX6_make_35 : decode cX6_make 35 = .ok (.getfield 15, 3) := by decide +kernel
theorem dX6_make_38 : decode cX6_make 38 = .ok (.iconst 0, 1) := by decide +kernel
theorem dX6_make_39 : decode cX6_make 39 = .ok (.iconst 1, 1) := by decide +kernel
theorem dX6_make_40 : decode cX6_make 40 = .ok (.bastore, 1) := by decide +kernel
theorem dX6_make_41 : decode cX6_make 41 = .ok (.aload_n 0, 1) := by decide +kernel
theorem dX6_make_42 : decode cX6_make 42 = .ok (.getfield 15, 3) := by decide +kernel
theorem dX6_make_45 : decode cX6_make 45 = .ok (.iconst 1, 1) := by decide +kernel
theorem dX6_make_46 : decode cX6_make 46 = .ok (.iconst 1, 1) := by decide +kernel
theorem dX6_make_47 : decode cX6_make 47 = .ok (.bastore, 1) := by decide +kernel
theorem dX6_make_48 : decode cX6_make 48 = .ok (.aload_n 0, 1) := by decide +kernel
theorem dX6_make_49 : decode cX6_make 49 = .ok (.getfield 15, 3) := by decide +kernel
theorem dX6_make_52 : decode cX6_make 52 = .ok (.iload_n 1, 1) := by decide +kernel
theorem dX6_make_53 : decode cX6_make 53 = .ok (.iconst 1, 1) := by decide +kernel
theorem dX6_make_54 : decode cX6_make 54 = .ok (.bastore, 1) := by decide +kernel
theorem dX6_make_55 : decode cX6_make 55 = .ok (.aload_n 0, 1) := by decide +kernel
theorem dX6_make_56 : decode cX6_make 56 = .ok (.getfield 52, 3) := by decide +kernel
theorem dX6_make_59 : decode cX6_make 59 = .ok (.iload_n 1, 1) := by decide +kernel
theorem dX6_make_60 : decode cX6_make 60 = .ok (.invokevirtual 60, 3) := by decide +kernel
theorem dX6_make_63 : decode cX6_make 63 = .ok (.invokevirtual 64, 3) := by decide +kernel
theorem dX6_make_66 : decode cX6_make 66 = .ok (.ireturn, 1) := by decide +kernel
theorem dX6_isLegal_0 : decode cX6_isLegal 0 = .ok (.aload_n 0, 1) := by decide +kernel
theorem dX6_isLegal_1 : decode cX6_isLegal 1 = .ok (.getfield 52, 3) := by decide +kernel
theorem dX6_isLegal_4 : decode cX6_isLegal 4 = .ok (.iload_n 1, 1) := by decide +kernel
theorem dX6_isLegal_5 : decode cX6_isLegal 5 = .ok (.iload_n 2, 1) := by decide +kernel
theorem dX6_isLegal_6 : decode cX6_isLegal 6 = .ok (.iload_n 3, 1) := by decide +kernel
theorem dX6_isLegal_7 : decode cX6_isLegal 7 = .ok (.iload 4, 2) := by decide +kernel
theorem dX6_isLegal_9 : decode cX6_isLegal 9 = .ok (.iload 5, 2) := by decide +kernel
theorem dX6_isLegal_11 : decode cX6_isLegal 11 = .ok (.invokevirtual 70, 3) := by decide +kernel
theorem dX6_isLegal_14 : decode cX6_isLegal 14 = .ok (.ireturn, 1) := by decide +kernel
theorem dX6_moves_0 : decode cX6_moves 0 = .ok (.aload_n 0, 1) := by decide +kernel
theorem dX6_moves_1 : decode cX6_moves 1 = .ok (.getfield 52, 3) := by decide +kernel
theorem dX6_moves_4 : decode cX6_moves 4 = .ok (.iload_n 1, 1) := by decide +kernel
theorem dX6_moves_5 : decode cX6_moves 5 = .ok (.iload_n 2, 1) := by decide +kernel
theorem dX6_moves_6 : decode cX6_moves 6 = .ok (.iload_n 3, 1) := by decide +kernel
theorem dX6_moves_7 : decode cX6_moves 7 = .ok (.iload 4, 2) := by decide +kernel
theorem dX6_moves_9 : decode cX6_moves 9 = .ok (.iload 5, 2) := by decide +kernel
theorem dX6_moves_11 : decode cX6_moves 11 = .ok (.invokevirtual 70, 3) := by decide +kernel
theorem dX6_moves_14 : decode cX6_moves 14 = .ok (.ifCond .ne 5, 3) := by decide +kernel
theorem dX6_moves_17 : decode cX6_moves 17 = .ok (.iconst (-1), 1) := by decide +kernel
theorem dX6_moves_18 : decode cX6_moves 18 = .ok (.ireturn, 1) := by decide +kernel
theorem dX6_moves_19 : decode cX6_moves 19 = .ok (.iload 5, 2) := by decide +kernel
theorem dX6_moves_21 : decode cX6_moves 21 = .ok (.iconst 1, 1) := by decide +kernel
theorem dX6_moves_22 : decode cX6_moves 22 = .ok (.if_icmp .ne 19, 3) := by decide +kernel
theorem dX6_moves_25 : decode cX6_moves 25 = .ok (.aload_n 0, 1) := by decide +kernel
theorem dX6_moves_26 : decode cX6_moves 26 = .ok (.getfield 52, 3) := by decide +kernel
theorem dX6_moves_29 : decode cX6_moves 29 = .ok (.iload_n 1, 1) := by decide +kernel
theorem dX6_moves_30 : decode cX6_moves 30 = .ok (.iload_n 2, 1) := by decide +kernel
theorem dX6_moves_31 : decode cX6_moves 31 = .ok (.iload_n 3, 1) := by decide +kernel
theorem dX6_moves_32 : decode cX6_moves 32 = .ok (.iload 4, 2) := by decide +kernel
theorem dX6_moves_34 : decode cX6_moves 34 = .ok (.invokevirtual 74, 3) := by decide +kernel
theorem dX6_moves_37 : decode cX6_moves 37 = .ok (.invokestatic 78, 3) := by decide +kernel
theorem dX6_moves_40 : decode cX6_moves 40 = .ok (.ireturn, 1) := by decide +kernel
theorem dX6_moves_41 : decode cX6_moves 41 = .ok (.aload_n 0, 1) := by decide +kernel
theorem dX6_moves_42 : decode cX6_moves 42 = .ok (.getfield 52, 3) := by decide +kernel
theorem dX6_moves_45 : decode cX6_moves 45 = .ok (.iload_n 1, 1) := by decide +kernel
theorem dX6_moves_46 : decode cX6_moves 46 = .ok (.iload_n 2, 1) := by decide +kernel
theorem dX6_moves_47 : decode cX6_moves 47 = .ok (.iload_n 3, 1) := by decide +kernel
theorem dX6_moves_48 : decode cX6_moves 48 = .ok (.iload 4, 2) := by decide +kernel
theorem dX6_moves_50 : decode cX6_moves 50 = .ok (.invokevirtual 84, 3) := by decide +kernel
theorem dX6_moves_53 : decode cX6_moves 53 = .ok (.invokestatic 78, 3) := by decide +kernel
theorem dX6_moves_56 : decode cX6_moves 56 = .ok (.istore 6, 2) := by decide +kernel
theorem dX6_moves_58 : decode cX6_moves 58 = .ok (.iload_n 1, 1) := by decide +kernel
theorem dX6_moves_59 : decode cX6_moves 59 = .ok (.iconst 2, 1) := by decide +kernel
theorem dX6_moves_60 : decode cX6_moves 60 = .ok (.if_icmp .ne 27, 3) := by decide +kernel
theorem dX6_moves_63 : decode cX6_moves 63 = .ok (.aload_n 0, 1) := by decide +kernel
theorem dX6_moves_64 : decode cX6_moves 64 = .ok (.getfield 52, 3) := by decide +kernel
theorem dX6_moves_67 : decode cX6_moves 67 = .ok (.iload 4, 2) := by decide +kernel
theorem dX6_moves_69 : decode cX6_moves 69 = .ok (.aload_n 0, 1) := by decide +kernel
theorem dX6_moves_70 : decode cX6_moves 70 = .ok (.getfield 52, 3) := by decide +kernel
theorem dX6_moves_73 : decode cX6_moves 73 = .ok (.getfield 87, 3) := by decide +kernel
theorem dX6_moves_76 : decode cX6_moves 76 = .ok (.iadd, 1) := by decide +kernel
theorem dX6_moves_77 : decode cX6_moves 77 = .ok (.invokevirtual 90, 3) := by decide +kernel
theorem dX6_moves_80 : decode cX6_moves 80 = .ok (.ifCond .eq 7, 3) := by decide +kernel
theorem dX6_moves_83 : decode cX6_moves 83 = .ok (.iconst 4, 1) := by decide +kernel
theorem dX6_moves_84 : decode cX6_moves 84 = .ok (.goto 4, 3) := by decide +kernel
theorem dX6_moves_87 : decode cX6_moves 87 = .ok (.iconst 1, 1) := by decide +kernel
theorem dX6_moves_88 : decode cX6_moves 88 = .ok (.istore 7, 2) := by decide +kernel
theorem dX6_moves_90 : decode cX6_moves 90 = .ok (.aload_n 0, 1) := by decide +kernel
theorem dX6_moves_91 : decode cX6_moves 91 = .ok (.getfield 52, 3) := by decide +kernel
theorem dX6_moves_94 : decode cX6_moves 94 = .ok (.iload_n 2, 1) := by decide +kernel
theorem dX6_moves_95 : decode cX6_moves 95 = .ok (.iload_n 3, 1) := by decide +kernel
theorem dX6_moves_96 : decode cX6_moves 96 = .ok (.iload 4, 2) := by decide +kernel
theorem dX6_moves_98 : decode cX6_moves 98 = .ok (.invokevirtual 94, 3) := by decide +kernel
theorem dX6_moves_101 : decode cX6_moves 101 = .ok (.invokestatic 78, 3) := by decide +kernel
theorem dX6_moves_104 : decode cX6_moves 104 = .ok (.iload 7, 2) := by decide +kernel
theorem dX6_moves_106 : decode cX6_moves 106 = .ok (.iload 6, 2) := by decide +kernel
theorem dX6_moves_108 : decode cX6_moves 108 = .ok (.imul, 1) := by decide +kernel
theorem dX6_moves_109 : decode cX6_moves 109 = .ok (.iadd, 1) := by decide +kernel
theorem dX6_moves_110 : decode cX6_moves 110 = .ok (.ireturn, 1) := by decide +kernel
theorem dX6_distance_0 : decode cX6_distance 0 = .ok (.aload_n 0, 1) := by decide +kernel
theorem dX6_distance_1 : decode cX6_distance 1 = .ok (.iload_n 1, 1) := by decide +kernel
theorem dX6_distance_2 : decode cX6_distance 2 = .ok (.iload_n 2, 1) := by decide +kernel
theorem dX6_distance_3 : decode cX6_distance 3 = .ok (.iload_n 3, 1) := by decide +kernel
theorem dX6_distance_4 : decode cX6_distance 4 = .ok (.iload 4, 2) := by decide +kernel
theorem dX6_distance_6 : decode cX6_distance 6 = .ok (.iload 5, 2) := by decide +kernel
theorem dX6_distance_8 : decode cX6_distance 8 = .ok (.invokevirtual 98, 3) := by decide +kernel
theorem dX6_distance_11 : decode cX6_distance 11 = .ok (.iload_n 2, 1) := by decide +kernel
theorem dX6_distance_12 : decode cX6_distance 12 = .ok (.iload_n 3, 1) := by decide +kernel
theorem dX6_distance_13 : decode cX6_distance 13 = .ok (.iload 4, 2) := by decide +kernel
theorem dX6_distance_15 : decode cX6_distance 15 = .ok (.iload 5, 2) := by decide +kernel
theorem dX6_distance_17 : decode cX6_distance 17 = .ok (.invokevirtual 102, 3) := by decide +kernel
theorem dX6_distance_20 : decode cX6_distance 20 = .ok (.ireturn, 1) := by decide +kernel
theorem dX6_best_0 : decode cX6_best 0 = .ok (.aload_n 0, 1) := by decide +kernel
theorem dX6_best_1 : decode cX6_best 1 = .ok (.iload_n 1, 1) := by decide +kernel
theorem dX6_best_2 : decode cX6_best 2 = .ok (.iload_n 2, 1) := by decide +kernel
theorem dX6_best_3 : decode cX6_best 3 = .ok (.iload_n 3, 1) := by decide +kernel
theorem dX6_best_4 : decode cX6_best 4 = .ok (.iload 4, 2) := by decide +kernel
theorem dX6_best_6 : decode cX6_best 6 = .ok (.iload 5, 2) := by decide +kernel
theorem dX6_best_8 : decode cX6_best 8 = .ok (.invokevirtual 98, 3) := by decide +kernel
theorem dX6_best_11 : decode cX6_best 11 = .ok (.iload_n 2, 1) := by decide +kernel
theorem dX6_best_12 : decode cX6_best 12 = .ok (.iload_n 3, 1) := by decide +kernel
theorem dX6_best_13 : decode cX6_best 13 = .ok (.iload 4, 2) := by decide +kernel
theorem dX6_best_15 : decode cX6_best 15 = .ok (.iload 5, 2) := by decide +kernel
theorem dX6_best_17 : decode cX6_best 17 = .ok (.invokevirtual 102, 3) := by decide +kernel
theorem dX6_best_20 : decode cX6_best 20 = .ok (.istore 6, 2) := by decide +kernel
theorem dX6_best_22 : decode cX6_best 22 = .ok (.aload_n 0, 1) := by decide +kernel
theorem dX6_best_23 : decode cX6_best 23 = .ok (.getfield 29, 3) := by decide +kernel
theorem dX6_best_26 : decode cX6_best 26 = .ok (.iload_n 1, 1) := by decide +kernel
theorem dX6_best_27 : decode cX6_best 27 = .ok (.iload_n 2, 1) := by decide +kernel
theorem dX6_best_28 : decode cX6_best 28 = .ok (.iload_n 3, 1) := by decide +kernel
theorem dX6_best_29 : decode cX6_best 29 = .ok (.iload 4, 2) := by decide +kernel
theorem dX6_best_31 : decode cX6_best 31 = .ok (.iload 5, 2) := by decide +kernel
theorem dX6_best_33 : decode cX6_best 33 = .ok (.invokevirtual 106, 3) := by decide +kernel
theorem dX6_best_36 : decode cX6_best 36 = .ok (.aload_n 0, 1) := by decide +kernel
theorem dX6_best_37 : decode cX6_best 37 = .ok (.aload_n 0, 1) := by decide +kernel
theorem dX6_best_38 : decode cX6_best 38 = .ok (.getfield 22, 3) := by decide +kernel
theorem dX6_best_41 : decode cX6_best 41 = .ok (.aload_n 0, 1) := by decide +kernel
theorem dX6_best_42 : decode cX6_best 42 = .ok (.getfield 29, 3) := by decide +kernel
theorem dX6_best_45 : decode cX6_best 45 = .ok (.invokevirtual 110, 3) := by decide +kernel
theorem dX6_best_48 : decode cX6_best 48 = .ok (.aload_n 0, 1) := by decide +kernel
theorem dX6_best_49 : decode cX6_best 49 = .ok (.getfield 22, 3) := by decide +kernel
theorem dX6_best_52 : decode cX6_best 52 = .ok (.iload 6, 2) := by decide +kernel
theorem dX6_best_54 : decode cX6_best 54 = .ok (.invokestatic 114, 3) := by decide +kernel
theorem dX6_best_57 : decode cX6_best 57 = .ok (.invokevirtual 118, 3) := by decide +kernel
theorem dX6_best_60 : decode cX6_best 60 = .ok (.aload_n 0, 1) := by decide +kernel
theorem dX6_best_61 : decode cX6_best 61 = .ok (.getfield 22, 3) := by decide +kernel
theorem dX6_best_64 : decode cX6_best 64 = .ok (.getfield 121, 3) := by decide +kernel
theorem dX6_best_67 : decode cX6_best 67 = .ok (.ireturn, 1) := by decide +kernel
theorem dX6_move_0 : decode cX6_move 0 = .ok (.aload_n 0, 1) := by decide +kernel
theorem dX6_move_1 : decode cX6_move 1 = .ok (.getfield 22, 3) := by decide +kernel
theorem dX6_move_4 : decode cX6_move 4 = .ok (.iload_n 1, 1) := by decide +kernel
theorem dX6_move_5 : decode cX6_move 5 = .ok (.iload_n 2, 1) := by decide +kernel
theorem dX6_move_6 : decode cX6_move 6 = .ok (.invokevirtual 123, 3) := by decide +kernel
theorem dX6_move_9 : decode cX6_move 9 = .ok (.ireturn, 1) := by decide +kernel
theorem dX6_line_0 : decode cX6_line 0 = .ok (.aload_n 0, 1) := by decide +kernel
theorem dX6_line_1 : decode cX6_line 1 = .ok (.iload_n 1, 1) := by decide +kernel
theorem dX6_line_2 : decode cX6_line 2 = .ok (.iload_n 2, 1) := by decide +kernel
theorem dX6_line_3 : decode cX6_line 3 = .ok (.iload_n 3, 1) := by decide +kernel
theorem dX6_line_4 : decode cX6_line 4 = .ok (.iload 4, 2) := by decide +kernel
theorem dX6_line_6 : decode cX6_line 6 = .ok (.iload 5, 2) := by decide +kernel
theorem dX6_line_8 : decode cX6_line 8 = .ok (.invokevirtual 98, 3) := by decide +kernel
theorem dX6_line_11 : decode cX6_line 11 = .ok (.iload_n 2, 1) := by decide +kernel
theorem dX6_line_12 : decode cX6_line 12 = .ok (.iload_n 3, 1) := by decide +kernel
theorem dX6_line_13 : decode cX6_line 13 = .ok (.iload 4, 2) := by decide +kernel
theorem dX6_line_15 : decode cX6_line 15 = .ok (.iload 5, 2) := by decide +kernel
theorem dX6_line_17 : decode cX6_line 17 = .ok (.invokevirtual 102, 3) := by decide +kernel
theorem dX6_line_20 : decode cX6_line 20 = .ok (.istore 6, 2) := by decide +kernel
theorem dX6_line_22 : decode cX6_line 22 = .ok (.aload_n 0, 1) := by decide +kernel
theorem dX6_line_23 : decode cX6_line 23 = .ok (.getfield 36, 3) := by decide +kernel
theorem dX6_line_26 : decode cX6_line 26 = .ok (.iload_n 1, 1) := by decide +kernel
theorem dX6_line_27 : decode cX6_line 27 = .ok (.iload_n 2, 1) := by decide +kernel
theorem dX6_line_28 : decode cX6_line 28 = .ok (.iload_n 3, 1) := by decide +kernel
theorem dX6_line_29 : decode cX6_line 29 = .ok (.iload 4, 2) := by decide +kernel
theorem dX6_line_31 : decode cX6_line 31 = .ok (.iload 5, 2) := by decide +kernel
theorem dX6_line_33 : decode cX6_line 33 = .ok (.invokevirtual 106, 3) := by decide +kernel
theorem dX6_line_36 : decode cX6_line 36 = .ok (.aload_n 0, 1) := by decide +kernel
theorem dX6_line_37 : decode cX6_line 37 = .ok (.iconst 0, 1) := by decide +kernel
theorem dX6_line_38 : decode cX6_line 38 = .ok (.putfield 56, 3) := by decide +kernel
theorem dX6_line_41 : decode cX6_line 41 = .ok (.aload_n 0, 1) := by decide +kernel
theorem dX6_line_42 : decode cX6_line 42 = .ok (.aload_n 0, 1) := by decide +kernel
theorem dX6_line_43 : decode cX6_line 43 = .ok (.getfield 36, 3) := by decide +kernel
theorem dX6_line_46 : decode cX6_line 46 = .ok (.invokevirtual 127, 3) := by decide +kernel
theorem dX6_line_49 : decode cX6_line 49 = .ok (.iload 6, 2) := by decide +kernel
theorem dX6_line_51 : decode cX6_line 51 = .ok (.istore 7, 2) := by decide +kernel
theorem dX6_line_53 : decode cX6_line 53 = .ok (.iload 7, 2) := by decide +kernel
theorem dX6_line_55 : decode cX6_line 55 = .ok (.ifCond .le 65, 3) := by decide +kernel
theorem dX6_line_58 : decode cX6_line 58 = .ok (.aload_n 0, 1) := by decide +kernel
theorem dX6_line_59 : decode cX6_line 59 = .ok (.aload_n 0, 1) := by decide +kernel
theorem dX6_line_60 : decode cX6_line 60 = .ok (.getfield 33, 3) := by decide +kernel
theorem dX6_line_63 : decode cX6_line 63 = .ok (.aload_n 0, 1) := by decide +kernel
theorem dX6_line_64 : decode cX6_line 64 = .ok (.getfield 36, 3) := by decide +kernel
theorem dX6_line_67 : decode cX6_line 67 = .ok (.invokevirtual 110, 3) := by decide +kernel
theorem dX6_line_70 : decode cX6_line 70 = .ok (.aload_n 0, 1) := by decide +kernel
theorem dX6_line_71 : decode cX6_line 71 = .ok (.getfield 33, 3) := by decide +kernel
theorem dX6_line_74 : decode cX6_line 74 = .ok (.iload 7, 2) := by decide +kernel
theorem dX6_line_76 : decode cX6_line 76 = .ok (.invokestatic 114, 3) := by decide +kernel
theorem dX6_line_79 : decode cX6_line 79 = .ok (.invokevirtual 118, 3) := by decide +kernel
theorem dX6_line_82 : decode cX6_line 82 = .ok (.aload_n 0, 1) := by decide +kernel
theorem dX6_line_83 : decode cX6_line 83 = .ok (.getfield 33, 3) := by decide +kernel
theorem dX6_line_86 : decode cX6_line 86 = .ok (.getfield 121, 3) := by decide +kernel
theorem dX6_line_89 : decode cX6_line 89 = .ok (.ifCond .ne 6, 3) := by decide +kernel
theorem dX6_line_92 : decode cX6_line 92 = .ok (.goto 28, 3) := by decide +kernel
theorem dX6_line_95 : decode cX6_line 95 = .ok (.aload_n 0, 1) := by decide +kernel
theorem dX6_line_96 : decode cX6_line 96 = .ok (.getfield 36, 3) := by decide +kernel
theorem dX6_line_99 : decode cX6_line 99 = .ok (.aload_n 0, 1) := by decide +kernel
theorem dX6_line_100 : decode cX6_line 100 = .ok (.getfield 33, 3) := by decide +kernel
theorem dX6_line_103 : decode cX6_line 103 = .ok (.invokevirtual 131, 3) := by decide +kernel
theorem dX6_line_106 : decode cX6_line 106 = .ok (.aload_n 0, 1) := by decide +kernel
theorem dX6_line_107 : decode cX6_line 107 = .ok (.aload_n 0, 1) := by decide +kernel
theorem dX6_line_108 : decode cX6_line 108 = .ok (.getfield 36, 3) := by decide +kernel
theorem dX6_line_111 : decode cX6_line 111 = .ok (.invokevirtual 127, 3) := by decide +kernel
theorem dX6_line_114 : decode cX6_line 114 = .ok (.iinc 7 (-1), 3) := by decide +kernel
theorem dX6_line_117 : decode cX6_line 117 = .ok (.goto (-64), 3) := by decide +kernel
theorem dX6_line_120 : decode cX6_line 120 = .ok (.aload_n 0, 1) := by decide +kernel
theorem dX6_line_121 : decode cX6_line 121 = .ok (.getfield 56, 3) := by decide +kernel
theorem dX6_line_124 : decode cX6_line 124 = .ok (.iconst 1, 1) := by decide +kernel
theorem dX6_line_125 : decode cX6_line 125 = .ok (.isub, 1) := by decide +kernel
theorem dX6_line_126 : decode cX6_line 126 = .ok (.ireturn, 1) := by decide +kernel
theorem dX6_ply_0 : decode cX6_ply 0 = .ok (.iload_n 1, 1) := by decide +kernel
theorem dX6_ply_1 : decode cX6_ply 1 = .ok (.ifCond .lt 20, 3) := by decide +kernel
theorem dX6_ply_4 : decode cX6_ply 4 = .ok (.iload_n 1, 1) := by decide +kernel
theorem dX6_ply_5 : decode cX6_ply 5 = .ok (.aload_n 0, 1) := by decide +kernel
theorem dX6_ply_6 : decode cX6_ply 6 = .ok (.getfield 56, 3) := by decide +kernel
theorem dX6_ply_9 : decode cX6_ply 9 = .ok (.if_icmp .ge 12, 3) := by decide +kernel
theorem dX6_ply_12 : decode cX6_ply 12 = .ok (.iload_n 2, 1) := by decide +kernel
theorem dX6_ply_13 : decode cX6_ply 13 = .ok (.ifCond .lt 8, 3) := by decide +kernel
theorem dX6_ply_16 : decode cX6_ply 16 = .ok (.iload_n 2, 1) := by decide +kernel
theorem dX6_ply_17 : decode cX6_ply 17 = .ok (.iconst 5, 1) := by decide +kernel
theorem dX6_ply_18 : decode cX6_ply 18 = .ok (.if_icmp .lt 5, 3) := by decide +kernel
theorem dX6_ply_21 : decode cX6_ply 21 = .ok (.iconst (-1), 1) := by decide +kernel
theorem dX6_ply_22 : decode cX6_ply 22 = .ok (.ireturn, 1) := by decide +kernel
theorem dX6_ply_23 : decode cX6_ply 23 = .ok (.aload_n 0, 1) := by decide +kernel
theorem dX6_ply_24 : decode cX6_ply 24 = .ok (.getfield 39, 3) := by decide +kernel
theorem dX6_ply_27 : decode cX6_ply 27 = .ok (.iload_n 1, 1) := by decide +kernel
theorem dX6_ply_28 : decode cX6_ply 28 = .ok (.iconst 5, 1) := by decide +kernel
theorem dX6_ply_29 : decode cX6_ply 29 = .ok (.imul, 1) := by decide +kernel
theorem dX6_ply_30 : decode cX6_ply 30 = .ok (.iload_n 2, 1) := by decide +kernel
theorem dX6_ply_31 : decode cX6_ply 31 = .ok (.iadd, 1) := by decide +kernel
theorem dX6_ply_32 : decode cX6_ply 32 = .ok (.iaload, 1) := by decide +kernel
theorem dX6_ply_33 : decode cX6_ply 33 = .ok (.ireturn, 1) := by decide +kernel
theorem dX6_number_0 : decode cX6_number 0 = .ok (.aload_n 0, 1) := by decide +kernel
theorem dX6_number_1 : decode cX6_number 1 = .ok (.iload_n 1, 1) := by decide +kernel
theorem dX6_number_2 : decode cX6_number 2 = .ok (.iload_n 2, 1) := by decide +kernel
theorem dX6_number_3 : decode cX6_number 3 = .ok (.iload_n 3, 1) := by decide +kernel
theorem dX6_number_4 : decode cX6_number 4 = .ok (.iload 4, 2) := by decide +kernel
theorem dX6_number_6 : decode cX6_number 6 = .ok (.iload 5, 2) := by decide +kernel
theorem dX6_number_8 : decode cX6_number 8 = .ok (.invokevirtual 98, 3) := by decide +kernel
theorem dX6_number_11 : decode cX6_number 11 = .ok (.iload_n 2, 1) := by decide +kernel
theorem dX6_number_12 : decode cX6_number 12 = .ok (.iload_n 3, 1) := by decide +kernel
theorem dX6_number_13 : decode cX6_number 13 = .ok (.iload 4, 2) := by decide +kernel
theorem dX6_number_15 : decode cX6_number 15 = .ok (.iload 5, 2) := by decide +kernel
theorem dX6_number_17 : decode cX6_number 17 = .ok (.invokevirtual 135, 3) := by decide +kernel
theorem dX6_number_20 : decode cX6_number 20 = .ok (.ireturn, 1) := by decide +kernel
theorem dX6_position_0 : decode cX6_position 0 = .ok (.aload_n 0, 1) := by decide +kernel
theorem dX6_position_1 : decode cX6_position 1 = .ok (.iload_n 1, 1) := by decide +kernel
theorem dX6_position_2 : decode cX6_position 2 = .ok (.invokevirtual 138, 3) := by decide +kernel
theorem dX6_position_5 : decode cX6_position 5 = .ok (.astore 4, 2) := by decide +kernel
theorem dX6_position_7 : decode cX6_position 7 = .ok (.aload 4, 2) := by decide +kernel
theorem dX6_position_9 : decode cX6_position 9 = .ok (.iload_n 2, 1) := by decide +kernel
theorem dX6_position_10 : decode cX6_position 10 = .ok (.invokevirtual 141, 3) := by decide +kernel
theorem dX6_position_13 : decode cX6_position 13 = .ok (.istore 5, 2) := by decide +kernel
theorem dX6_position_15 : decode cX6_position 15 = .ok (.iload 5, 2) := by decide +kernel
theorem dX6_position_17 : decode cX6_position 17 = .ok (.iconst (-1), 1) := by decide +kernel
theorem dX6_position_18 : decode cX6_position 18 = .ok (.if_icmp .ne 7, 3) := by decide +kernel
theorem dX6_position_21 : decode cX6_position 21 = .ok (.iconst (-1), 1) := by decide +kernel
theorem dX6_position_22 : decode cX6_position 22 = .ok (.goto 11, 3) := by decide +kernel
theorem dX6_position_25 : decode cX6_position 25 = .ok (.aload 4, 2) := by decide +kernel
theorem dX6_position_27 : decode cX6_position 27 = .ok (.iload 5, 2) := by decide +kernel
theorem dX6_position_29 : decode cX6_position 29 = .ok (.iload_n 3, 1) := by decide +kernel
theorem dX6_position_30 : decode cX6_position 30 = .ok (.invokevirtual 144, 3) := by decide +kernel
theorem dX6_position_33 : decode cX6_position 33 = .ok (.ireturn, 1) := by decide +kernel
theorem dX6_count_0 : decode cX6_count 0 = .ok (.aload_n 0, 1) := by decide +kernel
theorem dX6_count_1 : decode cX6_count 1 = .ok (.iload_n 1, 1) := by decide +kernel
theorem dX6_count_2 : decode cX6_count 2 = .ok (.iload_n 2, 1) := by decide +kernel
theorem dX6_count_3 : decode cX6_count 3 = .ok (.invokevirtual 145, 3) := by decide +kernel
theorem dX6_count_6 : decode cX6_count 6 = .ok (.astore 4, 2) := by decide +kernel
theorem dX6_count_8 : decode cX6_count 8 = .ok (.iload_n 3, 1) := by decide +kernel
theorem dX6_count_9 : decode cX6_count 9 = .ok (.tableswitch 49 (-3) (-1) #[43, 35, 27], 27) := by decide +kernel
theorem dX6_count_36 : decode cX6_count 36 = .ok (.aload 4, 2) := by decide +kernel
theorem dX6_count_38 : decode cX6_count 38 = .ok (.getfield 149, 3) := by decide +kernel
theorem dX6_count_41 : decode cX6_count 41 = .ok (.iload_n 2, 1) := by decide +kernel
theorem dX6_count_42 : decode cX6_count 42 = .ok (.iaload, 1) := by decide +kernel
theorem dX6_count_43 : decode cX6_count 43 = .ok (.ireturn, 1) := by decide +kernel
theorem dX6_count_44 : decode cX6_count 44 = .ok (.aload 4, 2) := by decide +kernel
theorem dX6_count_46 : decode cX6_count 46 = .ok (.getfield 152, 3) := by decide +kernel
theorem dX6_count_49 : decode cX6_count 49 = .ok (.iload_n 2, 1) := by decide +kernel
theorem dX6_count_50 : decode cX6_count 50 = .ok (.iaload, 1) := by decide +kernel
theorem dX6_count_51 : decode cX6_count 51 = .ok (.ireturn, 1) := by decide +kernel
theorem dX6_count_52 : decode cX6_count 52 = .ok (.aload 4, 2) := by decide +kernel
theorem dX6_count_54 : decode cX6_count 54 = .ok (.getfield 155, 3) := by decide +kernel
theorem dX6_count_57 : decode cX6_count 57 = .ok (.ireturn, 1) := by decide +kernel
theorem dX6_count_58 : decode cX6_count 58 = .ok (.aload 4, 2) := by decide +kernel
theorem dX6_count_60 : decode cX6_count 60 = .ok (.iload_n 2, 1) := by decide +kernel
theorem dX6_count_61 : decode cX6_count 61 = .ok (.iload_n 3, 1) := by decide +kernel
theorem dX6_count_62 : decode cX6_count 62 = .ok (.invokevirtual 158, 3) := by decide +kernel
theorem dX6_count_65 : decode cX6_count 65 = .ok (.ireturn, 1) := by decide +kernel
theorem dX6_longest_0 : decode cX6_longest 0 = .ok (.aload_n 0, 1) := by decide +kernel
theorem dX6_longest_1 : decode cX6_longest 1 = .ok (.iload_n 1, 1) := by decide +kernel
theorem dX6_longest_2 : decode cX6_longest 2 = .ok (.iload_n 2, 1) := by decide +kernel
theorem dX6_longest_3 : decode cX6_longest 3 = .ok (.invokevirtual 145, 3) := by decide +kernel
theorem dX6_longest_6 : decode cX6_longest 6 = .ok (.astore 4, 2) := by decide +kernel
theorem dX6_longest_8 : decode cX6_longest 8 = .ok (.iload_n 3, 1) := by decide +kernel
theorem dX6_longest_9 : decode cX6_longest 9 = .ok (.ifCond .ne 11, 3) := by decide +kernel
theorem dX6_longest_12 : decode cX6_longest 12 = .ok (.aload 4, 2) := by decide +kernel
theorem dX6_longest_14 : decode cX6_longest 14 = .ok (.getfield 161, 3) := by decide +kernel
theorem dX6_longest_17 : decode cX6_longest 17 = .ok (.iload_n 2, 1) := by decide +kernel
theorem dX6_longest_18 : decode cX6_longest 18 = .ok (.iaload, 1) := by decide +kernel
theorem dX6_longest_19 : decode cX6_longest 19 = .ok (.ireturn, 1) := by decide +kernel
theorem dX6_longest_20 : decode cX6_longest 20 = .ok (.iload_n 3, 1) := by decide +kernel
theorem dX6_longest_21 : decode cX6_longest 21 = .ok (.iconst 1, 1) := by decide +kernel
theorem dX6_longest_22 : decode cX6_longest 22 = .ok (.if_icmp .ne 13, 3) := by decide +kernel
theorem dX6_longest_25 : decode cX6_longest 25 = .ok (.aload 4, 2) := by decide +kernel
theorem dX6_longest_27 : decode cX6_longest 27 = .ok (.getfield 164, 3) := by decide +kernel
theorem dX6_longest_30 : decode cX6_longest 30 = .ok (.iload_n 2, 1) := by decide +kernel
theorem dX6_longest_31 : decode cX6_longest 31 = .ok (.iaload, 1) := by decide +kernel
theorem dX6_longest_32 : decode cX6_longest 32 = .ok (.goto 4, 3) := by decide +kernel
theorem dX6_longest_35 : decode cX6_longest 35 = .ok (.iconst (-1), 1) := by decide +kernel
theorem dX6_longest_36 : decode cX6_longest 36 = .ok (.ireturn, 1) := by decide +kernel
theorem dX6_feed_0 : decode cX6_feed 0 = .ok (.aload_n 0, 1) := by decide +kernel
theorem dX6_feed_1 : decode cX6_feed 1 = .ok (.getfield 167, 3) := by decide +kernel
theorem dX6_feed_4 : decode cX6_feed 4 = .ok (.bipush 20, 2) := by decide +kernel
theorem dX6_feed_6 : decode cX6_feed 6 = .ok (.iadd, 1) := by decide +kernel
theorem dX6_feed_7 : decode cX6_feed 7 = .ok (.bipush 40, 2) := by decide +kernel
theorem dX6_feed_9 : decode cX6_feed 9 = .ok (.if_icmp .le 5, 3) := by decide +kernel
theorem dX6_feed_12 : decode cX6_feed 12 = .ok (.iconst (-1), 1) := by decide +kernel
theorem dX6_feed_13 : decode cX6_feed 13 = .ok (.ireturn, 1) := by decide +kernel
theorem dX6_feed_14 : decode cX6_feed 14 = .ok (.aload_n 0, 1) := by decide +kernel
theorem dX6_feed_15 : decode cX6_feed 15 = .ok (.iload_n 1, 1) := by decide +kernel
theorem dX6_feed_16 : decode cX6_feed 16 = .ok (.invokevirtual 170, 3) := by decide +kernel
theorem dX6_feed_19 : decode cX6_feed 19 = .ok (.aload_n 0, 1) := by decide +kernel
theorem dX6_feed_20 : decode cX6_feed 20 = .ok (.iload_n 2, 1) := by decide +kernel
theorem dX6_feed_21 : decode cX6_feed 21 = .ok (.invokevirtual 170, 3) := by decide +kernel
theorem dX6_feed_24 : decode cX6_feed 24 = .ok (.aload_n 0, 1) := by decide +kernel
theorem dX6_feed_25 : decode cX6_feed 25 = .ok (.iload_n 3, 1) := by decide +kernel
theorem dX6_feed_26 : decode cX6_feed 26 = .ok (.invokevirtual 170, 3) := by decide +kernel
theorem dX6_feed_29 : decode cX6_feed 29 = .ok (.aload_n 0, 1) := by decide +kernel
theorem dX6_feed_30 : decode cX6_feed 30 = .ok (.iload 4, 2) := by decide +kernel
theorem dX6_feed_32 : decode cX6_feed 32 = .ok (.invokevirtual 170, 3) := by decide +kernel
theorem dX6_feed_35 : decode cX6_feed 35 = .ok (.aload_n 0, 1) := by decide +kernel
theorem dX6_feed_36 : decode cX6_feed 36 = .ok (.iload 5, 2) := by decide +kernel
theorem dX6_feed_38 : decode cX6_feed 38 = .ok (.invokevirtual 170, 3) := by decide +kernel
theorem dX6_feed_41 : decode cX6_feed 41 = .ok (.aload_n 0, 1) := by decide +kernel
theorem dX6_feed_42 : decode cX6_feed 42 = .ok (.getfield 167, 3) := by decide +kernel
theorem dX6_feed_45 : decode cX6_feed 45 = .ok (.ireturn, 1) := by decide +kernel
theorem dX6_read_0 : decode cX6_read 0 = .ok (.iload_n 1, 1) := by decide +kernel
theorem dX6_read_1 : decode cX6_read 1 = .ok (.ifCond .lt 11, 3) := by decide +kernel
theorem dX6_read_4 : decode cX6_read 4 = .ok (.iload_n 1, 1) := by decide +kernel
theorem dX6_read_5 : decode cX6_read 5 = .ok (.aload_n 0, 1) := by decide +kernel
theorem dX6_read_6 : decode cX6_read 6 = .ok (.getfield 167, 3) := by decide +kernel
theorem dX6_read_9 : decode cX6_read 9 = .ok (.if_icmp .le 6, 3) := by decide +kernel
theorem dX6_read_12 : decode cX6_read 12 = .ok (.bipush (-2), 2) := by decide +kernel
theorem dX6_read_14 : decode cX6_read 14 = .ok (.ireturn, 1) := by decide +kernel
theorem dX6_read_15 : decode cX6_read 15 = .ok (.aload_n 0, 1) := by decide +kernel
theorem dX6_read_16 : decode cX6_read 16 = .ok (.iconst 0, 1) := by decide +kernel
theorem dX6_read_17 : decode cX6_read 17 = .ok (.putfield 167, 3) := by decide +kernel
theorem dX6_read_20 : decode cX6_read 20 = .ok (.iload_n 1, 1) := by decide +kernel
theorem dX6_read_21 : decode cX6_read 21 = .ok (.bipush 13, 2) := by decide +kernel
theorem dX6_read_23 : decode cX6_read 23 = .ok (.if_icmp .ne 10, 3) := by decide +kernel
theorem dX6_read_26 : decode cX6_read 26 = .ok (.aload_n 0, 1) := by decide +kernel
theorem dX6_read_27 : decode cX6_read 27 = .ok (.invokevirtual 173, 3) := by decide +kernel
theorem dX6_read_30 : decode cX6_read 30 = .ok (.goto 4, 3) := by decide +kernel
theorem dX6_read_33 : decode cX6_read 33 = .ok (.iconst (-1), 1) := by decide +kernel
theorem dX6_read_34 : decode cX6_read 34 = .ok (.ireturn, 1) := by decide +kernel
theorem dX6_show_0 : decode cX6_show 0 = .ok (.aload_n 0, 1) := by decide +kernel
theorem dX6_show_1 : decode cX6_show 1 = .ok (.getfield 52, 3) := by decide +kernel
theorem dX6_show_4 : decode cX6_show 4 = .ok (.iload_n 1, 1) := by decide +kernel
theorem dX6_show_5 : decode cX6_show 5 = .ok (.iload_n 2, 1) := by decide +kernel
theorem dX6_show_6 : decode cX6_show 6 = .ok (.iload_n 3, 1) := by decide +kernel
theorem dX6_show_7 : decode cX6_show 7 = .ok (.iload 4, 2) := by decide +kernel
theorem dX6_show_9 : decode cX6_show 9 = .ok (.iload 5, 2) := by decide +kernel
theorem dX6_show_11 : decode cX6_show 11 = .ok (.invokevirtual 70, 3) := by decide +kernel
theorem dX6_show_14 : decode cX6_show 14 = .ok (.ifCond .ne 5, 3) := by decide +kernel
theorem dX6_show_17 : decode cX6_show 17 = .ok (.iconst (-1), 1) := by decide +kernel
theorem dX6_show_18 : decode cX6_show 18 = .ok (.ireturn, 1) := by decide +kernel
theorem dX6_show_19 : decode cX6_show 19 = .ok (.aload_n 0, 1) := by decide +kernel
theorem dX6_show_20 : decode cX6_show 20 = .ok (.iconst 0, 1) := by decide +kernel
theorem dX6_show_21 : decode cX6_show 21 = .ok (.bipush 75, 2) := by decide +kernel
theorem dX6_show_23 : decode cX6_show 23 = .ok (.iload_n 2, 1) := by decide +kernel
theorem dX6_show_24 : decode cX6_show 24 = .ok (.invokevirtual 176, 3) := by decide +kernel
theorem dX6_show_27 : decode cX6_show 27 = .ok (.aload_n 0, 1) := by decide +kernel
theorem dX6_show_28 : decode cX6_show 28 = .ok (.iconst 4, 1) := by decide +kernel
theorem dX6_show_29 : decode cX6_show 29 = .ok (.getstatic 180, 3) := by decide +kernel
theorem dX6_show_32 : decode cX6_show 32 = .ok (.iload_n 1, 1) := by decide +kernel
theorem dX6_show_33 : decode cX6_show 33 = .ok (.caload, 1) := by decide +kernel
theorem dX6_show_34 : decode cX6_show 34 = .ok (.iload 4, 2) := by decide +kernel
theorem dX6_show_36 : decode cX6_show 36 = .ok (.invokevirtual 176, 3) := by decide +kernel
theorem dX6_show_39 : decode cX6_show 39 = .ok (.aload_n 0, 1) := by decide +kernel
theorem dX6_show_40 : decode cX6_show 40 = .ok (.bipush 8, 2) := by decide +kernel
theorem dX6_show_42 : decode cX6_show 42 = .ok (.bipush 107, 2) := by decide +kernel
theorem dX6_show_44 : decode cX6_show 44 = .ok (.iload_n 3, 1) := by decide +kernel
theorem dX6_show_45 : decode cX6_show 45 = .ok (.invokevirtual 176, 3) := by decide +kernel
theorem dX6_show_48 : decode cX6_show 48 = .ok (.aload_n 0, 1) := by decide +kernel
theorem dX6_show_49 : decode cX6_show 49 = .ok (.getfield 46, 3) := by decide +kernel
theorem dX6_show_52 : decode cX6_show 52 = .ok (.bipush 12, 2) := by decide +kernel
theorem dX6_show_54 : decode cX6_show 54 = .ok (.getstatic 184, 3) := by decide +kernel
theorem dX6_show_57 : decode cX6_show 57 = .ok (.iload 5, 2) := by decide +kernel
theorem dX6_show_59 : decode cX6_show 59 = .ok (.caload, 1) := by decide +kernel
theorem dX6_show_60 : decode cX6_show 60 = .ok (.iastore, 1) := by decide +kernel
theorem dX6_show_61 : decode cX6_show 61 = .ok (.aload_n 0, 1) := by decide +kernel
theorem dX6_show_62 : decode cX6_show 62 = .ok (.bipush 13, 2) := by decide +kernel
theorem dX6_show_64 : decode cX6_show 64 = .ok (.putfield 187, 3) := by decide +kernel
theorem dX6_show_67 : decode cX6_show 67 = .ok (.aload_n 0, 1) := by decide +kernel
theorem dX6_show_68 : decode cX6_show 68 = .ok (.getfield 187, 3) := by decide +kernel
theorem dX6_show_71 : decode cX6_show 71 = .ok (.ireturn, 1) := by decide +kernel
theorem dX6_out_0 : decode cX6_out 0 = .ok (.iload_n 1, 1) := by decide +kernel
theorem dX6_out_1 : decode cX6_out 1 = .ok (.ifCond .lt 11, 3) := by decide +kernel
theorem dX6_out_4 : decode cX6_out 4 = .ok (.iload_n 1, 1) := by decide +kernel
theorem dX6_out_5 : decode cX6_out 5 = .ok (.aload_n 0, 1) := by decide +kernel
theorem dX6_out_6 : decode cX6_out 6 = .ok (.getfield 187, 3) := by decide +kernel
theorem dX6_out_9 : decode cX6_out 9 = .ok (.if_icmp .lt 7, 3) := by decide +kernel
theorem dX6_out_12 : decode cX6_out 12 = .ok (.iconst (-1), 1) := by decide +kernel
theorem dX6_out_13 : decode cX6_out 13 = .ok (.goto 9, 3) := by decide +kernel
theorem dX6_out_16 : decode cX6_out 16 = .ok (.aload_n 0, 1) := by decide +kernel
theorem dX6_out_17 : decode cX6_out 17 = .ok (.getfield 46, 3) := by decide +kernel
theorem dX6_out_20 : decode cX6_out 20 = .ok (.iload_n 1, 1) := by decide +kernel
theorem dX6_out_21 : decode cX6_out 21 = .ok (.iaload, 1) := by decide +kernel
theorem dX6_out_22 : decode cX6_out 22 = .ok (.ireturn, 1) := by decide +kernel
theorem dX6_demandMade_0 : decode cX6_demandMade 0 = .ok (.iload_n 1, 1) := by decide +kernel
theorem dX6_demandMade_1 : decode cX6_demandMade 1 = .ok (.ifCond .lt 17, 3) := by decide +kernel
theorem dX6_demandMade_4 : decode cX6_demandMade 4 = .ok (.iload_n 1, 1) := by decide +kernel
theorem dX6_demandMade_5 : decode cX6_demandMade 5 = .ok (.iconst 2, 1) := by decide +kernel
theorem dX6_demandMade_6 : decode cX6_demandMade 6 = .ok (.if_icmp .gt 12, 3) := by decide +kernel
theorem dX6_demandMade_9 : decode cX6_demandMade 9 = .ok (.aload_n 0, 1) := by decide +kernel
theorem dX6_demandMade_10 : decode cX6_demandMade 10 = .ok (.getfield 15, 3) := by decide +kernel
theorem dX6_demandMade_13 : decode cX6_demandMade 13 = .ok (.iload_n 1, 1) := by decide +kernel
theorem dX6_demandMade_14 : decode cX6_demandMade 14 = .ok (.baload, 1) := by decide +kernel
theorem dX6_demandMade_15 : decode cX6_demandMade 15 = .ok (.ifCond .ne 7, 3) := by decide +kernel
theorem dX6_demandMade_18 : decode cX6_demandMade 18 = .ok (.aconst_null, 1) := by decide +kernel
theorem dX6_demandMade_19 : decode cX6_demandMade 19 = .ok (.goto 12, 3) := by decide +kernel
theorem dX6_demandMade_22 : decode cX6_demandMade 22 = .ok (.aload_n 0, 1) := by decide +kernel
theorem dX6_demandMade_23 : decode cX6_demandMade 23 = .ok (.getfield 52, 3) := by decide +kernel
theorem dX6_demandMade_26 : decode cX6_demandMade 26 = .ok (.getfield 190, 3) := by decide +kernel
theorem dX6_demandMade_29 : decode cX6_demandMade 29 = .ok (.iload_n 1, 1) := by decide +kernel
theorem dX6_demandMade_30 : decode cX6_demandMade 30 = .ok (.aaload, 1) := by decide +kernel
theorem dX6_demandMade_31 : decode cX6_demandMade 31 = .ok (.astore_n 2, 1) := by decide +kernel
theorem dX6_demandMade_32 : decode cX6_demandMade 32 = .ok (.aload_n 2, 1) := by decide +kernel
theorem dX6_demandMade_33 : decode cX6_demandMade 33 = .ok (.ifnonnull 13, 3) := by decide +kernel
theorem dX6_demandMade_36 : decode cX6_demandMade 36 = .ok (.new 194, 3) := by decide +kernel
theorem dX6_demandMade_39 : decode cX6_demandMade 39 = .ok (.dup, 1) := by decide +kernel
theorem dX6_demandMade_40 : decode cX6_demandMade 40 = .ok (.ldc 196, 2) := by decide +kernel
theorem dX6_demandMade_42 : decode cX6_demandMade 42 = .ok (.invokespecial 198, 3) := by decide +kernel
theorem dX6_demandMade_45 : decode cX6_demandMade 45 = .ok (.athrow, 1) := by decide +kernel
theorem dX6_demandMade_46 : decode cX6_demandMade 46 = .ok (.aload_n 2, 1) := by decide +kernel
theorem dX6_demandMade_47 : decode cX6_demandMade 47 = .ok (.areturn, 1) := by decide +kernel
theorem dX6_demandTurn_0 : decode cX6_demandTurn 0 = .ok (.iload_n 2, 1) := by decide +kernel
theorem dX6_demandTurn_1 : decode cX6_demandTurn 1 = .ok (.ifCond .eq 18, 3) := by decide +kernel
theorem dX6_demandTurn_4 : decode cX6_demandTurn 4 = .ok (.iload_n 2, 1) := by decide +kernel
theorem dX6_demandTurn_5 : decode cX6_demandTurn 5 = .ok (.iconst 1, 1) := by decide +kernel
theorem dX6_demandTurn_6 : decode cX6_demandTurn 6 = .ok (.if_icmp .eq 13, 3) := by decide +kernel
theorem dX6_demandTurn_9 : decode cX6_demandTurn 9 = .ok (.new 194, 3) := by decide +kernel
theorem dX6_demandTurn_12 : decode cX6_demandTurn 12 = .ok (.dup, 1) := by decide +kernel
theorem dX6_demandTurn_13 : decode cX6_demandTurn 13 = .ok (.ldc 201, 2) := by decide +kernel
theorem dX6_demandTurn_15 : decode cX6_demandTurn 15 = .ok (.invokespecial 198, 3) := by decide +kernel
theorem dX6_demandTurn_18 : decode cX6_demandTurn 18 = .ok (.athrow, 1) := by decide +kernel
theorem dX6_demandTurn_19 : decode cX6_demandTurn 19 = .ok (.aload_n 0, 1) := by decide +kernel
theorem dX6_demandTurn_20 : decode cX6_demandTurn 20 = .ok (.iload_n 1, 1) := by decide +kernel
theorem dX6_demandTurn_21 : decode cX6_demandTurn 21 = .ok (.invokevirtual 138, 3) := by decide +kernel
theorem dX6_demandTurn_24 : decode cX6_demandTurn 24 = .ok (.areturn, 1) := by decide +kernel
theorem dX6_demandTable_0 : decode cX6_demandTable 0 = .ok (.aload_n 0, 1) := by decide +kernel
theorem dX6_demandTable_1 : decode cX6_demandTable 1 = .ok (.getfield 52, 3) := by decide +kernel
theorem dX6_demandTable_4 : decode cX6_demandTable 4 = .ok (.iload_n 1, 1) := by decide +kernel
theorem dX6_demandTable_5 : decode cX6_demandTable 5 = .ok (.iload_n 2, 1) := by decide +kernel
theorem dX6_demandTable_6 : decode cX6_demandTable 6 = .ok (.iload_n 3, 1) := by decide +kernel
theorem dX6_demandTable_7 : decode cX6_demandTable 7 = .ok (.iload 4, 2) := by decide +kernel
theorem dX6_demandTable_9 : decode cX6_demandTable 9 = .ok (.iload 5, 2) := by decide +kernel
theorem dX6_demandTable_11 : decode cX6_demandTable 11 = .ok (.invokevirtual 70, 3) := by decide +kernel
theorem dX6_demandTable_14 : decode cX6_demandTable 14 = .ok (.ifCond .ne 13, 3) := by decide +kernel
theorem dX6_demandTable_17 : decode cX6_demandTable 17 = .ok (.new 194, 3) := by decide +kernel
theorem dX6_demandTable_20 : decode cX6_demandTable 20 = .ok (.dup, 1) := by decide +kernel
theorem dX6_demandTable_21 : decode cX6_demandTable 21 = .ok (.ldc 203, 2) := by decide +kernel
theorem dX6_demandTable_23 : decode cX6_demandTable 23 = .ok (.invokespecial 198, 3) := by decide +kernel
theorem dX6_demandTable_26 : decode cX6_demandTable 26 = .ok (.athrow, 1) := by decide +kernel
theorem dX6_demandTable_27 : decode cX6_demandTable 27 = .ok (.aload_n 0, 1) := by decide +kernel
theorem dX6_demandTable_28 : decode cX6_demandTable 28 = .ok (.iload_n 1, 1) := by decide +kernel
theorem dX6_demandTable_29 : decode cX6_demandTable 29 = .ok (.invokevirtual 138, 3) := by decide +kernel
theorem dX6_demandTable_32 : decode cX6_demandTable 32 = .ok (.areturn, 1) := by decide +kernel
theorem dX6_goalAfter_0 : decode cX6_goalAfter 0 = .ok (.iload_n 0, 1) := by decide +kernel
theorem dX6_goalAfter_1 : decode cX6_goalAfter 1 = .ok (.iconst (-1), 1) := by decide +kernel
theorem dX6_goalAfter_2 : decode cX6_goalAfter 2 = .ok (.if_icmp .ne 7, 3) := by decide +kernel
theorem dX6_goalAfter_5 : decode cX6_goalAfter 5 = .ok (.iconst (-1), 1) := by decide +kernel
theorem dX6_goalAfter_6 : decode cX6_goalAfter 6 = .ok (.goto 6, 3) := by decide +kernel
theorem dX6_goalAfter_9 : decode cX6_goalAfter 9 = .ok (.iload_n 0, 1) := by decide +kernel
theorem dX6_goalAfter_10 : decode cX6_goalAfter 10 = .ok (.iconst 1, 1) := by decide +kernel
theorem dX6_goalAfter_11 : decode cX6_goalAfter 11 = .ok (.isub, 1) := by decide +kernel
theorem dX6_goalAfter_12 : decode cX6_goalAfter 12 = .ok (.ireturn, 1) := by decide +kernel
theorem dX6_gather_0 : decode cX6_gather 0 = .ok (.aload_n 1, 1) := by decide +kernel
theorem dX6_gather_1 : decode cX6_gather 1 = .ok (.iconst 0, 1) := by decide +kernel
theorem dX6_gather_2 : decode cX6_gather 2 = .ok (.putfield 121, 3) := by decide +kernel
theorem dX6_gather_5 : decode cX6_gather 5 = .ok (.aload_n 2, 1) := by decide +kernel
theorem dX6_gather_6 : decode cX6_gather 6 = .ok (.getfield 205, 3) := by decide +kernel
theorem dX6_gather_9 : decode cX6_gather 9 = .ok (.iconst 1, 1) := by decide +kernel
theorem dX6_gather_10 : decode cX6_gather 10 = .ok (.if_icmp .ne 12, 3) := by decide +kernel
theorem dX6_gather_13 : decode cX6_gather 13 = .ok (.aload_n 0, 1) := by decide +kernel
theorem dX6_gather_14 : decode cX6_gather 14 = .ok (.aload_n 1, 1) := by decide +kernel
theorem dX6_gather_15 : decode cX6_gather 15 = .ok (.aload_n 2, 1) := by decide +kernel
theorem dX6_gather_16 : decode cX6_gather 16 = .ok (.invokevirtual 208, 3) := by decide +kernel
theorem dX6_gather_19 : decode cX6_gather 19 = .ok (.goto 41, 3) := by decide +kernel
theorem dX6_gather_22 : decode cX6_gather 22 = .ok (.aload_n 2, 1) := by decide +kernel
theorem dX6_gather_23 : decode cX6_gather 23 = .ok (.getfield 211, 3) := by decide +kernel
theorem dX6_gather_26 : decode cX6_gather 26 = .ok (.aload_n 2, 1) := by decide +kernel
theorem dX6_gather_27 : decode cX6_gather 27 = .ok (.getfield 214, 3) := by decide +kernel
theorem dX6_gather_30 : decode cX6_gather 30 = .ok (.if_icmp .ge 18, 3) := by decide +kernel
theorem dX6_gather_33 : decode cX6_gather 33 = .ok (.aload_n 0, 1) := by decide +kernel
theorem dX6_gather_34 : decode cX6_gather 34 = .ok (.aload_n 1, 1) := by decide +kernel
theorem dX6_gather_35 : decode cX6_gather 35 = .ok (.aload_n 2, 1) := by decide +kernel
theorem dX6_gather_36 : decode cX6_gather 36 = .ok (.invokevirtual 217, 3) := by decide +kernel
theorem dX6_gather_39 : decode cX6_gather 39 = .ok (.aload_n 0, 1) := by decide +kernel
theorem dX6_gather_40 : decode cX6_gather 40 = .ok (.aload_n 1, 1) := by decide +kernel
theorem dX6_gather_41 : decode cX6_gather 41 = .ok (.aload_n 2, 1) := by decide +kernel
theorem dX6_gather_42 : decode cX6_gather 42 = .ok (.invokevirtual 220, 3) := by decide +kernel
theorem dX6_gather_45 : decode cX6_gather 45 = .ok (.goto 15, 3) := by decide +kernel
theorem dX6_gather_48 : decode cX6_gather 48 = .ok (.aload_n 0, 1) := by decide +kernel
theorem dX6_gather_49 : decode cX6_gather 49 = .ok (.aload_n 1, 1) := by decide +kernel
theorem dX6_gather_50 : decode cX6_gather 50 = .ok (.aload_n 2, 1) := by decide +kernel
theorem dX6_gather_51 : decode cX6_gather 51 = .ok (.invokevirtual 220, 3) := by decide +kernel
theorem dX6_gather_54 : decode cX6_gather 54 = .ok (.aload_n 0, 1) := by decide +kernel
theorem dX6_gather_55 : decode cX6_gather 55 = .ok (.aload_n 1, 1) := by decide +kernel
theorem dX6_gather_56 : decode cX6_gather 56 = .ok (.aload_n 2, 1) := by decide +kernel
theorem dX6_gather_57 : decode cX6_gather 57 = .ok (.invokevirtual 217, 3) := by decide +kernel
theorem dX6_gather_60 : decode cX6_gather 60 = .ok (.return_, 1) := by decide +kernel
theorem dX6_gatherBlack_0 : decode cX6_gatherBlack 0 = .ok (.aload_n 0, 1) := by decide +kernel
theorem dX6_gatherBlack_1 : decode cX6_gatherBlack 1 = .ok (.getfield 52, 3) := by decide +kernel
theorem dX6_gatherBlack_4 : decode cX6_gatherBlack 4 = .ok (.aload_n 2, 1) := by decide +kernel
theorem dX6_gatherBlack_5 : decode cX6_gatherBlack 5 = .ok (.getfield 223, 3) := by decide +kernel
theorem dX6_gatherBlack_8 : decode cX6_gatherBlack 8 = .ok (.aload_n 2, 1) := by decide +kernel
theorem dX6_gatherBlack_9 : decode cX6_gatherBlack 9 = .ok (.getfield 211, 3) := by decide +kernel
theorem dX6_gatherBlack_12 : decode cX6_gatherBlack 12 = .ok (.aload_n 2, 1) := by decide +kernel
theorem dX6_gatherBlack_13 : decode cX6_gatherBlack 13 = .ok (.getfield 226, 3) := by decide +kernel
theorem dX6_gatherBlack_16 : decode cX6_gatherBlack 16 = .ok (.aload_n 2, 1) := by decide +kernel
theorem dX6_gatherBlack_17 : decode cX6_gatherBlack 17 = .ok (.getfield 214, 3) := by decide +kernel
theorem dX6_gatherBlack_20 : decode cX6_gatherBlack 20 = .ok (.invokevirtual 74, 3) := by decide +kernel
theorem dX6_gatherBlack_23 : decode cX6_gatherBlack 23 = .ok (.lstore_n 3, 1) := by decide +kernel
theorem dX6_gatherBlack_24 : decode cX6_gatherBlack 24 = .ok (.lload_n 3, 1) := by decide +kernel
theorem dX6_gatherBlack_25 : decode cX6_gatherBlack 25 = .ok (.lstore 5, 2) := by decide +kernel
theorem dX6_gatherBlack_27 : decode cX6_gatherBlack 27 = .ok (.lload 5, 2) := by decide +kernel
theorem dX6_gatherBlack_29 : decode cX6_gatherBlack 29 = .ok (.lconst 0, 1) := by decide +kernel
theorem dX6_gatherBlack_30 : decode cX6_gatherBlack 30 = .ok (.lcmp, 1) := by decide +kernel
theorem dX6_gatherBlack_31 : decode cX6_gatherBlack 31 = .ok (.ifCond .eq 69, 3) := by decide +kernel
theorem dX6_gatherBlack_34 : decode cX6_gatherBlack 34 = .ok (.lload 5, 2) := by decide +kernel
theorem dX6_gatherBlack_36 : decode cX6_gatherBlack 36 = .ok (.invokestatic 229, 3) := by decide +kernel
theorem dX6_gatherBlack_39 : decode cX6_gatherBlack 39 = .ok (.istore 7, 2) := by decide +kernel
theorem dX6_gatherBlack_41 : decode cX6_gatherBlack 41 = .ok (.iload 7, 2) := by decide +kernel
theorem dX6_gatherBlack_43 : decode cX6_gatherBlack 43 = .ok (.aload_n 2, 1) := by decide +kernel
theorem dX6_gatherBlack_44 : decode cX6_gatherBlack 44 = .ok (.getfield 214, 3) := by decide +kernel
theorem dX6_gatherBlack_47 : decode cX6_gatherBlack 47 = .ok (.if_icmp .ne 7, 3) := by decide +kernel
theorem dX6_gatherBlack_50 : decode cX6_gatherBlack 50 = .ok (.iconst (-1), 1) := by decide +kernel
theorem dX6_gatherBlack_51 : decode cX6_gatherBlack 51 = .ok (.goto 22, 3) := by decide +kernel
theorem dX6_gatherBlack_54 : decode cX6_gatherBlack 54 = .ok (.aload_n 0, 1) := by decide +kernel
theorem dX6_gatherBlack_55 : decode cX6_gatherBlack 55 = .ok (.aload_n 2, 1) := by decide +kernel
theorem dX6_gatherBlack_56 : decode cX6_gatherBlack 56 = .ok (.getfield 223, 3) := by decide +kernel
theorem dX6_gatherBlack_59 : decode cX6_gatherBlack 59 = .ok (.aload_n 2, 1) := by decide +kernel
theorem dX6_gatherBlack_60 : decode cX6_gatherBlack 60 = .ok (.getfield 211, 3) := by decide +kernel
theorem dX6_gatherBlack_63 : decode cX6_gatherBlack 63 = .ok (.iload 7, 2) := by decide +kernel
theorem dX6_gatherBlack_65 : decode cX6_gatherBlack 65 = .ok (.aload_n 2, 1) := by decide +kernel
theorem dX6_gatherBlack_66 : decode cX6_gatherBlack 66 = .ok (.getfield 214, 3) := by decide +kernel
theorem dX6_gatherBlack_69 : decode cX6_gatherBlack 69 = .ok (.iconst 0, 1) := by decide +kernel
theorem dX6_gatherBlack_70 : decode cX6_gatherBlack 70 = .ok (.invokevirtual 232, 3) := by decide +kernel
theorem dX6_gatherBlack_73 : decode cX6_gatherBlack 73 = .ok (.istore 8, 2) := by decide +kernel
theorem dX6_gatherBlack_75 : decode cX6_gatherBlack 75 = .ok (.aload_n 1, 1) := by decide +kernel
theorem dX6_gatherBlack_76 : decode cX6_gatherBlack 76 = .ok (.aload_n 2, 1) := by decide +kernel
theorem dX6_gatherBlack_77 : decode cX6_gatherBlack 77 = .ok (.getfield 226, 3) := by decide +kernel
theorem dX6_gatherBlack_80 : decode cX6_gatherBlack 80 = .ok (.iload 7, 2) := by decide +kernel
theorem dX6_gatherBlack_82 : decode cX6_gatherBlack 82 = .ok (.iconst (-1), 1) := by decide +kernel
theorem dX6_gatherBlack_83 : decode cX6_gatherBlack 83 = .ok (.iload 8, 2) := by decide +kernel
theorem dX6_gatherBlack_85 : decode cX6_gatherBlack 85 = .ok (.invokevirtual 236, 3) := by decide +kernel
theorem dX6_gatherBlack_88 : decode cX6_gatherBlack 88 = .ok (.lload 5, 2) := by decide +kernel
theorem dX6_gatherBlack_90 : decode cX6_gatherBlack 90 = .ok (.lload 5, 2) := by decide +kernel
theorem dX6_gatherBlack_92 : decode cX6_gatherBlack 92 = .ok (.lconst 1, 1) := by decide +kernel
theorem dX6_gatherBlack_93 : decode cX6_gatherBlack 93 = .ok (.lsub, 1) := by decide +kernel
theorem dX6_gatherBlack_94 : decode cX6_gatherBlack 94 = .ok (.land, 1) := by decide +kernel
theorem dX6_gatherBlack_95 : decode cX6_gatherBlack 95 = .ok (.lstore 5, 2) := by decide +kernel
theorem dX6_gatherBlack_97 : decode cX6_gatherBlack 97 = .ok (.goto (-70), 3) := by decide +kernel
theorem dX6_gatherBlack_100 : decode cX6_gatherBlack 100 = .ok (.return_, 1) := by decide +kernel
theorem dX6_gatherKing_0 : decode cX6_gatherKing 0 = .ok (.aload_n 0, 1) := by decide +kernel
theorem dX6_gatherKing_1 : decode cX6_gatherKing 1 = .ok (.getfield 52, 3) := by decide +kernel
theorem dX6_gatherKing_4 : decode cX6_gatherKing 4 = .ok (.aload_n 2, 1) := by decide +kernel
theorem dX6_gatherKing_5 : decode cX6_gatherKing 5 = .ok (.getfield 211, 3) := by decide +kernel
theorem dX6_gatherKing_8 : decode cX6_gatherKing 8 = .ok (.aload_n 2, 1) := by decide +kernel
theorem dX6_gatherKing_9 : decode cX6_gatherKing 9 = .ok (.getfield 226, 3) := by decide +kernel
theorem dX6_gatherKing_12 : decode cX6_gatherKing 12 = .ok (.aload_n 2, 1) := by decide +kernel
theorem dX6_gatherKing_13 : decode cX6_gatherKing 13 = .ok (.getfield 214, 3) := by decide +kernel
theorem dX6_gatherKing_16 : decode cX6_gatherKing 16 = .ok (.invokevirtual 94, 3) := by decide +kernel
theorem dX6_gatherKing_19 : decode cX6_gatherKing 19 = .ok (.lstore_n 3, 1) := by decide +kernel
theorem dX6_gatherKing_20 : decode cX6_gatherKing 20 = .ok (.lload_n 3, 1) := by decide +kernel
theorem dX6_gatherKing_21 : decode cX6_gatherKing 21 = .ok (.lstore 5, 2) := by decide +kernel
theorem dX6_gatherKing_23 : decode cX6_gatherKing 23 = .ok (.lload 5, 2) := by decide +kernel
theorem dX6_gatherKing_25 : decode cX6_gatherKing 25 = .ok (.lconst 0, 1) := by decide +kernel
theorem dX6_gatherKing_26 : decode cX6_gatherKing 26 = .ok (.lcmp, 1) := by decide +kernel
theorem dX6_gatherKing_27 : decode cX6_gatherKing 27 = .ok (.ifCond .eq 52, 3) := by decide +kernel
theorem dX6_gatherKing_30 : decode cX6_gatherKing 30 = .ok (.lload 5, 2) := by decide +kernel
theorem dX6_gatherKing_32 : decode cX6_gatherKing 32 = .ok (.invokestatic 229, 3) := by decide +kernel
theorem dX6_gatherKing_35 : decode cX6_gatherKing 35 = .ok (.istore 7, 2) := by decide +kernel
theorem dX6_gatherKing_37 : decode cX6_gatherKing 37 = .ok (.aload_n 1, 1) := by decide +kernel
theorem dX6_gatherKing_38 : decode cX6_gatherKing 38 = .ok (.aload_n 2, 1) := by decide +kernel
theorem dX6_gatherKing_39 : decode cX6_gatherKing 39 = .ok (.getfield 211, 3) := by decide +kernel
theorem dX6_gatherKing_42 : decode cX6_gatherKing 42 = .ok (.iload 7, 2) := by decide +kernel
theorem dX6_gatherKing_44 : decode cX6_gatherKing 44 = .ok (.iconst (-1), 1) := by decide +kernel
theorem dX6_gatherKing_45 : decode cX6_gatherKing 45 = .ok (.aload_n 0, 1) := by decide +kernel
theorem dX6_gatherKing_46 : decode cX6_gatherKing 46 = .ok (.aload_n 2, 1) := by decide +kernel
theorem dX6_gatherKing_47 : decode cX6_gatherKing 47 = .ok (.getfield 223, 3) := by decide +kernel
theorem dX6_gatherKing_50 : decode cX6_gatherKing 50 = .ok (.iload 7, 2) := by decide +kernel
theorem dX6_gatherKing_52 : decode cX6_gatherKing 52 = .ok (.aload_n 2, 1) := by decide +kernel
theorem dX6_gatherKing_53 : decode cX6_gatherKing 53 = .ok (.getfield 226, 3) := by decide +kernel
theorem dX6_gatherKing_56 : decode cX6_gatherKing 56 = .ok (.aload_n 2, 1) := by decide +kernel
theorem dX6_gatherKing_57 : decode cX6_gatherKing 57 = .ok (.getfield 214, 3) := by decide +kernel
theorem dX6_gatherKing_60 : decode cX6_gatherKing 60 = .ok (.iconst 1, 1) := by decide +kernel
theorem dX6_gatherKing_61 : decode cX6_gatherKing 61 = .ok (.invokevirtual 232, 3) := by decide +kernel
theorem dX6_gatherKing_64 : decode cX6_gatherKing 64 = .ok (.invokevirtual 236, 3) := by decide +kernel
theorem dX6_gatherKing_67 : decode cX6_gatherKing 67 = .ok (.lload 5, 2) := by decide +kernel
theorem dX6_gatherKing_69 : decode cX6_gatherKing 69 = .ok (.lload 5, 2) := by decide +kernel
theorem dX6_gatherKing_71 : decode cX6_gatherKing 71 = .ok (.lconst 1, 1) := by decide +kernel
theorem dX6_gatherKing_72 : decode cX6_gatherKing 72 = .ok (.lsub, 1) := by decide +kernel
theorem dX6_gatherKing_73 : decode cX6_gatherKing 73 = .ok (.land, 1) := by decide +kernel
theorem dX6_gatherKing_74 : decode cX6_gatherKing 74 = .ok (.lstore 5, 2) := by decide +kernel
theorem dX6_gatherKing_76 : decode cX6_gatherKing 76 = .ok (.goto (-53), 3) := by decide +kernel
theorem dX6_gatherKing_79 : decode cX6_gatherKing 79 = .ok (.return_, 1) := by decide +kernel
theorem dX6_gatherMan_0 : decode cX6_gatherMan 0 = .ok (.aload_n 0, 1) := by decide +kernel
theorem dX6_gatherMan_1 : decode cX6_gatherMan 1 = .ok (.getfield 52, 3) := by decide +kernel
theorem dX6_gatherMan_4 : decode cX6_gatherMan 4 = .ok (.aload_n 2, 1) := by decide +kernel
theorem dX6_gatherMan_5 : decode cX6_gatherMan 5 = .ok (.getfield 223, 3) := by decide +kernel
theorem dX6_gatherMan_8 : decode cX6_gatherMan 8 = .ok (.aload_n 2, 1) := by decide +kernel
theorem dX6_gatherMan_9 : decode cX6_gatherMan 9 = .ok (.getfield 211, 3) := by decide +kernel
theorem dX6_gatherMan_12 : decode cX6_gatherMan 12 = .ok (.aload_n 2, 1) := by decide +kernel
theorem dX6_gatherMan_13 : decode cX6_gatherMan 13 = .ok (.getfield 226, 3) := by decide +kernel
theorem dX6_gatherMan_16 : decode cX6_gatherMan 16 = .ok (.aload_n 2, 1) := by decide +kernel
theorem dX6_gatherMan_17 : decode cX6_gatherMan 17 = .ok (.getfield 214, 3) := by decide +kernel
theorem dX6_gatherMan_20 : decode cX6_gatherMan 20 = .ok (.invokevirtual 84, 3) := by decide +kernel
theorem dX6_gatherMan_23 : decode cX6_gatherMan 23 = .ok (.lstore_n 3, 1) := by decide +kernel
theorem dX6_gatherMan_24 : decode cX6_gatherMan 24 = .ok (.lload_n 3, 1) := by decide +kernel
theorem dX6_gatherMan_25 : decode cX6_gatherMan 25 = .ok (.lstore 5, 2) := by decide +kernel
theorem dX6_gatherMan_27 : decode cX6_gatherMan 27 = .ok (.lload 5, 2) := by decide +kernel
theorem dX6_gatherMan_29 : decode cX6_gatherMan 29 = .ok (.lconst 0, 1) := by decide +kernel
theorem dX6_gatherMan_30 : decode cX6_gatherMan 30 = .ok (.lcmp, 1) := by decide +kernel
theorem dX6_gatherMan_31 : decode cX6_gatherMan 31 = .ok (.ifCond .eq 83, 3) := by decide +kernel
theorem dX6_gatherMan_34 : decode cX6_gatherMan 34 = .ok (.lload 5, 2) := by decide +kernel
theorem dX6_gatherMan_36 : decode cX6_gatherMan 36 = .ok (.invokestatic 229, 3) := by decide +kernel
theorem dX6_gatherMan_39 : decode cX6_gatherMan 39 = .ok (.istore 7, 2) := by decide +kernel
theorem dX6_gatherMan_41 : decode cX6_gatherMan 41 = .ok (.aload_n 2, 1) := by decide +kernel
theorem dX6_gatherMan_42 : decode cX6_gatherMan 42 = .ok (.getfield 223, 3) := by decide +kernel
theorem dX6_gatherMan_45 : decode cX6_gatherMan 45 = .ok (.iconst 2, 1) := by decide +kernel
theorem dX6_gatherMan_46 : decode cX6_gatherMan 46 = .ok (.if_icmp .ne 26, 3) := by decide +kernel
theorem dX6_gatherMan_49 : decode cX6_gatherMan 49 = .ok (.aload_n 0, 1) := by decide +kernel
theorem dX6_gatherMan_50 : decode cX6_gatherMan 50 = .ok (.getfield 52, 3) := by decide +kernel
theorem dX6_gatherMan_53 : decode cX6_gatherMan 53 = .ok (.iload 7, 2) := by decide +kernel
theorem dX6_gatherMan_55 : decode cX6_gatherMan 55 = .ok (.invokevirtual 90, 3) := by decide +kernel
theorem dX6_gatherMan_58 : decode cX6_gatherMan 58 = .ok (.ifCond .eq 14, 3) := by decide +kernel
theorem dX6_gatherMan_61 : decode cX6_gatherMan 61 = .ok (.aload_n 0, 1) := by decide +kernel
theorem dX6_gatherMan_62 : decode cX6_gatherMan 62 = .ok (.aload_n 1, 1) := by decide +kernel
theorem dX6_gatherMan_63 : decode cX6_gatherMan 63 = .ok (.aload_n 2, 1) := by decide +kernel
theorem dX6_gatherMan_64 : decode cX6_gatherMan 64 = .ok (.iload 7, 2) := by decide +kernel
theorem dX6_gatherMan_66 : decode cX6_gatherMan 66 = .ok (.invokevirtual 240, 3) := by decide +kernel
theorem dX6_gatherMan_69 : decode cX6_gatherMan 69 = .ok (.goto 33, 3) := by decide +kernel
theorem dX6_gatherMan_72 : decode cX6_gatherMan 72 = .ok (.aload_n 1, 1) := by decide +kernel
theorem dX6_gatherMan_73 : decode cX6_gatherMan 73 = .ok (.aload_n 2, 1) := by decide +kernel
theorem dX6_gatherMan_74 : decode cX6_gatherMan 74 = .ok (.getfield 214, 3) := by decide +kernel
theorem dX6_gatherMan_77 : decode cX6_gatherMan 77 = .ok (.iload 7, 2) := by decide +kernel
theorem dX6_gatherMan_79 : decode cX6_gatherMan 79 = .ok (.iconst (-1), 1) := by decide +kernel
theorem dX6_gatherMan_80 : decode cX6_gatherMan 80 = .ok (.aload_n 0, 1) := by decide +kernel
theorem dX6_gatherMan_81 : decode cX6_gatherMan 81 = .ok (.aload_n 2, 1) := by decide +kernel
theorem dX6_gatherMan_82 : decode cX6_gatherMan 82 = .ok (.getfield 223, 3) := by decide +kernel
theorem dX6_gatherMan_85 : decode cX6_gatherMan 85 = .ok (.aload_n 2, 1) := by decide +kernel
theorem dX6_gatherMan_86 : decode cX6_gatherMan 86 = .ok (.getfield 211, 3) := by decide +kernel
theorem dX6_gatherMan_89 : decode cX6_gatherMan 89 = .ok (.aload_n 2, 1) := by decide +kernel
theorem dX6_gatherMan_90 : decode cX6_gatherMan 90 = .ok (.getfield 226, 3) := by decide +kernel
theorem dX6_gatherMan_93 : decode cX6_gatherMan 93 = .ok (.iload 7, 2) := by decide +kernel
theorem dX6_gatherMan_95 : decode cX6_gatherMan 95 = .ok (.iconst 1, 1) := by decide +kernel
theorem dX6_gatherMan_96 : decode cX6_gatherMan 96 = .ok (.invokevirtual 232, 3) := by decide +kernel
theorem dX6_gatherMan_99 : decode cX6_gatherMan 99 = .ok (.invokevirtual 236, 3) := by decide +kernel
theorem dX6_gatherMan_102 : decode cX6_gatherMan 102 = .ok (.lload 5, 2) := by decide +kernel
theorem dX6_gatherMan_104 : decode cX6_gatherMan 104 = .ok (.lload 5, 2) := by decide +kernel
theorem dX6_gatherMan_106 : decode cX6_gatherMan 106 = .ok (.lconst 1, 1) := by decide +kernel
theorem dX6_gatherMan_107 : decode cX6_gatherMan 107 = .ok (.lsub, 1) := by decide +kernel
theorem dX6_gatherMan_108 : decode cX6_gatherMan 108 = .ok (.land, 1) := by decide +kernel
theorem dX6_gatherMan_109 : decode cX6_gatherMan 109 = .ok (.lstore 5, 2) := by decide +kernel
theorem dX6_gatherMan_111 : decode cX6_gatherMan 111 = .ok (.goto (-84), 3) := by decide +kernel
theorem dX6_gatherMan_114 : decode cX6_gatherMan 114 = .ok (.return_, 1) := by decide +kernel
theorem dX6_gatherPromotions_0 : decode cX6_gatherPromotions 0 = .ok (.iconst 0, 1) := by decide +kernel
theorem dX6_gatherPromotions_1 : decode cX6_gatherPromotions 1 = .ok (.istore 4, 2) := by decide +kernel
theorem dX6_gatherPromotions_3 : decode cX6_gatherPromotions 3 = .ok (.iload 4, 2) := by decide +kernel
theorem dX6_gatherPromotions_5 : decode cX6_gatherPromotions 5 = .ok (.iconst 4, 1) := by decide +kernel
theorem dX6_gatherPromotions_6 : decode cX6_gatherPromotions 6 = .ok (.if_icmp .ge 58, 3) := by decide +kernel
theorem dX6_gatherPromotions_9 : decode cX6_gatherPromotions 9 = .ok (.iload 4, 2) := by decide +kernel
theorem dX6_gatherPromotions_11 : decode cX6_gatherPromotions 11 = .ok (.iconst 1, 1) := by decide +kernel
theorem dX6_gatherPromotions_12 : decode cX6_gatherPromotions 12 = .ok (.if_icmp .gt 7, 3) := by decide +kernel
theorem dX6_gatherPromotions_15 : decode cX6_gatherPromotions 15 = .ok (.iconst 1, 1) := by decide +kernel
theorem dX6_gatherPromotions_16 : decode cX6_gatherPromotions 16 = .ok (.goto 4, 3) := by decide +kernel
theorem dX6_gatherPromotions_19 : decode cX6_gatherPromotions 19 = .ok (.iconst 0, 1) := by decide +kernel
theorem dX6_gatherPromotions_20 : decode cX6_gatherPromotions 20 = .ok (.istore 5, 2) := by decide +kernel
theorem dX6_gatherPromotions_22 : decode cX6_gatherPromotions 22 = .ok (.aload_n 1, 1) := by decide +kernel
theorem dX6_gatherPromotions_23 : decode cX6_gatherPromotions 23 = .ok (.aload_n 2, 1) := by decide +kernel
theorem dX6_gatherPromotions_24 : decode cX6_gatherPromotions 24 = .ok (.getfield 214, 3) := by decide +kernel
theorem dX6_gatherPromotions_27 : decode cX6_gatherPromotions 27 = .ok (.iload_n 3, 1) := by decide +kernel
theorem dX6_gatherPromotions_28 : decode cX6_gatherPromotions 28 = .ok (.iload 4, 2) := by decide +kernel
theorem dX6_gatherPromotions_30 : decode cX6_gatherPromotions 30 = .ok (.iload 5, 2) := by decide +kernel
theorem dX6_gatherPromotions_32 : decode cX6_gatherPromotions 32 = .ok (.ifCond .eq 22, 3) := by decide +kernel
theorem dX6_gatherPromotions_35 : decode cX6_gatherPromotions 35 = .ok (.aload_n 0, 1) := by decide +kernel
theorem dX6_gatherPromotions_36 : decode cX6_gatherPromotions 36 = .ok (.iload 4, 2) := by decide +kernel
theorem dX6_gatherPromotions_38 : decode cX6_gatherPromotions 38 = .ok (.aload_n 2, 1) := by decide +kernel
theorem dX6_gatherPromotions_39 : decode cX6_gatherPromotions 39 = .ok (.getfield 211, 3) := by decide +kernel
theorem dX6_gatherPromotions_42 : decode cX6_gatherPromotions 42 = .ok (.aload_n 2, 1) := by decide +kernel
theorem dX6_gatherPromotions_43 : decode cX6_gatherPromotions 43 = .ok (.getfield 226, 3) := by decide +kernel
theorem dX6_gatherPromotions_46 : decode cX6_gatherPromotions 46 = .ok (.iload_n 3, 1) := by decide +kernel
theorem dX6_gatherPromotions_47 : decode cX6_gatherPromotions 47 = .ok (.iconst 1, 1) := by decide +kernel
theorem dX6_gatherPromotions_48 : decode cX6_gatherPromotions 48 = .ok (.invokevirtual 232, 3) := by decide +kernel
theorem dX6_gatherPromotions_51 : decode cX6_gatherPromotions 51 = .ok (.goto 4, 3) := by decide +kernel
theorem dX6_gatherPromotions_54 : decode cX6_gatherPromotions 54 = .ok (.iconst (-1), 1) := by decide +kernel
theorem dX6_gatherPromotions_55 : decode cX6_gatherPromotions 55 = .ok (.invokevirtual 236, 3) := by decide +kernel
theorem dX6_gatherPromotions_58 : decode cX6_gatherPromotions 58 = .ok (.iinc 4 1, 3) := by decide +kernel
theorem dX6_gatherPromotions_61 : decode cX6_gatherPromotions 61 = .ok (.goto (-58), 3) := by decide +kernel
theorem dX6_gatherPromotions_64 : decode cX6_gatherPromotions 64 = .ok (.return_, 1) := by decide +kernel
theorem dX6_lookUp_0 : decode cX6_lookUp 0 = .ok (.aload_n 0, 1) := by decide +kernel
theorem dX6_lookUp_1 : decode cX6_lookUp 1 = .ok (.getfield 52, 3) := by decide +kernel
theorem dX6_lookUp_4 : decode cX6_lookUp 4 = .ok (.getfield 190, 3) := by decide +kernel
end
section
theorem dX6_lookUp_7 : decode cX6_lookUp 7 = .ok (.iload_n 1, 1) := by decide +kernel
theorem dX6_lookUp_8 : decode cX6_lookUp 8 = .ok (.aaload, 1) := by decide +kernel
theorem dX6_lookUp_9 : decode cX6_lookUp 9 = .ok (.astore 6, 2) := by decide +kernel
theorem dX6_lookUp_11 : decode cX6_lookUp 11 = .ok (.aload 6, 2) := by decide +kernel
theorem dX6_lookUp_13 : decode cX6_lookUp 13 = .ok (.ifnonnull 7, 3) := by decide +kernel
theorem dX6_lookUp_16 : decode cX6_lookUp 16 = .ok (.iconst (-1), 1) := by decide +kernel
theorem dX6_lookUp_17 : decode cX6_lookUp 17 = .ok (.goto 14, 3) := by decide +kernel
theorem dX6_lookUp_20 : decode cX6_lookUp 20 = .ok (.aload 6, 2) := by decide +kernel
theorem dX6_lookUp_22 : decode cX6_lookUp 22 = .ok (.iload_n 2, 1) := by decide +kernel
theorem dX6_lookUp_23 : decode cX6_lookUp 23 = .ok (.iload_n 3, 1) := by decide +kernel
theorem dX6_lookUp_24 : decode cX6_lookUp 24 = .ok (.iload 4, 2) := by decide +kernel
theorem dX6_lookUp_26 : decode cX6_lookUp 26 = .ok (.iload 5, 2) := by decide +kernel
theorem dX6_lookUp_28 : decode cX6_lookUp 28 = .ok (.invokevirtual 102, 3) := by decide +kernel
theorem dX6_lookUp_31 : decode cX6_lookUp 31 = .ok (.ireturn, 1) := by decide +kernel
theorem dX6_addToLine_0 : decode cX6_addToLine 0 = .ok (.aload_n 0, 1) := by decide +kernel
theorem dX6_addToLine_1 : decode cX6_addToLine 1 = .ok (.getfield 56, 3) := by decide +kernel
theorem dX6_addToLine_4 : decode cX6_addToLine 4 = .ok (.iconst 5, 1) := by decide +kernel
theorem dX6_addToLine_5 : decode cX6_addToLine 5 = .ok (.imul, 1) := by decide +kernel
theorem dX6_addToLine_6 : decode cX6_addToLine 6 = .ok (.istore_n 2, 1) := by decide +kernel
theorem dX6_addToLine_7 : decode cX6_addToLine 7 = .ok (.iload_n 2, 1) := by decide +kernel
theorem dX6_addToLine_8 : decode cX6_addToLine 8 = .ok (.iconst 5, 1) := by decide +kernel
theorem dX6_addToLine_9 : decode cX6_addToLine 9 = .ok (.iadd, 1) := by decide +kernel
theorem dX6_addToLine_10 : decode cX6_addToLine 10 = .ok (.aload_n 0, 1) := by decide +kernel
theorem dX6_addToLine_11 : decode cX6_addToLine 11 = .ok (.getfield 39, 3) := by decide +kernel
theorem dX6_addToLine_14 : decode cX6_addToLine 14 = .ok (.arraylength, 1) := by decide +kernel
theorem dX6_addToLine_15 : decode cX6_addToLine 15 = .ok (.if_icmp .le 4, 3) := by decide +kernel
theorem dX6_addToLine_18 : decode cX6_addToLine 18 = .ok (.return_, 1) := by decide +kernel
theorem dX6_addToLine_19 : decode cX6_addToLine 19 = .ok (.aload_n 0, 1) := by decide +kernel
theorem dX6_addToLine_20 : decode cX6_addToLine 20 = .ok (.getfield 39, 3) := by decide +kernel
theorem dX6_addToLine_23 : decode cX6_addToLine 23 = .ok (.iload_n 2, 1) := by decide +kernel
theorem dX6_addToLine_24 : decode cX6_addToLine 24 = .ok (.aload_n 1, 1) := by decide +kernel
theorem dX6_addToLine_25 : decode cX6_addToLine 25 = .ok (.getfield 223, 3) := by decide +kernel
theorem dX6_addToLine_28 : decode cX6_addToLine 28 = .ok (.iastore, 1) := by decide +kernel
theorem dX6_addToLine_29 : decode cX6_addToLine 29 = .ok (.aload_n 0, 1) := by decide +kernel
theorem dX6_addToLine_30 : decode cX6_addToLine 30 = .ok (.getfield 39, 3) := by decide +kernel
theorem dX6_addToLine_33 : decode cX6_addToLine 33 = .ok (.iload_n 2, 1) := by decide +kernel
theorem dX6_addToLine_34 : decode cX6_addToLine 34 = .ok (.iconst 1, 1) := by decide +kernel
theorem dX6_addToLine_35 : decode cX6_addToLine 35 = .ok (.iadd, 1) := by decide +kernel
theorem dX6_addToLine_36 : decode cX6_addToLine 36 = .ok (.aload_n 1, 1) := by decide +kernel
theorem dX6_addToLine_37 : decode cX6_addToLine 37 = .ok (.getfield 211, 3) := by decide +kernel
theorem dX6_addToLine_40 : decode cX6_addToLine 40 = .ok (.iastore, 1) := by decide +kernel
theorem dX6_addToLine_41 : decode cX6_addToLine 41 = .ok (.aload_n 0, 1) := by decide +kernel
theorem dX6_addToLine_42 : decode cX6_addToLine 42 = .ok (.getfield 39, 3) := by decide +kernel
theorem dX6_addToLine_45 : decode cX6_addToLine 45 = .ok (.iload_n 2, 1) := by decide +kernel
theorem dX6_addToLine_46 : decode cX6_addToLine 46 = .ok (.iconst 2, 1) := by decide +kernel
theorem dX6_addToLine_47 : decode cX6_addToLine 47 = .ok (.iadd, 1) := by decide +kernel
theorem dX6_addToLine_48 : decode cX6_addToLine 48 = .ok (.aload_n 1, 1) := by decide +kernel
theorem dX6_addToLine_49 : decode cX6_addToLine 49 = .ok (.getfield 226, 3) := by decide +kernel
theorem dX6_addToLine_52 : decode cX6_addToLine 52 = .ok (.iastore, 1) := by decide +kernel
theorem dX6_addToLine_53 : decode cX6_addToLine 53 = .ok (.aload_n 0, 1) := by decide +kernel
theorem dX6_addToLine_54 : decode cX6_addToLine 54 = .ok (.getfield 39, 3) := by decide +kernel
theorem dX6_addToLine_57 : decode cX6_addToLine 57 = .ok (.iload_n 2, 1) := by decide +kernel
theorem dX6_addToLine_58 : decode cX6_addToLine 58 = .ok (.iconst 3, 1) := by decide +kernel
theorem dX6_addToLine_59 : decode cX6_addToLine 59 = .ok (.iadd, 1) := by decide +kernel
theorem dX6_addToLine_60 : decode cX6_addToLine 60 = .ok (.aload_n 1, 1) := by decide +kernel
theorem dX6_addToLine_61 : decode cX6_addToLine 61 = .ok (.getfield 214, 3) := by decide +kernel
theorem dX6_addToLine_64 : decode cX6_addToLine 64 = .ok (.iastore, 1) := by decide +kernel
theorem dX6_addToLine_65 : decode cX6_addToLine 65 = .ok (.aload_n 0, 1) := by decide +kernel
theorem dX6_addToLine_66 : decode cX6_addToLine 66 = .ok (.getfield 39, 3) := by decide +kernel
theorem dX6_addToLine_69 : decode cX6_addToLine 69 = .ok (.iload_n 2, 1) := by decide +kernel
theorem dX6_addToLine_70 : decode cX6_addToLine 70 = .ok (.iconst 4, 1) := by decide +kernel
theorem dX6_addToLine_71 : decode cX6_addToLine 71 = .ok (.iadd, 1) := by decide +kernel
theorem dX6_addToLine_72 : decode cX6_addToLine 72 = .ok (.aload_n 1, 1) := by decide +kernel
theorem dX6_addToLine_73 : decode cX6_addToLine 73 = .ok (.getfield 205, 3) := by decide +kernel
theorem dX6_addToLine_76 : decode cX6_addToLine 76 = .ok (.iastore, 1) := by decide +kernel
theorem dX6_addToLine_77 : decode cX6_addToLine 77 = .ok (.aload_n 0, 1) := by decide +kernel
theorem dX6_addToLine_78 : decode cX6_addToLine 78 = .ok (.dup, 1) := by decide +kernel
theorem dX6_addToLine_79 : decode cX6_addToLine 79 = .ok (.getfield 56, 3) := by decide +kernel
theorem dX6_addToLine_82 : decode cX6_addToLine 82 = .ok (.iconst 1, 1) := by decide +kernel
theorem dX6_addToLine_83 : decode cX6_addToLine 83 = .ok (.iadd, 1) := by decide +kernel
theorem dX6_addToLine_84 : decode cX6_addToLine 84 = .ok (.putfield 56, 3) := by decide +kernel
theorem dX6_addToLine_87 : decode cX6_addToLine 87 = .ok (.return_, 1) := by decide +kernel
theorem dX6_addToTape_0 : decode cX6_addToTape 0 = .ok (.bipush 24, 2) := by decide +kernel
theorem dX6_addToTape_2 : decode cX6_addToTape 2 = .ok (.istore_n 2, 1) := by decide +kernel
theorem dX6_addToTape_3 : decode cX6_addToTape 3 = .ok (.iload_n 2, 1) := by decide +kernel
theorem dX6_addToTape_4 : decode cX6_addToTape 4 = .ok (.ifCond .lt 35, 3) := by decide +kernel
theorem dX6_addToTape_7 : decode cX6_addToTape 7 = .ok (.aload_n 0, 1) := by decide +kernel
theorem dX6_addToTape_8 : decode cX6_addToTape 8 = .ok (.getfield 43, 3) := by decide +kernel
theorem dX6_addToTape_11 : decode cX6_addToTape 11 = .ok (.aload_n 0, 1) := by decide +kernel
theorem dX6_addToTape_12 : decode cX6_addToTape 12 = .ok (.getfield 167, 3) := by decide +kernel
theorem dX6_addToTape_15 : decode cX6_addToTape 15 = .ok (.iload_n 1, 1) := by decide +kernel
theorem dX6_addToTape_16 : decode cX6_addToTape 16 = .ok (.iload_n 2, 1) := by decide +kernel
theorem dX6_addToTape_17 : decode cX6_addToTape 17 = .ok (.iushr, 1) := by decide +kernel
theorem dX6_addToTape_18 : decode cX6_addToTape 18 = .ok (.sipush 255, 3) := by decide +kernel
theorem dX6_addToTape_21 : decode cX6_addToTape 21 = .ok (.iand, 1) := by decide +kernel
theorem dX6_addToTape_22 : decode cX6_addToTape 22 = .ok (.iastore, 1) := by decide +kernel
theorem dX6_addToTape_23 : decode cX6_addToTape 23 = .ok (.aload_n 0, 1) := by decide +kernel
theorem dX6_addToTape_24 : decode cX6_addToTape 24 = .ok (.dup, 1) := by decide +kernel
theorem dX6_addToTape_25 : decode cX6_addToTape 25 = .ok (.getfield 167, 3) := by decide +kernel
theorem dX6_addToTape_28 : decode cX6_addToTape 28 = .ok (.iconst 1, 1) := by decide +kernel
theorem dX6_addToTape_29 : decode cX6_addToTape 29 = .ok (.iadd, 1) := by decide +kernel
theorem dX6_addToTape_30 : decode cX6_addToTape 30 = .ok (.putfield 167, 3) := by decide +kernel
theorem dX6_addToTape_33 : decode cX6_addToTape 33 = .ok (.iinc 2 (-8), 3) := by decide +kernel
theorem dX6_addToTape_36 : decode cX6_addToTape 36 = .ok (.goto (-33), 3) := by decide +kernel
theorem dX6_addToTape_39 : decode cX6_addToTape 39 = .ok (.return_, 1) := by decide +kernel
theorem dX6_keyOfText_0 : decode cX6_keyOfText 0 = .ok (.getstatic 180, 3) := by decide +kernel
theorem dX6_keyOfText_3 : decode cX6_keyOfText 3 = .ok (.aload_n 0, 1) := by decide +kernel
theorem dX6_keyOfText_4 : decode cX6_keyOfText 4 = .ok (.getfield 43, 3) := by decide +kernel
theorem dX6_keyOfText_7 : decode cX6_keyOfText 7 = .ok (.iconst 4, 1) := by decide +kernel
theorem dX6_keyOfText_8 : decode cX6_keyOfText 8 = .ok (.iaload, 1) := by decide +kernel
theorem dX6_keyOfText_9 : decode cX6_keyOfText 9 = .ok (.invokestatic 244, 3) := by decide +kernel
theorem dX6_keyOfText_12 : decode cX6_keyOfText 12 = .ok (.istore_n 1, 1) := by decide +kernel
theorem dX6_keyOfText_13 : decode cX6_keyOfText 13 = .ok (.getstatic 184, 3) := by decide +kernel
theorem dX6_keyOfText_16 : decode cX6_keyOfText 16 = .ok (.aload_n 0, 1) := by decide +kernel
theorem dX6_keyOfText_17 : decode cX6_keyOfText 17 = .ok (.getfield 43, 3) := by decide +kernel
theorem dX6_keyOfText_20 : decode cX6_keyOfText 20 = .ok (.bipush 12, 2) := by decide +kernel
theorem dX6_keyOfText_22 : decode cX6_keyOfText 22 = .ok (.iaload, 1) := by decide +kernel
theorem dX6_keyOfText_23 : decode cX6_keyOfText 23 = .ok (.invokestatic 244, 3) := by decide +kernel
theorem dX6_keyOfText_26 : decode cX6_keyOfText 26 = .ok (.istore_n 2, 1) := by decide +kernel
theorem dX6_keyOfText_27 : decode cX6_keyOfText 27 = .ok (.aload_n 0, 1) := by decide +kernel
theorem dX6_keyOfText_28 : decode cX6_keyOfText 28 = .ok (.iconst 1, 1) := by decide +kernel
theorem dX6_keyOfText_29 : decode cX6_keyOfText 29 = .ok (.invokevirtual 248, 3) := by decide +kernel
theorem dX6_keyOfText_32 : decode cX6_keyOfText 32 = .ok (.istore_n 3, 1) := by decide +kernel
theorem dX6_keyOfText_33 : decode cX6_keyOfText 33 = .ok (.aload_n 0, 1) := by decide +kernel
theorem dX6_keyOfText_34 : decode cX6_keyOfText 34 = .ok (.iconst 5, 1) := by decide +kernel
theorem dX6_keyOfText_35 : decode cX6_keyOfText 35 = .ok (.invokevirtual 248, 3) := by decide +kernel
theorem dX6_keyOfText_38 : decode cX6_keyOfText 38 = .ok (.istore 4, 2) := by decide +kernel
theorem dX6_keyOfText_40 : decode cX6_keyOfText 40 = .ok (.aload_n 0, 1) := by decide +kernel
theorem dX6_keyOfText_41 : decode cX6_keyOfText 41 = .ok (.bipush 9, 2) := by decide +kernel
theorem dX6_keyOfText_43 : decode cX6_keyOfText 43 = .ok (.invokevirtual 248, 3) := by decide +kernel
theorem dX6_keyOfText_46 : decode cX6_keyOfText 46 = .ok (.istore 5, 2) := by decide +kernel
theorem dX6_keyOfText_48 : decode cX6_keyOfText 48 = .ok (.aload_n 0, 1) := by decide +kernel
theorem dX6_keyOfText_49 : decode cX6_keyOfText 49 = .ok (.getfield 43, 3) := by decide +kernel
theorem dX6_keyOfText_52 : decode cX6_keyOfText 52 = .ok (.iconst 0, 1) := by decide +kernel
theorem dX6_keyOfText_53 : decode cX6_keyOfText 53 = .ok (.iaload, 1) := by decide +kernel
theorem dX6_keyOfText_54 : decode cX6_keyOfText 54 = .ok (.bipush 75, 2) := by decide +kernel
theorem dX6_keyOfText_56 : decode cX6_keyOfText 56 = .ok (.if_icmp .ne 54, 3) := by decide +kernel
theorem dX6_keyOfText_59 : decode cX6_keyOfText 59 = .ok (.aload_n 0, 1) := by decide +kernel
theorem dX6_keyOfText_60 : decode cX6_keyOfText 60 = .ok (.getfield 43, 3) := by decide +kernel
theorem dX6_keyOfText_63 : decode cX6_keyOfText 63 = .ok (.iconst 3, 1) := by decide +kernel
theorem dX6_keyOfText_64 : decode cX6_keyOfText 64 = .ok (.iaload, 1) := by decide +kernel
theorem dX6_keyOfText_65 : decode cX6_keyOfText 65 = .ok (.bipush 32, 2) := by decide +kernel
theorem dX6_keyOfText_67 : decode cX6_keyOfText 67 = .ok (.if_icmp .ne 43, 3) := by decide +kernel
theorem dX6_keyOfText_70 : decode cX6_keyOfText 70 = .ok (.aload_n 0, 1) := by decide +kernel
theorem dX6_keyOfText_71 : decode cX6_keyOfText 71 = .ok (.getfield 43, 3) := by decide +kernel
theorem dX6_keyOfText_74 : decode cX6_keyOfText 74 = .ok (.bipush 7, 2) := by decide +kernel
theorem dX6_keyOfText_76 : decode cX6_keyOfText 76 = .ok (.iaload, 1) := by decide +kernel
theorem dX6_keyOfText_77 : decode cX6_keyOfText 77 = .ok (.bipush 32, 2) := by decide +kernel
theorem dX6_keyOfText_79 : decode cX6_keyOfText 79 = .ok (.if_icmp .ne 31, 3) := by decide +kernel
theorem dX6_keyOfText_82 : decode cX6_keyOfText 82 = .ok (.aload_n 0, 1) := by decide +kernel
theorem dX6_keyOfText_83 : decode cX6_keyOfText 83 = .ok (.getfield 43, 3) := by decide +kernel
theorem dX6_keyOfText_86 : decode cX6_keyOfText 86 = .ok (.bipush 8, 2) := by decide +kernel
theorem dX6_keyOfText_88 : decode cX6_keyOfText 88 = .ok (.iaload, 1) := by decide +kernel
theorem dX6_keyOfText_89 : decode cX6_keyOfText 89 = .ok (.bipush 107, 2) := by decide +kernel
theorem dX6_keyOfText_91 : decode cX6_keyOfText 91 = .ok (.if_icmp .ne 19, 3) := by decide +kernel
theorem dX6_keyOfText_94 : decode cX6_keyOfText 94 = .ok (.aload_n 0, 1) := by decide +kernel
theorem dX6_keyOfText_95 : decode cX6_keyOfText 95 = .ok (.getfield 43, 3) := by decide +kernel
theorem dX6_keyOfText_98 : decode cX6_keyOfText 98 = .ok (.bipush 11, 2) := by decide +kernel
theorem dX6_keyOfText_100 : decode cX6_keyOfText 100 = .ok (.iaload, 1) := by decide +kernel
theorem dX6_keyOfText_101 : decode cX6_keyOfText 101 = .ok (.bipush 32, 2) := by decide +kernel
theorem dX6_keyOfText_103 : decode cX6_keyOfText 103 = .ok (.if_icmp .ne 7, 3) := by decide +kernel
theorem dX6_keyOfText_106 : decode cX6_keyOfText 106 = .ok (.iconst 1, 1) := by decide +kernel
theorem dX6_keyOfText_107 : decode cX6_keyOfText 107 = .ok (.goto 4, 3) := by decide +kernel
theorem dX6_keyOfText_110 : decode cX6_keyOfText 110 = .ok (.iconst 0, 1) := by decide +kernel
theorem dX6_keyOfText_111 : decode cX6_keyOfText 111 = .ok (.istore 6, 2) := by decide +kernel
theorem dX6_keyOfText_113 : decode cX6_keyOfText 113 = .ok (.iload 6, 2) := by decide +kernel
theorem dX6_keyOfText_115 : decode cX6_keyOfText 115 = .ok (.ifCond .eq 20, 3) := by decide +kernel
theorem dX6_keyOfText_118 : decode cX6_keyOfText 118 = .ok (.aload_n 0, 1) := by decide +kernel
theorem dX6_keyOfText_119 : decode cX6_keyOfText 119 = .ok (.getfield 52, 3) := by decide +kernel
theorem dX6_keyOfText_122 : decode cX6_keyOfText 122 = .ok (.iload_n 1, 1) := by decide +kernel
theorem dX6_keyOfText_123 : decode cX6_keyOfText 123 = .ok (.iload_n 3, 1) := by decide +kernel
theorem dX6_keyOfText_124 : decode cX6_keyOfText 124 = .ok (.iload 5, 2) := by decide +kernel
theorem dX6_keyOfText_126 : decode cX6_keyOfText 126 = .ok (.iload 4, 2) := by decide +kernel
theorem dX6_keyOfText_128 : decode cX6_keyOfText 128 = .ok (.iload_n 2, 1) := by decide +kernel
theorem dX6_keyOfText_129 : decode cX6_keyOfText 129 = .ok (.invokevirtual 70, 3) := by decide +kernel
theorem dX6_keyOfText_132 : decode cX6_keyOfText 132 = .ok (.ifCond .ne 5, 3) := by decide +kernel
theorem dX6_keyOfText_135 : decode cX6_keyOfText 135 = .ok (.iconst (-1), 1) := by decide +kernel
theorem dX6_keyOfText_136 : decode cX6_keyOfText 136 = .ok (.ireturn, 1) := by decide +kernel
theorem dX6_keyOfText_137 : decode cX6_keyOfText 137 = .ok (.aload_n 0, 1) := by decide +kernel
theorem dX6_keyOfText_138 : decode cX6_keyOfText 138 = .ok (.getfield 52, 3) := by decide +kernel
theorem dX6_keyOfText_141 : decode cX6_keyOfText 141 = .ok (.getfield 251, 3) := by decide +kernel
theorem dX6_keyOfText_144 : decode cX6_keyOfText 144 = .ok (.istore 7, 2) := by decide +kernel
theorem dX6_keyOfText_146 : decode cX6_keyOfText 146 = .ok (.iconst 2, 1) := by decide +kernel
theorem dX6_keyOfText_147 : decode cX6_keyOfText 147 = .ok (.iload_n 1, 1) := by decide +kernel
theorem dX6_keyOfText_148 : decode cX6_keyOfText 148 = .ok (.iload 7, 2) := by decide +kernel
theorem dX6_keyOfText_150 : decode cX6_keyOfText 150 = .ok (.imul, 1) := by decide +kernel
theorem dX6_keyOfText_151 : decode cX6_keyOfText 151 = .ok (.iload_n 3, 1) := by decide +kernel
theorem dX6_keyOfText_152 : decode cX6_keyOfText 152 = .ok (.iadd, 1) := by decide +kernel
theorem dX6_keyOfText_153 : decode cX6_keyOfText 153 = .ok (.iload 7, 2) := by decide +kernel
theorem dX6_keyOfText_155 : decode cX6_keyOfText 155 = .ok (.imul, 1) := by decide +kernel
theorem dX6_keyOfText_156 : decode cX6_keyOfText 156 = .ok (.iload 5, 2) := by decide +kernel
theorem dX6_keyOfText_158 : decode cX6_keyOfText 158 = .ok (.iadd, 1) := by decide +kernel
theorem dX6_keyOfText_159 : decode cX6_keyOfText 159 = .ok (.iload 7, 2) := by decide +kernel
theorem dX6_keyOfText_161 : decode cX6_keyOfText 161 = .ok (.imul, 1) := by decide +kernel
theorem dX6_keyOfText_162 : decode cX6_keyOfText 162 = .ok (.iload 4, 2) := by decide +kernel
theorem dX6_keyOfText_164 : decode cX6_keyOfText 164 = .ok (.iadd, 1) := by decide +kernel
theorem dX6_keyOfText_165 : decode cX6_keyOfText 165 = .ok (.imul, 1) := by decide +kernel
theorem dX6_keyOfText_166 : decode cX6_keyOfText 166 = .ok (.iload_n 2, 1) := by decide +kernel
theorem dX6_keyOfText_167 : decode cX6_keyOfText 167 = .ok (.iadd, 1) := by decide +kernel
theorem dX6_keyOfText_168 : decode cX6_keyOfText 168 = .ok (.ireturn, 1) := by decide +kernel
theorem dX6_letterAt_0 : decode cX6_letterAt 0 = .ok (.iconst 0, 1) := by decide +kernel
theorem dX6_letterAt_1 : decode cX6_letterAt 1 = .ok (.istore_n 2, 1) := by decide +kernel
theorem dX6_letterAt_2 : decode cX6_letterAt 2 = .ok (.iload_n 2, 1) := by decide +kernel
theorem dX6_letterAt_3 : decode cX6_letterAt 3 = .ok (.aload_n 0, 1) := by decide +kernel
theorem dX6_letterAt_4 : decode cX6_letterAt 4 = .ok (.arraylength, 1) := by decide +kernel
theorem dX6_letterAt_5 : decode cX6_letterAt 5 = .ok (.if_icmp .ge 18, 3) := by decide +kernel
theorem dX6_letterAt_8 : decode cX6_letterAt 8 = .ok (.aload_n 0, 1) := by decide +kernel
theorem dX6_letterAt_9 : decode cX6_letterAt 9 = .ok (.iload_n 2, 1) := by decide +kernel
theorem dX6_letterAt_10 : decode cX6_letterAt 10 = .ok (.caload, 1) := by decide +kernel
theorem dX6_letterAt_11 : decode cX6_letterAt 11 = .ok (.iload_n 1, 1) := by decide +kernel
theorem dX6_letterAt_12 : decode cX6_letterAt 12 = .ok (.if_icmp .ne 5, 3) := by decide +kernel
theorem dX6_letterAt_15 : decode cX6_letterAt 15 = .ok (.iload_n 2, 1) := by decide +kernel
theorem dX6_letterAt_16 : decode cX6_letterAt 16 = .ok (.ireturn, 1) := by decide +kernel
theorem dX6_letterAt_17 : decode cX6_letterAt 17 = .ok (.iinc 2 1, 3) := by decide +kernel
theorem dX6_letterAt_20 : decode cX6_letterAt 20 = .ok (.goto (-18), 3) := by decide +kernel
theorem dX6_letterAt_23 : decode cX6_letterAt 23 = .ok (.iconst (-1), 1) := by decide +kernel
theorem dX6_letterAt_24 : decode cX6_letterAt 24 = .ok (.ireturn, 1) := by decide +kernel
theorem dX6_squareOfText_0 : decode cX6_squareOfText 0 = .ok (.aload_n 0, 1) := by decide +kernel
theorem dX6_squareOfText_1 : decode cX6_squareOfText 1 = .ok (.getfield 43, 3) := by decide +kernel
theorem dX6_squareOfText_4 : decode cX6_squareOfText 4 = .ok (.iload_n 1, 1) := by decide +kernel
theorem dX6_squareOfText_5 : decode cX6_squareOfText 5 = .ok (.iaload, 1) := by decide +kernel
theorem dX6_squareOfText_6 : decode cX6_squareOfText 6 = .ok (.bipush 97, 2) := by decide +kernel
theorem dX6_squareOfText_8 : decode cX6_squareOfText 8 = .ok (.isub, 1) := by decide +kernel
theorem dX6_squareOfText_9 : decode cX6_squareOfText 9 = .ok (.istore_n 2, 1) := by decide +kernel
theorem dX6_squareOfText_10 : decode cX6_squareOfText 10 = .ok (.aload_n 0, 1) := by decide +kernel
theorem dX6_squareOfText_11 : decode cX6_squareOfText 11 = .ok (.getfield 43, 3) := by decide +kernel
theorem dX6_squareOfText_14 : decode cX6_squareOfText 14 = .ok (.iload_n 1, 1) := by decide +kernel
theorem dX6_squareOfText_15 : decode cX6_squareOfText 15 = .ok (.iconst 1, 1) := by decide +kernel
theorem dX6_squareOfText_16 : decode cX6_squareOfText 16 = .ok (.iadd, 1) := by decide +kernel
theorem dX6_squareOfText_17 : decode cX6_squareOfText 17 = .ok (.iaload, 1) := by decide +kernel
theorem dX6_squareOfText_18 : decode cX6_squareOfText 18 = .ok (.bipush 49, 2) := by decide +kernel
theorem dX6_squareOfText_20 : decode cX6_squareOfText 20 = .ok (.isub, 1) := by decide +kernel
theorem dX6_squareOfText_21 : decode cX6_squareOfText 21 = .ok (.istore_n 3, 1) := by decide +kernel
theorem dX6_squareOfText_22 : decode cX6_squareOfText 22 = .ok (.iload_n 2, 1) := by decide +kernel
theorem dX6_squareOfText_23 : decode cX6_squareOfText 23 = .ok (.ifCond .lt 33, 3) := by decide +kernel
theorem dX6_squareOfText_26 : decode cX6_squareOfText 26 = .ok (.iload_n 2, 1) := by decide +kernel
theorem dX6_squareOfText_27 : decode cX6_squareOfText 27 = .ok (.aload_n 0, 1) := by decide +kernel
theorem dX6_squareOfText_28 : decode cX6_squareOfText 28 = .ok (.getfield 52, 3) := by decide +kernel
theorem dX6_squareOfText_31 : decode cX6_squareOfText 31 = .ok (.getfield 87, 3) := by decide +kernel
theorem dX6_squareOfText_34 : decode cX6_squareOfText 34 = .ok (.if_icmp .ge 22, 3) := by decide +kernel
theorem dX6_squareOfText_37 : decode cX6_squareOfText 37 = .ok (.iload_n 3, 1) := by decide +kernel
theorem dX6_squareOfText_38 : decode cX6_squareOfText 38 = .ok (.ifCond .lt 18, 3) := by decide +kernel
theorem dX6_squareOfText_41 : decode cX6_squareOfText 41 = .ok (.iload_n 3, 1) := by decide +kernel
theorem dX6_squareOfText_42 : decode cX6_squareOfText 42 = .ok (.aload_n 0, 1) := by decide +kernel
theorem dX6_squareOfText_43 : decode cX6_squareOfText 43 = .ok (.getfield 52, 3) := by decide +kernel
theorem dX6_squareOfText_46 : decode cX6_squareOfText 46 = .ok (.getfield 87, 3) := by decide +kernel
theorem dX6_squareOfText_49 : decode cX6_squareOfText 49 = .ok (.if_icmp .ge 7, 3) := by decide +kernel
theorem dX6_squareOfText_52 : decode cX6_squareOfText 52 = .ok (.iconst 1, 1) := by decide +kernel
theorem dX6_squareOfText_53 : decode cX6_squareOfText 53 = .ok (.goto 4, 3) := by decide +kernel
theorem dX6_squareOfText_56 : decode cX6_squareOfText 56 = .ok (.iconst 0, 1) := by decide +kernel
theorem dX6_squareOfText_57 : decode cX6_squareOfText 57 = .ok (.istore 4, 2) := by decide +kernel
theorem dX6_squareOfText_59 : decode cX6_squareOfText 59 = .ok (.iload 4, 2) := by decide +kernel
theorem dX6_squareOfText_61 : decode cX6_squareOfText 61 = .ok (.ifCond .eq 17, 3) := by decide +kernel
theorem dX6_squareOfText_64 : decode cX6_squareOfText 64 = .ok (.aload_n 0, 1) := by decide +kernel
theorem dX6_squareOfText_65 : decode cX6_squareOfText 65 = .ok (.getfield 52, 3) := by decide +kernel
theorem dX6_squareOfText_68 : decode cX6_squareOfText 68 = .ok (.getfield 87, 3) := by decide +kernel
theorem dX6_squareOfText_71 : decode cX6_squareOfText 71 = .ok (.iload_n 3, 1) := by decide +kernel
theorem dX6_squareOfText_72 : decode cX6_squareOfText 72 = .ok (.imul, 1) := by decide +kernel
theorem dX6_squareOfText_73 : decode cX6_squareOfText 73 = .ok (.iload_n 2, 1) := by decide +kernel
theorem dX6_squareOfText_74 : decode cX6_squareOfText 74 = .ok (.iadd, 1) := by decide +kernel
theorem dX6_squareOfText_75 : decode cX6_squareOfText 75 = .ok (.goto 4, 3) := by decide +kernel
theorem dX6_squareOfText_78 : decode cX6_squareOfText 78 = .ok (.iconst (-1), 1) := by decide +kernel
theorem dX6_squareOfText_79 : decode cX6_squareOfText 79 = .ok (.ireturn, 1) := by decide +kernel
theorem dX6_showSquare_0 : decode cX6_showSquare 0 = .ok (.aload_n 0, 1) := by decide +kernel
theorem dX6_showSquare_1 : decode cX6_showSquare 1 = .ok (.getfield 46, 3) := by decide +kernel
theorem dX6_showSquare_4 : decode cX6_showSquare 4 = .ok (.iload_n 1, 1) := by decide +kernel
theorem dX6_showSquare_5 : decode cX6_showSquare 5 = .ok (.iload_n 2, 1) := by decide +kernel
theorem dX6_showSquare_6 : decode cX6_showSquare 6 = .ok (.iastore, 1) := by decide +kernel
theorem dX6_showSquare_7 : decode cX6_showSquare 7 = .ok (.aload_n 0, 1) := by decide +kernel
theorem dX6_showSquare_8 : decode cX6_showSquare 8 = .ok (.getfield 46, 3) := by decide +kernel
theorem dX6_showSquare_11 : decode cX6_showSquare 11 = .ok (.iload_n 1, 1) := by decide +kernel
theorem dX6_showSquare_12 : decode cX6_showSquare 12 = .ok (.iconst 1, 1) := by decide +kernel
theorem dX6_showSquare_13 : decode cX6_showSquare 13 = .ok (.iadd, 1) := by decide +kernel
theorem dX6_showSquare_14 : decode cX6_showSquare 14 = .ok (.bipush 97, 2) := by decide +kernel
theorem dX6_showSquare_16 : decode cX6_showSquare 16 = .ok (.aload_n 0, 1) := by decide +kernel
theorem dX6_showSquare_17 : decode cX6_showSquare 17 = .ok (.getfield 52, 3) := by decide +kernel
theorem dX6_showSquare_20 : decode cX6_showSquare 20 = .ok (.getfield 254, 3) := by decide +kernel
theorem dX6_showSquare_23 : decode cX6_showSquare 23 = .ok (.iload_n 3, 1) := by decide +kernel
theorem dX6_showSquare_24 : decode cX6_showSquare 24 = .ok (.iaload, 1) := by decide +kernel
theorem dX6_showSquare_25 : decode cX6_showSquare 25 = .ok (.iadd, 1) := by decide +kernel
theorem dX6_showSquare_26 : decode cX6_showSquare 26 = .ok (.iastore, 1) := by decide +kernel
theorem dX6_showSquare_27 : decode cX6_showSquare 27 = .ok (.aload_n 0, 1) := by decide +kernel
theorem dX6_showSquare_28 : decode cX6_showSquare 28 = .ok (.getfield 46, 3) := by decide +kernel
theorem dX6_showSquare_31 : decode cX6_showSquare 31 = .ok (.iload_n 1, 1) := by decide +kernel
theorem dX6_showSquare_32 : decode cX6_showSquare 32 = .ok (.iconst 2, 1) := by decide +kernel
theorem dX6_showSquare_33 : decode cX6_showSquare 33 = .ok (.iadd, 1) := by decide +kernel
theorem dX6_showSquare_34 : decode cX6_showSquare 34 = .ok (.bipush 49, 2) := by decide +kernel
theorem dX6_showSquare_36 : decode cX6_showSquare 36 = .ok (.aload_n 0, 1) := by decide +kernel
theorem dX6_showSquare_37 : decode cX6_showSquare 37 = .ok (.getfield 52, 3) := by decide +kernel
theorem dX6_showSquare_40 : decode cX6_showSquare 40 = .ok (.getfield 257, 3) := by decide +kernel
theorem dX6_showSquare_43 : decode cX6_showSquare 43 = .ok (.iload_n 3, 1) := by decide +kernel
theorem dX6_showSquare_44 : decode cX6_showSquare 44 = .ok (.iaload, 1) := by decide +kernel
theorem dX6_showSquare_45 : decode cX6_showSquare 45 = .ok (.iadd, 1) := by decide +kernel
theorem dX6_showSquare_46 : decode cX6_showSquare 46 = .ok (.iastore, 1) := by decide +kernel
theorem dX6_showSquare_47 : decode cX6_showSquare 47 = .ok (.aload_n 0, 1) := by decide +kernel
theorem dX6_showSquare_48 : decode cX6_showSquare 48 = .ok (.getfield 46, 3) := by decide +kernel
theorem dX6_showSquare_51 : decode cX6_showSquare 51 = .ok (.iload_n 1, 1) := by decide +kernel
theorem dX6_showSquare_52 : decode cX6_showSquare 52 = .ok (.iconst 3, 1) := by decide +kernel
theorem dX6_showSquare_53 : decode cX6_showSquare 53 = .ok (.iadd, 1) := by decide +kernel
theorem dX6_showSquare_54 : decode cX6_showSquare 54 = .ok (.bipush 32, 2) := by decide +kernel
theorem dX6_showSquare_56 : decode cX6_showSquare 56 = .ok (.iastore, 1) := by decide +kernel
theorem dX6_showSquare_57 : decode cX6_showSquare 57 = .ok (.return_, 1) := by decide +kernel
theorem dX6_bit_0 : decode cX6_bit 0 = .ok (.lconst 1, 1) := by decide +kernel
theorem dX6_bit_1 : decode cX6_bit 1 = .ok (.iload_n 0, 1) := by decide +kernel
theorem dX6_bit_2 : decode cX6_bit 2 = .ok (.lshl, 1) := by decide +kernel
theorem dX6_bit_3 : decode cX6_bit 3 = .ok (.lreturn, 1) := by decide +kernel
theorem dX6_has_0 : decode cX6_has 0 = .ok (.lload_n 0, 1) := by decide +kernel
theorem dX6_has_1 : decode cX6_has 1 = .ok (.iload_n 2, 1) := by decide +kernel
theorem dX6_has_2 : decode cX6_has 2 = .ok (.lushr, 1) := by decide +kernel
theorem dX6_has_3 : decode cX6_has 3 = .ok (.lconst 1, 1) := by decide +kernel
theorem dX6_has_4 : decode cX6_has 4 = .ok (.land, 1) := by decide +kernel
theorem dX6_has_5 : decode cX6_has 5 = .ok (.lconst 0, 1) := by decide +kernel
theorem dX6_has_6 : decode cX6_has 6 = .ok (.lcmp, 1) := by decide +kernel
theorem dX6_has_7 : decode cX6_has 7 = .ok (.ifCond .eq 7, 3) := by decide +kernel
theorem dX6_has_10 : decode cX6_has 10 = .ok (.iconst 1, 1) := by decide +kernel
theorem dX6_has_11 : decode cX6_has 11 = .ok (.goto 4, 3) := by decide +kernel
theorem dX6_has_14 : decode cX6_has 14 = .ok (.iconst 0, 1) := by decide +kernel
theorem dX6_has_15 : decode cX6_has 15 = .ok (.ireturn, 1) := by decide +kernel
theorem dX6_lowest_0 : decode cX6_lowest 0 = .ok (.lload_n 0, 1) := by decide +kernel
theorem dX6_lowest_1 : decode cX6_lowest 1 = .ok (.lload_n 0, 1) := by decide +kernel
theorem dX6_lowest_2 : decode cX6_lowest 2 = .ok (.lneg, 1) := by decide +kernel
theorem dX6_lowest_3 : decode cX6_lowest 3 = .ok (.land, 1) := by decide +kernel
theorem dX6_lowest_4 : decode cX6_lowest 4 = .ok (.lconst 1, 1) := by decide +kernel
theorem dX6_lowest_5 : decode cX6_lowest 5 = .ok (.lsub, 1) := by decide +kernel
theorem dX6_lowest_6 : decode cX6_lowest 6 = .ok (.invokestatic 78, 3) := by decide +kernel
theorem dX6_lowest_9 : decode cX6_lowest 9 = .ok (.ireturn, 1) := by decide +kernel
theorem dX0_init_0 : decode cX0_init 0 = .ok (.aload_n 0, 1) := by decide +kernel
theorem dX0_init_1 : decode cX0_init 1 = .ok (.invokespecial 3, 3) := by decide +kernel
theorem dX0_init_4 : decode cX0_init 4 = .ok (.aload_n 0, 1) := by decide +kernel
theorem dX0_init_5 : decode cX0_init 5 = .ok (.iconst 3, 1) := by decide +kernel
theorem dX0_init_6 : decode cX0_init 6 = .ok (.anewarray 9, 3) := by decide +kernel
theorem dX0_init_9 : decode cX0_init 9 = .ok (.putfield 11, 3) := by decide +kernel
theorem dX0_init_12 : decode cX0_init 12 = .ok (.aload_n 0, 1) := by decide +kernel
theorem dX0_init_13 : decode cX0_init 13 = .ok (.iload_n 1, 1) := by decide +kernel
theorem dX0_init_14 : decode cX0_init 14 = .ok (.putfield 17, 3) := by decide +kernel
theorem dX0_init_17 : decode cX0_init 17 = .ok (.aload_n 0, 1) := by decide +kernel
theorem dX0_init_18 : decode cX0_init 18 = .ok (.iload_n 1, 1) := by decide +kernel
theorem dX0_init_19 : decode cX0_init 19 = .ok (.iload_n 1, 1) := by decide +kernel
theorem dX0_init_20 : decode cX0_init 20 = .ok (.imul, 1) := by decide +kernel
theorem dX0_init_21 : decode cX0_init 21 = .ok (.putfield 21, 3) := by decide +kernel
theorem dX0_init_24 : decode cX0_init 24 = .ok (.aload_n 0, 1) := by decide +kernel
theorem dX0_init_25 : decode cX0_init 25 = .ok (.aload_n 0, 1) := by decide +kernel
theorem dX0_init_26 : decode cX0_init 26 = .ok (.getfield 21, 3) := by decide +kernel
theorem dX0_init_29 : decode cX0_init 29 = .ok (.newarray .int, 2) := by decide +kernel
theorem dX0_init_31 : decode cX0_init 31 = .ok (.putfield 24, 3) := by decide +kernel
theorem dX0_init_34 : decode cX0_init 34 = .ok (.aload_n 0, 1) := by decide +kernel
theorem dX0_init_35 : decode cX0_init 35 = .ok (.aload_n 0, 1) := by decide +kernel
theorem dX0_init_36 : decode cX0_init 36 = .ok (.getfield 21, 3) := by decide +kernel
theorem dX0_init_39 : decode cX0_init 39 = .ok (.newarray .int, 2) := by decide +kernel
theorem dX0_init_41 : decode cX0_init 41 = .ok (.putfield 28, 3) := by decide +kernel
theorem dX0_init_44 : decode cX0_init 44 = .ok (.aload_n 0, 1) := by decide +kernel
theorem dX0_init_45 : decode cX0_init 45 = .ok (.aload_n 0, 1) := by decide +kernel
theorem dX0_init_46 : decode cX0_init 46 = .ok (.getfield 21, 3) := by decide +kernel
theorem dX0_init_49 : decode cX0_init 49 = .ok (.newarray .long, 2) := by decide +kernel
theorem dX0_init_51 : decode cX0_init 51 = .ok (.putfield 31, 3) := by decide +kernel
theorem dX0_init_54 : decode cX0_init 54 = .ok (.aload_n 0, 1) := by decide +kernel
theorem dX0_init_55 : decode cX0_init 55 = .ok (.iconst 3, 1) := by decide +kernel
theorem dX0_init_56 : decode cX0_init 56 = .ok (.aload_n 0, 1) := by decide +kernel
theorem dX0_init_57 : decode cX0_init 57 = .ok (.getfield 21, 3) := by decide +kernel
theorem dX0_init_60 : decode cX0_init 60 = .ok (.multianewarray 35 2, 4) := by decide +kernel
theorem dX0_init_64 : decode cX0_init 64 = .ok (.putfield 37, 3) := by decide +kernel
theorem dX0_init_67 : decode cX0_init 67 = .ok (.aload_n 0, 1) := by decide +kernel
theorem dX0_init_68 : decode cX0_init 68 = .ok (.aload_n 0, 1) := by decide +kernel
theorem dX0_init_69 : decode cX0_init 69 = .ok (.getfield 21, 3) := by decide +kernel
theorem dX0_init_72 : decode cX0_init 72 = .ok (.aload_n 0, 1) := by decide +kernel
theorem dX0_init_73 : decode cX0_init 73 = .ok (.getfield 21, 3) := by decide +kernel
theorem dX0_init_76 : decode cX0_init 76 = .ok (.imul, 1) := by decide +kernel
theorem dX0_init_77 : decode cX0_init 77 = .ok (.newarray .long, 2) := by decide +kernel
theorem dX0_init_79 : decode cX0_init 79 = .ok (.putfield 40, 3) := by decide +kernel
theorem dX0_init_82 : decode cX0_init 82 = .ok (.aload_n 0, 1) := by decide +kernel
theorem dX0_init_83 : decode cX0_init 83 = .ok (.bipush 8, 2) := by decide +kernel
theorem dX0_init_85 : decode cX0_init 85 = .ok (.aload_n 0, 1) := by decide +kernel
theorem dX0_init_86 : decode cX0_init 86 = .ok (.getfield 21, 3) := by decide +kernel
theorem dX0_init_89 : decode cX0_init 89 = .ok (.imul, 1) := by decide +kernel
theorem dX0_init_90 : decode cX0_init 90 = .ok (.newarray .int, 2) := by decide +kernel
theorem dX0_init_92 : decode cX0_init 92 = .ok (.putfield 43, 3) := by decide +kernel
theorem dX0_init_95 : decode cX0_init 95 = .ok (.iconst 0, 1) := by decide +kernel
theorem dX0_init_96 : decode cX0_init 96 = .ok (.istore_n 2, 1) := by decide +kernel
theorem dX0_init_97 : decode cX0_init 97 = .ok (.iload_n 2, 1) := by decide +kernel
theorem dX0_init_98 : decode cX0_init 98 = .ok (.iload_n 1, 1) := by decide +kernel
theorem dX0_init_99 : decode cX0_init 99 = .ok (.if_icmp .ge 34, 3) := by decide +kernel
theorem dX0_init_102 : decode cX0_init 102 = .ok (.iconst 0, 1) := by decide +kernel
theorem dX0_init_103 : decode cX0_init 103 = .ok (.istore_n 3, 1) := by decide +kernel
theorem dX0_init_104 : decode cX0_init 104 = .ok (.iload_n 3, 1) := by decide +kernel
theorem dX0_init_105 : decode cX0_init 105 = .ok (.iload_n 1, 1) := by decide +kernel
theorem dX0_init_106 : decode cX0_init 106 = .ok (.if_icmp .ge 21, 3) := by decide +kernel
theorem dX0_init_109 : decode cX0_init 109 = .ok (.aload_n 0, 1) := by decide +kernel
theorem dX0_init_110 : decode cX0_init 110 = .ok (.aload_n 0, 1) := by decide +kernel
theorem dX0_init_111 : decode cX0_init 111 = .ok (.iload_n 2, 1) := by decide +kernel
theorem dX0_init_112 : decode cX0_init 112 = .ok (.iload_n 3, 1) := by decide +kernel
theorem dX0_init_113 : decode cX0_init 113 = .ok (.invokevirtual 46, 3) := by decide +kernel
theorem dX0_init_116 : decode cX0_init 116 = .ok (.iload_n 2, 1) := by decide +kernel
theorem dX0_init_117 : decode cX0_init 117 = .ok (.iload_n 3, 1) := by decide +kernel
theorem dX0_init_118 : decode cX0_init 118 = .ok (.invokevirtual 50, 3) := by decide +kernel
theorem dX0_init_121 : decode cX0_init 121 = .ok (.iinc 3 1, 3) := by decide +kernel
theorem dX0_init_124 : decode cX0_init 124 = .ok (.goto (-20), 3) := by decide +kernel
theorem dX0_init_127 : decode cX0_init 127 = .ok (.iinc 2 1, 3) := by decide +kernel
theorem dX0_init_130 : decode cX0_init 130 = .ok (.goto (-33), 3) := by decide +kernel
theorem dX0_init_133 : decode cX0_init 133 = .ok (.return_, 1) := by decide +kernel
theorem dX0_enter_0 : decode cX0_enter 0 = .ok (.aload_n 0, 1) := by decide +kernel
theorem dX0_enter_1 : decode cX0_enter 1 = .ok (.getfield 24, 3) := by decide +kernel
theorem dX0_enter_4 : decode cX0_enter 4 = .ok (.iload_n 1, 1) := by decide +kernel
theorem dX0_enter_5 : decode cX0_enter 5 = .ok (.iload_n 2, 1) := by decide +kernel
theorem dX0_enter_6 : decode cX0_enter 6 = .ok (.iastore, 1) := by decide +kernel
theorem dX0_enter_7 : decode cX0_enter 7 = .ok (.aload_n 0, 1) := by decide +kernel
theorem dX0_enter_8 : decode cX0_enter 8 = .ok (.getfield 28, 3) := by decide +kernel
theorem dX0_enter_11 : decode cX0_enter 11 = .ok (.iload_n 1, 1) := by decide +kernel
theorem dX0_enter_12 : decode cX0_enter 12 = .ok (.iload_n 3, 1) := by decide +kernel
theorem dX0_enter_13 : decode cX0_enter 13 = .ok (.iastore, 1) := by decide +kernel
theorem dX0_enter_14 : decode cX0_enter 14 = .ok (.aload_n 0, 1) := by decide +kernel
theorem dX0_enter_15 : decode cX0_enter 15 = .ok (.iload_n 1, 1) := by decide +kernel
theorem dX0_enter_16 : decode cX0_enter 16 = .ok (.invokevirtual 54, 3) := by decide +kernel
theorem dX0_enter_19 : decode cX0_enter 19 = .ok (.iconst 0, 1) := by decide +kernel
theorem dX0_enter_20 : decode cX0_enter 20 = .ok (.istore 4, 2) := by decide +kernel
theorem dX0_enter_22 : decode cX0_enter 22 = .ok (.iload 4, 2) := by decide +kernel
theorem dX0_enter_24 : decode cX0_enter 24 = .ok (.bipush 8, 2) := by decide +kernel
theorem dX0_enter_26 : decode cX0_enter 26 = .ok (.if_icmp .ge 31, 3) := by decide +kernel
theorem dX0_enter_29 : decode cX0_enter 29 = .ok (.aload_n 0, 1) := by decide +kernel
theorem dX0_enter_30 : decode cX0_enter 30 = .ok (.getfield 43, 3) := by decide +kernel
theorem dX0_enter_33 : decode cX0_enter 33 = .ok (.iload 4, 2) := by decide +kernel
theorem dX0_enter_35 : decode cX0_enter 35 = .ok (.aload_n 0, 1) := by decide +kernel
theorem dX0_enter_36 : decode cX0_enter 36 = .ok (.getfield 21, 3) := by decide +kernel
theorem dX0_enter_39 : decode cX0_enter 39 = .ok (.imul, 1) := by decide +kernel
theorem dX0_enter_40 : decode cX0_enter 40 = .ok (.iload_n 1, 1) := by decide +kernel
theorem dX0_enter_41 : decode cX0_enter 41 = .ok (.iadd, 1) := by decide +kernel
theorem dX0_enter_42 : decode cX0_enter 42 = .ok (.aload_n 0, 1) := by decide +kernel
theorem dX0_enter_43 : decode cX0_enter 43 = .ok (.iload 4, 2) := by decide +kernel
theorem dX0_enter_45 : decode cX0_enter 45 = .ok (.iload_n 2, 1) := by decide +kernel
theorem dX0_enter_46 : decode cX0_enter 46 = .ok (.iload_n 3, 1) := by decide +kernel
theorem dX0_enter_47 : decode cX0_enter 47 = .ok (.invokevirtual 58, 3) := by decide +kernel
theorem dX0_enter_50 : decode cX0_enter 50 = .ok (.iastore, 1) := by decide +kernel
theorem dX0_enter_51 : decode cX0_enter 51 = .ok (.iinc 4 1, 3) := by decide +kernel
theorem dX0_enter_54 : decode cX0_enter 54 = .ok (.goto (-32), 3) := by decide +kernel
theorem dX0_enter_57 : decode cX0_enter 57 = .ok (.return_, 1) := by decide +kernel
theorem dX0_lookAround_0 : decode cX0_lookAround 0 = .ok (.iconst (-1), 1) := by decide +kernel
theorem dX0_lookAround_1 : decode cX0_lookAround 1 = .ok (.istore_n 2, 1) := by decide +kernel
theorem dX0_lookAround_2 : decode cX0_lookAround 2 = .ok (.iload_n 2, 1) := by decide +kernel
theorem dX0_lookAround_3 : decode cX0_lookAround 3 = .ok (.iconst 1, 1) := by decide +kernel
theorem dX0_lookAround_4 : decode cX0_lookAround 4 = .ok (.if_icmp .gt 141, 3) := by decide +kernel
theorem dX0_lookAround_7 : decode cX0_lookAround 7 = .ok (.iconst (-1), 1) := by decide +kernel
theorem dX0_lookAround_8 : decode cX0_lookAround 8 = .ok (.istore_n 3, 1) := by decide +kernel
theorem dX0_lookAround_9 : decode cX0_lookAround 9 = .ok (.iload_n 3, 1) := by decide +kernel
theorem dX0_lookAround_10 : decode cX0_lookAround 10 = .ok (.iconst 1, 1) := by decide +kernel
theorem dX0_lookAround_11 : decode cX0_lookAround 11 = .ok (.if_icmp .gt 128, 3) := by decide +kernel
theorem dX0_lookAround_14 : decode cX0_lookAround 14 = .ok (.aload_n 0, 1) := by decide +kernel
theorem dX0_lookAround_15 : decode cX0_lookAround 15 = .ok (.aload_n 0, 1) := by decide +kernel
theorem dX0_lookAround_16 : decode cX0_lookAround 16 = .ok (.getfield 24, 3) := by decide +kernel
theorem dX0_lookAround_19 : decode cX0_lookAround 19 = .ok (.iload_n 1, 1) := by decide +kernel
theorem dX0_lookAround_20 : decode cX0_lookAround 20 = .ok (.iaload, 1) := by decide +kernel
theorem dX0_lookAround_21 : decode cX0_lookAround 21 = .ok (.iload_n 2, 1) := by decide +kernel
theorem dX0_lookAround_22 : decode cX0_lookAround 22 = .ok (.iadd, 1) := by decide +kernel
theorem dX0_lookAround_23 : decode cX0_lookAround 23 = .ok (.aload_n 0, 1) := by decide +kernel
theorem dX0_lookAround_24 : decode cX0_lookAround 24 = .ok (.getfield 28, 3) := by decide +kernel
theorem dX0_lookAround_27 : decode cX0_lookAround 27 = .ok (.iload_n 1, 1) := by decide +kernel
theorem dX0_lookAround_28 : decode cX0_lookAround 28 = .ok (.iaload, 1) := by decide +kernel
theorem dX0_lookAround_29 : decode cX0_lookAround 29 = .ok (.iload_n 3, 1) := by decide +kernel
theorem dX0_lookAround_30 : decode cX0_lookAround 30 = .ok (.iadd, 1) := by decide +kernel
theorem dX0_lookAround_31 : decode cX0_lookAround 31 = .ok (.invokevirtual 46, 3) := by decide +kernel
theorem dX0_lookAround_34 : decode cX0_lookAround 34 = .ok (.istore 4, 2) := by decide +kernel
theorem dX0_lookAround_36 : decode cX0_lookAround 36 = .ok (.iload 4, 2) := by decide +kernel
theorem dX0_lookAround_38 : decode cX0_lookAround 38 = .ok (.iconst (-1), 1) := by decide +kernel
theorem dX0_lookAround_39 : decode cX0_lookAround 39 = .ok (.if_icmp .eq 94, 3) := by decide +kernel
theorem dX0_lookAround_42 : decode cX0_lookAround 42 = .ok (.iload 4, 2) := by decide +kernel
theorem dX0_lookAround_44 : decode cX0_lookAround 44 = .ok (.iload_n 1, 1) := by decide +kernel
theorem dX0_lookAround_45 : decode cX0_lookAround 45 = .ok (.if_icmp .ne 6, 3) := by decide +kernel
theorem dX0_lookAround_48 : decode cX0_lookAround 48 = .ok (.goto 85, 3) := by decide +kernel
theorem dX0_lookAround_51 : decode cX0_lookAround 51 = .ok (.aload_n 0, 1) := by decide +kernel
theorem dX0_lookAround_52 : decode cX0_lookAround 52 = .ok (.getfield 31, 3) := by decide +kernel
theorem dX0_lookAround_55 : decode cX0_lookAround 55 = .ok (.iload_n 1, 1) := by decide +kernel
theorem dX0_lookAround_56 : decode cX0_lookAround 56 = .ok (.dup2, 1) := by decide +kernel
theorem dX0_lookAround_57 : decode cX0_lookAround 57 = .ok (.laload, 1) := by decide +kernel
theorem dX0_lookAround_58 : decode cX0_lookAround 58 = .ok (.iload 4, 2) := by decide +kernel
theorem dX0_lookAround_60 : decode cX0_lookAround 60 = .ok (.invokestatic 62, 3) := by decide +kernel
theorem dX0_lookAround_63 : decode cX0_lookAround 63 = .ok (.lor, 1) := by decide +kernel
theorem dX0_lookAround_64 : decode cX0_lookAround 64 = .ok (.lastore, 1) := by decide +kernel
theorem dX0_lookAround_65 : decode cX0_lookAround 65 = .ok (.aload_n 0, 1) := by decide +kernel
theorem dX0_lookAround_66 : decode cX0_lookAround 66 = .ok (.iload_n 1, 1) := by decide +kernel
theorem dX0_lookAround_67 : decode cX0_lookAround 67 = .ok (.iload_n 2, 1) := by decide +kernel
theorem dX0_lookAround_68 : decode cX0_lookAround 68 = .ok (.iload_n 3, 1) := by decide +kernel
theorem dX0_lookAround_69 : decode cX0_lookAround 69 = .ok (.invokevirtual 66, 3) := by decide +kernel
theorem dX0_lookAround_72 : decode cX0_lookAround 72 = .ok (.lstore 5, 2) := by decide +kernel
theorem dX0_lookAround_74 : decode cX0_lookAround 74 = .ok (.aload_n 0, 1) := by decide +kernel
theorem dX0_lookAround_75 : decode cX0_lookAround 75 = .ok (.getfield 37, 3) := by decide +kernel
theorem dX0_lookAround_78 : decode cX0_lookAround 78 = .ok (.iconst 0, 1) := by decide +kernel
theorem dX0_lookAround_79 : decode cX0_lookAround 79 = .ok (.aaload, 1) := by decide +kernel
theorem dX0_lookAround_80 : decode cX0_lookAround 80 = .ok (.iload_n 1, 1) := by decide +kernel
theorem dX0_lookAround_81 : decode cX0_lookAround 81 = .ok (.dup2, 1) := by decide +kernel
theorem dX0_lookAround_82 : decode cX0_lookAround 82 = .ok (.laload, 1) := by decide +kernel
theorem dX0_lookAround_83 : decode cX0_lookAround 83 = .ok (.lload 5, 2) := by decide +kernel
theorem dX0_lookAround_85 : decode cX0_lookAround 85 = .ok (.lor, 1) := by decide +kernel
theorem dX0_lookAround_86 : decode cX0_lookAround 86 = .ok (.lastore, 1) := by decide +kernel
theorem dX0_lookAround_87 : decode cX0_lookAround 87 = .ok (.iload_n 2, 1) := by decide +kernel
theorem dX0_lookAround_88 : decode cX0_lookAround 88 = .ok (.ifCond .eq 7, 3) := by decide +kernel
theorem dX0_lookAround_91 : decode cX0_lookAround 91 = .ok (.iload_n 3, 1) := by decide +kernel
theorem dX0_lookAround_92 : decode cX0_lookAround 92 = .ok (.ifCond .ne 16, 3) := by decide +kernel
theorem dX0_lookAround_95 : decode cX0_lookAround 95 = .ok (.aload_n 0, 1) := by decide +kernel
theorem dX0_lookAround_96 : decode cX0_lookAround 96 = .ok (.getfield 37, 3) := by decide +kernel
theorem dX0_lookAround_99 : decode cX0_lookAround 99 = .ok (.iconst 1, 1) := by decide +kernel
theorem dX0_lookAround_100 : decode cX0_lookAround 100 = .ok (.aaload, 1) := by decide +kernel
theorem dX0_lookAround_101 : decode cX0_lookAround 101 = .ok (.iload_n 1, 1) := by decide +kernel
theorem dX0_lookAround_102 : decode cX0_lookAround 102 = .ok (.dup2, 1) := by decide +kernel
theorem dX0_lookAround_103 : decode cX0_lookAround 103 = .ok (.laload, 1) := by decide +kernel
theorem dX0_lookAround_104 : decode cX0_lookAround 104 = .ok (.lload 5, 2) := by decide +kernel
theorem dX0_lookAround_106 : decode cX0_lookAround 106 = .ok (.lor, 1) := by decide +kernel
theorem dX0_lookAround_107 : decode cX0_lookAround 107 = .ok (.lastore, 1) := by decide +kernel
theorem dX0_lookAround_108 : decode cX0_lookAround 108 = .ok (.iload_n 2, 1) := by decide +kernel
theorem dX0_lookAround_109 : decode cX0_lookAround 109 = .ok (.iconst 1, 1) := by decide +kernel
theorem dX0_lookAround_110 : decode cX0_lookAround 110 = .ok (.if_icmp .ne 23, 3) := by decide +kernel
theorem dX0_lookAround_113 : decode cX0_lookAround 113 = .ok (.iload_n 3, 1) := by decide +kernel
theorem dX0_lookAround_114 : decode cX0_lookAround 114 = .ok (.ifCond .eq 19, 3) := by decide +kernel
theorem dX0_lookAround_117 : decode cX0_lookAround 117 = .ok (.aload_n 0, 1) := by decide +kernel
theorem dX0_lookAround_118 : decode cX0_lookAround 118 = .ok (.getfield 37, 3) := by decide +kernel
theorem dX0_lookAround_121 : decode cX0_lookAround 121 = .ok (.iconst 2, 1) := by decide +kernel
theorem dX0_lookAround_122 : decode cX0_lookAround 122 = .ok (.aaload, 1) := by decide +kernel
theorem dX0_lookAround_123 : decode cX0_lookAround 123 = .ok (.iload_n 1, 1) := by decide +kernel
theorem dX0_lookAround_124 : decode cX0_lookAround 124 = .ok (.dup2, 1) := by decide +kernel
theorem dX0_lookAround_125 : decode cX0_lookAround 125 = .ok (.laload, 1) := by decide +kernel
theorem dX0_lookAround_126 : decode cX0_lookAround 126 = .ok (.iload 4, 2) := by decide +kernel
theorem dX0_lookAround_128 : decode cX0_lookAround 128 = .ok (.invokestatic 62, 3) := by decide +kernel
theorem dX0_lookAround_131 : decode cX0_lookAround 131 = .ok (.lor, 1) := by decide +kernel
theorem dX0_lookAround_132 : decode cX0_lookAround 132 = .ok (.lastore, 1) := by decide +kernel
theorem dX0_lookAround_133 : decode cX0_lookAround 133 = .ok (.iinc 3 1, 3) := by decide +kernel
theorem dX0_lookAround_136 : decode cX0_lookAround 136 = .ok (.goto (-127), 3) := by decide +kernel
theorem dX0_lookAround_139 : decode cX0_lookAround 139 = .ok (.iinc 2 1, 3) := by decide +kernel
theorem dX0_lookAround_142 : decode cX0_lookAround 142 = .ok (.goto (-140), 3) := by decide +kernel
theorem dX0_lookAround_145 : decode cX0_lookAround 145 = .ok (.return_, 1) := by decide +kernel
theorem dX0_lookAlong_0 : decode cX0_lookAlong 0 = .ok (.lconst 0, 1) := by decide +kernel
theorem dX0_lookAlong_1 : decode cX0_lookAlong 1 = .ok (.lstore 4, 2) := by decide +kernel
theorem dX0_lookAlong_3 : decode cX0_lookAlong 3 = .ok (.aload_n 0, 1) := by decide +kernel
theorem dX0_lookAlong_4 : decode cX0_lookAlong 4 = .ok (.getfield 17, 3) := by decide +kernel
theorem dX0_lookAlong_7 : decode cX0_lookAlong 7 = .ok (.iconst 1, 1) := by decide +kernel
theorem dX0_lookAlong_8 : decode cX0_lookAlong 8 = .ok (.isub, 1) := by decide +kernel
theorem dX0_lookAlong_9 : decode cX0_lookAlong 9 = .ok (.istore 6, 2) := by decide +kernel
theorem dX0_lookAlong_11 : decode cX0_lookAlong 11 = .ok (.iload 6, 2) := by decide +kernel
theorem dX0_lookAlong_13 : decode cX0_lookAlong 13 = .ok (.ifCond .le 69, 3) := by decide +kernel
theorem dX0_lookAlong_16 : decode cX0_lookAlong 16 = .ok (.aload_n 0, 1) := by decide +kernel
theorem dX0_lookAlong_17 : decode cX0_lookAlong 17 = .ok (.aload_n 0, 1) := by decide +kernel
theorem dX0_lookAlong_18 : decode cX0_lookAlong 18 = .ok (.getfield 24, 3) := by decide +kernel
theorem dX0_lookAlong_21 : decode cX0_lookAlong 21 = .ok (.iload_n 1, 1) := by decide +kernel
theorem dX0_lookAlong_22 : decode cX0_lookAlong 22 = .ok (.iaload, 1) := by decide +kernel
theorem dX0_lookAlong_23 : decode cX0_lookAlong 23 = .ok (.iload 6, 2) := by decide +kernel
theorem dX0_lookAlong_25 : decode cX0_lookAlong 25 = .ok (.iload_n 2, 1) := by decide +kernel
theorem dX0_lookAlong_26 : decode cX0_lookAlong 26 = .ok (.imul, 1) := by decide +kernel
theorem dX0_lookAlong_27 : decode cX0_lookAlong 27 = .ok (.iadd, 1) := by decide +kernel
theorem dX0_lookAlong_28 : decode cX0_lookAlong 28 = .ok (.aload_n 0, 1) := by decide +kernel
theorem dX0_lookAlong_29 : decode cX0_lookAlong 29 = .ok (.getfield 28, 3) := by decide +kernel
theorem dX0_lookAlong_32 : decode cX0_lookAlong 32 = .ok (.iload_n 1, 1) := by decide +kernel
theorem dX0_lookAlong_33 : decode cX0_lookAlong 33 = .ok (.iaload, 1) := by decide +kernel
theorem dX0_lookAlong_34 : decode cX0_lookAlong 34 = .ok (.iload 6, 2) := by decide +kernel
theorem dX0_lookAlong_36 : decode cX0_lookAlong 36 = .ok (.iload_n 3, 1) := by decide +kernel
theorem dX0_lookAlong_37 : decode cX0_lookAlong 37 = .ok (.imul, 1) := by decide +kernel
theorem dX0_lookAlong_38 : decode cX0_lookAlong 38 = .ok (.iadd, 1) := by decide +kernel
theorem dX0_lookAlong_39 : decode cX0_lookAlong 39 = .ok (.invokevirtual 46, 3) := by decide +kernel
theorem dX0_lookAlong_42 : decode cX0_lookAlong 42 = .ok (.istore 7, 2) := by decide +kernel
theorem dX0_lookAlong_44 : decode cX0_lookAlong 44 = .ok (.iload 7, 2) := by decide +kernel
theorem dX0_lookAlong_46 : decode cX0_lookAlong 46 = .ok (.iconst (-1), 1) := by decide +kernel
theorem dX0_lookAlong_47 : decode cX0_lookAlong 47 = .ok (.if_icmp .eq 29, 3) := by decide +kernel
theorem dX0_lookAlong_50 : decode cX0_lookAlong 50 = .ok (.aload_n 0, 1) := by decide +kernel
theorem dX0_lookAlong_51 : decode cX0_lookAlong 51 = .ok (.getfield 40, 3) := by decide +kernel
theorem dX0_lookAlong_54 : decode cX0_lookAlong 54 = .ok (.iload_n 1, 1) := by decide +kernel
theorem dX0_lookAlong_55 : decode cX0_lookAlong 55 = .ok (.aload_n 0, 1) := by decide +kernel
theorem dX0_lookAlong_56 : decode cX0_lookAlong 56 = .ok (.getfield 21, 3) := by decide +kernel
theorem dX0_lookAlong_59 : decode cX0_lookAlong 59 = .ok (.imul, 1) := by decide +kernel
theorem dX0_lookAlong_60 : decode cX0_lookAlong 60 = .ok (.iload 7, 2) := by decide +kernel
theorem dX0_lookAlong_62 : decode cX0_lookAlong 62 = .ok (.iadd, 1) := by decide +kernel
theorem dX0_lookAlong_63 : decode cX0_lookAlong 63 = .ok (.lload 4, 2) := by decide +kernel
theorem dX0_lookAlong_65 : decode cX0_lookAlong 65 = .ok (.lastore, 1) := by decide +kernel
theorem dX0_lookAlong_66 : decode cX0_lookAlong 66 = .ok (.lload 4, 2) := by decide +kernel
theorem dX0_lookAlong_68 : decode cX0_lookAlong 68 = .ok (.iload 7, 2) := by decide +kernel
theorem dX0_lookAlong_70 : decode cX0_lookAlong 70 = .ok (.invokestatic 62, 3) := by decide +kernel
theorem dX0_lookAlong_73 : decode cX0_lookAlong 73 = .ok (.lor, 1) := by decide +kernel
theorem dX0_lookAlong_74 : decode cX0_lookAlong 74 = .ok (.lstore 4, 2) := by decide +kernel
theorem dX0_lookAlong_76 : decode cX0_lookAlong 76 = .ok (.iinc 6 (-1), 3) := by decide +kernel
theorem dX0_lookAlong_79 : decode cX0_lookAlong 79 = .ok (.goto (-68), 3) := by decide +kernel
theorem dX0_lookAlong_82 : decode cX0_lookAlong 82 = .ok (.lload 4, 2) := by decide +kernel
theorem dX0_lookAlong_84 : decode cX0_lookAlong 84 = .ok (.lreturn, 1) := by decide +kernel
theorem dX0_imageOf_0 : decode cX0_imageOf 0 = .ok (.iload_n 1, 1) := by decide +kernel
theorem dX0_imageOf_1 : decode cX0_imageOf 1 = .ok (.iconst 4, 1) := by decide +kernel
theorem dX0_imageOf_2 : decode cX0_imageOf 2 = .ok (.iand, 1) := by decide +kernel
theorem dX0_imageOf_3 : decode cX0_imageOf 3 = .ok (.ifCond .eq 7, 3) := by decide +kernel
theorem dX0_imageOf_6 : decode cX0_imageOf 6 = .ok (.iconst 1, 1) := by decide +kernel
theorem dX0_imageOf_7 : decode cX0_imageOf 7 = .ok (.goto 4, 3) := by decide +kernel
theorem dX0_imageOf_10 : decode cX0_imageOf 10 = .ok (.iconst 0, 1) := by decide +kernel
theorem dX0_imageOf_11 : decode cX0_imageOf 11 = .ok (.istore 4, 2) := by decide +kernel
theorem dX0_imageOf_13 : decode cX0_imageOf 13 = .ok (.iload 4, 2) := by decide +kernel
theorem dX0_imageOf_15 : decode cX0_imageOf 15 = .ok (.ifCond .eq 7, 3) := by decide +kernel
theorem dX0_imageOf_18 : decode cX0_imageOf 18 = .ok (.iload_n 3, 1) := by decide +kernel
theorem dX0_imageOf_19 : decode cX0_imageOf 19 = .ok (.goto 4, 3) := by decide +kernel
theorem dX0_imageOf_22 : decode cX0_imageOf 22 = .ok (.iload_n 2, 1) := by decide +kernel
theorem dX0_imageOf_23 : decode cX0_imageOf 23 = .ok (.istore 5, 2) := by decide +kernel
theorem dX0_imageOf_25 : decode cX0_imageOf 25 = .ok (.iload 4, 2) := by decide +kernel
theorem dX0_imageOf_27 : decode cX0_imageOf 27 = .ok (.ifCond .eq 7, 3) := by decide +kernel
theorem dX0_imageOf_30 : decode cX0_imageOf 30 = .ok (.iload_n 2, 1) := by decide +kernel
theorem dX0_imageOf_31 : decode cX0_imageOf 31 = .ok (.goto 4, 3) := by decide +kernel
theorem dX0_imageOf_34 : decode cX0_imageOf 34 = .ok (.iload_n 3, 1) := by decide +kernel
theorem dX0_imageOf_35 : decode cX0_imageOf 35 = .ok (.istore 6, 2) := by decide +kernel
theorem dX0_imageOf_37 : decode cX0_imageOf 37 = .ok (.aload_n 0, 1) := by decide +kernel
theorem dX0_imageOf_38 : decode cX0_imageOf 38 = .ok (.iload_n 1, 1) := by decide +kernel
theorem dX0_imageOf_39 : decode cX0_imageOf 39 = .ok (.iconst 2, 1) := by decide +kernel
theorem dX0_imageOf_40 : decode cX0_imageOf 40 = .ok (.iand, 1) := by decide +kernel
theorem dX0_imageOf_41 : decode cX0_imageOf 41 = .ok (.ifCond .eq 15, 3) := by decide +kernel
theorem dX0_imageOf_44 : decode cX0_imageOf 44 = .ok (.aload_n 0, 1) := by decide +kernel
theorem dX0_imageOf_45 : decode cX0_imageOf 45 = .ok (.getfield 17, 3) := by decide +kernel
theorem dX0_imageOf_48 : decode cX0_imageOf 48 = .ok (.iconst 1, 1) := by decide +kernel
theorem dX0_imageOf_49 : decode cX0_imageOf 49 = .ok (.isub, 1) := by decide +kernel
theorem dX0_imageOf_50 : decode cX0_imageOf 50 = .ok (.iload 5, 2) := by decide +kernel
theorem dX0_imageOf_52 : decode cX0_imageOf 52 = .ok (.isub, 1) := by decide +kernel
theorem dX0_imageOf_53 : decode cX0_imageOf 53 = .ok (.goto 5, 3) := by decide +kernel
theorem dX0_imageOf_56 : decode cX0_imageOf 56 = .ok (.iload 5, 2) := by decide +kernel
theorem dX0_imageOf_58 : decode cX0_imageOf 58 = .ok (.iload_n 1, 1) := by decide +kernel
theorem dX0_imageOf_59 : decode cX0_imageOf 59 = .ok (.iconst 1, 1) := by decide +kernel
theorem dX0_imageOf_60 : decode cX0_imageOf 60 = .ok (.iand, 1) := by decide +kernel
theorem dX0_imageOf_61 : decode cX0_imageOf 61 = .ok (.ifCond .eq 15, 3) := by decide +kernel
theorem dX0_imageOf_64 : decode cX0_imageOf 64 = .ok (.aload_n 0, 1) := by decide +kernel
theorem dX0_imageOf_65 : decode cX0_imageOf 65 = .ok (.getfield 17, 3) := by decide +kernel
theorem dX0_imageOf_68 : decode cX0_imageOf 68 = .ok (.iconst 1, 1) := by decide +kernel
theorem dX0_imageOf_69 : decode cX0_imageOf 69 = .ok (.isub, 1) := by decide +kernel
theorem dX0_imageOf_70 : decode cX0_imageOf 70 = .ok (.iload 6, 2) := by decide +kernel
theorem dX0_imageOf_72 : decode cX0_imageOf 72 = .ok (.isub, 1) := by decide +kernel
theorem dX0_imageOf_73 : decode cX0_imageOf 73 = .ok (.goto 5, 3) := by decide +kernel
theorem dX0_imageOf_76 : decode cX0_imageOf 76 = .ok (.iload 6, 2) := by decide +kernel
theorem dX0_imageOf_78 : decode cX0_imageOf 78 = .ok (.invokevirtual 46, 3) := by decide +kernel
theorem dX0_imageOf_81 : decode cX0_imageOf 81 = .ok (.ireturn, 1) := by decide +kernel
theorem dX0_squareAt_0 : decode cX0_squareAt 0 = .ok (.iload_n 1, 1) := by decide +kernel
theorem dX0_squareAt_1 : decode cX0_squareAt 1 = .ok (.ifCond .lt 23, 3) := by decide +kernel
theorem dX0_squareAt_4 : decode cX0_squareAt 4 = .ok (.iload_n 1, 1) := by decide +kernel
theorem dX0_squareAt_5 : decode cX0_squareAt 5 = .ok (.aload_n 0, 1) := by decide +kernel
theorem dX0_squareAt_6 : decode cX0_squareAt 6 = .ok (.getfield 17, 3) := by decide +kernel
theorem dX0_squareAt_9 : decode cX0_squareAt 9 = .ok (.if_icmp .ge 15, 3) := by decide +kernel
theorem dX0_squareAt_12 : decode cX0_squareAt 12 = .ok (.iload_n 2, 1) := by decide +kernel
theorem dX0_squareAt_13 : decode cX0_squareAt 13 = .ok (.ifCond .lt 11, 3) := by decide +kernel
theorem dX0_squareAt_16 : decode cX0_squareAt 16 = .ok (.iload_n 2, 1) := by decide +kernel
theorem dX0_squareAt_17 : decode cX0_squareAt 17 = .ok (.aload_n 0, 1) := by decide +kernel
theorem dX0_squareAt_18 : decode cX0_squareAt 18 = .ok (.getfield 17, 3) := by decide +kernel
theorem dX0_squareAt_21 : decode cX0_squareAt 21 = .ok (.if_icmp .lt 7, 3) := by decide +kernel
theorem dX0_squareAt_24 : decode cX0_squareAt 24 = .ok (.iconst (-1), 1) := by decide +kernel
theorem dX0_squareAt_25 : decode cX0_squareAt 25 = .ok (.goto 11, 3) := by decide +kernel
theorem dX0_squareAt_28 : decode cX0_squareAt 28 = .ok (.aload_n 0, 1) := by decide +kernel
theorem dX0_squareAt_29 : decode cX0_squareAt 29 = .ok (.getfield 17, 3) := by decide +kernel
theorem dX0_squareAt_32 : decode cX0_squareAt 32 = .ok (.iload_n 1, 1) := by decide +kernel
theorem dX0_squareAt_33 : decode cX0_squareAt 33 = .ok (.imul, 1) := by decide +kernel
theorem dX0_squareAt_34 : decode cX0_squareAt 34 = .ok (.iload_n 2, 1) := by decide +kernel
theorem dX0_squareAt_35 : decode cX0_squareAt 35 = .ok (.iadd, 1) := by decide +kernel
theorem dX0_squareAt_36 : decode cX0_squareAt 36 = .ok (.ireturn, 1) := by decide +kernel
theorem dX0_isLastRank_0 : decode cX0_isLastRank 0 = .ok (.iload_n 1, 1) := by decide +kernel
theorem dX0_isLastRank_1 : decode cX0_isLastRank 1 = .ok (.aload_n 0, 1) := by decide +kernel
theorem dX0_isLastRank_2 : decode cX0_isLastRank 2 = .ok (.getfield 21, 3) := by decide +kernel
theorem dX0_isLastRank_5 : decode cX0_isLastRank 5 = .ok (.aload_n 0, 1) := by decide +kernel
theorem dX0_isLastRank_6 : decode cX0_isLastRank 6 = .ok (.getfield 17, 3) := by decide +kernel
theorem dX0_isLastRank_9 : decode cX0_isLastRank 9 = .ok (.isub, 1) := by decide +kernel
theorem dX0_isLastRank_10 : decode cX0_isLastRank 10 = .ok (.if_icmp .lt 7, 3) := by decide +kernel
theorem dX0_isLastRank_13 : decode cX0_isLastRank 13 = .ok (.iconst 1, 1) := by decide +kernel
theorem dX0_isLastRank_14 : decode cX0_isLastRank 14 = .ok (.goto 4, 3) := by decide +kernel
theorem dX0_isLastRank_17 : decode cX0_isLastRank 17 = .ok (.iconst 0, 1) := by decide +kernel
theorem dX0_isLastRank_18 : decode cX0_isLastRank 18 = .ok (.ireturn, 1) := by decide +kernel
theorem dX0_areNext_0 : decode cX0_areNext 0 = .ok (.aload_n 0, 1) := by decide +kernel
theorem dX0_areNext_1 : decode cX0_areNext 1 = .ok (.getfield 31, 3) := by decide +kernel
theorem dX0_areNext_4 : decode cX0_areNext 4 = .ok (.iload_n 1, 1) := by decide +kernel
theorem dX0_areNext_5 : decode cX0_areNext 5 = .ok (.laload, 1) := by decide +kernel
theorem dX0_areNext_6 : decode cX0_areNext 6 = .ok (.iload_n 2, 1) := by decide +kernel
theorem dX0_areNext_7 : decode cX0_areNext 7 = .ok (.invokestatic 70, 3) := by decide +kernel
theorem dX0_areNext_10 : decode cX0_areNext 10 = .ok (.ireturn, 1) := by decide +kernel
theorem dX0_holds_0 : decode cX0_holds 0 = .ok (.iload_n 1, 1) := by decide +kernel
theorem dX0_holds_1 : decode cX0_holds 1 = .ok (.ifCond .lt 15, 3) := by decide +kernel
theorem dX0_holds_4 : decode cX0_holds 4 = .ok (.iload_n 1, 1) := by decide +kernel
theorem dX0_holds_5 : decode cX0_holds 5 = .ok (.aload_n 0, 1) := by decide +kernel
theorem dX0_holds_6 : decode cX0_holds 6 = .ok (.getfield 21, 3) := by decide +kernel
theorem dX0_holds_9 : decode cX0_holds 9 = .ok (.if_icmp .ge 7, 3) := by decide +kernel
theorem dX0_holds_12 : decode cX0_holds 12 = .ok (.iconst 1, 1) := by decide +kernel
theorem dX0_holds_13 : decode cX0_holds 13 = .ok (.goto 4, 3) := by decide +kernel
theorem dX0_holds_16 : decode cX0_holds 16 = .ok (.iconst 0, 1) := by decide +kernel
theorem dX0_holds_17 : decode cX0_holds 17 = .ok (.ireturn, 1) := by decide +kernel
theorem dX0_allows_0 : decode cX0_allows 0 = .ok (.iload_n 1, 1) := by decide +kernel
theorem dX0_allows_1 : decode cX0_allows 1 = .ok (.ifCond .lt 19, 3) := by decide +kernel
theorem dX0_allows_4 : decode cX0_allows 4 = .ok (.iload_n 1, 1) := by decide +kernel
theorem dX0_allows_5 : decode cX0_allows 5 = .ok (.iconst 2, 1) := by decide +kernel
theorem dX0_allows_6 : decode cX0_allows 6 = .ok (.if_icmp .gt 14, 3) := by decide +kernel
theorem dX0_allows_9 : decode cX0_allows 9 = .ok (.iload 5, 2) := by decide +kernel
theorem dX0_allows_11 : decode cX0_allows 11 = .ok (.ifCond .lt 9, 3) := by decide +kernel
theorem dX0_allows_14 : decode cX0_allows 14 = .ok (.iload 5, 2) := by decide +kernel
theorem dX0_allows_16 : decode cX0_allows 16 = .ok (.iconst 1, 1) := by decide +kernel
theorem dX0_allows_17 : decode cX0_allows 17 = .ok (.if_icmp .le 5, 3) := by decide +kernel
theorem dX0_allows_20 : decode cX0_allows 20 = .ok (.iconst 0, 1) := by decide +kernel
theorem dX0_allows_21 : decode cX0_allows 21 = .ok (.ireturn, 1) := by decide +kernel
theorem dX0_allows_22 : decode cX0_allows 22 = .ok (.aload_n 0, 1) := by decide +kernel
theorem dX0_allows_23 : decode cX0_allows 23 = .ok (.iload_n 2, 1) := by decide +kernel
theorem dX0_allows_24 : decode cX0_allows 24 = .ok (.invokevirtual 74, 3) := by decide +kernel
theorem dX0_allows_27 : decode cX0_allows 27 = .ok (.ifCond .eq 20, 3) := by decide +kernel
theorem dX0_allows_30 : decode cX0_allows 30 = .ok (.aload_n 0, 1) := by decide +kernel
theorem dX0_allows_31 : decode cX0_allows 31 = .ok (.iload_n 3, 1) := by decide +kernel
theorem dX0_allows_32 : decode cX0_allows 32 = .ok (.invokevirtual 74, 3) := by decide +kernel
theorem dX0_allows_35 : decode cX0_allows 35 = .ok (.ifCond .eq 12, 3) := by decide +kernel
theorem dX0_allows_38 : decode cX0_allows 38 = .ok (.aload_n 0, 1) := by decide +kernel
theorem dX0_allows_39 : decode cX0_allows 39 = .ok (.iload 4, 2) := by decide +kernel
theorem dX0_allows_41 : decode cX0_allows 41 = .ok (.invokevirtual 74, 3) := by decide +kernel
theorem dX0_allows_44 : decode cX0_allows 44 = .ok (.ifCond .ne 5, 3) := by decide +kernel
theorem dX0_allows_47 : decode cX0_allows 47 = .ok (.iconst 0, 1) := by decide +kernel
theorem dX0_allows_48 : decode cX0_allows 48 = .ok (.ireturn, 1) := by decide +kernel
theorem dX0_allows_49 : decode cX0_allows 49 = .ok (.iload_n 2, 1) := by decide +kernel
theorem dX0_allows_50 : decode cX0_allows 50 = .ok (.iload_n 3, 1) := by decide +kernel
theorem dX0_allows_51 : decode cX0_allows 51 = .ok (.if_icmp .eq 24, 3) := by decide +kernel
theorem dX0_allows_54 : decode cX0_allows 54 = .ok (.iload_n 2, 1) := by decide +kernel
theorem dX0_allows_55 : decode cX0_allows 55 = .ok (.iload 4, 2) := by decide +kernel
theorem dX0_allows_57 : decode cX0_allows 57 = .ok (.if_icmp .eq 18, 3) := by decide +kernel
theorem dX0_allows_60 : decode cX0_allows 60 = .ok (.iload_n 3, 1) := by decide +kernel
theorem dX0_allows_61 : decode cX0_allows 61 = .ok (.iload 4, 2) := by decide +kernel
theorem dX0_allows_63 : decode cX0_allows 63 = .ok (.if_icmp .eq 12, 3) := by decide +kernel
theorem dX0_allows_66 : decode cX0_allows 66 = .ok (.aload_n 0, 1) := by decide +kernel
theorem dX0_allows_67 : decode cX0_allows 67 = .ok (.iload_n 2, 1) := by decide +kernel
theorem dX0_allows_68 : decode cX0_allows 68 = .ok (.iload_n 3, 1) := by decide +kernel
theorem dX0_allows_69 : decode cX0_allows 69 = .ok (.invokevirtual 78, 3) := by decide +kernel
theorem dX0_allows_72 : decode cX0_allows 72 = .ok (.ifCond .eq 5, 3) := by decide +kernel
theorem dX0_allows_75 : decode cX0_allows 75 = .ok (.iconst 0, 1) := by decide +kernel
theorem dX0_allows_76 : decode cX0_allows 76 = .ok (.ireturn, 1) := by decide +kernel
theorem dX0_allows_77 : decode cX0_allows 77 = .ok (.iload_n 1, 1) := by decide +kernel
theorem dX0_allows_78 : decode cX0_allows 78 = .ok (.iconst 2, 1) := by decide +kernel
theorem dX0_allows_79 : decode cX0_allows 79 = .ok (.if_icmp .ne 23, 3) := by decide +kernel
theorem dX0_allows_82 : decode cX0_allows 82 = .ok (.iload 4, 2) := by decide +kernel
theorem dX0_allows_84 : decode cX0_allows 84 = .ok (.aload_n 0, 1) := by decide +kernel
theorem dX0_allows_85 : decode cX0_allows 85 = .ok (.getfield 17, 3) := by decide +kernel
theorem dX0_allows_88 : decode cX0_allows 88 = .ok (.if_icmp .lt 12, 3) := by decide +kernel
theorem dX0_allows_91 : decode cX0_allows 91 = .ok (.aload_n 0, 1) := by decide +kernel
theorem dX0_allows_92 : decode cX0_allows 92 = .ok (.iload 4, 2) := by decide +kernel
theorem dX0_allows_94 : decode cX0_allows 94 = .ok (.invokevirtual 82, 3) := by decide +kernel
theorem dX0_allows_97 : decode cX0_allows 97 = .ok (.ifCond .eq 5, 3) := by decide +kernel
theorem dX0_allows_100 : decode cX0_allows 100 = .ok (.iconst 0, 1) := by decide +kernel
theorem dX0_allows_101 : decode cX0_allows 101 = .ok (.ireturn, 1) := by decide +kernel
theorem dX0_allows_102 : decode cX0_allows 102 = .ok (.iload 5, 2) := by decide +kernel
theorem dX0_allows_104 : decode cX0_allows 104 = .ok (.iconst 1, 1) := by decide +kernel
theorem dX0_allows_105 : decode cX0_allows 105 = .ok (.if_icmp .eq 15, 3) := by decide +kernel
theorem dX0_allows_108 : decode cX0_allows 108 = .ok (.aload_n 0, 1) := by decide +kernel
theorem dX0_allows_109 : decode cX0_allows 109 = .ok (.iload_n 1, 1) := by decide +kernel
theorem dX0_allows_110 : decode cX0_allows 110 = .ok (.iload_n 2, 1) := by decide +kernel
theorem dX0_allows_111 : decode cX0_allows 111 = .ok (.iload_n 3, 1) := by decide +kernel
theorem dX0_allows_112 : decode cX0_allows 112 = .ok (.iload 4, 2) := by decide +kernel
theorem dX0_allows_114 : decode cX0_allows 114 = .ok (.invokevirtual 85, 3) := by decide +kernel
theorem dX0_allows_117 : decode cX0_allows 117 = .ok (.ifCond .ne 7, 3) := by decide +kernel
theorem dX0_allows_120 : decode cX0_allows 120 = .ok (.iconst 1, 1) := by decide +kernel
theorem dX0_allows_121 : decode cX0_allows 121 = .ok (.goto 4, 3) := by decide +kernel
theorem dX0_allows_124 : decode cX0_allows 124 = .ok (.iconst 0, 1) := by decide +kernel
theorem dX0_allows_125 : decode cX0_allows 125 = .ok (.ireturn, 1) := by decide +kernel
theorem dX0_attacks_0 : decode cX0_attacks 0 = .ok (.aload_n 0, 1) := by decide +kernel
theorem dX0_attacks_1 : decode cX0_attacks 1 = .ok (.iload_n 1, 1) := by decide +kernel
theorem dX0_attacks_2 : decode cX0_attacks 2 = .ok (.iload_n 2, 1) := by decide +kernel
theorem dX0_attacks_3 : decode cX0_attacks 3 = .ok (.iload 4, 2) := by decide +kernel
theorem dX0_attacks_5 : decode cX0_attacks 5 = .ok (.invokevirtual 89, 3) := by decide +kernel
theorem dX0_attacks_8 : decode cX0_attacks 8 = .ok (.iload_n 3, 1) := by decide +kernel
theorem dX0_attacks_9 : decode cX0_attacks 9 = .ok (.invokestatic 70, 3) := by decide +kernel
theorem dX0_attacks_12 : decode cX0_attacks 12 = .ok (.ireturn, 1) := by decide +kernel
theorem dX0_sight_0 : decode cX0_sight 0 = .ok (.aload_n 0, 1) := by decide +kernel
theorem dX0_sight_1 : decode cX0_sight 1 = .ok (.getfield 37, 3) := by decide +kernel
theorem dX0_sight_4 : decode cX0_sight 4 = .ok (.iload_n 1, 1) := by decide +kernel
theorem dX0_sight_5 : decode cX0_sight 5 = .ok (.aaload, 1) := by decide +kernel
theorem dX0_sight_6 : decode cX0_sight 6 = .ok (.iload_n 3, 1) := by decide +kernel
theorem dX0_sight_7 : decode cX0_sight 7 = .ok (.laload, 1) := by decide +kernel
theorem dX0_sight_8 : decode cX0_sight 8 = .ok (.aload_n 0, 1) := by decide +kernel
theorem dX0_sight_9 : decode cX0_sight 9 = .ok (.getfield 40, 3) := by decide +kernel
theorem dX0_sight_12 : decode cX0_sight 12 = .ok (.iload_n 3, 1) := by decide +kernel
theorem dX0_sight_13 : decode cX0_sight 13 = .ok (.aload_n 0, 1) := by decide +kernel
theorem dX0_sight_14 : decode cX0_sight 14 = .ok (.getfield 21, 3) := by decide +kernel
theorem dX0_sight_17 : decode cX0_sight 17 = .ok (.imul, 1) := by decide +kernel
theorem dX0_sight_18 : decode cX0_sight 18 = .ok (.iload_n 2, 1) := by decide +kernel
theorem dX0_sight_19 : decode cX0_sight 19 = .ok (.iadd, 1) := by decide +kernel
theorem dX0_sight_20 : decode cX0_sight 20 = .ok (.laload, 1) := by decide +kernel
theorem dX0_sight_21 : decode cX0_sight 21 = .ok (.ldc2_w 92, 3) := by decide +kernel
theorem dX0_sight_24 : decode cX0_sight 24 = .ok (.lxor, 1) := by decide +kernel
theorem dX0_sight_25 : decode cX0_sight 25 = .ok (.land, 1) := by decide +kernel
theorem dX0_sight_26 : decode cX0_sight 26 = .ok (.lreturn, 1) := by decide +kernel
theorem dX0_whiteTargets_0 : decode cX0_whiteTargets 0 = .ok (.aload_n 0, 1) := by decide +kernel
theorem dX0_whiteTargets_1 : decode cX0_whiteTargets 1 = .ok (.getfield 31, 3) := by decide +kernel
theorem dX0_whiteTargets_4 : decode cX0_whiteTargets 4 = .ok (.iload_n 1, 1) := by decide +kernel
theorem dX0_whiteTargets_5 : decode cX0_whiteTargets 5 = .ok (.laload, 1) := by decide +kernel
theorem dX0_whiteTargets_6 : decode cX0_whiteTargets 6 = .ok (.aload_n 0, 1) := by decide +kernel
theorem dX0_whiteTargets_7 : decode cX0_whiteTargets 7 = .ok (.getfield 31, 3) := by decide +kernel
theorem dX0_whiteTargets_10 : decode cX0_whiteTargets 10 = .ok (.iload_n 2, 1) := by decide +kernel
theorem dX0_whiteTargets_11 : decode cX0_whiteTargets 11 = .ok (.laload, 1) := by decide +kernel
theorem dX0_whiteTargets_12 : decode cX0_whiteTargets 12 = .ok (.ldc2_w 92, 3) := by decide +kernel
theorem dX0_whiteTargets_15 : decode cX0_whiteTargets 15 = .ok (.lxor, 1) := by decide +kernel
theorem dX0_whiteTargets_16 : decode cX0_whiteTargets 16 = .ok (.land, 1) := by decide +kernel
theorem dX0_whiteTargets_17 : decode cX0_whiteTargets 17 = .ok (.iload_n 2, 1) := by decide +kernel
theorem dX0_whiteTargets_18 : decode cX0_whiteTargets 18 = .ok (.invokestatic 62, 3) := by decide +kernel
theorem dX0_whiteTargets_21 : decode cX0_whiteTargets 21 = .ok (.ldc2_w 92, 3) := by decide +kernel
theorem dX0_whiteTargets_24 : decode cX0_whiteTargets 24 = .ok (.lxor, 1) := by decide +kernel
theorem dX0_whiteTargets_25 : decode cX0_whiteTargets 25 = .ok (.land, 1) := by decide +kernel
theorem dX0_whiteTargets_26 : decode cX0_whiteTargets 26 = .ok (.iload_n 3, 1) := by decide +kernel
theorem dX0_whiteTargets_27 : decode cX0_whiteTargets 27 = .ok (.invokestatic 62, 3) := by decide +kernel
theorem dX0_whiteTargets_30 : decode cX0_whiteTargets 30 = .ok (.ldc2_w 92, 3) := by decide +kernel
theorem dX0_whiteTargets_33 : decode cX0_whiteTargets 33 = .ok (.lxor, 1) := by decide +kernel
theorem dX0_whiteTargets_34 : decode cX0_whiteTargets 34 = .ok (.land, 1) := by decide +kernel
theorem dX0_whiteTargets_35 : decode cX0_whiteTargets 35 = .ok (.lreturn, 1) := by decide +kernel
theorem dX0_blackTargets_0 : decode cX0_blackTargets 0 = .ok (.aload_n 0, 1) := by decide +kernel
theorem dX0_blackTargets_1 : decode cX0_blackTargets 1 = .ok (.getfield 31, 3) := by decide +kernel
theorem dX0_blackTargets_4 : decode cX0_blackTargets 4 = .ok (.iload_n 3, 1) := by decide +kernel
theorem dX0_blackTargets_5 : decode cX0_blackTargets 5 = .ok (.laload, 1) := by decide +kernel
theorem dX0_blackTargets_6 : decode cX0_blackTargets 6 = .ok (.aload_n 0, 1) := by decide +kernel
theorem dX0_blackTargets_7 : decode cX0_blackTargets 7 = .ok (.getfield 31, 3) := by decide +kernel
theorem dX0_blackTargets_10 : decode cX0_blackTargets 10 = .ok (.iload_n 2, 1) := by decide +kernel
theorem dX0_blackTargets_11 : decode cX0_blackTargets 11 = .ok (.laload, 1) := by decide +kernel
theorem dX0_blackTargets_12 : decode cX0_blackTargets 12 = .ok (.ldc2_w 92, 3) := by decide +kernel
theorem dX0_blackTargets_15 : decode cX0_blackTargets 15 = .ok (.lxor, 1) := by decide +kernel
theorem dX0_blackTargets_16 : decode cX0_blackTargets 16 = .ok (.land, 1) := by decide +kernel
theorem dX0_blackTargets_17 : decode cX0_blackTargets 17 = .ok (.aload_n 0, 1) := by decide +kernel
theorem dX0_blackTargets_18 : decode cX0_blackTargets 18 = .ok (.iload_n 1, 1) := by decide +kernel
theorem dX0_blackTargets_19 : decode cX0_blackTargets 19 = .ok (.iload_n 2, 1) := by decide +kernel
theorem dX0_blackTargets_20 : decode cX0_blackTargets 20 = .ok (.iload 4, 2) := by decide +kernel
theorem dX0_blackTargets_22 : decode cX0_blackTargets 22 = .ok (.invokevirtual 89, 3) := by decide +kernel
theorem dX0_blackTargets_25 : decode cX0_blackTargets 25 = .ok (.ldc2_w 92, 3) := by decide +kernel
theorem dX0_blackTargets_28 : decode cX0_blackTargets 28 = .ok (.lxor, 1) := by decide +kernel
theorem dX0_blackTargets_29 : decode cX0_blackTargets 29 = .ok (.land, 1) := by decide +kernel
theorem dX0_blackTargets_30 : decode cX0_blackTargets 30 = .ok (.lreturn, 1) := by decide +kernel
theorem dX0_manTargets_0 : decode cX0_manTargets 0 = .ok (.iload_n 1, 1) := by decide +kernel
theorem dX0_manTargets_1 : decode cX0_manTargets 1 = .ok (.iconst 2, 1) := by decide +kernel
theorem dX0_manTargets_2 : decode cX0_manTargets 2 = .ok (.if_icmp .ne 14, 3) := by decide +kernel
theorem dX0_manTargets_5 : decode cX0_manTargets 5 = .ok (.aload_n 0, 1) := by decide +kernel
theorem dX0_manTargets_6 : decode cX0_manTargets 6 = .ok (.iload_n 2, 1) := by decide +kernel
theorem dX0_manTargets_7 : decode cX0_manTargets 7 = .ok (.iload_n 3, 1) := by decide +kernel
theorem dX0_manTargets_8 : decode cX0_manTargets 8 = .ok (.iload 4, 2) := by decide +kernel
theorem dX0_manTargets_10 : decode cX0_manTargets 10 = .ok (.invokevirtual 94, 3) := by decide +kernel
theorem dX0_manTargets_13 : decode cX0_manTargets 13 = .ok (.goto 12, 3) := by decide +kernel
theorem dX0_manTargets_16 : decode cX0_manTargets 16 = .ok (.aload_n 0, 1) := by decide +kernel
theorem dX0_manTargets_17 : decode cX0_manTargets 17 = .ok (.iload_n 1, 1) := by decide +kernel
theorem dX0_manTargets_18 : decode cX0_manTargets 18 = .ok (.iload_n 2, 1) := by decide +kernel
theorem dX0_manTargets_19 : decode cX0_manTargets 19 = .ok (.iload_n 3, 1) := by decide +kernel
theorem dX0_manTargets_20 : decode cX0_manTargets 20 = .ok (.iload 4, 2) := by decide +kernel
theorem dX0_manTargets_22 : decode cX0_manTargets 22 = .ok (.invokevirtual 97, 3) := by decide +kernel
theorem dX0_manTargets_25 : decode cX0_manTargets 25 = .ok (.lreturn, 1) := by decide +kernel
theorem dX0_glides_0 : decode cX0_glides 0 = .ok (.aload_n 0, 1) := by decide +kernel
theorem dX0_glides_1 : decode cX0_glides 1 = .ok (.iload_n 1, 1) := by decide +kernel
theorem dX0_glides_2 : decode cX0_glides 2 = .ok (.iload_n 2, 1) := by decide +kernel
theorem dX0_glides_3 : decode cX0_glides 3 = .ok (.iload 4, 2) := by decide +kernel
theorem dX0_glides_5 : decode cX0_glides 5 = .ok (.invokevirtual 89, 3) := by decide +kernel
theorem dX0_glides_8 : decode cX0_glides 8 = .ok (.aload_n 0, 1) := by decide +kernel
theorem dX0_glides_9 : decode cX0_glides 9 = .ok (.getfield 40, 3) := by decide +kernel
theorem dX0_glides_12 : decode cX0_glides 12 = .ok (.iload 4, 2) := by decide +kernel
theorem dX0_glides_14 : decode cX0_glides 14 = .ok (.aload_n 0, 1) := by decide +kernel
theorem dX0_glides_15 : decode cX0_glides 15 = .ok (.getfield 21, 3) := by decide +kernel
theorem dX0_glides_18 : decode cX0_glides 18 = .ok (.imul, 1) := by decide +kernel
theorem dX0_glides_19 : decode cX0_glides 19 = .ok (.iload_n 3, 1) := by decide +kernel
theorem dX0_glides_20 : decode cX0_glides 20 = .ok (.iadd, 1) := by decide +kernel
theorem dX0_glides_21 : decode cX0_glides 21 = .ok (.laload, 1) := by decide +kernel
theorem dX0_glides_22 : decode cX0_glides 22 = .ok (.ldc2_w 92, 3) := by decide +kernel
theorem dX0_glides_25 : decode cX0_glides 25 = .ok (.lxor, 1) := by decide +kernel
theorem dX0_glides_26 : decode cX0_glides 26 = .ok (.land, 1) := by decide +kernel
theorem dX0_glides_27 : decode cX0_glides 27 = .ok (.iload_n 2, 1) := by decide +kernel
theorem dX0_glides_28 : decode cX0_glides 28 = .ok (.invokestatic 62, 3) := by decide +kernel
theorem dX0_glides_31 : decode cX0_glides 31 = .ok (.ldc2_w 92, 3) := by decide +kernel
theorem dX0_glides_34 : decode cX0_glides 34 = .ok (.lxor, 1) := by decide +kernel
theorem dX0_glides_35 : decode cX0_glides 35 = .ok (.land, 1) := by decide +kernel
theorem dX0_glides_36 : decode cX0_glides 36 = .ok (.iload_n 3, 1) := by decide +kernel
theorem dX0_glides_37 : decode cX0_glides 37 = .ok (.invokestatic 62, 3) := by decide +kernel
theorem dX0_glides_40 : decode cX0_glides 40 = .ok (.ldc2_w 92, 3) := by decide +kernel
theorem dX0_glides_43 : decode cX0_glides 43 = .ok (.lxor, 1) := by decide +kernel
theorem dX0_glides_44 : decode cX0_glides 44 = .ok (.land, 1) := by decide +kernel
theorem dX0_glides_45 : decode cX0_glides 45 = .ok (.lreturn, 1) := by decide +kernel
theorem dX0_pawnTargets_0 : decode cX0_pawnTargets 0 = .ok (.iload_n 3, 1) := by decide +kernel
theorem dX0_pawnTargets_1 : decode cX0_pawnTargets 1 = .ok (.aload_n 0, 1) := by decide +kernel
theorem dX0_pawnTargets_2 : decode cX0_pawnTargets 2 = .ok (.getfield 17, 3) := by decide +kernel
theorem dX0_pawnTargets_5 : decode cX0_pawnTargets 5 = .ok (.iadd, 1) := by decide +kernel
theorem dX0_pawnTargets_6 : decode cX0_pawnTargets 6 = .ok (.istore 4, 2) := by decide +kernel
theorem dX0_pawnTargets_8 : decode cX0_pawnTargets 8 = .ok (.iload 4, 2) := by decide +kernel
theorem dX0_pawnTargets_10 : decode cX0_pawnTargets 10 = .ok (.iload_n 1, 1) := by decide +kernel
theorem dX0_pawnTargets_11 : decode cX0_pawnTargets 11 = .ok (.if_icmp .eq 9, 3) := by decide +kernel
theorem dX0_pawnTargets_14 : decode cX0_pawnTargets 14 = .ok (.iload 4, 2) := by decide +kernel
theorem dX0_pawnTargets_16 : decode cX0_pawnTargets 16 = .ok (.iload_n 2, 1) := by decide +kernel
theorem dX0_pawnTargets_17 : decode cX0_pawnTargets 17 = .ok (.if_icmp .ne 5, 3) := by decide +kernel
theorem dX0_pawnTargets_20 : decode cX0_pawnTargets 20 = .ok (.lconst 0, 1) := by decide +kernel
theorem dX0_pawnTargets_21 : decode cX0_pawnTargets 21 = .ok (.lreturn, 1) := by decide +kernel
theorem dX0_pawnTargets_22 : decode cX0_pawnTargets 22 = .ok (.iload 4, 2) := by decide +kernel
theorem dX0_pawnTargets_24 : decode cX0_pawnTargets 24 = .ok (.aload_n 0, 1) := by decide +kernel
theorem dX0_pawnTargets_25 : decode cX0_pawnTargets 25 = .ok (.getfield 17, 3) := by decide +kernel
theorem dX0_pawnTargets_28 : decode cX0_pawnTargets 28 = .ok (.iadd, 1) := by decide +kernel
theorem dX0_pawnTargets_29 : decode cX0_pawnTargets 29 = .ok (.istore 5, 2) := by decide +kernel
theorem dX0_pawnTargets_31 : decode cX0_pawnTargets 31 = .ok (.iload_n 3, 1) := by decide +kernel
theorem dX0_pawnTargets_32 : decode cX0_pawnTargets 32 = .ok (.iconst 2, 1) := by decide +kernel
theorem dX0_pawnTargets_33 : decode cX0_pawnTargets 33 = .ok (.aload_n 0, 1) := by decide +kernel
theorem dX0_pawnTargets_34 : decode cX0_pawnTargets 34 = .ok (.getfield 17, 3) := by decide +kernel
theorem dX0_pawnTargets_37 : decode cX0_pawnTargets 37 = .ok (.imul, 1) := by decide +kernel
theorem dX0_pawnTargets_38 : decode cX0_pawnTargets 38 = .ok (.if_icmp .ge 28, 3) := by decide +kernel
theorem dX0_pawnTargets_41 : decode cX0_pawnTargets 41 = .ok (.aload_n 0, 1) := by decide +kernel
theorem dX0_pawnTargets_42 : decode cX0_pawnTargets 42 = .ok (.iload 5, 2) := by decide +kernel
theorem dX0_pawnTargets_44 : decode cX0_pawnTargets 44 = .ok (.invokevirtual 82, 3) := by decide +kernel
theorem dX0_pawnTargets_47 : decode cX0_pawnTargets 47 = .ok (.ifCond .ne 19, 3) := by decide +kernel
theorem dX0_pawnTargets_50 : decode cX0_pawnTargets 50 = .ok (.iload 5, 2) := by decide +kernel
theorem dX0_pawnTargets_52 : decode cX0_pawnTargets 52 = .ok (.iload_n 1, 1) := by decide +kernel
theorem dX0_pawnTargets_53 : decode cX0_pawnTargets 53 = .ok (.if_icmp .eq 13, 3) := by decide +kernel
theorem dX0_pawnTargets_56 : decode cX0_pawnTargets 56 = .ok (.iload 5, 2) := by decide +kernel
theorem dX0_pawnTargets_58 : decode cX0_pawnTargets 58 = .ok (.iload_n 2, 1) := by decide +kernel
theorem dX0_pawnTargets_59 : decode cX0_pawnTargets 59 = .ok (.if_icmp .eq 7, 3) := by decide +kernel
theorem dX0_pawnTargets_62 : decode cX0_pawnTargets 62 = .ok (.iconst 1, 1) := by decide +kernel
theorem dX0_pawnTargets_63 : decode cX0_pawnTargets 63 = .ok (.goto 4, 3) := by decide +kernel
theorem dX0_pawnTargets_66 : decode cX0_pawnTargets 66 = .ok (.iconst 0, 1) := by decide +kernel
theorem dX0_pawnTargets_67 : decode cX0_pawnTargets 67 = .ok (.istore 6, 2) := by decide +kernel
theorem dX0_pawnTargets_69 : decode cX0_pawnTargets 69 = .ok (.iload 6, 2) := by decide +kernel
theorem dX0_pawnTargets_71 : decode cX0_pawnTargets 71 = .ok (.ifCond .eq 17, 3) := by decide +kernel
theorem dX0_pawnTargets_74 : decode cX0_pawnTargets 74 = .ok (.iload 4, 2) := by decide +kernel
theorem dX0_pawnTargets_76 : decode cX0_pawnTargets 76 = .ok (.invokestatic 62, 3) := by decide +kernel
theorem dX0_pawnTargets_79 : decode cX0_pawnTargets 79 = .ok (.iload 5, 2) := by decide +kernel
theorem dX0_pawnTargets_81 : decode cX0_pawnTargets 81 = .ok (.invokestatic 62, 3) := by decide +kernel
theorem dX0_pawnTargets_84 : decode cX0_pawnTargets 84 = .ok (.lor, 1) := by decide +kernel
theorem dX0_pawnTargets_85 : decode cX0_pawnTargets 85 = .ok (.goto 8, 3) := by decide +kernel
theorem dX0_pawnTargets_88 : decode cX0_pawnTargets 88 = .ok (.iload 4, 2) := by decide +kernel
theorem dX0_pawnTargets_90 : decode cX0_pawnTargets 90 = .ok (.invokestatic 62, 3) := by decide +kernel
theorem dX0_pawnTargets_93 : decode cX0_pawnTargets 93 = .ok (.lreturn, 1) := by decide +kernel
theorem dX0_pawnSources_0 : decode cX0_pawnSources 0 = .ok (.iload_n 3, 1) := by decide +kernel
theorem dX0_pawnSources_1 : decode cX0_pawnSources 1 = .ok (.aload_n 0, 1) := by decide +kernel
theorem dX0_pawnSources_2 : decode cX0_pawnSources 2 = .ok (.getfield 17, 3) := by decide +kernel
theorem dX0_pawnSources_5 : decode cX0_pawnSources 5 = .ok (.isub, 1) := by decide +kernel
theorem dX0_pawnSources_6 : decode cX0_pawnSources 6 = .ok (.istore 4, 2) := by decide +kernel
theorem dX0_pawnSources_8 : decode cX0_pawnSources 8 = .ok (.iload 4, 2) := by decide +kernel
theorem dX0_pawnSources_10 : decode cX0_pawnSources 10 = .ok (.aload_n 0, 1) := by decide +kernel
theorem dX0_pawnSources_11 : decode cX0_pawnSources 11 = .ok (.getfield 17, 3) := by decide +kernel
theorem dX0_pawnSources_14 : decode cX0_pawnSources 14 = .ok (.if_icmp .lt 15, 3) := by decide +kernel
theorem dX0_pawnSources_17 : decode cX0_pawnSources 17 = .ok (.iload 4, 2) := by decide +kernel
theorem dX0_pawnSources_19 : decode cX0_pawnSources 19 = .ok (.iload_n 1, 1) := by decide +kernel
theorem dX0_pawnSources_20 : decode cX0_pawnSources 20 = .ok (.if_icmp .eq 9, 3) := by decide +kernel
theorem dX0_pawnSources_23 : decode cX0_pawnSources 23 = .ok (.iload 4, 2) := by decide +kernel
theorem dX0_pawnSources_25 : decode cX0_pawnSources 25 = .ok (.iload_n 2, 1) := by decide +kernel
theorem dX0_pawnSources_26 : decode cX0_pawnSources 26 = .ok (.if_icmp .ne 5, 3) := by decide +kernel
theorem dX0_pawnSources_29 : decode cX0_pawnSources 29 = .ok (.lconst 0, 1) := by decide +kernel
theorem dX0_pawnSources_30 : decode cX0_pawnSources 30 = .ok (.lreturn, 1) := by decide +kernel
theorem dX0_pawnSources_31 : decode cX0_pawnSources 31 = .ok (.iload 4, 2) := by decide +kernel
theorem dX0_pawnSources_33 : decode cX0_pawnSources 33 = .ok (.aload_n 0, 1) := by decide +kernel
theorem dX0_pawnSources_34 : decode cX0_pawnSources 34 = .ok (.getfield 17, 3) := by decide +kernel
theorem dX0_pawnSources_37 : decode cX0_pawnSources 37 = .ok (.isub, 1) := by decide +kernel
theorem dX0_pawnSources_38 : decode cX0_pawnSources 38 = .ok (.istore 5, 2) := by decide +kernel
theorem dX0_pawnSources_40 : decode cX0_pawnSources 40 = .ok (.iload 5, 2) := by decide +kernel
theorem dX0_pawnSources_42 : decode cX0_pawnSources 42 = .ok (.aload_n 0, 1) := by decide +kernel
theorem dX0_pawnSources_43 : decode cX0_pawnSources 43 = .ok (.getfield 17, 3) := by decide +kernel
theorem dX0_pawnSources_46 : decode cX0_pawnSources 46 = .ok (.if_icmp .lt 30, 3) := by decide +kernel
theorem dX0_pawnSources_49 : decode cX0_pawnSources 49 = .ok (.iload 5, 2) := by decide +kernel
theorem dX0_pawnSources_51 : decode cX0_pawnSources 51 = .ok (.iconst 2, 1) := by decide +kernel
theorem dX0_pawnSources_52 : decode cX0_pawnSources 52 = .ok (.aload_n 0, 1) := by decide +kernel
theorem dX0_pawnSources_53 : decode cX0_pawnSources 53 = .ok (.getfield 17, 3) := by decide +kernel
theorem dX0_pawnSources_56 : decode cX0_pawnSources 56 = .ok (.imul, 1) := by decide +kernel
theorem dX0_pawnSources_57 : decode cX0_pawnSources 57 = .ok (.if_icmp .ge 19, 3) := by decide +kernel
theorem dX0_pawnSources_60 : decode cX0_pawnSources 60 = .ok (.iload 5, 2) := by decide +kernel
theorem dX0_pawnSources_62 : decode cX0_pawnSources 62 = .ok (.iload_n 1, 1) := by decide +kernel
theorem dX0_pawnSources_63 : decode cX0_pawnSources 63 = .ok (.if_icmp .eq 13, 3) := by decide +kernel
theorem dX0_pawnSources_66 : decode cX0_pawnSources 66 = .ok (.iload 5, 2) := by decide +kernel
theorem dX0_pawnSources_68 : decode cX0_pawnSources 68 = .ok (.iload_n 2, 1) := by decide +kernel
theorem dX0_pawnSources_69 : decode cX0_pawnSources 69 = .ok (.if_icmp .eq 7, 3) := by decide +kernel
theorem dX0_pawnSources_72 : decode cX0_pawnSources 72 = .ok (.iconst 1, 1) := by decide +kernel
theorem dX0_pawnSources_73 : decode cX0_pawnSources 73 = .ok (.goto 4, 3) := by decide +kernel
theorem dX0_pawnSources_76 : decode cX0_pawnSources 76 = .ok (.iconst 0, 1) := by decide +kernel
theorem dX0_pawnSources_77 : decode cX0_pawnSources 77 = .ok (.istore 6, 2) := by decide +kernel
theorem dX0_pawnSources_79 : decode cX0_pawnSources 79 = .ok (.iload 6, 2) := by decide +kernel
theorem dX0_pawnSources_81 : decode cX0_pawnSources 81 = .ok (.ifCond .eq 17, 3) := by decide +kernel
theorem dX0_pawnSources_84 : decode cX0_pawnSources 84 = .ok (.iload 4, 2) := by decide +kernel
theorem dX0_pawnSources_86 : decode cX0_pawnSources 86 = .ok (.invokestatic 62, 3) := by decide +kernel
theorem dX0_pawnSources_89 : decode cX0_pawnSources 89 = .ok (.iload 5, 2) := by decide +kernel
theorem dX0_pawnSources_91 : decode cX0_pawnSources 91 = .ok (.invokestatic 62, 3) := by decide +kernel
theorem dX0_pawnSources_94 : decode cX0_pawnSources 94 = .ok (.lor, 1) := by decide +kernel
theorem dX0_pawnSources_95 : decode cX0_pawnSources 95 = .ok (.goto 8, 3) := by decide +kernel
theorem dX0_pawnSources_98 : decode cX0_pawnSources 98 = .ok (.iload 4, 2) := by decide +kernel
theorem dX0_pawnSources_100 : decode cX0_pawnSources 100 = .ok (.invokestatic 62, 3) := by decide +kernel
theorem dX0_pawnSources_103 : decode cX0_pawnSources 103 = .ok (.lreturn, 1) := by decide +kernel
theorem dX0_blackSources_0 : decode cX0_blackSources 0 = .ok (.aload_n 0, 1) := by decide +kernel
theorem dX0_blackSources_1 : decode cX0_blackSources 1 = .ok (.getfield 31, 3) := by decide +kernel
theorem dX0_blackSources_4 : decode cX0_blackSources 4 = .ok (.iload_n 2, 1) := by decide +kernel
theorem dX0_blackSources_5 : decode cX0_blackSources 5 = .ok (.laload, 1) := by decide +kernel
theorem dX0_blackSources_6 : decode cX0_blackSources 6 = .ok (.aload_n 0, 1) := by decide +kernel
theorem dX0_blackSources_7 : decode cX0_blackSources 7 = .ok (.getfield 31, 3) := by decide +kernel
theorem dX0_blackSources_10 : decode cX0_blackSources 10 = .ok (.iload_n 1, 1) := by decide +kernel
theorem dX0_blackSources_11 : decode cX0_blackSources 11 = .ok (.laload, 1) := by decide +kernel
theorem dX0_blackSources_12 : decode cX0_blackSources 12 = .ok (.ldc2_w 92, 3) := by decide +kernel
theorem dX0_blackSources_15 : decode cX0_blackSources 15 = .ok (.lxor, 1) := by decide +kernel
theorem dX0_blackSources_16 : decode cX0_blackSources 16 = .ok (.land, 1) := by decide +kernel
theorem dX0_blackSources_17 : decode cX0_blackSources 17 = .ok (.iload_n 1, 1) := by decide +kernel
theorem dX0_blackSources_18 : decode cX0_blackSources 18 = .ok (.invokestatic 62, 3) := by decide +kernel
theorem dX0_blackSources_21 : decode cX0_blackSources 21 = .ok (.ldc2_w 92, 3) := by decide +kernel
theorem dX0_blackSources_24 : decode cX0_blackSources 24 = .ok (.lxor, 1) := by decide +kernel
theorem dX0_blackSources_25 : decode cX0_blackSources 25 = .ok (.land, 1) := by decide +kernel
theorem dX0_blackSources_26 : decode cX0_blackSources 26 = .ok (.iload_n 3, 1) := by decide +kernel
theorem dX0_blackSources_27 : decode cX0_blackSources 27 = .ok (.invokestatic 62, 3) := by decide +kernel
theorem dX0_blackSources_30 : decode cX0_blackSources 30 = .ok (.ldc2_w 92, 3) := by decide +kernel
theorem dX0_blackSources_33 : decode cX0_blackSources 33 = .ok (.lxor, 1) := by decide +kernel
theorem dX0_blackSources_34 : decode cX0_blackSources 34 = .ok (.land, 1) := by decide +kernel
theorem dX0_blackSources_35 : decode cX0_blackSources 35 = .ok (.lreturn, 1) := by decide +kernel
theorem dX0_prepare_0 : decode cX0_prepare 0 = .ok (.aload_n 0, 1) := by decide +kernel
theorem dX0_prepare_1 : decode cX0_prepare 1 = .ok (.getfield 11, 3) := by decide +kernel
theorem dX0_prepare_4 : decode cX0_prepare 4 = .ok (.iload_n 1, 1) := by decide +kernel
theorem dX0_prepare_5 : decode cX0_prepare 5 = .ok (.aaload, 1) := by decide +kernel
theorem dX0_prepare_6 : decode cX0_prepare 6 = .ok (.astore_n 2, 1) := by decide +kernel
theorem dX0_prepare_7 : decode cX0_prepare 7 = .ok (.aload_n 2, 1) := by decide +kernel
theorem dX0_prepare_8 : decode cX0_prepare 8 = .ok (.ifnonnull 53, 3) := by decide +kernel
theorem dX0_prepare_11 : decode cX0_prepare 11 = .ok (.new 9, 3) := by decide +kernel
theorem dX0_prepare_14 : decode cX0_prepare 14 = .ok (.dup, 1) := by decide +kernel
theorem dX0_prepare_15 : decode cX0_prepare 15 = .ok (.aload_n 0, 1) := by decide +kernel
theorem dX0_prepare_16 : decode cX0_prepare 16 = .ok (.iload_n 1, 1) := by decide +kernel
theorem dX0_prepare_17 : decode cX0_prepare 17 = .ok (.aload_n 0, 1) := by decide +kernel
theorem dX0_prepare_18 : decode cX0_prepare 18 = .ok (.iload_n 1, 1) := by decide +kernel
theorem dX0_prepare_19 : decode cX0_prepare 19 = .ok (.invokevirtual 101, 3) := by decide +kernel
theorem dX0_prepare_22 : decode cX0_prepare 22 = .ok (.invokespecial 105, 3) := by decide +kernel
theorem dX0_prepare_25 : decode cX0_prepare 25 = .ok (.astore_n 2, 1) := by decide +kernel
theorem dX0_prepare_26 : decode cX0_prepare 26 = .ok (.new 108, 3) := by decide +kernel
theorem dX0_prepare_29 : decode cX0_prepare 29 = .ok (.dup, 1) := by decide +kernel
theorem dX0_prepare_30 : decode cX0_prepare 30 = .ok (.aload_n 0, 1) := by decide +kernel
theorem dX0_prepare_31 : decode cX0_prepare 31 = .ok (.aload_n 2, 1) := by decide +kernel
theorem dX0_prepare_32 : decode cX0_prepare 32 = .ok (.invokespecial 110, 3) := by decide +kernel
theorem dX0_prepare_35 : decode cX0_prepare 35 = .ok (.aload_n 0, 1) := by decide +kernel
theorem dX0_prepare_36 : decode cX0_prepare 36 = .ok (.getfield 11, 3) := by decide +kernel
theorem dX0_prepare_39 : decode cX0_prepare 39 = .ok (.iconst 0, 1) := by decide +kernel
theorem dX0_prepare_40 : decode cX0_prepare 40 = .ok (.aaload, 1) := by decide +kernel
theorem dX0_prepare_41 : decode cX0_prepare 41 = .ok (.aload_n 0, 1) := by decide +kernel
theorem dX0_prepare_42 : decode cX0_prepare 42 = .ok (.getfield 11, 3) := by decide +kernel
theorem dX0_prepare_45 : decode cX0_prepare 45 = .ok (.iconst 1, 1) := by decide +kernel
theorem dX0_prepare_46 : decode cX0_prepare 46 = .ok (.aaload, 1) := by decide +kernel
theorem dX0_prepare_47 : decode cX0_prepare 47 = .ok (.invokevirtual 113, 3) := by decide +kernel
theorem dX0_prepare_50 : decode cX0_prepare 50 = .ok (.aload_n 2, 1) := by decide +kernel
theorem dX0_prepare_51 : decode cX0_prepare 51 = .ok (.invokevirtual 117, 3) := by decide +kernel
theorem dX0_prepare_54 : decode cX0_prepare 54 = .ok (.aload_n 0, 1) := by decide +kernel
theorem dX0_prepare_55 : decode cX0_prepare 55 = .ok (.getfield 11, 3) := by decide +kernel
theorem dX0_prepare_58 : decode cX0_prepare 58 = .ok (.iload_n 1, 1) := by decide +kernel
theorem dX0_prepare_59 : decode cX0_prepare 59 = .ok (.aload_n 2, 1) := by decide +kernel
theorem dX0_prepare_60 : decode cX0_prepare 60 = .ok (.aastore, 1) := by decide +kernel
theorem dX0_prepare_61 : decode cX0_prepare 61 = .ok (.aload_n 2, 1) := by decide +kernel
theorem dX0_prepare_62 : decode cX0_prepare 62 = .ok (.areturn, 1) := by decide +kernel
theorem dX0_pairsFor_0 : decode cX0_pairsFor 0 = .ok (.iload_n 1, 1) := by decide +kernel
theorem dX0_pairsFor_1 : decode cX0_pairsFor 1 = .ok (.iconst 2, 1) := by decide +kernel
theorem dX0_pairsFor_2 : decode cX0_pairsFor 2 = .ok (.if_icmp .ne 35, 3) := by decide +kernel
theorem dX0_pairsFor_5 : decode cX0_pairsFor 5 = .ok (.aload_n 0, 1) := by decide +kernel
theorem dX0_pairsFor_6 : decode cX0_pairsFor 6 = .ok (.aload_n 0, 1) := by decide +kernel
theorem dX0_pairsFor_7 : decode cX0_pairsFor 7 = .ok (.getfield 120, 3) := by decide +kernel
theorem dX0_pairsFor_10 : decode cX0_pairsFor 10 = .ok (.ifnonnull 15, 3) := by decide +kernel
theorem dX0_pairsFor_13 : decode cX0_pairsFor 13 = .ok (.new 124, 3) := by decide +kernel
theorem dX0_pairsFor_16 : decode cX0_pairsFor 16 = .ok (.dup, 1) := by decide +kernel
theorem dX0_pairsFor_17 : decode cX0_pairsFor 17 = .ok (.aload_n 0, 1) := by decide +kernel
theorem dX0_pairsFor_18 : decode cX0_pairsFor 18 = .ok (.iconst 2, 1) := by decide +kernel
theorem dX0_pairsFor_19 : decode cX0_pairsFor 19 = .ok (.invokespecial 126, 3) := by decide +kernel
theorem dX0_pairsFor_22 : decode cX0_pairsFor 22 = .ok (.goto 7, 3) := by decide +kernel
theorem dX0_pairsFor_25 : decode cX0_pairsFor 25 = .ok (.aload_n 0, 1) := by decide +kernel
theorem dX0_pairsFor_26 : decode cX0_pairsFor 26 = .ok (.getfield 120, 3) := by decide +kernel
theorem dX0_pairsFor_29 : decode cX0_pairsFor 29 = .ok (.putfield 120, 3) := by decide +kernel
theorem dX0_pairsFor_32 : decode cX0_pairsFor 32 = .ok (.aload_n 0, 1) := by decide +kernel
theorem dX0_pairsFor_33 : decode cX0_pairsFor 33 = .ok (.getfield 120, 3) := by decide +kernel
theorem dX0_pairsFor_36 : decode cX0_pairsFor 36 = .ok (.areturn, 1) := by decide +kernel
theorem dX0_pairsFor_37 : decode cX0_pairsFor 37 = .ok (.aload_n 0, 1) := by decide +kernel
theorem dX0_pairsFor_38 : decode cX0_pairsFor 38 = .ok (.aload_n 0, 1) := by decide +kernel
theorem dX0_pairsFor_39 : decode cX0_pairsFor 39 = .ok (.getfield 129, 3) := by decide +kernel
theorem dX0_pairsFor_42 : decode cX0_pairsFor 42 = .ok (.ifnonnull 16, 3) := by decide +kernel
theorem dX0_pairsFor_45 : decode cX0_pairsFor 45 = .ok (.new 124, 3) := by decide +kernel
theorem dX0_pairsFor_48 : decode cX0_pairsFor 48 = .ok (.dup, 1) := by decide +kernel
theorem dX0_pairsFor_49 : decode cX0_pairsFor 49 = .ok (.aload_n 0, 1) := by decide +kernel
theorem dX0_pairsFor_50 : decode cX0_pairsFor 50 = .ok (.bipush 8, 2) := by decide +kernel
theorem dX0_pairsFor_52 : decode cX0_pairsFor 52 = .ok (.invokespecial 126, 3) := by decide +kernel
theorem dX0_pairsFor_55 : decode cX0_pairsFor 55 = .ok (.goto 7, 3) := by decide +kernel
theorem dX0_pairsFor_58 : decode cX0_pairsFor 58 = .ok (.aload_n 0, 1) := by decide +kernel
theorem dX0_pairsFor_59 : decode cX0_pairsFor 59 = .ok (.getfield 129, 3) := by decide +kernel
theorem dX0_pairsFor_62 : decode cX0_pairsFor 62 = .ok (.putfield 129, 3) := by decide +kernel
theorem dX0_pairsFor_65 : decode cX0_pairsFor 65 = .ok (.aload_n 0, 1) := by decide +kernel
theorem dX0_pairsFor_66 : decode cX0_pairsFor 66 = .ok (.getfield 129, 3) := by decide +kernel
theorem dX0_pairsFor_69 : decode cX0_pairsFor 69 = .ok (.areturn, 1) := by decide +kernel
theorem dX1_init_0 : decode cX1_init 0 = .ok (.aload_n 0, 1) := by decide +kernel
theorem dX1_init_1 : decode cX1_init 1 = .ok (.invokespecial 3, 3) := by decide +kernel
theorem dX1_init_4 : decode cX1_init 4 = .ok (.aload_n 0, 1) := by decide +kernel
theorem dX1_init_5 : decode cX1_init 5 = .ok (.sipush 144, 3) := by decide +kernel
theorem dX1_init_8 : decode cX1_init 8 = .ok (.newarray .int, 2) := by decide +kernel
theorem dX1_init_10 : decode cX1_init 10 = .ok (.putfield 11, 3) := by decide +kernel
theorem dX1_init_13 : decode cX1_init 13 = .ok (.return_, 1) := by decide +kernel
theorem dX1_add_0 : decode cX1_add 0 = .ok (.aload_n 0, 1) := by decide +kernel
theorem dX1_add_1 : decode cX1_add 1 = .ok (.getfield 15, 3) := by decide +kernel
theorem dX1_add_4 : decode cX1_add 4 = .ok (.bipush 36, 2) := by decide +kernel
theorem dX1_add_6 : decode cX1_add 6 = .ok (.if_icmp .lt 4, 3) := by decide +kernel
theorem dX1_add_9 : decode cX1_add 9 = .ok (.return_, 1) := by decide +kernel
theorem dX1_add_10 : decode cX1_add 10 = .ok (.aload_n 0, 1) := by decide +kernel
theorem dX1_add_11 : decode cX1_add 11 = .ok (.getfield 15, 3) := by decide +kernel
theorem dX1_add_14 : decode cX1_add 14 = .ok (.iconst 4, 1) := by decide +kernel
theorem dX1_add_15 : decode cX1_add 15 = .ok (.imul, 1) := by decide +kernel
theorem dX1_add_16 : decode cX1_add 16 = .ok (.istore 5, 2) := by decide +kernel
theorem dX1_add_18 : decode cX1_add 18 = .ok (.aload_n 0, 1) := by decide +kernel
theorem dX1_add_19 : decode cX1_add 19 = .ok (.getfield 11, 3) := by decide +kernel
theorem dX1_add_22 : decode cX1_add 22 = .ok (.iload 5, 2) := by decide +kernel
theorem dX1_add_24 : decode cX1_add 24 = .ok (.iconst 0, 1) := by decide +kernel
theorem dX1_add_25 : decode cX1_add 25 = .ok (.iadd, 1) := by decide +kernel
theorem dX1_add_26 : decode cX1_add 26 = .ok (.iload_n 1, 1) := by decide +kernel
theorem dX1_add_27 : decode cX1_add 27 = .ok (.iastore, 1) := by decide +kernel
theorem dX1_add_28 : decode cX1_add 28 = .ok (.aload_n 0, 1) := by decide +kernel
theorem dX1_add_29 : decode cX1_add 29 = .ok (.getfield 11, 3) := by decide +kernel
theorem dX1_add_32 : decode cX1_add 32 = .ok (.iload 5, 2) := by decide +kernel
theorem dX1_add_34 : decode cX1_add 34 = .ok (.iconst 1, 1) := by decide +kernel
theorem dX1_add_35 : decode cX1_add 35 = .ok (.iadd, 1) := by decide +kernel
theorem dX1_add_36 : decode cX1_add 36 = .ok (.iload_n 2, 1) := by decide +kernel
theorem dX1_add_37 : decode cX1_add 37 = .ok (.iastore, 1) := by decide +kernel
theorem dX1_add_38 : decode cX1_add 38 = .ok (.aload_n 0, 1) := by decide +kernel
theorem dX1_add_39 : decode cX1_add 39 = .ok (.getfield 11, 3) := by decide +kernel
theorem dX1_add_42 : decode cX1_add 42 = .ok (.iload 5, 2) := by decide +kernel
theorem dX1_add_44 : decode cX1_add 44 = .ok (.iconst 2, 1) := by decide +kernel
theorem dX1_add_45 : decode cX1_add 45 = .ok (.iadd, 1) := by decide +kernel
theorem dX1_add_46 : decode cX1_add 46 = .ok (.iload_n 3, 1) := by decide +kernel
theorem dX1_add_47 : decode cX1_add 47 = .ok (.iastore, 1) := by decide +kernel
theorem dX1_add_48 : decode cX1_add 48 = .ok (.aload_n 0, 1) := by decide +kernel
theorem dX1_add_49 : decode cX1_add 49 = .ok (.getfield 11, 3) := by decide +kernel
theorem dX1_add_52 : decode cX1_add 52 = .ok (.iload 5, 2) := by decide +kernel
theorem dX1_add_54 : decode cX1_add 54 = .ok (.iconst 3, 1) := by decide +kernel
theorem dX1_add_55 : decode cX1_add 55 = .ok (.iadd, 1) := by decide +kernel
theorem dX1_add_56 : decode cX1_add 56 = .ok (.iload 4, 2) := by decide +kernel
theorem dX1_add_58 : decode cX1_add 58 = .ok (.iastore, 1) := by decide +kernel
theorem dX1_add_59 : decode cX1_add 59 = .ok (.aload_n 0, 1) := by decide +kernel
theorem dX1_add_60 : decode cX1_add 60 = .ok (.dup, 1) := by decide +kernel
theorem dX1_add_61 : decode cX1_add 61 = .ok (.getfield 15, 3) := by decide +kernel
theorem dX1_add_64 : decode cX1_add 64 = .ok (.iconst 1, 1) := by decide +kernel
theorem dX1_add_65 : decode cX1_add 65 = .ok (.iadd, 1) := by decide +kernel
theorem dX1_add_66 : decode cX1_add 66 = .ok (.putfield 15, 3) := by decide +kernel
theorem dX1_add_69 : decode cX1_add 69 = .ok (.return_, 1) := by decide +kernel
theorem dX1_keep_0 : decode cX1_keep 0 = .ok (.aload_n 0, 1) := by decide +kernel
theorem dX1_keep_1 : decode cX1_keep 1 = .ok (.getfield 15, 3) := by decide +kernel
theorem dX1_keep_4 : decode cX1_keep 4 = .ok (.istore_n 2, 1) := by decide +kernel
theorem dX1_keep_5 : decode cX1_keep 5 = .ok (.aload_n 0, 1) := by decide +kernel
theorem dX1_keep_6 : decode cX1_keep 6 = .ok (.iconst 0, 1) := by decide +kernel
theorem dX1_keep_7 : decode cX1_keep 7 = .ok (.putfield 15, 3) := by decide +kernel
theorem dX1_keep_10 : decode cX1_keep 10 = .ok (.iconst 0, 1) := by decide +kernel
theorem dX1_keep_11 : decode cX1_keep 11 = .ok (.istore_n 3, 1) := by decide +kernel
theorem dX1_keep_12 : decode cX1_keep 12 = .ok (.iload_n 3, 1) := by decide +kernel
theorem dX1_keep_13 : decode cX1_keep 13 = .ok (.iload_n 2, 1) := by decide +kernel
theorem dX1_keep_14 : decode cX1_keep 14 = .ok (.if_icmp .ge 59, 3) := by decide +kernel
theorem dX1_keep_17 : decode cX1_keep 17 = .ok (.iload_n 3, 1) := by decide +kernel
theorem dX1_keep_18 : decode cX1_keep 18 = .ok (.iconst 4, 1) := by decide +kernel
theorem dX1_keep_19 : decode cX1_keep 19 = .ok (.imul, 1) := by decide +kernel
theorem dX1_keep_20 : decode cX1_keep 20 = .ok (.istore 4, 2) := by decide +kernel
theorem dX1_keep_22 : decode cX1_keep 22 = .ok (.aload_n 0, 1) := by decide +kernel
theorem dX1_keep_23 : decode cX1_keep 23 = .ok (.getfield 11, 3) := by decide +kernel
theorem dX1_keep_26 : decode cX1_keep 26 = .ok (.iload 4, 2) := by decide +kernel
theorem dX1_keep_28 : decode cX1_keep 28 = .ok (.iconst 3, 1) := by decide +kernel
theorem dX1_keep_29 : decode cX1_keep 29 = .ok (.iadd, 1) := by decide +kernel
theorem dX1_keep_30 : decode cX1_keep 30 = .ok (.iaload, 1) := by decide +kernel
theorem dX1_keep_31 : decode cX1_keep 31 = .ok (.iload_n 1, 1) := by decide +kernel
theorem dX1_keep_32 : decode cX1_keep 32 = .ok (.if_icmp .ne 35, 3) := by decide +kernel
theorem dX1_keep_35 : decode cX1_keep 35 = .ok (.aload_n 0, 1) := by decide +kernel
theorem dX1_keep_36 : decode cX1_keep 36 = .ok (.aload_n 0, 1) := by decide +kernel
theorem dX1_keep_37 : decode cX1_keep 37 = .ok (.getfield 11, 3) := by decide +kernel
theorem dX1_keep_40 : decode cX1_keep 40 = .ok (.iload 4, 2) := by decide +kernel
theorem dX1_keep_42 : decode cX1_keep 42 = .ok (.iconst 0, 1) := by decide +kernel
theorem dX1_keep_43 : decode cX1_keep 43 = .ok (.iadd, 1) := by decide +kernel
theorem dX1_keep_44 : decode cX1_keep 44 = .ok (.iaload, 1) := by decide +kernel
theorem dX1_keep_45 : decode cX1_keep 45 = .ok (.aload_n 0, 1) := by decide +kernel
theorem dX1_keep_46 : decode cX1_keep 46 = .ok (.getfield 11, 3) := by decide +kernel
theorem dX1_keep_49 : decode cX1_keep 49 = .ok (.iload 4, 2) := by decide +kernel
theorem dX1_keep_51 : decode cX1_keep 51 = .ok (.iconst 1, 1) := by decide +kernel
theorem dX1_keep_52 : decode cX1_keep 52 = .ok (.iadd, 1) := by decide +kernel
theorem dX1_keep_53 : decode cX1_keep 53 = .ok (.iaload, 1) := by decide +kernel
theorem dX1_keep_54 : decode cX1_keep 54 = .ok (.aload_n 0, 1) := by decide +kernel
theorem dX1_keep_55 : decode cX1_keep 55 = .ok (.getfield 11, 3) := by decide +kernel
theorem dX1_keep_58 : decode cX1_keep 58 = .ok (.iload 4, 2) := by decide +kernel
theorem dX1_keep_60 : decode cX1_keep 60 = .ok (.iconst 2, 1) := by decide +kernel
theorem dX1_keep_61 : decode cX1_keep 61 = .ok (.iadd, 1) := by decide +kernel
theorem dX1_keep_62 : decode cX1_keep 62 = .ok (.iaload, 1) := by decide +kernel
theorem dX1_keep_63 : decode cX1_keep 63 = .ok (.iload_n 1, 1) := by decide +kernel
theorem dX1_keep_64 : decode cX1_keep 64 = .ok (.invokevirtual 19, 3) := by decide +kernel
theorem dX1_keep_67 : decode cX1_keep 67 = .ok (.iinc 3 1, 3) := by decide +kernel
theorem dX1_keep_70 : decode cX1_keep 70 = .ok (.goto (-58), 3) := by decide +kernel
theorem dX1_keep_73 : decode cX1_keep 73 = .ok (.return_, 1) := by decide +kernel
theorem dX1_tell_0 : decode cX1_tell 0 = .ok (.iload_n 1, 1) := by decide +kernel
theorem dX1_tell_1 : decode cX1_tell 1 = .ok (.ifCond .lt 20, 3) := by decide +kernel
theorem dX1_tell_4 : decode cX1_tell 4 = .ok (.iload_n 1, 1) := by decide +kernel
theorem dX1_tell_5 : decode cX1_tell 5 = .ok (.aload_n 0, 1) := by decide +kernel
theorem dX1_tell_6 : decode cX1_tell 6 = .ok (.getfield 15, 3) := by decide +kernel
theorem dX1_tell_9 : decode cX1_tell 9 = .ok (.if_icmp .ge 12, 3) := by decide +kernel
theorem dX1_tell_12 : decode cX1_tell 12 = .ok (.iload_n 2, 1) := by decide +kernel
theorem dX1_tell_13 : decode cX1_tell 13 = .ok (.ifCond .lt 8, 3) := by decide +kernel
theorem dX1_tell_16 : decode cX1_tell 16 = .ok (.iload_n 2, 1) := by decide +kernel
theorem dX1_tell_17 : decode cX1_tell 17 = .ok (.iconst 4, 1) := by decide +kernel
theorem dX1_tell_18 : decode cX1_tell 18 = .ok (.if_icmp .lt 7, 3) := by decide +kernel
theorem dX1_tell_21 : decode cX1_tell 21 = .ok (.iconst (-1), 1) := by decide +kernel
theorem dX1_tell_22 : decode cX1_tell 22 = .ok (.goto 13, 3) := by decide +kernel
theorem dX1_tell_25 : decode cX1_tell 25 = .ok (.aload_n 0, 1) := by decide +kernel
theorem dX1_tell_26 : decode cX1_tell 26 = .ok (.getfield 11, 3) := by decide +kernel
theorem dX1_tell_29 : decode cX1_tell 29 = .ok (.iload_n 1, 1) := by decide +kernel
theorem dX1_tell_30 : decode cX1_tell 30 = .ok (.iconst 4, 1) := by decide +kernel
theorem dX1_tell_31 : decode cX1_tell 31 = .ok (.imul, 1) := by decide +kernel
theorem dX1_tell_32 : decode cX1_tell 32 = .ok (.iload_n 2, 1) := by decide +kernel
theorem dX1_tell_33 : decode cX1_tell 33 = .ok (.iadd, 1) := by decide +kernel
theorem dX1_tell_34 : decode cX1_tell 34 = .ok (.iaload, 1) := by decide +kernel
theorem dX1_tell_35 : decode cX1_tell 35 = .ok (.ireturn, 1) := by decide +kernel
theorem dX2_init_0 : decode cX2_init 0 = .ok (.aload_n 0, 1) := by decide +kernel
theorem dX2_init_1 : decode cX2_init 1 = .ok (.invokespecial 3, 3) := by decide +kernel
theorem dX2_init_4 : decode cX2_init 4 = .ok (.aload_n 0, 1) := by decide +kernel
theorem dX2_init_5 : decode cX2_init 5 = .ok (.aload_n 1, 1) := by decide +kernel
theorem dX2_init_6 : decode cX2_init 6 = .ok (.getfield 9, 3) := by decide +kernel
theorem dX2_init_9 : decode cX2_init 9 = .ok (.putfield 15, 3) := by decide +kernel
theorem dX2_init_12 : decode cX2_init 12 = .ok (.aload_n 0, 1) := by decide +kernel
theorem dX2_init_13 : decode cX2_init 13 = .ok (.aload_n 1, 1) := by decide +kernel
theorem dX2_init_14 : decode cX2_init 14 = .ok (.getfield 18, 3) := by decide +kernel
theorem dX2_init_17 : decode cX2_init 17 = .ok (.putfield 22, 3) := by decide +kernel
theorem dX2_init_20 : decode cX2_init 20 = .ok (.aload_n 0, 1) := by decide +kernel
theorem dX2_init_21 : decode cX2_init 21 = .ok (.aload_n 0, 1) := by decide +kernel
theorem dX2_init_22 : decode cX2_init 22 = .ok (.getfield 15, 3) := by decide +kernel
theorem dX2_init_25 : decode cX2_init 25 = .ok (.aload_n 0, 1) := by decide +kernel
theorem dX2_init_26 : decode cX2_init 26 = .ok (.getfield 15, 3) := by decide +kernel
theorem dX2_init_29 : decode cX2_init 29 = .ok (.imul, 1) := by decide +kernel
theorem dX2_init_30 : decode cX2_init 30 = .ok (.newarray .int, 2) := by decide +kernel
theorem dX2_init_32 : decode cX2_init 32 = .ok (.putfield 23, 3) := by decide +kernel
theorem dX2_init_35 : decode cX2_init 35 = .ok (.aload_n 0, 1) := by decide +kernel
theorem dX2_init_36 : decode cX2_init 36 = .ok (.aload_n 0, 1) := by decide +kernel
theorem dX2_init_37 : decode cX2_init 37 = .ok (.getfield 15, 3) := by decide +kernel
theorem dX2_init_40 : decode cX2_init 40 = .ok (.aload_n 0, 1) := by decide +kernel
theorem dX2_init_41 : decode cX2_init 41 = .ok (.getfield 15, 3) := by decide +kernel
theorem dX2_init_44 : decode cX2_init 44 = .ok (.imul, 1) := by decide +kernel
theorem dX2_init_45 : decode cX2_init 45 = .ok (.newarray .int, 2) := by decide +kernel
theorem dX2_init_47 : decode cX2_init 47 = .ok (.putfield 26, 3) := by decide +kernel
theorem dX2_init_50 : decode cX2_init 50 = .ok (.aload_n 0, 1) := by decide +kernel
theorem dX2_init_51 : decode cX2_init 51 = .ok (.aload_n 0, 1) := by decide +kernel
theorem dX2_init_52 : decode cX2_init 52 = .ok (.getfield 15, 3) := by decide +kernel
theorem dX2_init_55 : decode cX2_init 55 = .ok (.aload_n 0, 1) := by decide +kernel
theorem dX2_init_56 : decode cX2_init 56 = .ok (.getfield 15, 3) := by decide +kernel
theorem dX2_init_59 : decode cX2_init 59 = .ok (.imul, 1) := by decide +kernel
theorem dX2_init_60 : decode cX2_init 60 = .ok (.newarray .int, 2) := by decide +kernel
theorem dX2_init_62 : decode cX2_init 62 = .ok (.putfield 29, 3) := by decide +kernel
theorem dX2_init_65 : decode cX2_init 65 = .ok (.aload_n 0, 1) := by decide +kernel
theorem dX2_init_66 : decode cX2_init 66 = .ok (.aload_n 0, 1) := by decide +kernel
theorem dX2_init_67 : decode cX2_init 67 = .ok (.getfield 15, 3) := by decide +kernel
theorem dX2_init_70 : decode cX2_init 70 = .ok (.aload_n 0, 1) := by decide +kernel
theorem dX2_init_71 : decode cX2_init 71 = .ok (.getfield 15, 3) := by decide +kernel
theorem dX2_init_74 : decode cX2_init 74 = .ok (.imul, 1) := by decide +kernel
theorem dX2_init_75 : decode cX2_init 75 = .ok (.newarray .int, 2) := by decide +kernel
theorem dX2_init_77 : decode cX2_init 77 = .ok (.putfield 32, 3) := by decide +kernel
theorem dX2_init_80 : decode cX2_init 80 = .ok (.aload_n 0, 1) := by decide +kernel
theorem dX2_init_81 : decode cX2_init 81 = .ok (.aload_n 0, 1) := by decide +kernel
theorem dX2_init_82 : decode cX2_init 82 = .ok (.getfield 15, 3) := by decide +kernel
theorem dX2_init_85 : decode cX2_init 85 = .ok (.aload_n 0, 1) := by decide +kernel
theorem dX2_init_86 : decode cX2_init 86 = .ok (.getfield 15, 3) := by decide +kernel
theorem dX2_init_89 : decode cX2_init 89 = .ok (.imul, 1) := by decide +kernel
theorem dX2_init_90 : decode cX2_init 90 = .ok (.newarray .int, 2) := by decide +kernel
theorem dX2_init_92 : decode cX2_init 92 = .ok (.putfield 35, 3) := by decide +kernel
theorem dX2_init_95 : decode cX2_init 95 = .ok (.aload_n 0, 1) := by decide +kernel
theorem dX2_init_96 : decode cX2_init 96 = .ok (.getfield 23, 3) := by decide +kernel
theorem dX2_init_99 : decode cX2_init 99 = .ok (.iconst (-1), 1) := by decide +kernel
theorem dX2_init_100 : decode cX2_init 100 = .ok (.invokestatic 38, 3) := by decide +kernel
theorem dX2_init_103 : decode cX2_init 103 = .ok (.iconst 0, 1) := by decide +kernel
theorem dX2_init_104 : decode cX2_init 104 = .ok (.istore_n 3, 1) := by decide +kernel
theorem dX2_init_105 : decode cX2_init 105 = .ok (.iload_n 3, 1) := by decide +kernel
theorem dX2_init_106 : decode cX2_init 106 = .ok (.aload_n 0, 1) := by decide +kernel
theorem dX2_init_107 : decode cX2_init 107 = .ok (.getfield 15, 3) := by decide +kernel
theorem dX2_init_110 : decode cX2_init 110 = .ok (.if_icmp .ge 51, 3) := by decide +kernel
theorem dX2_init_113 : decode cX2_init 113 = .ok (.iconst 0, 1) := by decide +kernel
theorem dX2_init_114 : decode cX2_init 114 = .ok (.istore 4, 2) := by decide +kernel
theorem dX2_init_116 : decode cX2_init 116 = .ok (.iload 4, 2) := by decide +kernel
theorem dX2_init_118 : decode cX2_init 118 = .ok (.aload_n 0, 1) := by decide +kernel
theorem dX2_init_119 : decode cX2_init 119 = .ok (.getfield 15, 3) := by decide +kernel
theorem dX2_init_122 : decode cX2_init 122 = .ok (.if_icmp .ge 33, 3) := by decide +kernel
theorem dX2_init_125 : decode cX2_init 125 = .ok (.iload_n 3, 1) := by decide +kernel
theorem dX2_init_126 : decode cX2_init 126 = .ok (.iload 4, 2) := by decide +kernel
theorem dX2_init_128 : decode cX2_init 128 = .ok (.if_icmp .eq 21, 3) := by decide +kernel
theorem dX2_init_131 : decode cX2_init 131 = .ok (.aload_n 1, 1) := by decide +kernel
theorem dX2_init_132 : decode cX2_init 132 = .ok (.iload_n 3, 1) := by decide +kernel
theorem dX2_init_133 : decode cX2_init 133 = .ok (.iload 4, 2) := by decide +kernel
theorem dX2_init_135 : decode cX2_init 135 = .ok (.invokevirtual 44, 3) := by decide +kernel
theorem dX2_init_138 : decode cX2_init 138 = .ok (.ifCond .ne 11, 3) := by decide +kernel
theorem dX2_init_141 : decode cX2_init 141 = .ok (.aload_n 0, 1) := by decide +kernel
theorem dX2_init_142 : decode cX2_init 142 = .ok (.iload_n 3, 1) := by decide +kernel
theorem dX2_init_143 : decode cX2_init 143 = .ok (.iload 4, 2) := by decide +kernel
theorem dX2_init_145 : decode cX2_init 145 = .ok (.iload_n 2, 1) := by decide +kernel
theorem dX2_init_146 : decode cX2_init 146 = .ok (.invokevirtual 48, 3) := by decide +kernel
theorem dX2_init_149 : decode cX2_init 149 = .ok (.iinc 4 1, 3) := by decide +kernel
theorem dX2_init_152 : decode cX2_init 152 = .ok (.goto (-36), 3) := by decide +kernel
theorem dX2_init_155 : decode cX2_init 155 = .ok (.iinc 3 1, 3) := by decide +kernel
theorem dX2_init_158 : decode cX2_init 158 = .ok (.goto (-53), 3) := by decide +kernel
theorem dX2_init_161 : decode cX2_init 161 = .ok (.return_, 1) := by decide +kernel
theorem dX2_enter_0 : decode cX2_enter 0 = .ok (.iload_n 1, 1) := by decide +kernel
theorem dX2_enter_1 : decode cX2_enter 1 = .ok (.aload_n 0, 1) := by decide +kernel
theorem dX2_enter_2 : decode cX2_enter 2 = .ok (.getfield 15, 3) := by decide +kernel
theorem dX2_enter_5 : decode cX2_enter 5 = .ok (.imul, 1) := by decide +kernel
theorem dX2_enter_6 : decode cX2_enter 6 = .ok (.iload_n 2, 1) := by decide +kernel
theorem dX2_enter_7 : decode cX2_enter 7 = .ok (.iadd, 1) := by decide +kernel
theorem dX2_enter_8 : decode cX2_enter 8 = .ok (.istore 4, 2) := by decide +kernel
theorem dX2_enter_10 : decode cX2_enter 10 = .ok (.iload 4, 2) := by decide +kernel
theorem dX2_enter_12 : decode cX2_enter 12 = .ok (.istore 5, 2) := by decide +kernel
theorem dX2_enter_14 : decode cX2_enter 14 = .ok (.iconst 0, 1) := by decide +kernel
theorem dX2_enter_15 : decode cX2_enter 15 = .ok (.istore 6, 2) := by decide +kernel
theorem dX2_enter_17 : decode cX2_enter 17 = .ok (.iload 6, 2) := by decide +kernel
theorem dX2_enter_19 : decode cX2_enter 19 = .ok (.iload_n 3, 1) := by decide +kernel
theorem dX2_enter_20 : decode cX2_enter 20 = .ok (.aload_n 0, 1) := by decide +kernel
theorem dX2_enter_21 : decode cX2_enter 21 = .ok (.getfield 15, 3) := by decide +kernel
theorem dX2_enter_24 : decode cX2_enter 24 = .ok (.imul, 1) := by decide +kernel
theorem dX2_enter_25 : decode cX2_enter 25 = .ok (.if_icmp .ge 77, 3) := by decide +kernel
theorem dX2_enter_28 : decode cX2_enter 28 = .ok (.aload_n 0, 1) := by decide +kernel
theorem dX2_enter_29 : decode cX2_enter 29 = .ok (.getfield 22, 3) := by decide +kernel
theorem dX2_enter_32 : decode cX2_enter 32 = .ok (.iload 6, 2) := by decide +kernel
theorem dX2_enter_34 : decode cX2_enter 34 = .ok (.iload_n 1, 1) := by decide +kernel
theorem dX2_enter_35 : decode cX2_enter 35 = .ok (.iadd, 1) := by decide +kernel
theorem dX2_enter_36 : decode cX2_enter 36 = .ok (.iaload, 1) := by decide +kernel
theorem dX2_enter_37 : decode cX2_enter 37 = .ok (.aload_n 0, 1) := by decide +kernel
theorem dX2_enter_38 : decode cX2_enter 38 = .ok (.getfield 15, 3) := by decide +kernel
theorem dX2_enter_41 : decode cX2_enter 41 = .ok (.imul, 1) := by decide +kernel
theorem dX2_enter_42 : decode cX2_enter 42 = .ok (.aload_n 0, 1) := by decide +kernel
theorem dX2_enter_43 : decode cX2_enter 43 = .ok (.getfield 22, 3) := by decide +kernel
theorem dX2_enter_46 : decode cX2_enter 46 = .ok (.iload 6, 2) := by decide +kernel
theorem dX2_enter_48 : decode cX2_enter 48 = .ok (.iload_n 2, 1) := by decide +kernel
theorem dX2_enter_49 : decode cX2_enter 49 = .ok (.iadd, 1) := by decide +kernel
theorem dX2_enter_50 : decode cX2_enter 50 = .ok (.iaload, 1) := by decide +kernel
theorem dX2_enter_51 : decode cX2_enter 51 = .ok (.iadd, 1) := by decide +kernel
theorem dX2_enter_52 : decode cX2_enter 52 = .ok (.istore 7, 2) := by decide +kernel
theorem dX2_enter_54 : decode cX2_enter 54 = .ok (.iload 7, 2) := by decide +kernel
theorem dX2_enter_56 : decode cX2_enter 56 = .ok (.iload 5, 2) := by decide +kernel
theorem dX2_enter_58 : decode cX2_enter 58 = .ok (.if_icmp .ge 12, 3) := by decide +kernel
theorem dX2_enter_61 : decode cX2_enter 61 = .ok (.aload_n 0, 1) := by decide +kernel
theorem dX2_enter_62 : decode cX2_enter 62 = .ok (.getfield 26, 3) := by decide +kernel
theorem dX2_enter_65 : decode cX2_enter 65 = .ok (.iload 4, 2) := by decide +kernel
theorem dX2_enter_67 : decode cX2_enter 67 = .ok (.iload 6, 2) := by decide +kernel
theorem dX2_enter_69 : decode cX2_enter 69 = .ok (.iastore, 1) := by decide +kernel
theorem dX2_enter_70 : decode cX2_enter 70 = .ok (.iload 7, 2) := by decide +kernel
theorem dX2_enter_72 : decode cX2_enter 72 = .ok (.iload 5, 2) := by decide +kernel
theorem dX2_enter_74 : decode cX2_enter 74 = .ok (.if_icmp .gt 16, 3) := by decide +kernel
theorem dX2_enter_77 : decode cX2_enter 77 = .ok (.aload_n 0, 1) := by decide +kernel
theorem dX2_enter_78 : decode cX2_enter 78 = .ok (.getfield 29, 3) := by decide +kernel
theorem dX2_enter_81 : decode cX2_enter 81 = .ok (.iload 4, 2) := by decide +kernel
theorem dX2_enter_83 : decode cX2_enter 83 = .ok (.iload 6, 2) := by decide +kernel
theorem dX2_enter_85 : decode cX2_enter 85 = .ok (.iastore, 1) := by decide +kernel
theorem dX2_enter_86 : decode cX2_enter 86 = .ok (.iload 7, 2) := by decide +kernel
theorem dX2_enter_88 : decode cX2_enter 88 = .ok (.istore 5, 2) := by decide +kernel
theorem dX2_enter_90 : decode cX2_enter 90 = .ok (.iload 6, 2) := by decide +kernel
theorem dX2_enter_92 : decode cX2_enter 92 = .ok (.aload_n 0, 1) := by decide +kernel
theorem dX2_enter_93 : decode cX2_enter 93 = .ok (.getfield 15, 3) := by decide +kernel
theorem dX2_enter_96 : decode cX2_enter 96 = .ok (.iadd, 1) := by decide +kernel
theorem dX2_enter_97 : decode cX2_enter 97 = .ok (.istore 6, 2) := by decide +kernel
theorem dX2_enter_99 : decode cX2_enter 99 = .ok (.goto (-82), 3) := by decide +kernel
theorem dX2_enter_102 : decode cX2_enter 102 = .ok (.iload 5, 2) := by decide +kernel
theorem dX2_enter_104 : decode cX2_enter 104 = .ok (.iload 4, 2) := by decide +kernel
theorem dX2_enter_106 : decode cX2_enter 106 = .ok (.if_icmp .ne 47, 3) := by decide +kernel
theorem dX2_enter_109 : decode cX2_enter 109 = .ok (.aload_n 0, 1) := by decide +kernel
theorem dX2_enter_110 : decode cX2_enter 110 = .ok (.getfield 32, 3) := by decide +kernel
theorem dX2_enter_113 : decode cX2_enter 113 = .ok (.aload_n 0, 1) := by decide +kernel
theorem dX2_enter_114 : decode cX2_enter 114 = .ok (.getfield 52, 3) := by decide +kernel
theorem dX2_enter_117 : decode cX2_enter 117 = .ok (.iload_n 1, 1) := by decide +kernel
theorem dX2_enter_118 : decode cX2_enter 118 = .ok (.iastore, 1) := by decide +kernel
theorem dX2_enter_119 : decode cX2_enter 119 = .ok (.aload_n 0, 1) := by decide +kernel
theorem dX2_enter_120 : decode cX2_enter 120 = .ok (.getfield 35, 3) := by decide +kernel
theorem dX2_enter_123 : decode cX2_enter 123 = .ok (.aload_n 0, 1) := by decide +kernel
theorem dX2_enter_124 : decode cX2_enter 124 = .ok (.getfield 52, 3) := by decide +kernel
theorem dX2_enter_127 : decode cX2_enter 127 = .ok (.iload_n 2, 1) := by decide +kernel
theorem dX2_enter_128 : decode cX2_enter 128 = .ok (.iastore, 1) := by decide +kernel
theorem dX2_enter_129 : decode cX2_enter 129 = .ok (.aload_n 0, 1) := by decide +kernel
theorem dX2_enter_130 : decode cX2_enter 130 = .ok (.getfield 23, 3) := by decide +kernel
theorem dX2_enter_133 : decode cX2_enter 133 = .ok (.iload 4, 2) := by decide +kernel
theorem dX2_enter_135 : decode cX2_enter 135 = .ok (.aload_n 0, 1) := by decide +kernel
theorem dX2_enter_136 : decode cX2_enter 136 = .ok (.getfield 52, 3) := by decide +kernel
theorem dX2_enter_139 : decode cX2_enter 139 = .ok (.iastore, 1) := by decide +kernel
theorem dX2_enter_140 : decode cX2_enter 140 = .ok (.aload_n 0, 1) := by decide +kernel
theorem dX2_enter_141 : decode cX2_enter 141 = .ok (.dup, 1) := by decide +kernel
theorem dX2_enter_142 : decode cX2_enter 142 = .ok (.getfield 52, 3) := by decide +kernel
theorem dX2_enter_145 : decode cX2_enter 145 = .ok (.iconst 1, 1) := by decide +kernel
theorem dX2_enter_146 : decode cX2_enter 146 = .ok (.iadd, 1) := by decide +kernel
theorem dX2_enter_147 : decode cX2_enter 147 = .ok (.putfield 52, 3) := by decide +kernel
theorem dX2_enter_150 : decode cX2_enter 150 = .ok (.goto 17, 3) := by decide +kernel
theorem dX2_enter_153 : decode cX2_enter 153 = .ok (.aload_n 0, 1) := by decide +kernel
theorem dX2_enter_154 : decode cX2_enter 154 = .ok (.getfield 23, 3) := by decide +kernel
theorem dX2_enter_157 : decode cX2_enter 157 = .ok (.iload 4, 2) := by decide +kernel
theorem dX2_enter_159 : decode cX2_enter 159 = .ok (.aload_n 0, 1) := by decide +kernel
theorem dX2_enter_160 : decode cX2_enter 160 = .ok (.getfield 23, 3) := by decide +kernel
theorem dX2_enter_163 : decode cX2_enter 163 = .ok (.iload 5, 2) := by decide +kernel
theorem dX2_enter_165 : decode cX2_enter 165 = .ok (.iaload, 1) := by decide +kernel
theorem dX2_enter_166 : decode cX2_enter 166 = .ok (.iastore, 1) := by decide +kernel
theorem dX2_enter_167 : decode cX2_enter 167 = .ok (.return_, 1) := by decide +kernel
theorem dX2_cellOf_0 : decode cX2_cellOf 0 = .ok (.iload_n 1, 1) := by decide +kernel
theorem dX2_cellOf_1 : decode cX2_cellOf 1 = .ok (.aload_n 0, 1) := by decide +kernel
theorem dX2_cellOf_2 : decode cX2_cellOf 2 = .ok (.getfield 15, 3) := by decide +kernel
theorem dX2_cellOf_5 : decode cX2_cellOf 5 = .ok (.imul, 1) := by decide +kernel
theorem dX2_cellOf_6 : decode cX2_cellOf 6 = .ok (.iload_n 2, 1) := by decide +kernel
theorem dX2_cellOf_7 : decode cX2_cellOf 7 = .ok (.iadd, 1) := by decide +kernel
theorem dX2_cellOf_8 : decode cX2_cellOf 8 = .ok (.istore 5, 2) := by decide +kernel
theorem dX2_cellOf_10 : decode cX2_cellOf 10 = .ok (.aload_n 0, 1) := by decide +kernel
theorem dX2_cellOf_11 : decode cX2_cellOf 11 = .ok (.getfield 23, 3) := by decide +kernel
theorem dX2_cellOf_14 : decode cX2_cellOf 14 = .ok (.iload 5, 2) := by decide +kernel
theorem dX2_cellOf_16 : decode cX2_cellOf 16 = .ok (.iaload, 1) := by decide +kernel
theorem dX2_cellOf_17 : decode cX2_cellOf 17 = .ok (.iconst (-1), 1) := by decide +kernel
theorem dX2_cellOf_18 : decode cX2_cellOf 18 = .ok (.if_icmp .ne 5, 3) := by decide +kernel
theorem dX2_cellOf_21 : decode cX2_cellOf 21 = .ok (.iconst (-1), 1) := by decide +kernel
theorem dX2_cellOf_22 : decode cX2_cellOf 22 = .ok (.ireturn, 1) := by decide +kernel
theorem dX2_cellOf_23 : decode cX2_cellOf 23 = .ok (.aload_n 0, 1) := by decide +kernel
theorem dX2_cellOf_24 : decode cX2_cellOf 24 = .ok (.getfield 22, 3) := by decide +kernel
theorem dX2_cellOf_27 : decode cX2_cellOf 27 = .ok (.aload_n 0, 1) := by decide +kernel
theorem dX2_cellOf_28 : decode cX2_cellOf 28 = .ok (.getfield 26, 3) := by decide +kernel
theorem dX2_cellOf_31 : decode cX2_cellOf 31 = .ok (.iload 5, 2) := by decide +kernel
theorem dX2_cellOf_33 : decode cX2_cellOf 33 = .ok (.iaload, 1) := by decide +kernel
theorem dX2_cellOf_34 : decode cX2_cellOf 34 = .ok (.iload_n 3, 1) := by decide +kernel
theorem dX2_cellOf_35 : decode cX2_cellOf 35 = .ok (.iadd, 1) := by decide +kernel
theorem dX2_cellOf_36 : decode cX2_cellOf 36 = .ok (.iaload, 1) := by decide +kernel
theorem dX2_cellOf_37 : decode cX2_cellOf 37 = .ok (.istore 6, 2) := by decide +kernel
theorem dX2_cellOf_39 : decode cX2_cellOf 39 = .ok (.aload_n 0, 1) := by decide +kernel
theorem dX2_cellOf_40 : decode cX2_cellOf 40 = .ok (.getfield 22, 3) := by decide +kernel
theorem dX2_cellOf_43 : decode cX2_cellOf 43 = .ok (.aload_n 0, 1) := by decide +kernel
theorem dX2_cellOf_44 : decode cX2_cellOf 44 = .ok (.getfield 29, 3) := by decide +kernel
theorem dX2_cellOf_47 : decode cX2_cellOf 47 = .ok (.iload 5, 2) := by decide +kernel
theorem dX2_cellOf_49 : decode cX2_cellOf 49 = .ok (.iaload, 1) := by decide +kernel
theorem dX2_cellOf_50 : decode cX2_cellOf 50 = .ok (.iload_n 3, 1) := by decide +kernel
theorem dX2_cellOf_51 : decode cX2_cellOf 51 = .ok (.iadd, 1) := by decide +kernel
theorem dX2_cellOf_52 : decode cX2_cellOf 52 = .ok (.iaload, 1) := by decide +kernel
theorem dX2_cellOf_53 : decode cX2_cellOf 53 = .ok (.istore 7, 2) := by decide +kernel
theorem dX2_cellOf_55 : decode cX2_cellOf 55 = .ok (.aload_n 0, 1) := by decide +kernel
theorem dX2_cellOf_56 : decode cX2_cellOf 56 = .ok (.getfield 23, 3) := by decide +kernel
theorem dX2_cellOf_59 : decode cX2_cellOf 59 = .ok (.iload 5, 2) := by decide +kernel
theorem dX2_cellOf_61 : decode cX2_cellOf 61 = .ok (.iaload, 1) := by decide +kernel
theorem dX2_cellOf_62 : decode cX2_cellOf 62 = .ok (.iload 6, 2) := by decide +kernel
theorem dX2_cellOf_64 : decode cX2_cellOf 64 = .ok (.iload 7, 2) := by decide +kernel
theorem dX2_cellOf_66 : decode cX2_cellOf 66 = .ok (.if_icmp .ge 8, 3) := by decide +kernel
theorem dX2_cellOf_69 : decode cX2_cellOf 69 = .ok (.iload 6, 2) := by decide +kernel
theorem dX2_cellOf_71 : decode cX2_cellOf 71 = .ok (.goto 5, 3) := by decide +kernel
theorem dX2_cellOf_74 : decode cX2_cellOf 74 = .ok (.iload 7, 2) := by decide +kernel
theorem dX2_cellOf_76 : decode cX2_cellOf 76 = .ok (.iload 4, 2) := by decide +kernel
theorem dX2_cellOf_78 : decode cX2_cellOf 78 = .ok (.invokestatic 55, 3) := by decide +kernel
theorem dX2_cellOf_81 : decode cX2_cellOf 81 = .ok (.ireturn, 1) := by decide +kernel
theorem dX3_init_0 : decode cX3_init 0 = .ok (.aload_n 0, 1) := by decide +kernel
theorem dX3_init_1 : decode cX3_init 1 = .ok (.invokespecial 3, 3) := by decide +kernel
theorem dX3_init_4 : decode cX3_init 4 = .ok (.aload_n 0, 1) := by decide +kernel
theorem dX3_init_5 : decode cX3_init 5 = .ok (.bipush 127, 2) := by decide +kernel
theorem dX3_init_7 : decode cX3_init 7 = .ok (.newarray .int, 2) := by decide +kernel
theorem dX3_init_9 : decode cX3_init 9 = .ok (.putfield 9, 3) := by decide +kernel
theorem dX3_init_12 : decode cX3_init 12 = .ok (.aload_n 0, 1) := by decide +kernel
theorem dX3_init_13 : decode cX3_init 13 = .ok (.aload_n 1, 1) := by decide +kernel
theorem dX3_init_14 : decode cX3_init 14 = .ok (.putfield 15, 3) := by decide +kernel
theorem dX3_init_17 : decode cX3_init 17 = .ok (.aload_n 0, 1) := by decide +kernel
theorem dX3_init_18 : decode cX3_init 18 = .ok (.aload_n 2, 1) := by decide +kernel
theorem dX3_init_19 : decode cX3_init 19 = .ok (.putfield 19, 3) := by decide +kernel
theorem dX3_init_22 : decode cX3_init 22 = .ok (.aload_n 0, 1) := by decide +kernel
theorem dX3_init_23 : decode cX3_init 23 = .ok (.aload_n 2, 1) := by decide +kernel
theorem dX3_init_24 : decode cX3_init 24 = .ok (.getfield 23, 3) := by decide +kernel
theorem dX3_init_27 : decode cX3_init 27 = .ok (.putfield 29, 3) := by decide +kernel
theorem dX3_init_30 : decode cX3_init 30 = .ok (.aload_n 0, 1) := by decide +kernel
theorem dX3_init_31 : decode cX3_init 31 = .ok (.aload_n 2, 1) := by decide +kernel
theorem dX3_init_32 : decode cX3_init 32 = .ok (.getfield 30, 3) := by decide +kernel
theorem dX3_init_35 : decode cX3_init 35 = .ok (.putfield 34, 3) := by decide +kernel
theorem dX3_init_38 : decode cX3_init 38 = .ok (.aload_n 0, 1) := by decide +kernel
theorem dX3_init_39 : decode cX3_init 39 = .ok (.aload_n 2, 1) := by decide +kernel
theorem dX3_init_40 : decode cX3_init 40 = .ok (.getfield 35, 3) := by decide +kernel
theorem dX3_init_43 : decode cX3_init 43 = .ok (.putfield 39, 3) := by decide +kernel
theorem dX3_init_46 : decode cX3_init 46 = .ok (.aload_n 0, 1) := by decide +kernel
theorem dX3_init_47 : decode cX3_init 47 = .ok (.aload_n 2, 1) := by decide +kernel
theorem dX3_init_48 : decode cX3_init 48 = .ok (.invokevirtual 40, 3) := by decide +kernel
theorem dX3_init_51 : decode cX3_init 51 = .ok (.newarray .int, 2) := by decide +kernel
theorem dX3_init_53 : decode cX3_init 53 = .ok (.putfield 44, 3) := by decide +kernel
theorem dX3_init_56 : decode cX3_init 56 = .ok (.aload_n 0, 1) := by decide +kernel
theorem dX3_init_57 : decode cX3_init 57 = .ok (.getfield 39, 3) := by decide +kernel
theorem dX3_init_60 : decode cX3_init 60 = .ok (.iconst 2, 1) := by decide +kernel
theorem dX3_init_61 : decode cX3_init 61 = .ok (.if_icmp .ne 18, 3) := by decide +kernel
theorem dX3_init_64 : decode cX3_init 64 = .ok (.aload_n 0, 1) := by decide +kernel
theorem dX3_init_65 : decode cX3_init 65 = .ok (.getfield 29, 3) := by decide +kernel
theorem dX3_init_68 : decode cX3_init 68 = .ok (.getfield 47, 3) := by decide +kernel
theorem dX3_init_71 : decode cX3_init 71 = .ok (.aload_n 1, 1) := by decide +kernel
theorem dX3_init_72 : decode cX3_init 72 = .ok (.getfield 51, 3) := by decide +kernel
theorem dX3_init_75 : decode cX3_init 75 = .ok (.imul, 1) := by decide +kernel
theorem dX3_init_76 : decode cX3_init 76 = .ok (.goto 4, 3) := by decide +kernel
theorem dX3_init_79 : decode cX3_init 79 = .ok (.iconst 0, 1) := by decide +kernel
theorem dX3_init_80 : decode cX3_init 80 = .ok (.istore_n 3, 1) := by decide +kernel
theorem dX3_init_81 : decode cX3_init 81 = .ok (.aload_n 0, 1) := by decide +kernel
theorem dX3_init_82 : decode cX3_init 82 = .ok (.iload_n 3, 1) := by decide +kernel
theorem dX3_init_83 : decode cX3_init 83 = .ok (.newarray .int, 2) := by decide +kernel
theorem dX3_init_85 : decode cX3_init 85 = .ok (.putfield 56, 3) := by decide +kernel
theorem dX3_init_88 : decode cX3_init 88 = .ok (.aload_n 0, 1) := by decide +kernel
theorem dX3_init_89 : decode cX3_init 89 = .ok (.iload_n 3, 1) := by decide +kernel
theorem dX3_init_90 : decode cX3_init 90 = .ok (.newarray .int, 2) := by decide +kernel
theorem dX3_init_92 : decode cX3_init 92 = .ok (.putfield 59, 3) := by decide +kernel
theorem dX3_init_95 : decode cX3_init 95 = .ok (.aload_n 0, 1) := by decide +kernel
theorem dX3_init_96 : decode cX3_init 96 = .ok (.getfield 9, 3) := by decide +kernel
theorem dX3_init_99 : decode cX3_init 99 = .ok (.iconst (-1), 1) := by decide +kernel
theorem dX3_init_100 : decode cX3_init 100 = .ok (.invokestatic 62, 3) := by decide +kernel
theorem dX3_init_103 : decode cX3_init 103 = .ok (.return_, 1) := by decide +kernel
theorem dX3_work_0 : decode cX3_work 0 = .ok (.aload_n 0, 1) := by decide +kernel
theorem dX3_work_1 : decode cX3_work 1 = .ok (.invokevirtual 68, 3) := by decide +kernel
theorem dX3_work_4 : decode cX3_work 4 = .ok (.aload_n 0, 1) := by decide +kernel
theorem dX3_work_5 : decode cX3_work 5 = .ok (.getfield 39, 3) := by decide +kernel
theorem dX3_work_8 : decode cX3_work 8 = .ok (.iconst 2, 1) := by decide +kernel
theorem dX3_work_9 : decode cX3_work 9 = .ok (.if_icmp .ne 17, 3) := by decide +kernel
theorem dX3_work_12 : decode cX3_work 12 = .ok (.aload_n 1, 1) := by decide +kernel
theorem dX3_work_13 : decode cX3_work 13 = .ok (.ifnull 13, 3) := by decide +kernel
theorem dX3_work_16 : decode cX3_work 16 = .ok (.aload_n 2, 1) := by decide +kernel
theorem dX3_work_17 : decode cX3_work 17 = .ok (.ifnull 9, 3) := by decide +kernel
theorem dX3_work_20 : decode cX3_work 20 = .ok (.aload_n 0, 1) := by decide +kernel
theorem dX3_work_21 : decode cX3_work 21 = .ok (.aload_n 1, 1) := by decide +kernel
theorem dX3_work_22 : decode cX3_work 22 = .ok (.aload_n 2, 1) := by decide +kernel
theorem dX3_work_23 : decode cX3_work 23 = .ok (.invokevirtual 71, 3) := by decide +kernel
theorem dX3_work_26 : decode cX3_work 26 = .ok (.iconst 0, 1) := by decide +kernel
theorem dX3_work_27 : decode cX3_work 27 = .ok (.istore_n 3, 1) := by decide +kernel
theorem dX3_work_28 : decode cX3_work 28 = .ok (.iconst 0, 1) := by decide +kernel
theorem dX3_work_29 : decode cX3_work 29 = .ok (.istore 4, 2) := by decide +kernel
theorem dX3_work_31 : decode cX3_work 31 = .ok (.iload 4, 2) := by decide +kernel
theorem dX3_work_33 : decode cX3_work 33 = .ok (.bipush 126, 2) := by decide +kernel
theorem dX3_work_35 : decode cX3_work 35 = .ok (.if_icmp .ge 47, 3) := by decide +kernel
theorem dX3_work_38 : decode cX3_work 38 = .ok (.aload_n 0, 1) := by decide +kernel
theorem dX3_work_39 : decode cX3_work 39 = .ok (.iload 4, 2) := by decide +kernel
theorem dX3_work_41 : decode cX3_work 41 = .ok (.invokevirtual 75, 3) := by decide +kernel
theorem dX3_work_44 : decode cX3_work 44 = .ok (.aload_n 0, 1) := by decide +kernel
theorem dX3_work_45 : decode cX3_work 45 = .ok (.getfield 79, 3) := by decide +kernel
theorem dX3_work_48 : decode cX3_work 48 = .ok (.istore 5, 2) := by decide +kernel
theorem dX3_work_50 : decode cX3_work 50 = .ok (.iload_n 3, 1) := by decide +kernel
theorem dX3_work_51 : decode cX3_work 51 = .ok (.iload 5, 2) := by decide +kernel
theorem dX3_work_53 : decode cX3_work 53 = .ok (.if_icmp .ge 23, 3) := by decide +kernel
theorem dX3_work_56 : decode cX3_work 56 = .ok (.aload_n 0, 1) := by decide +kernel
theorem dX3_work_57 : decode cX3_work 57 = .ok (.aload_n 0, 1) := by decide +kernel
theorem dX3_work_58 : decode cX3_work 58 = .ok (.getfield 44, 3) := by decide +kernel
theorem dX3_work_61 : decode cX3_work 61 = .ok (.iload_n 3, 1) := by decide +kernel
theorem dX3_work_62 : decode cX3_work 62 = .ok (.iaload, 1) := by decide +kernel
theorem dX3_work_63 : decode cX3_work 63 = .ok (.iload 4, 2) := by decide +kernel
theorem dX3_work_65 : decode cX3_work 65 = .ok (.iconst 1, 1) := by decide +kernel
theorem dX3_work_66 : decode cX3_work 66 = .ok (.iadd, 1) := by decide +kernel
theorem dX3_work_67 : decode cX3_work 67 = .ok (.invokevirtual 82, 3) := by decide +kernel
theorem dX3_work_70 : decode cX3_work 70 = .ok (.iinc 3 1, 3) := by decide +kernel
theorem dX3_work_73 : decode cX3_work 73 = .ok (.goto (-23), 3) := by decide +kernel
theorem dX3_work_76 : decode cX3_work 76 = .ok (.iinc 4 1, 3) := by decide +kernel
theorem dX3_work_79 : decode cX3_work 79 = .ok (.goto (-48), 3) := by decide +kernel
theorem dX3_work_82 : decode cX3_work 82 = .ok (.return_, 1) := by decide +kernel
theorem dX3_findMates_0 : decode cX3_findMates 0 = .ok (.iconst 1, 1) := by decide +kernel
theorem dX3_findMates_1 : decode cX3_findMates 1 = .ok (.istore_n 1, 1) := by decide +kernel
theorem dX3_findMates_2 : decode cX3_findMates 2 = .ok (.iload_n 1, 1) := by decide +kernel
theorem dX3_findMates_3 : decode cX3_findMates 3 = .ok (.aload_n 0, 1) := by decide +kernel
theorem dX3_findMates_4 : decode cX3_findMates 4 = .ok (.getfield 34, 3) := by decide +kernel
theorem dX3_findMates_7 : decode cX3_findMates 7 = .ok (.arraylength, 1) := by decide +kernel
theorem dX3_findMates_8 : decode cX3_findMates 8 = .ok (.if_icmp .ge 33, 3) := by decide +kernel
theorem dX3_findMates_11 : decode cX3_findMates 11 = .ok (.aload_n 0, 1) := by decide +kernel
theorem dX3_findMates_12 : decode cX3_findMates 12 = .ok (.getfield 34, 3) := by decide +kernel
theorem dX3_findMates_15 : decode cX3_findMates 15 = .ok (.iload_n 1, 1) := by decide +kernel
theorem dX3_findMates_16 : decode cX3_findMates 16 = .ok (.baload, 1) := by decide +kernel
theorem dX3_findMates_17 : decode cX3_findMates 17 = .ok (.iconst (-1), 1) := by decide +kernel
theorem dX3_findMates_18 : decode cX3_findMates 18 = .ok (.if_icmp .ne 17, 3) := by decide +kernel
theorem dX3_findMates_21 : decode cX3_findMates 21 = .ok (.aload_n 0, 1) := by decide +kernel
theorem dX3_findMates_22 : decode cX3_findMates 22 = .ok (.iload_n 1, 1) := by decide +kernel
theorem dX3_findMates_23 : decode cX3_findMates 23 = .ok (.invokevirtual 86, 3) := by decide +kernel
theorem dX3_findMates_26 : decode cX3_findMates 26 = .ok (.ifCond .eq 9, 3) := by decide +kernel
theorem dX3_findMates_29 : decode cX3_findMates 29 = .ok (.aload_n 0, 1) := by decide +kernel
theorem dX3_findMates_30 : decode cX3_findMates 30 = .ok (.iload_n 1, 1) := by decide +kernel
theorem dX3_findMates_31 : decode cX3_findMates 31 = .ok (.iconst 0, 1) := by decide +kernel
theorem dX3_findMates_32 : decode cX3_findMates 32 = .ok (.invokevirtual 90, 3) := by decide +kernel
theorem dX3_findMates_35 : decode cX3_findMates 35 = .ok (.iinc 1 2, 3) := by decide +kernel
theorem dX3_findMates_38 : decode cX3_findMates 38 = .ok (.goto (-36), 3) := by decide +kernel
theorem dX3_findMates_41 : decode cX3_findMates 41 = .ok (.return_, 1) := by decide +kernel
theorem dX3_isMate_0 : decode cX3_isMate 0 = .ok (.aload_n 0, 1) := by decide +kernel
theorem dX3_isMate_1 : decode cX3_isMate 1 = .ok (.getfield 29, 3) := by decide +kernel
theorem dX3_isMate_4 : decode cX3_isMate 4 = .ok (.getfield 93, 3) := by decide +kernel
theorem dX3_isMate_7 : decode cX3_isMate 7 = .ok (.iload_n 1, 1) := by decide +kernel
theorem dX3_isMate_8 : decode cX3_isMate 8 = .ok (.invokestatic 96, 3) := by decide +kernel
theorem dX3_isMate_11 : decode cX3_isMate 11 = .ok (.iaload, 1) := by decide +kernel
theorem dX3_isMate_12 : decode cX3_isMate 12 = .ok (.istore_n 2, 1) := by decide +kernel
theorem dX3_isMate_13 : decode cX3_isMate 13 = .ok (.aload_n 0, 1) := by decide +kernel
theorem dX3_isMate_14 : decode cX3_isMate 14 = .ok (.getfield 29, 3) := by decide +kernel
theorem dX3_isMate_17 : decode cX3_isMate 17 = .ok (.getfield 100, 3) := by decide +kernel
theorem dX3_isMate_20 : decode cX3_isMate 20 = .ok (.iload_n 1, 1) := by decide +kernel
theorem dX3_isMate_21 : decode cX3_isMate 21 = .ok (.invokestatic 96, 3) := by decide +kernel
theorem dX3_isMate_24 : decode cX3_isMate 24 = .ok (.iaload, 1) := by decide +kernel
theorem dX3_isMate_25 : decode cX3_isMate 25 = .ok (.istore_n 3, 1) := by decide +kernel
theorem dX3_isMate_26 : decode cX3_isMate 26 = .ok (.iload_n 1, 1) := by decide +kernel
theorem dX3_isMate_27 : decode cX3_isMate 27 = .ok (.invokestatic 103, 3) := by decide +kernel
theorem dX3_isMate_30 : decode cX3_isMate 30 = .ok (.istore 4, 2) := by decide +kernel
theorem dX3_isMate_32 : decode cX3_isMate 32 = .ok (.aload_n 0, 1) := by decide +kernel
theorem dX3_isMate_33 : decode cX3_isMate 33 = .ok (.getfield 15, 3) := by decide +kernel
theorem dX3_isMate_36 : decode cX3_isMate 36 = .ok (.aload_n 0, 1) := by decide +kernel
theorem dX3_isMate_37 : decode cX3_isMate 37 = .ok (.getfield 39, 3) := by decide +kernel
theorem dX3_isMate_40 : decode cX3_isMate 40 = .ok (.iload_n 2, 1) := by decide +kernel
theorem dX3_isMate_41 : decode cX3_isMate 41 = .ok (.iload_n 3, 1) := by decide +kernel
theorem dX3_isMate_42 : decode cX3_isMate 42 = .ok (.iload 4, 2) := by decide +kernel
theorem dX3_isMate_44 : decode cX3_isMate 44 = .ok (.invokevirtual 106, 3) := by decide +kernel
theorem dX3_isMate_47 : decode cX3_isMate 47 = .ok (.ifCond .eq 27, 3) := by decide +kernel
theorem dX3_isMate_50 : decode cX3_isMate 50 = .ok (.aload_n 0, 1) := by decide +kernel
theorem dX3_isMate_51 : decode cX3_isMate 51 = .ok (.getfield 15, 3) := by decide +kernel
theorem dX3_isMate_54 : decode cX3_isMate 54 = .ok (.aload_n 0, 1) := by decide +kernel
theorem dX3_isMate_55 : decode cX3_isMate 55 = .ok (.getfield 39, 3) := by decide +kernel
theorem dX3_isMate_58 : decode cX3_isMate 58 = .ok (.iload_n 2, 1) := by decide +kernel
theorem dX3_isMate_59 : decode cX3_isMate 59 = .ok (.iload_n 3, 1) := by decide +kernel
theorem dX3_isMate_60 : decode cX3_isMate 60 = .ok (.iload 4, 2) := by decide +kernel
theorem dX3_isMate_62 : decode cX3_isMate 62 = .ok (.invokevirtual 110, 3) := by decide +kernel
theorem dX3_isMate_65 : decode cX3_isMate 65 = .ok (.lconst 0, 1) := by decide +kernel
theorem dX3_isMate_66 : decode cX3_isMate 66 = .ok (.lcmp, 1) := by decide +kernel
theorem dX3_isMate_67 : decode cX3_isMate 67 = .ok (.ifCond .ne 7, 3) := by decide +kernel
theorem dX3_isMate_70 : decode cX3_isMate 70 = .ok (.iconst 1, 1) := by decide +kernel
theorem dX3_isMate_71 : decode cX3_isMate 71 = .ok (.goto 4, 3) := by decide +kernel
theorem dX3_isMate_74 : decode cX3_isMate 74 = .ok (.iconst 0, 1) := by decide +kernel
theorem dX3_isMate_75 : decode cX3_isMate 75 = .ok (.ireturn, 1) := by decide +kernel
theorem dX3_findPromotions_0 : decode cX3_findPromotions 0 = .ok (.iconst 0, 1) := by decide +kernel
theorem dX3_findPromotions_1 : decode cX3_findPromotions 1 = .ok (.istore_n 3, 1) := by decide +kernel
theorem dX3_findPromotions_2 : decode cX3_findPromotions 2 = .ok (.iload_n 3, 1) := by decide +kernel
theorem dX3_findPromotions_3 : decode cX3_findPromotions 3 = .ok (.aload_n 0, 1) := by decide +kernel
theorem dX3_findPromotions_4 : decode cX3_findPromotions 4 = .ok (.getfield 29, 3) := by decide +kernel
theorem dX3_findPromotions_7 : decode cX3_findPromotions 7 = .ok (.getfield 47, 3) := by decide +kernel
theorem dX3_findPromotions_10 : decode cX3_findPromotions 10 = .ok (.if_icmp .ge 147, 3) := by decide +kernel
theorem dX3_findPromotions_13 : decode cX3_findPromotions 13 = .ok (.aload_n 0, 1) := by decide +kernel
theorem dX3_findPromotions_14 : decode cX3_findPromotions 14 = .ok (.getfield 29, 3) := by decide +kernel
theorem dX3_findPromotions_17 : decode cX3_findPromotions 17 = .ok (.getfield 93, 3) := by decide +kernel
theorem dX3_findPromotions_20 : decode cX3_findPromotions 20 = .ok (.iload_n 3, 1) := by decide +kernel
theorem dX3_findPromotions_21 : decode cX3_findPromotions 21 = .ok (.iaload, 1) := by decide +kernel
theorem dX3_findPromotions_22 : decode cX3_findPromotions 22 = .ok (.istore 4, 2) := by decide +kernel
theorem dX3_findPromotions_24 : decode cX3_findPromotions 24 = .ok (.aload_n 0, 1) := by decide +kernel
theorem dX3_findPromotions_25 : decode cX3_findPromotions 25 = .ok (.getfield 29, 3) := by decide +kernel
theorem dX3_findPromotions_28 : decode cX3_findPromotions 28 = .ok (.getfield 100, 3) := by decide +kernel
theorem dX3_findPromotions_31 : decode cX3_findPromotions 31 = .ok (.iload_n 3, 1) := by decide +kernel
theorem dX3_findPromotions_32 : decode cX3_findPromotions 32 = .ok (.iaload, 1) := by decide +kernel
theorem dX3_findPromotions_33 : decode cX3_findPromotions 33 = .ok (.istore 5, 2) := by decide +kernel
theorem dX3_findPromotions_35 : decode cX3_findPromotions 35 = .ok (.aload_n 0, 1) := by decide +kernel
theorem dX3_findPromotions_36 : decode cX3_findPromotions 36 = .ok (.getfield 15, 3) := by decide +kernel
theorem dX3_findPromotions_39 : decode cX3_findPromotions 39 = .ok (.getfield 114, 3) := by decide +kernel
theorem dX3_findPromotions_42 : decode cX3_findPromotions 42 = .ok (.aload_n 0, 1) := by decide +kernel
theorem dX3_findPromotions_43 : decode cX3_findPromotions 43 = .ok (.getfield 15, 3) := by decide +kernel
theorem dX3_findPromotions_46 : decode cX3_findPromotions 46 = .ok (.getfield 51, 3) := by decide +kernel
theorem dX3_findPromotions_49 : decode cX3_findPromotions 49 = .ok (.isub, 1) := by decide +kernel
theorem dX3_findPromotions_50 : decode cX3_findPromotions 50 = .ok (.istore 6, 2) := by decide +kernel
theorem dX3_findPromotions_52 : decode cX3_findPromotions 52 = .ok (.iload 6, 2) := by decide +kernel
theorem dX3_findPromotions_54 : decode cX3_findPromotions 54 = .ok (.aload_n 0, 1) := by decide +kernel
theorem dX3_findPromotions_55 : decode cX3_findPromotions 55 = .ok (.getfield 15, 3) := by decide +kernel
theorem dX3_findPromotions_58 : decode cX3_findPromotions 58 = .ok (.getfield 114, 3) := by decide +kernel
theorem dX3_findPromotions_61 : decode cX3_findPromotions 61 = .ok (.if_icmp .ge 90, 3) := by decide +kernel
theorem dX3_findPromotions_64 : decode cX3_findPromotions 64 = .ok (.iload_n 3, 1) := by decide +kernel
theorem dX3_findPromotions_65 : decode cX3_findPromotions 65 = .ok (.iload 6, 2) := by decide +kernel
theorem dX3_findPromotions_67 : decode cX3_findPromotions 67 = .ok (.aload_n 0, 1) := by decide +kernel
theorem dX3_findPromotions_68 : decode cX3_findPromotions 68 = .ok (.getfield 15, 3) := by decide +kernel
theorem dX3_findPromotions_71 : decode cX3_findPromotions 71 = .ok (.getfield 51, 3) := by decide +kernel
theorem dX3_findPromotions_74 : decode cX3_findPromotions 74 = .ok (.isub, 1) := by decide +kernel
theorem dX3_findPromotions_75 : decode cX3_findPromotions 75 = .ok (.iconst 0, 1) := by decide +kernel
theorem dX3_findPromotions_76 : decode cX3_findPromotions 76 = .ok (.invokestatic 117, 3) := by decide +kernel
theorem dX3_findPromotions_79 : decode cX3_findPromotions 79 = .ok (.istore 7, 2) := by decide +kernel
theorem dX3_findPromotions_81 : decode cX3_findPromotions 81 = .ok (.aload_n 0, 1) := by decide +kernel
theorem dX3_findPromotions_82 : decode cX3_findPromotions 82 = .ok (.getfield 34, 3) := by decide +kernel
theorem dX3_findPromotions_85 : decode cX3_findPromotions 85 = .ok (.iload 7, 2) := by decide +kernel
theorem dX3_findPromotions_87 : decode cX3_findPromotions 87 = .ok (.baload, 1) := by decide +kernel
theorem dX3_findPromotions_88 : decode cX3_findPromotions 88 = .ok (.iconst (-1), 1) := by decide +kernel
theorem dX3_findPromotions_89 : decode cX3_findPromotions 89 = .ok (.if_icmp .ne 56, 3) := by decide +kernel
theorem dX3_findPromotions_92 : decode cX3_findPromotions 92 = .ok (.iload 6, 2) := by decide +kernel
theorem dX3_findPromotions_94 : decode cX3_findPromotions 94 = .ok (.iload 4, 2) := by decide +kernel
theorem dX3_findPromotions_96 : decode cX3_findPromotions 96 = .ok (.if_icmp .eq 49, 3) := by decide +kernel
theorem dX3_findPromotions_99 : decode cX3_findPromotions 99 = .ok (.iload 6, 2) := by decide +kernel
theorem dX3_findPromotions_101 : decode cX3_findPromotions 101 = .ok (.iload 5, 2) := by decide +kernel
theorem dX3_findPromotions_103 : decode cX3_findPromotions 103 = .ok (.if_icmp .eq 42, 3) := by decide +kernel
theorem dX3_findPromotions_106 : decode cX3_findPromotions 106 = .ok (.aload_n 1, 1) := by decide +kernel
theorem dX3_findPromotions_107 : decode cX3_findPromotions 107 = .ok (.iload 4, 2) := by decide +kernel
theorem dX3_findPromotions_109 : decode cX3_findPromotions 109 = .ok (.iload 5, 2) := by decide +kernel
theorem dX3_findPromotions_111 : decode cX3_findPromotions 111 = .ok (.iload 6, 2) := by decide +kernel
theorem dX3_findPromotions_113 : decode cX3_findPromotions 113 = .ok (.iconst 1, 1) := by decide +kernel
theorem dX3_findPromotions_114 : decode cX3_findPromotions 114 = .ok (.invokevirtual 121, 3) := by decide +kernel
theorem dX3_findPromotions_117 : decode cX3_findPromotions 117 = .ok (.istore 8, 2) := by decide +kernel
theorem dX3_findPromotions_119 : decode cX3_findPromotions 119 = .ok (.aload_n 2, 1) := by decide +kernel
theorem dX3_findPromotions_120 : decode cX3_findPromotions 120 = .ok (.iload 4, 2) := by decide +kernel
theorem dX3_findPromotions_122 : decode cX3_findPromotions 122 = .ok (.iload 5, 2) := by decide +kernel
theorem dX3_findPromotions_124 : decode cX3_findPromotions 124 = .ok (.iload 6, 2) := by decide +kernel
theorem dX3_findPromotions_126 : decode cX3_findPromotions 126 = .ok (.iconst 1, 1) := by decide +kernel
theorem dX3_findPromotions_127 : decode cX3_findPromotions 127 = .ok (.invokevirtual 121, 3) := by decide +kernel
theorem dX3_findPromotions_130 : decode cX3_findPromotions 130 = .ok (.istore 9, 2) := by decide +kernel
theorem dX3_findPromotions_132 : decode cX3_findPromotions 132 = .ok (.aload_n 0, 1) := by decide +kernel
theorem dX3_findPromotions_133 : decode cX3_findPromotions 133 = .ok (.iload 7, 2) := by decide +kernel
theorem dX3_findPromotions_135 : decode cX3_findPromotions 135 = .ok (.iload 8, 2) := by decide +kernel
theorem dX3_findPromotions_137 : decode cX3_findPromotions 137 = .ok (.iload 9, 2) := by decide +kernel
theorem dX3_findPromotions_139 : decode cX3_findPromotions 139 = .ok (.invokestatic 125, 3) := by decide +kernel
theorem dX3_findPromotions_142 : decode cX3_findPromotions 142 = .ok (.invokevirtual 129, 3) := by decide +kernel
theorem dX3_findPromotions_145 : decode cX3_findPromotions 145 = .ok (.iinc 6 1, 3) := by decide +kernel
theorem dX3_findPromotions_148 : decode cX3_findPromotions 148 = .ok (.goto (-96), 3) := by decide +kernel
theorem dX3_findPromotions_151 : decode cX3_findPromotions 151 = .ok (.iinc 3 1, 3) := by decide +kernel
theorem dX3_findPromotions_154 : decode cX3_findPromotions 154 = .ok (.goto (-152), 3) := by decide +kernel
theorem dX3_findPromotions_157 : decode cX3_findPromotions 157 = .ok (.return_, 1) := by decide +kernel
theorem dX3_lesserDistance_0 : decode cX3_lesserDistance 0 = .ok (.iload_n 0, 1) := by decide +kernel
theorem dX3_lesserDistance_1 : decode cX3_lesserDistance 1 = .ok (.iconst (-1), 1) := by decide +kernel
theorem dX3_lesserDistance_2 : decode cX3_lesserDistance 2 = .ok (.if_icmp .eq 8, 3) := by decide +kernel
theorem dX3_lesserDistance_5 : decode cX3_lesserDistance 5 = .ok (.iload_n 1, 1) := by decide +kernel
theorem dX3_lesserDistance_6 : decode cX3_lesserDistance 6 = .ok (.iconst (-1), 1) := by decide +kernel
theorem dX3_lesserDistance_7 : decode cX3_lesserDistance 7 = .ok (.if_icmp .ne 9, 3) := by decide +kernel
theorem dX3_lesserDistance_10 : decode cX3_lesserDistance 10 = .ok (.iload_n 0, 1) := by decide +kernel
theorem dX3_lesserDistance_11 : decode cX3_lesserDistance 11 = .ok (.iload_n 1, 1) := by decide +kernel
theorem dX3_lesserDistance_12 : decode cX3_lesserDistance 12 = .ok (.invokestatic 132, 3) := by decide +kernel
theorem dX3_lesserDistance_15 : decode cX3_lesserDistance 15 = .ok (.ireturn, 1) := by decide +kernel
theorem dX3_lesserDistance_16 : decode cX3_lesserDistance 16 = .ok (.iload_n 0, 1) := by decide +kernel
theorem dX3_lesserDistance_17 : decode cX3_lesserDistance 17 = .ok (.iload_n 1, 1) := by decide +kernel
theorem dX3_lesserDistance_18 : decode cX3_lesserDistance 18 = .ok (.invokestatic 137, 3) := by decide +kernel
theorem dX3_lesserDistance_21 : decode cX3_lesserDistance 21 = .ok (.ireturn, 1) := by decide +kernel
theorem dX3_chainPromotion_0 : decode cX3_chainPromotion 0 = .ok (.iload_n 2, 1) := by decide +kernel
theorem dX3_chainPromotion_1 : decode cX3_chainPromotion 1 = .ok (.iconst (-1), 1) := by decide +kernel
theorem dX3_chainPromotion_2 : decode cX3_chainPromotion 2 = .ok (.if_icmp .eq 21, 3) := by decide +kernel
theorem dX3_chainPromotion_5 : decode cX3_chainPromotion 5 = .ok (.iload_n 2, 1) := by decide +kernel
theorem dX3_chainPromotion_6 : decode cX3_chainPromotion 6 = .ok (.bipush 126, 2) := by decide +kernel
theorem dX3_chainPromotion_8 : decode cX3_chainPromotion 8 = .ok (.if_icmp .ge 15, 3) := by decide +kernel
theorem dX3_chainPromotion_11 : decode cX3_chainPromotion 11 = .ok (.aload_n 0, 1) := by decide +kernel
theorem dX3_chainPromotion_12 : decode cX3_chainPromotion 12 = .ok (.getfield 140, 3) := by decide +kernel
theorem dX3_chainPromotion_15 : decode cX3_chainPromotion 15 = .ok (.aload_n 0, 1) := by decide +kernel
theorem dX3_chainPromotion_16 : decode cX3_chainPromotion 16 = .ok (.getfield 59, 3) := by decide +kernel
theorem dX3_chainPromotion_19 : decode cX3_chainPromotion 19 = .ok (.arraylength, 1) := by decide +kernel
theorem dX3_chainPromotion_20 : decode cX3_chainPromotion 20 = .ok (.if_icmp .lt 4, 3) := by decide +kernel
theorem dX3_chainPromotion_23 : decode cX3_chainPromotion 23 = .ok (.return_, 1) := by decide +kernel
theorem dX3_chainPromotion_24 : decode cX3_chainPromotion 24 = .ok (.aload_n 0, 1) := by decide +kernel
theorem dX3_chainPromotion_25 : decode cX3_chainPromotion 25 = .ok (.getfield 59, 3) := by decide +kernel
theorem dX3_chainPromotion_28 : decode cX3_chainPromotion 28 = .ok (.aload_n 0, 1) := by decide +kernel
theorem dX3_chainPromotion_29 : decode cX3_chainPromotion 29 = .ok (.getfield 140, 3) := by decide +kernel
theorem dX3_chainPromotion_32 : decode cX3_chainPromotion 32 = .ok (.iload_n 1, 1) := by decide +kernel
theorem dX3_chainPromotion_33 : decode cX3_chainPromotion 33 = .ok (.iastore, 1) := by decide +kernel
theorem dX3_chainPromotion_34 : decode cX3_chainPromotion 34 = .ok (.aload_n 0, 1) := by decide +kernel
theorem dX3_chainPromotion_35 : decode cX3_chainPromotion 35 = .ok (.getfield 56, 3) := by decide +kernel
theorem dX3_chainPromotion_38 : decode cX3_chainPromotion 38 = .ok (.aload_n 0, 1) := by decide +kernel
theorem dX3_chainPromotion_39 : decode cX3_chainPromotion 39 = .ok (.getfield 140, 3) := by decide +kernel
theorem dX3_chainPromotion_42 : decode cX3_chainPromotion 42 = .ok (.aload_n 0, 1) := by decide +kernel
theorem dX3_chainPromotion_43 : decode cX3_chainPromotion 43 = .ok (.getfield 9, 3) := by decide +kernel
theorem dX3_chainPromotion_46 : decode cX3_chainPromotion 46 = .ok (.iload_n 2, 1) := by decide +kernel
theorem dX3_chainPromotion_47 : decode cX3_chainPromotion 47 = .ok (.iconst 1, 1) := by decide +kernel
theorem dX3_chainPromotion_48 : decode cX3_chainPromotion 48 = .ok (.iadd, 1) := by decide +kernel
theorem dX3_chainPromotion_49 : decode cX3_chainPromotion 49 = .ok (.iaload, 1) := by decide +kernel
theorem dX3_chainPromotion_50 : decode cX3_chainPromotion 50 = .ok (.iastore, 1) := by decide +kernel
theorem dX3_chainPromotion_51 : decode cX3_chainPromotion 51 = .ok (.aload_n 0, 1) := by decide +kernel
theorem dX3_chainPromotion_52 : decode cX3_chainPromotion 52 = .ok (.getfield 9, 3) := by decide +kernel
theorem dX3_chainPromotion_55 : decode cX3_chainPromotion 55 = .ok (.iload_n 2, 1) := by decide +kernel
theorem dX3_chainPromotion_56 : decode cX3_chainPromotion 56 = .ok (.iconst 1, 1) := by decide +kernel
theorem dX3_chainPromotion_57 : decode cX3_chainPromotion 57 = .ok (.iadd, 1) := by decide +kernel
theorem dX3_chainPromotion_58 : decode cX3_chainPromotion 58 = .ok (.aload_n 0, 1) := by decide +kernel
theorem dX3_chainPromotion_59 : decode cX3_chainPromotion 59 = .ok (.getfield 140, 3) := by decide +kernel
theorem dX3_chainPromotion_62 : decode cX3_chainPromotion 62 = .ok (.iastore, 1) := by decide +kernel
theorem dX3_chainPromotion_63 : decode cX3_chainPromotion 63 = .ok (.aload_n 0, 1) := by decide +kernel
theorem dX3_chainPromotion_64 : decode cX3_chainPromotion 64 = .ok (.dup, 1) := by decide +kernel
theorem dX3_chainPromotion_65 : decode cX3_chainPromotion 65 = .ok (.getfield 140, 3) := by decide +kernel
theorem dX3_chainPromotion_68 : decode cX3_chainPromotion 68 = .ok (.iconst 1, 1) := by decide +kernel
theorem dX3_chainPromotion_69 : decode cX3_chainPromotion 69 = .ok (.iadd, 1) := by decide +kernel
theorem dX3_chainPromotion_70 : decode cX3_chainPromotion 70 = .ok (.putfield 140, 3) := by decide +kernel
theorem dX3_chainPromotion_73 : decode cX3_chainPromotion 73 = .ok (.return_, 1) := by decide +kernel
theorem dX3_settlePromotions_0 : decode cX3_settlePromotions 0 = .ok (.aload_n 0, 1) := by decide +kernel
theorem dX3_settlePromotions_1 : decode cX3_settlePromotions 1 = .ok (.getfield 9, 3) := by decide +kernel
theorem dX3_settlePromotions_4 : decode cX3_settlePromotions 4 = .ok (.iload_n 1, 1) := by decide +kernel
theorem dX3_settlePromotions_5 : decode cX3_settlePromotions 5 = .ok (.iaload, 1) := by decide +kernel
theorem dX3_settlePromotions_6 : decode cX3_settlePromotions 6 = .ok (.istore_n 2, 1) := by decide +kernel
theorem dX3_settlePromotions_7 : decode cX3_settlePromotions 7 = .ok (.aload_n 0, 1) := by decide +kernel
theorem dX3_settlePromotions_8 : decode cX3_settlePromotions 8 = .ok (.getfield 140, 3) := by decide +kernel
theorem dX3_settlePromotions_11 : decode cX3_settlePromotions 11 = .ok (.istore_n 3, 1) := by decide +kernel
theorem dX3_settlePromotions_12 : decode cX3_settlePromotions 12 = .ok (.iload_n 3, 1) := by decide +kernel
theorem dX3_settlePromotions_13 : decode cX3_settlePromotions 13 = .ok (.ifCond .le 32, 3) := by decide +kernel
theorem dX3_settlePromotions_16 : decode cX3_settlePromotions 16 = .ok (.iload_n 2, 1) := by decide +kernel
theorem dX3_settlePromotions_17 : decode cX3_settlePromotions 17 = .ok (.iconst (-1), 1) := by decide +kernel
theorem dX3_settlePromotions_18 : decode cX3_settlePromotions 18 = .ok (.if_icmp .eq 27, 3) := by decide +kernel
theorem dX3_settlePromotions_21 : decode cX3_settlePromotions 21 = .ok (.aload_n 0, 1) := by decide +kernel
theorem dX3_settlePromotions_22 : decode cX3_settlePromotions 22 = .ok (.aload_n 0, 1) := by decide +kernel
theorem dX3_settlePromotions_23 : decode cX3_settlePromotions 23 = .ok (.getfield 59, 3) := by decide +kernel
theorem dX3_settlePromotions_26 : decode cX3_settlePromotions 26 = .ok (.iload_n 2, 1) := by decide +kernel
theorem dX3_settlePromotions_27 : decode cX3_settlePromotions 27 = .ok (.iaload, 1) := by decide +kernel
theorem dX3_settlePromotions_28 : decode cX3_settlePromotions 28 = .ok (.iload_n 1, 1) := by decide +kernel
theorem dX3_settlePromotions_29 : decode cX3_settlePromotions 29 = .ok (.invokevirtual 90, 3) := by decide +kernel
theorem dX3_settlePromotions_32 : decode cX3_settlePromotions 32 = .ok (.aload_n 0, 1) := by decide +kernel
theorem dX3_settlePromotions_33 : decode cX3_settlePromotions 33 = .ok (.getfield 56, 3) := by decide +kernel
theorem dX3_settlePromotions_36 : decode cX3_settlePromotions 36 = .ok (.iload_n 2, 1) := by decide +kernel
theorem dX3_settlePromotions_37 : decode cX3_settlePromotions 37 = .ok (.iaload, 1) := by decide +kernel
theorem dX3_settlePromotions_38 : decode cX3_settlePromotions 38 = .ok (.istore_n 2, 1) := by decide +kernel
theorem dX3_settlePromotions_39 : decode cX3_settlePromotions 39 = .ok (.iinc 3 (-1), 3) := by decide +kernel
theorem dX3_settlePromotions_42 : decode cX3_settlePromotions 42 = .ok (.goto (-30), 3) := by decide +kernel
theorem dX3_settlePromotions_45 : decode cX3_settlePromotions 45 = .ok (.return_, 1) := by decide +kernel
theorem dX3_settle_0 : decode cX3_settle 0 = .ok (.iload_n 1, 1) := by decide +kernel
theorem dX3_settle_1 : decode cX3_settle 1 = .ok (.iconst (-1), 1) := by decide +kernel
theorem dX3_settle_2 : decode cX3_settle 2 = .ok (.if_icmp .eq 53, 3) := by decide +kernel
theorem dX3_settle_5 : decode cX3_settle 5 = .ok (.aload_n 0, 1) := by decide +kernel
theorem dX3_settle_6 : decode cX3_settle 6 = .ok (.getfield 34, 3) := by decide +kernel
theorem dX3_settle_9 : decode cX3_settle 9 = .ok (.iload_n 1, 1) := by decide +kernel
theorem dX3_settle_10 : decode cX3_settle 10 = .ok (.baload, 1) := by decide +kernel
theorem dX3_settle_11 : decode cX3_settle 11 = .ok (.iconst (-1), 1) := by decide +kernel
theorem dX3_settle_12 : decode cX3_settle 12 = .ok (.if_icmp .ne 43, 3) := by decide +kernel
theorem dX3_settle_15 : decode cX3_settle 15 = .ok (.aload_n 0, 1) := by decide +kernel
theorem dX3_settle_16 : decode cX3_settle 16 = .ok (.getfield 79, 3) := by decide +kernel
theorem dX3_settle_19 : decode cX3_settle 19 = .ok (.aload_n 0, 1) := by decide +kernel
theorem dX3_settle_20 : decode cX3_settle 20 = .ok (.getfield 44, 3) := by decide +kernel
theorem dX3_settle_23 : decode cX3_settle 23 = .ok (.arraylength, 1) := by decide +kernel
theorem dX3_settle_24 : decode cX3_settle 24 = .ok (.if_icmp .ge 31, 3) := by decide +kernel
theorem dX3_settle_27 : decode cX3_settle 27 = .ok (.aload_n 0, 1) := by decide +kernel
theorem dX3_settle_28 : decode cX3_settle 28 = .ok (.getfield 34, 3) := by decide +kernel
theorem dX3_settle_31 : decode cX3_settle 31 = .ok (.iload_n 1, 1) := by decide +kernel
theorem dX3_settle_32 : decode cX3_settle 32 = .ok (.iload_n 2, 1) := by decide +kernel
theorem dX3_settle_33 : decode cX3_settle 33 = .ok (.i2b, 1) := by decide +kernel
theorem dX3_settle_34 : decode cX3_settle 34 = .ok (.bastore, 1) := by decide +kernel
theorem dX3_settle_35 : decode cX3_settle 35 = .ok (.aload_n 0, 1) := by decide +kernel
theorem dX3_settle_36 : decode cX3_settle 36 = .ok (.getfield 44, 3) := by decide +kernel
theorem dX3_settle_39 : decode cX3_settle 39 = .ok (.aload_n 0, 1) := by decide +kernel
theorem dX3_settle_40 : decode cX3_settle 40 = .ok (.getfield 79, 3) := by decide +kernel
theorem dX3_settle_43 : decode cX3_settle 43 = .ok (.iload_n 1, 1) := by decide +kernel
theorem dX3_settle_44 : decode cX3_settle 44 = .ok (.iastore, 1) := by decide +kernel
theorem dX3_settle_45 : decode cX3_settle 45 = .ok (.aload_n 0, 1) := by decide +kernel
theorem dX3_settle_46 : decode cX3_settle 46 = .ok (.dup, 1) := by decide +kernel
theorem dX3_settle_47 : decode cX3_settle 47 = .ok (.getfield 79, 3) := by decide +kernel
theorem dX3_settle_50 : decode cX3_settle 50 = .ok (.iconst 1, 1) := by decide +kernel
theorem dX3_settle_51 : decode cX3_settle 51 = .ok (.iadd, 1) := by decide +kernel
theorem dX3_settle_52 : decode cX3_settle 52 = .ok (.putfield 79, 3) := by decide +kernel
theorem dX3_settle_55 : decode cX3_settle 55 = .ok (.return_, 1) := by decide +kernel
theorem dX3_goBackFrom_0 : decode cX3_goBackFrom 0 = .ok (.aload_n 0, 1) := by decide +kernel
theorem dX3_goBackFrom_1 : decode cX3_goBackFrom 1 = .ok (.getfield 29, 3) := by decide +kernel
theorem dX3_goBackFrom_4 : decode cX3_goBackFrom 4 = .ok (.getfield 93, 3) := by decide +kernel
theorem dX3_goBackFrom_7 : decode cX3_goBackFrom 7 = .ok (.iload_n 1, 1) := by decide +kernel
theorem dX3_goBackFrom_8 : decode cX3_goBackFrom 8 = .ok (.invokestatic 96, 3) := by decide +kernel
theorem dX3_goBackFrom_11 : decode cX3_goBackFrom 11 = .ok (.iaload, 1) := by decide +kernel
theorem dX3_goBackFrom_12 : decode cX3_goBackFrom 12 = .ok (.istore_n 3, 1) := by decide +kernel
theorem dX3_goBackFrom_13 : decode cX3_goBackFrom 13 = .ok (.aload_n 0, 1) := by decide +kernel
theorem dX3_goBackFrom_14 : decode cX3_goBackFrom 14 = .ok (.getfield 29, 3) := by decide +kernel
theorem dX3_goBackFrom_17 : decode cX3_goBackFrom 17 = .ok (.getfield 100, 3) := by decide +kernel
theorem dX3_goBackFrom_20 : decode cX3_goBackFrom 20 = .ok (.iload_n 1, 1) := by decide +kernel
theorem dX3_goBackFrom_21 : decode cX3_goBackFrom 21 = .ok (.invokestatic 96, 3) := by decide +kernel
theorem dX3_goBackFrom_24 : decode cX3_goBackFrom 24 = .ok (.iaload, 1) := by decide +kernel
theorem dX3_goBackFrom_25 : decode cX3_goBackFrom 25 = .ok (.istore 4, 2) := by decide +kernel
theorem dX3_goBackFrom_27 : decode cX3_goBackFrom 27 = .ok (.iload_n 1, 1) := by decide +kernel
theorem dX3_goBackFrom_28 : decode cX3_goBackFrom 28 = .ok (.invokestatic 103, 3) := by decide +kernel
theorem dX3_goBackFrom_31 : decode cX3_goBackFrom 31 = .ok (.istore 5, 2) := by decide +kernel
theorem dX3_goBackFrom_33 : decode cX3_goBackFrom 33 = .ok (.iload_n 1, 1) := by decide +kernel
theorem dX3_goBackFrom_34 : decode cX3_goBackFrom 34 = .ok (.invokestatic 143, 3) := by decide +kernel
theorem dX3_goBackFrom_37 : decode cX3_goBackFrom 37 = .ok (.iconst 1, 1) := by decide +kernel
theorem dX3_goBackFrom_38 : decode cX3_goBackFrom 38 = .ok (.if_icmp .ne 26, 3) := by decide +kernel
theorem dX3_goBackFrom_41 : decode cX3_goBackFrom 41 = .ok (.aload_n 0, 1) := by decide +kernel
theorem dX3_goBackFrom_42 : decode cX3_goBackFrom 42 = .ok (.iload_n 3, 1) := by decide +kernel
theorem dX3_goBackFrom_43 : decode cX3_goBackFrom 43 = .ok (.iload 4, 2) := by decide +kernel
theorem dX3_goBackFrom_45 : decode cX3_goBackFrom 45 = .ok (.iload 5, 2) := by decide +kernel
theorem dX3_goBackFrom_47 : decode cX3_goBackFrom 47 = .ok (.iload_n 2, 1) := by decide +kernel
theorem dX3_goBackFrom_48 : decode cX3_goBackFrom 48 = .ok (.invokevirtual 146, 3) := by decide +kernel
theorem dX3_goBackFrom_51 : decode cX3_goBackFrom 51 = .ok (.aload_n 0, 1) := by decide +kernel
theorem dX3_goBackFrom_52 : decode cX3_goBackFrom 52 = .ok (.iload_n 3, 1) := by decide +kernel
theorem dX3_goBackFrom_53 : decode cX3_goBackFrom 53 = .ok (.iload 4, 2) := by decide +kernel
theorem dX3_goBackFrom_55 : decode cX3_goBackFrom 55 = .ok (.iload 5, 2) := by decide +kernel
theorem dX3_goBackFrom_57 : decode cX3_goBackFrom 57 = .ok (.iload_n 2, 1) := by decide +kernel
theorem dX3_goBackFrom_58 : decode cX3_goBackFrom 58 = .ok (.invokevirtual 150, 3) := by decide +kernel
theorem dX3_goBackFrom_61 : decode cX3_goBackFrom 61 = .ok (.goto 13, 3) := by decide +kernel
theorem dX3_goBackFrom_64 : decode cX3_goBackFrom 64 = .ok (.aload_n 0, 1) := by decide +kernel
theorem dX3_goBackFrom_65 : decode cX3_goBackFrom 65 = .ok (.iload_n 3, 1) := by decide +kernel
theorem dX3_goBackFrom_66 : decode cX3_goBackFrom 66 = .ok (.iload 4, 2) := by decide +kernel
theorem dX3_goBackFrom_68 : decode cX3_goBackFrom 68 = .ok (.iload 5, 2) := by decide +kernel
theorem dX3_goBackFrom_70 : decode cX3_goBackFrom 70 = .ok (.iload_n 2, 1) := by decide +kernel
theorem dX3_goBackFrom_71 : decode cX3_goBackFrom 71 = .ok (.invokevirtual 153, 3) := by decide +kernel
theorem dX3_goBackFrom_74 : decode cX3_goBackFrom 74 = .ok (.return_, 1) := by decide +kernel
theorem dX3_takeKingBack_0 : decode cX3_takeKingBack 0 = .ok (.aload_n 0, 1) := by decide +kernel
theorem dX3_takeKingBack_1 : decode cX3_takeKingBack 1 = .ok (.getfield 15, 3) := by decide +kernel
theorem dX3_takeKingBack_4 : decode cX3_takeKingBack 4 = .ok (.iload_n 1, 1) := by decide +kernel
theorem dX3_takeKingBack_5 : decode cX3_takeKingBack 5 = .ok (.iload_n 2, 1) := by decide +kernel
theorem dX3_takeKingBack_6 : decode cX3_takeKingBack 6 = .ok (.iload_n 3, 1) := by decide +kernel
theorem dX3_takeKingBack_7 : decode cX3_takeKingBack 7 = .ok (.invokevirtual 156, 3) := by decide +kernel
theorem dX3_takeKingBack_10 : decode cX3_takeKingBack 10 = .ok (.lstore 5, 2) := by decide +kernel
theorem dX3_takeKingBack_12 : decode cX3_takeKingBack 12 = .ok (.lload 5, 2) := by decide +kernel
theorem dX3_takeKingBack_14 : decode cX3_takeKingBack 14 = .ok (.lconst 0, 1) := by decide +kernel
theorem dX3_takeKingBack_15 : decode cX3_takeKingBack 15 = .ok (.lcmp, 1) := by decide +kernel
theorem dX3_takeKingBack_16 : decode cX3_takeKingBack 16 = .ok (.ifCond .eq 36, 3) := by decide +kernel
theorem dX3_takeKingBack_19 : decode cX3_takeKingBack 19 = .ok (.aload_n 0, 1) := by decide +kernel
theorem dX3_takeKingBack_20 : decode cX3_takeKingBack 20 = .ok (.aload_n 0, 1) := by decide +kernel
theorem dX3_takeKingBack_21 : decode cX3_takeKingBack 21 = .ok (.getfield 29, 3) := by decide +kernel
theorem dX3_takeKingBack_24 : decode cX3_takeKingBack 24 = .ok (.lload 5, 2) := by decide +kernel
theorem dX3_takeKingBack_26 : decode cX3_takeKingBack 26 = .ok (.invokestatic 160, 3) := by decide +kernel
theorem dX3_takeKingBack_29 : decode cX3_takeKingBack 29 = .ok (.iload_n 2, 1) := by decide +kernel
theorem dX3_takeKingBack_30 : decode cX3_takeKingBack 30 = .ok (.iload_n 3, 1) := by decide +kernel
theorem dX3_takeKingBack_31 : decode cX3_takeKingBack 31 = .ok (.iconst 0, 1) := by decide +kernel
theorem dX3_takeKingBack_32 : decode cX3_takeKingBack 32 = .ok (.invokevirtual 164, 3) := by decide +kernel
theorem dX3_takeKingBack_35 : decode cX3_takeKingBack 35 = .ok (.iload 4, 2) := by decide +kernel
theorem dX3_takeKingBack_37 : decode cX3_takeKingBack 37 = .ok (.invokevirtual 90, 3) := by decide +kernel
theorem dX3_takeKingBack_40 : decode cX3_takeKingBack 40 = .ok (.lload 5, 2) := by decide +kernel
theorem dX3_takeKingBack_42 : decode cX3_takeKingBack 42 = .ok (.lload 5, 2) := by decide +kernel
theorem dX3_takeKingBack_44 : decode cX3_takeKingBack 44 = .ok (.lconst 1, 1) := by decide +kernel
theorem dX3_takeKingBack_45 : decode cX3_takeKingBack 45 = .ok (.lsub, 1) := by decide +kernel
theorem dX3_takeKingBack_46 : decode cX3_takeKingBack 46 = .ok (.land, 1) := by decide +kernel
theorem dX3_takeKingBack_47 : decode cX3_takeKingBack 47 = .ok (.lstore 5, 2) := by decide +kernel
theorem dX3_takeKingBack_49 : decode cX3_takeKingBack 49 = .ok (.goto (-37), 3) := by decide +kernel
theorem dX3_takeKingBack_52 : decode cX3_takeKingBack 52 = .ok (.return_, 1) := by decide +kernel
theorem dX3_takeManBack_0 : decode cX3_takeManBack 0 = .ok (.aload_n 0, 1) := by decide +kernel
theorem dX3_takeManBack_1 : decode cX3_takeManBack 1 = .ok (.getfield 39, 3) := by decide +kernel
theorem dX3_takeManBack_4 : decode cX3_takeManBack 4 = .ok (.iconst 2, 1) := by decide +kernel
theorem dX3_takeManBack_5 : decode cX3_takeManBack 5 = .ok (.if_icmp .ne 16, 3) := by decide +kernel
theorem dX3_takeManBack_8 : decode cX3_takeManBack 8 = .ok (.aload_n 0, 1) := by decide +kernel
theorem dX3_takeManBack_9 : decode cX3_takeManBack 9 = .ok (.getfield 15, 3) := by decide +kernel
theorem dX3_takeManBack_12 : decode cX3_takeManBack 12 = .ok (.iload_n 1, 1) := by decide +kernel
theorem dX3_takeManBack_13 : decode cX3_takeManBack 13 = .ok (.iload_n 2, 1) := by decide +kernel
theorem dX3_takeManBack_14 : decode cX3_takeManBack 14 = .ok (.iload_n 3, 1) := by decide +kernel
theorem dX3_takeManBack_15 : decode cX3_takeManBack 15 = .ok (.invokevirtual 167, 3) := by decide +kernel
theorem dX3_takeManBack_18 : decode cX3_takeManBack 18 = .ok (.goto 17, 3) := by decide +kernel
theorem dX3_takeManBack_21 : decode cX3_takeManBack 21 = .ok (.aload_n 0, 1) := by decide +kernel
theorem dX3_takeManBack_22 : decode cX3_takeManBack 22 = .ok (.getfield 15, 3) := by decide +kernel
theorem dX3_takeManBack_25 : decode cX3_takeManBack 25 = .ok (.aload_n 0, 1) := by decide +kernel
theorem dX3_takeManBack_26 : decode cX3_takeManBack 26 = .ok (.getfield 39, 3) := by decide +kernel
theorem dX3_takeManBack_29 : decode cX3_takeManBack 29 = .ok (.iload_n 1, 1) := by decide +kernel
theorem dX3_takeManBack_30 : decode cX3_takeManBack 30 = .ok (.iload_n 2, 1) := by decide +kernel
theorem dX3_takeManBack_31 : decode cX3_takeManBack 31 = .ok (.iload_n 3, 1) := by decide +kernel
theorem dX3_takeManBack_32 : decode cX3_takeManBack 32 = .ok (.invokevirtual 170, 3) := by decide +kernel
theorem dX3_takeManBack_35 : decode cX3_takeManBack 35 = .ok (.lstore 5, 2) := by decide +kernel
theorem dX3_takeManBack_37 : decode cX3_takeManBack 37 = .ok (.lload 5, 2) := by decide +kernel
theorem dX3_takeManBack_39 : decode cX3_takeManBack 39 = .ok (.lstore 7, 2) := by decide +kernel
theorem dX3_takeManBack_41 : decode cX3_takeManBack 41 = .ok (.lload 7, 2) := by decide +kernel
theorem dX3_takeManBack_43 : decode cX3_takeManBack 43 = .ok (.lconst 0, 1) := by decide +kernel
theorem dX3_takeManBack_44 : decode cX3_takeManBack 44 = .ok (.lcmp, 1) := by decide +kernel
theorem dX3_takeManBack_45 : decode cX3_takeManBack 45 = .ok (.ifCond .eq 36, 3) := by decide +kernel
theorem dX3_takeManBack_48 : decode cX3_takeManBack 48 = .ok (.aload_n 0, 1) := by decide +kernel
theorem dX3_takeManBack_49 : decode cX3_takeManBack 49 = .ok (.aload_n 0, 1) := by decide +kernel
theorem dX3_takeManBack_50 : decode cX3_takeManBack 50 = .ok (.getfield 29, 3) := by decide +kernel
theorem dX3_takeManBack_53 : decode cX3_takeManBack 53 = .ok (.iload_n 1, 1) := by decide +kernel
theorem dX3_takeManBack_54 : decode cX3_takeManBack 54 = .ok (.iload_n 2, 1) := by decide +kernel
theorem dX3_takeManBack_55 : decode cX3_takeManBack 55 = .ok (.lload 7, 2) := by decide +kernel
theorem dX3_takeManBack_57 : decode cX3_takeManBack 57 = .ok (.invokestatic 160, 3) := by decide +kernel
theorem dX3_takeManBack_60 : decode cX3_takeManBack 60 = .ok (.iconst 0, 1) := by decide +kernel
theorem dX3_takeManBack_61 : decode cX3_takeManBack 61 = .ok (.invokevirtual 164, 3) := by decide +kernel
theorem dX3_takeManBack_64 : decode cX3_takeManBack 64 = .ok (.iload 4, 2) := by decide +kernel
theorem dX3_takeManBack_66 : decode cX3_takeManBack 66 = .ok (.invokevirtual 90, 3) := by decide +kernel
theorem dX3_takeManBack_69 : decode cX3_takeManBack 69 = .ok (.lload 7, 2) := by decide +kernel
theorem dX3_takeManBack_71 : decode cX3_takeManBack 71 = .ok (.lload 7, 2) := by decide +kernel
theorem dX3_takeManBack_73 : decode cX3_takeManBack 73 = .ok (.lconst 1, 1) := by decide +kernel
theorem dX3_takeManBack_74 : decode cX3_takeManBack 74 = .ok (.lsub, 1) := by decide +kernel
theorem dX3_takeManBack_75 : decode cX3_takeManBack 75 = .ok (.land, 1) := by decide +kernel
theorem dX3_takeManBack_76 : decode cX3_takeManBack 76 = .ok (.lstore 7, 2) := by decide +kernel
theorem dX3_takeManBack_78 : decode cX3_takeManBack 78 = .ok (.goto (-37), 3) := by decide +kernel
theorem dX3_takeManBack_81 : decode cX3_takeManBack 81 = .ok (.return_, 1) := by decide +kernel
theorem dX3_takeBlackBack_0 : decode cX3_takeBlackBack 0 = .ok (.aload_n 0, 1) := by decide +kernel
theorem dX3_takeBlackBack_1 : decode cX3_takeBlackBack 1 = .ok (.getfield 15, 3) := by decide +kernel
theorem dX3_takeBlackBack_4 : decode cX3_takeBlackBack 4 = .ok (.iload_n 1, 1) := by decide +kernel
theorem dX3_takeBlackBack_5 : decode cX3_takeBlackBack 5 = .ok (.iload_n 2, 1) := by decide +kernel
theorem dX3_takeBlackBack_6 : decode cX3_takeBlackBack 6 = .ok (.iload_n 3, 1) := by decide +kernel
theorem dX3_takeBlackBack_7 : decode cX3_takeBlackBack 7 = .ok (.invokevirtual 173, 3) := by decide +kernel
theorem dX3_takeBlackBack_10 : decode cX3_takeBlackBack 10 = .ok (.lstore 5, 2) := by decide +kernel
theorem dX3_takeBlackBack_12 : decode cX3_takeBlackBack 12 = .ok (.lload 5, 2) := by decide +kernel
theorem dX3_takeBlackBack_14 : decode cX3_takeBlackBack 14 = .ok (.lconst 0, 1) := by decide +kernel
theorem dX3_takeBlackBack_15 : decode cX3_takeBlackBack 15 = .ok (.lcmp, 1) := by decide +kernel
theorem dX3_takeBlackBack_16 : decode cX3_takeBlackBack 16 = .ok (.ifCond .eq 72, 3) := by decide +kernel
theorem dX3_takeBlackBack_19 : decode cX3_takeBlackBack 19 = .ok (.lload 5, 2) := by decide +kernel
theorem dX3_takeBlackBack_21 : decode cX3_takeBlackBack 21 = .ok (.invokestatic 160, 3) := by decide +kernel
theorem dX3_takeBlackBack_24 : decode cX3_takeBlackBack 24 = .ok (.istore 7, 2) := by decide +kernel
theorem dX3_takeBlackBack_26 : decode cX3_takeBlackBack 26 = .ok (.aload_n 0, 1) := by decide +kernel
theorem dX3_takeBlackBack_27 : decode cX3_takeBlackBack 27 = .ok (.getfield 29, 3) := by decide +kernel
theorem dX3_takeBlackBack_30 : decode cX3_takeBlackBack 30 = .ok (.iload_n 1, 1) := by decide +kernel
theorem dX3_takeBlackBack_31 : decode cX3_takeBlackBack 31 = .ok (.iload 7, 2) := by decide +kernel
theorem dX3_takeBlackBack_33 : decode cX3_takeBlackBack 33 = .ok (.iload_n 3, 1) := by decide +kernel
theorem dX3_takeBlackBack_34 : decode cX3_takeBlackBack 34 = .ok (.iconst 1, 1) := by decide +kernel
theorem dX3_takeBlackBack_35 : decode cX3_takeBlackBack 35 = .ok (.invokevirtual 164, 3) := by decide +kernel
theorem dX3_takeBlackBack_38 : decode cX3_takeBlackBack 38 = .ok (.istore 8, 2) := by decide +kernel
theorem dX3_takeBlackBack_40 : decode cX3_takeBlackBack 40 = .ok (.iload 8, 2) := by decide +kernel
theorem dX3_takeBlackBack_42 : decode cX3_takeBlackBack 42 = .ok (.iconst (-1), 1) := by decide +kernel
theorem dX3_takeBlackBack_43 : decode cX3_takeBlackBack 43 = .ok (.if_icmp .eq 33, 3) := by decide +kernel
theorem dX3_takeBlackBack_46 : decode cX3_takeBlackBack 46 = .ok (.aload_n 0, 1) := by decide +kernel
theorem dX3_takeBlackBack_47 : decode cX3_takeBlackBack 47 = .ok (.getfield 34, 3) := by decide +kernel
theorem dX3_takeBlackBack_50 : decode cX3_takeBlackBack 50 = .ok (.iload 8, 2) := by decide +kernel
theorem dX3_takeBlackBack_52 : decode cX3_takeBlackBack 52 = .ok (.baload, 1) := by decide +kernel
theorem dX3_takeBlackBack_53 : decode cX3_takeBlackBack 53 = .ok (.iconst (-1), 1) := by decide +kernel
theorem dX3_takeBlackBack_54 : decode cX3_takeBlackBack 54 = .ok (.if_icmp .ne 22, 3) := by decide +kernel
end
section
theorem dX3_takeBlackBack_57 : decode cX3_takeBlackBack 57 = .ok (.aload_n 0, 1) := by decide +kernel
theorem dX3_takeBlackBack_58 : decode cX3_takeBlackBack 58 = .ok (.iload_n 1, 1) := by decide +kernel
theorem dX3_takeBlackBack_59 : decode cX3_takeBlackBack 59 = .ok (.iload 7, 2) := by decide +kernel
theorem dX3_takeBlackBack_61 : decode cX3_takeBlackBack 61 = .ok (.iload_n 3, 1) := by decide +kernel
theorem dX3_takeBlackBack_62 : decode cX3_takeBlackBack 62 = .ok (.invokevirtual 176, 3) := by decide +kernel
theorem dX3_takeBlackBack_65 : decode cX3_takeBlackBack 65 = .ok (.ifCond .eq 11, 3) := by decide +kernel
theorem dX3_takeBlackBack_68 : decode cX3_takeBlackBack 68 = .ok (.aload_n 0, 1) := by decide +kernel
theorem dX3_takeBlackBack_69 : decode cX3_takeBlackBack 69 = .ok (.iload 8, 2) := by decide +kernel
theorem dX3_takeBlackBack_71 : decode cX3_takeBlackBack 71 = .ok (.iload 4, 2) := by decide +kernel
theorem dX3_takeBlackBack_73 : decode cX3_takeBlackBack 73 = .ok (.invokevirtual 90, 3) := by decide +kernel
theorem dX3_takeBlackBack_76 : decode cX3_takeBlackBack 76 = .ok (.lload 5, 2) := by decide +kernel
theorem dX3_takeBlackBack_78 : decode cX3_takeBlackBack 78 = .ok (.lload 5, 2) := by decide +kernel
theorem dX3_takeBlackBack_80 : decode cX3_takeBlackBack 80 = .ok (.lconst 1, 1) := by decide +kernel
theorem dX3_takeBlackBack_81 : decode cX3_takeBlackBack 81 = .ok (.lsub, 1) := by decide +kernel
theorem dX3_takeBlackBack_82 : decode cX3_takeBlackBack 82 = .ok (.land, 1) := by decide +kernel
theorem dX3_takeBlackBack_83 : decode cX3_takeBlackBack 83 = .ok (.lstore 5, 2) := by decide +kernel
theorem dX3_takeBlackBack_85 : decode cX3_takeBlackBack 85 = .ok (.goto (-73), 3) := by decide +kernel
theorem dX3_takeBlackBack_88 : decode cX3_takeBlackBack 88 = .ok (.return_, 1) := by decide +kernel
theorem dX3_isLost_0 : decode cX3_isLost 0 = .ok (.aload_n 0, 1) := by decide +kernel
theorem dX3_isLost_1 : decode cX3_isLost 1 = .ok (.getfield 15, 3) := by decide +kernel
theorem dX3_isLost_4 : decode cX3_isLost 4 = .ok (.aload_n 0, 1) := by decide +kernel
theorem dX3_isLost_5 : decode cX3_isLost 5 = .ok (.getfield 39, 3) := by decide +kernel
theorem dX3_isLost_8 : decode cX3_isLost 8 = .ok (.iload_n 1, 1) := by decide +kernel
theorem dX3_isLost_9 : decode cX3_isLost 9 = .ok (.iload_n 2, 1) := by decide +kernel
theorem dX3_isLost_10 : decode cX3_isLost 10 = .ok (.iload_n 3, 1) := by decide +kernel
theorem dX3_isLost_11 : decode cX3_isLost 11 = .ok (.invokevirtual 110, 3) := by decide +kernel
theorem dX3_isLost_14 : decode cX3_isLost 14 = .ok (.lstore 4, 2) := by decide +kernel
theorem dX3_isLost_16 : decode cX3_isLost 16 = .ok (.lload 4, 2) := by decide +kernel
theorem dX3_isLost_18 : decode cX3_isLost 18 = .ok (.iload_n 3, 1) := by decide +kernel
theorem dX3_isLost_19 : decode cX3_isLost 19 = .ok (.invokestatic 180, 3) := by decide +kernel
theorem dX3_isLost_22 : decode cX3_isLost 22 = .ok (.ifCond .eq 5, 3) := by decide +kernel
theorem dX3_isLost_25 : decode cX3_isLost 25 = .ok (.iconst 0, 1) := by decide +kernel
theorem dX3_isLost_26 : decode cX3_isLost 26 = .ok (.ireturn, 1) := by decide +kernel
theorem dX3_isLost_27 : decode cX3_isLost 27 = .ok (.lload 4, 2) := by decide +kernel
theorem dX3_isLost_29 : decode cX3_isLost 29 = .ok (.lstore 6, 2) := by decide +kernel
theorem dX3_isLost_31 : decode cX3_isLost 31 = .ok (.lload 6, 2) := by decide +kernel
theorem dX3_isLost_33 : decode cX3_isLost 33 = .ok (.lconst 0, 1) := by decide +kernel
theorem dX3_isLost_34 : decode cX3_isLost 34 = .ok (.lcmp, 1) := by decide +kernel
theorem dX3_isLost_35 : decode cX3_isLost 35 = .ok (.ifCond .eq 50, 3) := by decide +kernel
theorem dX3_isLost_38 : decode cX3_isLost 38 = .ok (.aload_n 0, 1) := by decide +kernel
theorem dX3_isLost_39 : decode cX3_isLost 39 = .ok (.getfield 29, 3) := by decide +kernel
theorem dX3_isLost_42 : decode cX3_isLost 42 = .ok (.iload_n 1, 1) := by decide +kernel
theorem dX3_isLost_43 : decode cX3_isLost 43 = .ok (.lload 6, 2) := by decide +kernel
theorem dX3_isLost_45 : decode cX3_isLost 45 = .ok (.invokestatic 160, 3) := by decide +kernel
theorem dX3_isLost_48 : decode cX3_isLost 48 = .ok (.iload_n 3, 1) := by decide +kernel
theorem dX3_isLost_49 : decode cX3_isLost 49 = .ok (.iconst 0, 1) := by decide +kernel
theorem dX3_isLost_50 : decode cX3_isLost 50 = .ok (.invokevirtual 164, 3) := by decide +kernel
theorem dX3_isLost_53 : decode cX3_isLost 53 = .ok (.istore 8, 2) := by decide +kernel
theorem dX3_isLost_55 : decode cX3_isLost 55 = .ok (.iload 8, 2) := by decide +kernel
theorem dX3_isLost_57 : decode cX3_isLost 57 = .ok (.iconst (-1), 1) := by decide +kernel
theorem dX3_isLost_58 : decode cX3_isLost 58 = .ok (.if_icmp .eq 13, 3) := by decide +kernel
theorem dX3_isLost_61 : decode cX3_isLost 61 = .ok (.aload_n 0, 1) := by decide +kernel
theorem dX3_isLost_62 : decode cX3_isLost 62 = .ok (.getfield 34, 3) := by decide +kernel
theorem dX3_isLost_65 : decode cX3_isLost 65 = .ok (.iload 8, 2) := by decide +kernel
theorem dX3_isLost_67 : decode cX3_isLost 67 = .ok (.baload, 1) := by decide +kernel
theorem dX3_isLost_68 : decode cX3_isLost 68 = .ok (.ifCond .ge 5, 3) := by decide +kernel
theorem dX3_isLost_71 : decode cX3_isLost 71 = .ok (.iconst 0, 1) := by decide +kernel
theorem dX3_isLost_72 : decode cX3_isLost 72 = .ok (.ireturn, 1) := by decide +kernel
theorem dX3_isLost_73 : decode cX3_isLost 73 = .ok (.lload 6, 2) := by decide +kernel
theorem dX3_isLost_75 : decode cX3_isLost 75 = .ok (.lload 6, 2) := by decide +kernel
theorem dX3_isLost_77 : decode cX3_isLost 77 = .ok (.lconst 1, 1) := by decide +kernel
theorem dX3_isLost_78 : decode cX3_isLost 78 = .ok (.lsub, 1) := by decide +kernel
theorem dX3_isLost_79 : decode cX3_isLost 79 = .ok (.land, 1) := by decide +kernel
theorem dX3_isLost_80 : decode cX3_isLost 80 = .ok (.lstore 6, 2) := by decide +kernel
theorem dX3_isLost_82 : decode cX3_isLost 82 = .ok (.goto (-51), 3) := by decide +kernel
theorem dX3_isLost_85 : decode cX3_isLost 85 = .ok (.iconst 1, 1) := by decide +kernel
theorem dX3_isLost_86 : decode cX3_isLost 86 = .ok (.ireturn, 1) := by decide +kernel
theorem dX4_init_0 : decode cX4_init 0 = .ok (.aload_n 0, 1) := by decide +kernel
theorem dX4_init_1 : decode cX4_init 1 = .ok (.invokespecial 3, 3) := by decide +kernel
theorem dX4_init_4 : decode cX4_init 4 = .ok (.return_, 1) := by decide +kernel
theorem dX4_set_0 : decode cX4_set 0 = .ok (.aload_n 0, 1) := by decide +kernel
theorem dX4_set_1 : decode cX4_set 1 = .ok (.iload_n 1, 1) := by decide +kernel
theorem dX4_set_2 : decode cX4_set 2 = .ok (.putfield 9, 3) := by decide +kernel
theorem dX4_set_5 : decode cX4_set 5 = .ok (.aload_n 0, 1) := by decide +kernel
theorem dX4_set_6 : decode cX4_set 6 = .ok (.iload_n 2, 1) := by decide +kernel
theorem dX4_set_7 : decode cX4_set 7 = .ok (.putfield 15, 3) := by decide +kernel
theorem dX4_set_10 : decode cX4_set 10 = .ok (.aload_n 0, 1) := by decide +kernel
theorem dX4_set_11 : decode cX4_set 11 = .ok (.iload_n 3, 1) := by decide +kernel
theorem dX4_set_12 : decode cX4_set 12 = .ok (.putfield 18, 3) := by decide +kernel
theorem dX4_set_15 : decode cX4_set 15 = .ok (.aload_n 0, 1) := by decide +kernel
theorem dX4_set_16 : decode cX4_set 16 = .ok (.iload 4, 2) := by decide +kernel
theorem dX4_set_18 : decode cX4_set 18 = .ok (.putfield 21, 3) := by decide +kernel
theorem dX4_set_21 : decode cX4_set 21 = .ok (.aload_n 0, 1) := by decide +kernel
theorem dX4_set_22 : decode cX4_set 22 = .ok (.iload 5, 2) := by decide +kernel
theorem dX4_set_24 : decode cX4_set 24 = .ok (.putfield 24, 3) := by decide +kernel
theorem dX4_set_27 : decode cX4_set 27 = .ok (.return_, 1) := by decide +kernel
theorem dX4_play_0 : decode cX4_play 0 = .ok (.aload_n 1, 1) := by decide +kernel
theorem dX4_play_1 : decode cX4_play 1 = .ok (.iconst 0, 1) := by decide +kernel
theorem dX4_play_2 : decode cX4_play 2 = .ok (.iconst 1, 1) := by decide +kernel
theorem dX4_play_3 : decode cX4_play 3 = .ok (.invokevirtual 29, 3) := by decide +kernel
theorem dX4_play_6 : decode cX4_play 6 = .ok (.istore_n 2, 1) := by decide +kernel
theorem dX4_play_7 : decode cX4_play 7 = .ok (.aload_n 1, 1) := by decide +kernel
theorem dX4_play_8 : decode cX4_play 8 = .ok (.iconst 0, 1) := by decide +kernel
theorem dX4_play_9 : decode cX4_play 9 = .ok (.iconst 2, 1) := by decide +kernel
theorem dX4_play_10 : decode cX4_play 10 = .ok (.invokevirtual 29, 3) := by decide +kernel
theorem dX4_play_13 : decode cX4_play 13 = .ok (.istore_n 3, 1) := by decide +kernel
theorem dX4_play_14 : decode cX4_play 14 = .ok (.aload_n 0, 1) := by decide +kernel
theorem dX4_play_15 : decode cX4_play 15 = .ok (.getfield 24, 3) := by decide +kernel
theorem dX4_play_18 : decode cX4_play 18 = .ok (.iconst 1, 1) := by decide +kernel
theorem dX4_play_19 : decode cX4_play 19 = .ok (.if_icmp .ne 11, 3) := by decide +kernel
theorem dX4_play_22 : decode cX4_play 22 = .ok (.aload_n 0, 1) := by decide +kernel
theorem dX4_play_23 : decode cX4_play 23 = .ok (.iload_n 2, 1) := by decide +kernel
theorem dX4_play_24 : decode cX4_play 24 = .ok (.putfield 18, 3) := by decide +kernel
theorem dX4_play_27 : decode cX4_play 27 = .ok (.goto 46, 3) := by decide +kernel
theorem dX4_play_30 : decode cX4_play 30 = .ok (.aload_n 1, 1) := by decide +kernel
theorem dX4_play_31 : decode cX4_play 31 = .ok (.iconst 0, 1) := by decide +kernel
theorem dX4_play_32 : decode cX4_play 32 = .ok (.iconst 0, 1) := by decide +kernel
theorem dX4_play_33 : decode cX4_play 33 = .ok (.invokevirtual 29, 3) := by decide +kernel
theorem dX4_play_36 : decode cX4_play 36 = .ok (.aload_n 0, 1) := by decide +kernel
theorem dX4_play_37 : decode cX4_play 37 = .ok (.getfield 15, 3) := by decide +kernel
theorem dX4_play_40 : decode cX4_play 40 = .ok (.if_icmp .ne 11, 3) := by decide +kernel
theorem dX4_play_43 : decode cX4_play 43 = .ok (.aload_n 0, 1) := by decide +kernel
theorem dX4_play_44 : decode cX4_play 44 = .ok (.iload_n 2, 1) := by decide +kernel
theorem dX4_play_45 : decode cX4_play 45 = .ok (.putfield 15, 3) := by decide +kernel
theorem dX4_play_48 : decode cX4_play 48 = .ok (.goto 25, 3) := by decide +kernel
theorem dX4_play_51 : decode cX4_play 51 = .ok (.aload_n 0, 1) := by decide +kernel
theorem dX4_play_52 : decode cX4_play 52 = .ok (.iload_n 2, 1) := by decide +kernel
theorem dX4_play_53 : decode cX4_play 53 = .ok (.putfield 21, 3) := by decide +kernel
theorem dX4_play_56 : decode cX4_play 56 = .ok (.aload_n 0, 1) := by decide +kernel
theorem dX4_play_57 : decode cX4_play 57 = .ok (.iload_n 3, 1) := by decide +kernel
theorem dX4_play_58 : decode cX4_play 58 = .ok (.iconst (-1), 1) := by decide +kernel
theorem dX4_play_59 : decode cX4_play 59 = .ok (.if_icmp .ne 10, 3) := by decide +kernel
theorem dX4_play_62 : decode cX4_play 62 = .ok (.aload_n 0, 1) := by decide +kernel
theorem dX4_play_63 : decode cX4_play 63 = .ok (.getfield 9, 3) := by decide +kernel
theorem dX4_play_66 : decode cX4_play 66 = .ok (.goto 4, 3) := by decide +kernel
theorem dX4_play_69 : decode cX4_play 69 = .ok (.iload_n 3, 1) := by decide +kernel
theorem dX4_play_70 : decode cX4_play 70 = .ok (.putfield 9, 3) := by decide +kernel
theorem dX4_play_73 : decode cX4_play 73 = .ok (.aload_n 0, 1) := by decide +kernel
theorem dX4_play_74 : decode cX4_play 74 = .ok (.iconst 1, 1) := by decide +kernel
theorem dX4_play_75 : decode cX4_play 75 = .ok (.aload_n 0, 1) := by decide +kernel
theorem dX4_play_76 : decode cX4_play 76 = .ok (.getfield 24, 3) := by decide +kernel
theorem dX4_play_79 : decode cX4_play 79 = .ok (.isub, 1) := by decide +kernel
theorem dX4_play_80 : decode cX4_play 80 = .ok (.putfield 24, 3) := by decide +kernel
theorem dX4_play_83 : decode cX4_play 83 = .ok (.return_, 1) := by decide +kernel
theorem dX5_init_0 : decode cX5_init 0 = .ok (.aload_n 0, 1) := by decide +kernel
theorem dX5_init_1 : decode cX5_init 1 = .ok (.invokespecial 3, 3) := by decide +kernel
theorem dX5_init_4 : decode cX5_init 4 = .ok (.aload_n 0, 1) := by decide +kernel
theorem dX5_init_5 : decode cX5_init 5 = .ok (.iconst 2, 1) := by decide +kernel
theorem dX5_init_6 : decode cX5_init 6 = .ok (.newarray .int, 2) := by decide +kernel
theorem dX5_init_8 : decode cX5_init 8 = .ok (.putfield 9, 3) := by decide +kernel
theorem dX5_init_11 : decode cX5_init 11 = .ok (.aload_n 0, 1) := by decide +kernel
theorem dX5_init_12 : decode cX5_init 12 = .ok (.iconst 2, 1) := by decide +kernel
theorem dX5_init_13 : decode cX5_init 13 = .ok (.newarray .int, 2) := by decide +kernel
theorem dX5_init_15 : decode cX5_init 15 = .ok (.putfield 15, 3) := by decide +kernel
theorem dX5_init_18 : decode cX5_init 18 = .ok (.aload_n 0, 1) := by decide +kernel
theorem dX5_init_19 : decode cX5_init 19 = .ok (.iconst 2, 1) := by decide +kernel
theorem dX5_init_20 : decode cX5_init 20 = .ok (.newarray .int, 2) := by decide +kernel
theorem dX5_init_22 : decode cX5_init 22 = .ok (.dup, 1) := by decide +kernel
theorem dX5_init_23 : decode cX5_init 23 = .ok (.iconst 0, 1) := by decide +kernel
theorem dX5_init_24 : decode cX5_init 24 = .ok (.iconst (-1), 1) := by decide +kernel
theorem dX5_init_25 : decode cX5_init 25 = .ok (.iastore, 1) := by decide +kernel
theorem dX5_init_26 : decode cX5_init 26 = .ok (.dup, 1) := by decide +kernel
theorem dX5_init_27 : decode cX5_init 27 = .ok (.iconst 1, 1) := by decide +kernel
theorem dX5_init_28 : decode cX5_init 28 = .ok (.iconst (-1), 1) := by decide +kernel
theorem dX5_init_29 : decode cX5_init 29 = .ok (.iastore, 1) := by decide +kernel
theorem dX5_init_30 : decode cX5_init 30 = .ok (.putfield 18, 3) := by decide +kernel
theorem dX5_init_33 : decode cX5_init 33 = .ok (.aload_n 0, 1) := by decide +kernel
theorem dX5_init_34 : decode cX5_init 34 = .ok (.iconst 2, 1) := by decide +kernel
theorem dX5_init_35 : decode cX5_init 35 = .ok (.newarray .int, 2) := by decide +kernel
theorem dX5_init_37 : decode cX5_init 37 = .ok (.dup, 1) := by decide +kernel
theorem dX5_init_38 : decode cX5_init 38 = .ok (.iconst 0, 1) := by decide +kernel
theorem dX5_init_39 : decode cX5_init 39 = .ok (.iconst (-1), 1) := by decide +kernel
theorem dX5_init_40 : decode cX5_init 40 = .ok (.iastore, 1) := by decide +kernel
theorem dX5_init_41 : decode cX5_init 41 = .ok (.dup, 1) := by decide +kernel
theorem dX5_init_42 : decode cX5_init 42 = .ok (.iconst 1, 1) := by decide +kernel
theorem dX5_init_43 : decode cX5_init 43 = .ok (.iconst (-1), 1) := by decide +kernel
theorem dX5_init_44 : decode cX5_init 44 = .ok (.iastore, 1) := by decide +kernel
theorem dX5_init_45 : decode cX5_init 45 = .ok (.putfield 21, 3) := by decide +kernel
theorem dX5_init_48 : decode cX5_init 48 = .ok (.aload_n 0, 1) := by decide +kernel
theorem dX5_init_49 : decode cX5_init 49 = .ok (.sipush 254, 3) := by decide +kernel
theorem dX5_init_52 : decode cX5_init 52 = .ok (.newarray .int, 2) := by decide +kernel
theorem dX5_init_54 : decode cX5_init 54 = .ok (.putfield 24, 3) := by decide +kernel
theorem dX5_init_57 : decode cX5_init 57 = .ok (.aload_n 0, 1) := by decide +kernel
theorem dX5_init_58 : decode cX5_init 58 = .ok (.aload_n 1, 1) := by decide +kernel
theorem dX5_init_59 : decode cX5_init 59 = .ok (.putfield 27, 3) := by decide +kernel
theorem dX5_init_62 : decode cX5_init 62 = .ok (.aload_n 0, 1) := by decide +kernel
theorem dX5_init_63 : decode cX5_init 63 = .ok (.iload_n 2, 1) := by decide +kernel
theorem dX5_init_64 : decode cX5_init 64 = .ok (.putfield 31, 3) := by decide +kernel
theorem dX5_init_67 : decode cX5_init 67 = .ok (.aload_n 0, 1) := by decide +kernel
theorem dX5_init_68 : decode cX5_init 68 = .ok (.aload_n 3, 1) := by decide +kernel
theorem dX5_init_69 : decode cX5_init 69 = .ok (.putfield 35, 3) := by decide +kernel
theorem dX5_init_72 : decode cX5_init 72 = .ok (.aload_n 0, 1) := by decide +kernel
theorem dX5_init_73 : decode cX5_init 73 = .ok (.aload_n 3, 1) := by decide +kernel
theorem dX5_init_74 : decode cX5_init 74 = .ok (.getfield 39, 3) := by decide +kernel
theorem dX5_init_77 : decode cX5_init 77 = .ok (.sipush 128, 3) := by decide +kernel
theorem dX5_init_80 : decode cX5_init 80 = .ok (.imul, 1) := by decide +kernel
theorem dX5_init_81 : decode cX5_init 81 = .ok (.newarray .byte, 2) := by decide +kernel
theorem dX5_init_83 : decode cX5_init 83 = .ok (.putfield 44, 3) := by decide +kernel
theorem dX5_init_86 : decode cX5_init 86 = .ok (.aload_n 0, 1) := by decide +kernel
theorem dX5_init_87 : decode cX5_init 87 = .ok (.getfield 44, 3) := by decide +kernel
theorem dX5_init_90 : decode cX5_init 90 = .ok (.bipush (-2), 2) := by decide +kernel
theorem dX5_init_92 : decode cX5_init 92 = .ok (.invokestatic 48, 3) := by decide +kernel
theorem dX5_init_95 : decode cX5_init 95 = .ok (.aload_n 0, 1) := by decide +kernel
theorem dX5_init_96 : decode cX5_init 96 = .ok (.aload_n 3, 1) := by decide +kernel
theorem dX5_init_97 : decode cX5_init 97 = .ok (.getfield 39, 3) := by decide +kernel
theorem dX5_init_100 : decode cX5_init 100 = .ok (.iconst 1, 1) := by decide +kernel
theorem dX5_init_101 : decode cX5_init 101 = .ok (.iadd, 1) := by decide +kernel
theorem dX5_init_102 : decode cX5_init 102 = .ok (.newarray .int, 2) := by decide +kernel
theorem dX5_init_104 : decode cX5_init 104 = .ok (.putfield 54, 3) := by decide +kernel
theorem dX5_init_107 : decode cX5_init 107 = .ok (.iconst 0, 1) := by decide +kernel
theorem dX5_init_108 : decode cX5_init 108 = .ok (.istore 4, 2) := by decide +kernel
theorem dX5_init_110 : decode cX5_init 110 = .ok (.iload 4, 2) := by decide +kernel
theorem dX5_init_112 : decode cX5_init 112 = .ok (.aload_n 3, 1) := by decide +kernel
theorem dX5_init_113 : decode cX5_init 113 = .ok (.getfield 39, 3) := by decide +kernel
theorem dX5_init_116 : decode cX5_init 116 = .ok (.if_icmp .ge 32, 3) := by decide +kernel
theorem dX5_init_119 : decode cX5_init 119 = .ok (.aload_n 0, 1) := by decide +kernel
theorem dX5_init_120 : decode cX5_init 120 = .ok (.getfield 54, 3) := by decide +kernel
theorem dX5_init_123 : decode cX5_init 123 = .ok (.iload 4, 2) := by decide +kernel
theorem dX5_init_125 : decode cX5_init 125 = .ok (.iconst 1, 1) := by decide +kernel
theorem dX5_init_126 : decode cX5_init 126 = .ok (.iadd, 1) := by decide +kernel
theorem dX5_init_127 : decode cX5_init 127 = .ok (.aload_n 0, 1) := by decide +kernel
theorem dX5_init_128 : decode cX5_init 128 = .ok (.getfield 54, 3) := by decide +kernel
theorem dX5_init_131 : decode cX5_init 131 = .ok (.iload 4, 2) := by decide +kernel
theorem dX5_init_133 : decode cX5_init 133 = .ok (.iaload, 1) := by decide +kernel
theorem dX5_init_134 : decode cX5_init 134 = .ok (.aload_n 0, 1) := by decide +kernel
theorem dX5_init_135 : decode cX5_init 135 = .ok (.iload 4, 2) := by decide +kernel
theorem dX5_init_137 : decode cX5_init 137 = .ok (.invokevirtual 57, 3) := by decide +kernel
theorem dX5_init_140 : decode cX5_init 140 = .ok (.iadd, 1) := by decide +kernel
theorem dX5_init_141 : decode cX5_init 141 = .ok (.iastore, 1) := by decide +kernel
theorem dX5_init_142 : decode cX5_init 142 = .ok (.iinc 4 1, 3) := by decide +kernel
theorem dX5_init_145 : decode cX5_init 145 = .ok (.goto (-35), 3) := by decide +kernel
theorem dX5_init_148 : decode cX5_init 148 = .ok (.return_, 1) := by decide +kernel
theorem dX5_lay_0 : decode cX5_lay 0 = .ok (.aload_n 0, 1) := by decide +kernel
theorem dX5_lay_1 : decode cX5_lay 1 = .ok (.getfield 35, 3) := by decide +kernel
theorem dX5_lay_4 : decode cX5_lay 4 = .ok (.getfield 61, 3) := by decide +kernel
theorem dX5_lay_7 : decode cX5_lay 7 = .ok (.iload_n 1, 1) := by decide +kernel
theorem dX5_lay_8 : decode cX5_lay 8 = .ok (.iaload, 1) := by decide +kernel
theorem dX5_lay_9 : decode cX5_lay 9 = .ok (.istore_n 2, 1) := by decide +kernel
theorem dX5_lay_10 : decode cX5_lay 10 = .ok (.aload_n 0, 1) := by decide +kernel
theorem dX5_lay_11 : decode cX5_lay 11 = .ok (.getfield 35, 3) := by decide +kernel
theorem dX5_lay_14 : decode cX5_lay 14 = .ok (.getfield 64, 3) := by decide +kernel
theorem dX5_lay_17 : decode cX5_lay 17 = .ok (.iload_n 1, 1) := by decide +kernel
theorem dX5_lay_18 : decode cX5_lay 18 = .ok (.iaload, 1) := by decide +kernel
theorem dX5_lay_19 : decode cX5_lay 19 = .ok (.istore_n 3, 1) := by decide +kernel
theorem dX5_lay_20 : decode cX5_lay 20 = .ok (.iconst 0, 1) := by decide +kernel
theorem dX5_lay_21 : decode cX5_lay 21 = .ok (.istore 4, 2) := by decide +kernel
theorem dX5_lay_23 : decode cX5_lay 23 = .ok (.iconst 0, 1) := by decide +kernel
theorem dX5_lay_24 : decode cX5_lay 24 = .ok (.istore 5, 2) := by decide +kernel
theorem dX5_lay_26 : decode cX5_lay 26 = .ok (.iload 5, 2) := by decide +kernel
theorem dX5_lay_28 : decode cX5_lay 28 = .ok (.aload_n 0, 1) := by decide +kernel
theorem dX5_lay_29 : decode cX5_lay 29 = .ok (.getfield 27, 3) := by decide +kernel
theorem dX5_lay_32 : decode cX5_lay 32 = .ok (.getfield 67, 3) := by decide +kernel
theorem dX5_lay_35 : decode cX5_lay 35 = .ok (.if_icmp .ge 114, 3) := by decide +kernel
theorem dX5_lay_38 : decode cX5_lay 38 = .ok (.iload_n 1, 1) := by decide +kernel
theorem dX5_lay_39 : decode cX5_lay 39 = .ok (.iload 5, 2) := by decide +kernel
theorem dX5_lay_41 : decode cX5_lay 41 = .ok (.iconst 1, 1) := by decide +kernel
theorem dX5_lay_42 : decode cX5_lay 42 = .ok (.invokestatic 72, 3) := by decide +kernel
theorem dX5_lay_45 : decode cX5_lay 45 = .ok (.istore 6, 2) := by decide +kernel
theorem dX5_lay_47 : decode cX5_lay 47 = .ok (.aload_n 0, 1) := by decide +kernel
theorem dX5_lay_48 : decode cX5_lay 48 = .ok (.getfield 35, 3) := by decide +kernel
theorem dX5_lay_51 : decode cX5_lay 51 = .ok (.iload_n 2, 1) := by decide +kernel
theorem dX5_lay_52 : decode cX5_lay 52 = .ok (.iload_n 3, 1) := by decide +kernel
theorem dX5_lay_53 : decode cX5_lay 53 = .ok (.iload 5, 2) := by decide +kernel
theorem dX5_lay_55 : decode cX5_lay 55 = .ok (.iconst 1, 1) := by decide +kernel
theorem dX5_lay_56 : decode cX5_lay 56 = .ok (.invokevirtual 76, 3) := by decide +kernel
theorem dX5_lay_59 : decode cX5_lay 59 = .ok (.iload 6, 2) := by decide +kernel
theorem dX5_lay_61 : decode cX5_lay 61 = .ok (.if_icmp .ne 7, 3) := by decide +kernel
theorem dX5_lay_64 : decode cX5_lay 64 = .ok (.iconst 1, 1) := by decide +kernel
theorem dX5_lay_65 : decode cX5_lay 65 = .ok (.goto 4, 3) := by decide +kernel
theorem dX5_lay_68 : decode cX5_lay 68 = .ok (.iconst 0, 1) := by decide +kernel
theorem dX5_lay_69 : decode cX5_lay 69 = .ok (.istore 7, 2) := by decide +kernel
theorem dX5_lay_71 : decode cX5_lay 71 = .ok (.iload 7, 2) := by decide +kernel
theorem dX5_lay_73 : decode cX5_lay 73 = .ok (.ifCond .eq 70, 3) := by decide +kernel
theorem dX5_lay_76 : decode cX5_lay 76 = .ok (.aload_n 0, 1) := by decide +kernel
theorem dX5_lay_77 : decode cX5_lay 77 = .ok (.getfield 27, 3) := by decide +kernel
theorem dX5_lay_80 : decode cX5_lay 80 = .ok (.aload_n 0, 1) := by decide +kernel
theorem dX5_lay_81 : decode cX5_lay 81 = .ok (.getfield 31, 3) := by decide +kernel
theorem dX5_lay_84 : decode cX5_lay 84 = .ok (.iload_n 2, 1) := by decide +kernel
theorem dX5_lay_85 : decode cX5_lay 85 = .ok (.iload_n 3, 1) := by decide +kernel
theorem dX5_lay_86 : decode cX5_lay 86 = .ok (.iload 5, 2) := by decide +kernel
theorem dX5_lay_88 : decode cX5_lay 88 = .ok (.iconst 1, 1) := by decide +kernel
theorem dX5_lay_89 : decode cX5_lay 89 = .ok (.invokevirtual 80, 3) := by decide +kernel
theorem dX5_lay_92 : decode cX5_lay 92 = .ok (.ifCond .ne 6, 3) := by decide +kernel
theorem dX5_lay_95 : decode cX5_lay 95 = .ok (.goto 48, 3) := by decide +kernel
theorem dX5_lay_98 : decode cX5_lay 98 = .ok (.aload_n 0, 1) := by decide +kernel
theorem dX5_lay_99 : decode cX5_lay 99 = .ok (.getfield 44, 3) := by decide +kernel
theorem dX5_lay_102 : decode cX5_lay 102 = .ok (.iload 6, 2) := by decide +kernel
theorem dX5_lay_104 : decode cX5_lay 104 = .ok (.iconst (-1), 1) := by decide +kernel
theorem dX5_lay_105 : decode cX5_lay 105 = .ok (.bastore, 1) := by decide +kernel
theorem dX5_lay_106 : decode cX5_lay 106 = .ok (.iinc 4 1, 3) := by decide +kernel
theorem dX5_lay_109 : decode cX5_lay 109 = .ok (.aload_n 0, 1) := by decide +kernel
theorem dX5_lay_110 : decode cX5_lay 110 = .ok (.getfield 27, 3) := by decide +kernel
theorem dX5_lay_113 : decode cX5_lay 113 = .ok (.aload_n 0, 1) := by decide +kernel
theorem dX5_lay_114 : decode cX5_lay 114 = .ok (.getfield 31, 3) := by decide +kernel
theorem dX5_lay_117 : decode cX5_lay 117 = .ok (.iload_n 2, 1) := by decide +kernel
theorem dX5_lay_118 : decode cX5_lay 118 = .ok (.iload_n 3, 1) := by decide +kernel
theorem dX5_lay_119 : decode cX5_lay 119 = .ok (.iload 5, 2) := by decide +kernel
theorem dX5_lay_121 : decode cX5_lay 121 = .ok (.invokevirtual 84, 3) := by decide +kernel
theorem dX5_lay_124 : decode cX5_lay 124 = .ok (.ifCond .ne 19, 3) := by decide +kernel
theorem dX5_lay_127 : decode cX5_lay 127 = .ok (.aload_n 0, 1) := by decide +kernel
theorem dX5_lay_128 : decode cX5_lay 128 = .ok (.getfield 44, 3) := by decide +kernel
theorem dX5_lay_131 : decode cX5_lay 131 = .ok (.iload_n 1, 1) := by decide +kernel
theorem dX5_lay_132 : decode cX5_lay 132 = .ok (.iload 5, 2) := by decide +kernel
theorem dX5_lay_134 : decode cX5_lay 134 = .ok (.iconst 0, 1) := by decide +kernel
theorem dX5_lay_135 : decode cX5_lay 135 = .ok (.invokestatic 72, 3) := by decide +kernel
theorem dX5_lay_138 : decode cX5_lay 138 = .ok (.iconst (-1), 1) := by decide +kernel
theorem dX5_lay_139 : decode cX5_lay 139 = .ok (.bastore, 1) := by decide +kernel
theorem dX5_lay_140 : decode cX5_lay 140 = .ok (.iinc 4 1, 3) := by decide +kernel
theorem dX5_lay_143 : decode cX5_lay 143 = .ok (.iinc 5 1, 3) := by decide +kernel
theorem dX5_lay_146 : decode cX5_lay 146 = .ok (.goto (-120), 3) := by decide +kernel
theorem dX5_lay_149 : decode cX5_lay 149 = .ok (.iload 4, 2) := by decide +kernel
theorem dX5_lay_151 : decode cX5_lay 151 = .ok (.ireturn, 1) := by decide +kernel
theorem dX5_cellAt_0 : decode cX5_cellAt 0 = .ok (.iload_n 0, 1) := by decide +kernel
theorem dX5_cellAt_1 : decode cX5_cellAt 1 = .ok (.bipush 8, 2) := by decide +kernel
theorem dX5_cellAt_3 : decode cX5_cellAt 3 = .ok (.imul, 1) := by decide +kernel
theorem dX5_cellAt_4 : decode cX5_cellAt 4 = .ok (.bipush 8, 2) := by decide +kernel
theorem dX5_cellAt_6 : decode cX5_cellAt 6 = .ok (.imul, 1) := by decide +kernel
theorem dX5_cellAt_7 : decode cX5_cellAt 7 = .ok (.iload_n 1, 1) := by decide +kernel
theorem dX5_cellAt_8 : decode cX5_cellAt 8 = .ok (.iadd, 1) := by decide +kernel
theorem dX5_cellAt_9 : decode cX5_cellAt 9 = .ok (.iconst 2, 1) := by decide +kernel
theorem dX5_cellAt_10 : decode cX5_cellAt 10 = .ok (.imul, 1) := by decide +kernel
theorem dX5_cellAt_11 : decode cX5_cellAt 11 = .ok (.iload_n 2, 1) := by decide +kernel
theorem dX5_cellAt_12 : decode cX5_cellAt 12 = .ok (.iadd, 1) := by decide +kernel
theorem dX5_cellAt_13 : decode cX5_cellAt 13 = .ok (.ireturn, 1) := by decide +kernel
theorem dX5_pairOf_0 : decode cX5_pairOf 0 = .ok (.iload_n 0, 1) := by decide +kernel
theorem dX5_pairOf_1 : decode cX5_pairOf 1 = .ok (.sipush 128, 3) := by decide +kernel
theorem dX5_pairOf_4 : decode cX5_pairOf 4 = .ok (.idiv, 1) := by decide +kernel
theorem dX5_pairOf_5 : decode cX5_pairOf 5 = .ok (.ireturn, 1) := by decide +kernel
theorem dX5_manOf_0 : decode cX5_manOf 0 = .ok (.iload_n 0, 1) := by decide +kernel
theorem dX5_manOf_1 : decode cX5_manOf 1 = .ok (.sipush 128, 3) := by decide +kernel
theorem dX5_manOf_4 : decode cX5_manOf 4 = .ok (.irem, 1) := by decide +kernel
theorem dX5_manOf_5 : decode cX5_manOf 5 = .ok (.iconst 2, 1) := by decide +kernel
theorem dX5_manOf_6 : decode cX5_manOf 6 = .ok (.idiv, 1) := by decide +kernel
theorem dX5_manOf_7 : decode cX5_manOf 7 = .ok (.ireturn, 1) := by decide +kernel
theorem dX5_turnOf_0 : decode cX5_turnOf 0 = .ok (.iload_n 0, 1) := by decide +kernel
theorem dX5_turnOf_1 : decode cX5_turnOf 1 = .ok (.iconst 1, 1) := by decide +kernel
theorem dX5_turnOf_2 : decode cX5_turnOf 2 = .ok (.iand, 1) := by decide +kernel
theorem dX5_turnOf_3 : decode cX5_turnOf 3 = .ok (.ireturn, 1) := by decide +kernel
theorem dX5_sumUp_0 : decode cX5_sumUp 0 = .ok (.iconst 0, 1) := by decide +kernel
theorem dX5_sumUp_1 : decode cX5_sumUp 1 = .ok (.istore_n 1, 1) := by decide +kernel
theorem dX5_sumUp_2 : decode cX5_sumUp 2 = .ok (.iconst 0, 1) := by decide +kernel
theorem dX5_sumUp_3 : decode cX5_sumUp 3 = .ok (.istore_n 2, 1) := by decide +kernel
theorem dX5_sumUp_4 : decode cX5_sumUp 4 = .ok (.iload_n 2, 1) := by decide +kernel
theorem dX5_sumUp_5 : decode cX5_sumUp 5 = .ok (.aload_n 0, 1) := by decide +kernel
theorem dX5_sumUp_6 : decode cX5_sumUp 6 = .ok (.getfield 44, 3) := by decide +kernel
theorem dX5_sumUp_9 : decode cX5_sumUp 9 = .ok (.arraylength, 1) := by decide +kernel
theorem dX5_sumUp_10 : decode cX5_sumUp 10 = .ok (.if_icmp .ge 29, 3) := by decide +kernel
theorem dX5_sumUp_13 : decode cX5_sumUp 13 = .ok (.aload_n 0, 1) := by decide +kernel
theorem dX5_sumUp_14 : decode cX5_sumUp 14 = .ok (.getfield 44, 3) := by decide +kernel
theorem dX5_sumUp_17 : decode cX5_sumUp 17 = .ok (.iload_n 2, 1) := by decide +kernel
theorem dX5_sumUp_18 : decode cX5_sumUp 18 = .ok (.baload, 1) := by decide +kernel
theorem dX5_sumUp_19 : decode cX5_sumUp 19 = .ok (.bipush (-2), 2) := by decide +kernel
theorem dX5_sumUp_21 : decode cX5_sumUp 21 = .ok (.if_icmp .eq 12, 3) := by decide +kernel
theorem dX5_sumUp_24 : decode cX5_sumUp 24 = .ok (.aload_n 0, 1) := by decide +kernel
theorem dX5_sumUp_25 : decode cX5_sumUp 25 = .ok (.iload_n 2, 1) := by decide +kernel
theorem dX5_sumUp_26 : decode cX5_sumUp 26 = .ok (.iload_n 1, 1) := by decide +kernel
theorem dX5_sumUp_27 : decode cX5_sumUp 27 = .ok (.invokevirtual 88, 3) := by decide +kernel
theorem dX5_sumUp_30 : decode cX5_sumUp 30 = .ok (.iinc 1 1, 3) := by decide +kernel
theorem dX5_sumUp_33 : decode cX5_sumUp 33 = .ok (.iinc 2 1, 3) := by decide +kernel
theorem dX5_sumUp_36 : decode cX5_sumUp 36 = .ok (.goto (-32), 3) := by decide +kernel
theorem dX5_sumUp_39 : decode cX5_sumUp 39 = .ok (.return_, 1) := by decide +kernel
theorem dX5_sumUpCell_0 : decode cX5_sumUpCell 0 = .ok (.iload_n 1, 1) := by decide +kernel
theorem dX5_sumUpCell_1 : decode cX5_sumUpCell 1 = .ok (.invokestatic 92, 3) := by decide +kernel
theorem dX5_sumUpCell_4 : decode cX5_sumUpCell 4 = .ok (.istore_n 3, 1) := by decide +kernel
theorem dX5_sumUpCell_5 : decode cX5_sumUpCell 5 = .ok (.aload_n 0, 1) := by decide +kernel
theorem dX5_sumUpCell_6 : decode cX5_sumUpCell 6 = .ok (.getfield 44, 3) := by decide +kernel
theorem dX5_sumUpCell_9 : decode cX5_sumUpCell 9 = .ok (.iload_n 1, 1) := by decide +kernel
theorem dX5_sumUpCell_10 : decode cX5_sumUpCell 10 = .ok (.baload, 1) := by decide +kernel
theorem dX5_sumUpCell_11 : decode cX5_sumUpCell 11 = .ok (.istore 4, 2) := by decide +kernel
theorem dX5_sumUpCell_13 : decode cX5_sumUpCell 13 = .ok (.aload_n 0, 1) := by decide +kernel
theorem dX5_sumUpCell_14 : decode cX5_sumUpCell 14 = .ok (.getfield 15, 3) := by decide +kernel
theorem dX5_sumUpCell_17 : decode cX5_sumUpCell 17 = .ok (.iload_n 3, 1) := by decide +kernel
theorem dX5_sumUpCell_18 : decode cX5_sumUpCell 18 = .ok (.dup2, 1) := by decide +kernel
theorem dX5_sumUpCell_19 : decode cX5_sumUpCell 19 = .ok (.iaload, 1) := by decide +kernel
theorem dX5_sumUpCell_20 : decode cX5_sumUpCell 20 = .ok (.iconst 1, 1) := by decide +kernel
theorem dX5_sumUpCell_21 : decode cX5_sumUpCell 21 = .ok (.iadd, 1) := by decide +kernel
theorem dX5_sumUpCell_22 : decode cX5_sumUpCell 22 = .ok (.iastore, 1) := by decide +kernel
theorem dX5_sumUpCell_23 : decode cX5_sumUpCell 23 = .ok (.iload 4, 2) := by decide +kernel
theorem dX5_sumUpCell_25 : decode cX5_sumUpCell 25 = .ok (.iconst (-1), 1) := by decide +kernel
theorem dX5_sumUpCell_26 : decode cX5_sumUpCell 26 = .ok (.if_icmp .ne 43, 3) := by decide +kernel
theorem dX5_sumUpCell_29 : decode cX5_sumUpCell 29 = .ok (.aload_n 0, 1) := by decide +kernel
theorem dX5_sumUpCell_30 : decode cX5_sumUpCell 30 = .ok (.getfield 9, 3) := by decide +kernel
theorem dX5_sumUpCell_33 : decode cX5_sumUpCell 33 = .ok (.iload_n 3, 1) := by decide +kernel
theorem dX5_sumUpCell_34 : decode cX5_sumUpCell 34 = .ok (.dup2, 1) := by decide +kernel
theorem dX5_sumUpCell_35 : decode cX5_sumUpCell 35 = .ok (.iaload, 1) := by decide +kernel
theorem dX5_sumUpCell_36 : decode cX5_sumUpCell 36 = .ok (.iconst 1, 1) := by decide +kernel
theorem dX5_sumUpCell_37 : decode cX5_sumUpCell 37 = .ok (.iadd, 1) := by decide +kernel
theorem dX5_sumUpCell_38 : decode cX5_sumUpCell 38 = .ok (.iastore, 1) := by decide +kernel
theorem dX5_sumUpCell_39 : decode cX5_sumUpCell 39 = .ok (.aload_n 0, 1) := by decide +kernel
theorem dX5_sumUpCell_40 : decode cX5_sumUpCell 40 = .ok (.dup, 1) := by decide +kernel
theorem dX5_sumUpCell_41 : decode cX5_sumUpCell 41 = .ok (.getfield 95, 3) := by decide +kernel
theorem dX5_sumUpCell_44 : decode cX5_sumUpCell 44 = .ok (.iload_n 3, 1) := by decide +kernel
theorem dX5_sumUpCell_45 : decode cX5_sumUpCell 45 = .ok (.ifCond .ne 18, 3) := by decide +kernel
theorem dX5_sumUpCell_48 : decode cX5_sumUpCell 48 = .ok (.aload_n 0, 1) := by decide +kernel
theorem dX5_sumUpCell_49 : decode cX5_sumUpCell 49 = .ok (.getfield 44, 3) := by decide +kernel
theorem dX5_sumUpCell_52 : decode cX5_sumUpCell 52 = .ok (.iload_n 1, 1) := by decide +kernel
theorem dX5_sumUpCell_53 : decode cX5_sumUpCell 53 = .ok (.iconst 1, 1) := by decide +kernel
theorem dX5_sumUpCell_54 : decode cX5_sumUpCell 54 = .ok (.iadd, 1) := by decide +kernel
theorem dX5_sumUpCell_55 : decode cX5_sumUpCell 55 = .ok (.baload, 1) := by decide +kernel
theorem dX5_sumUpCell_56 : decode cX5_sumUpCell 56 = .ok (.ifCond .lt 7, 3) := by decide +kernel
theorem dX5_sumUpCell_59 : decode cX5_sumUpCell 59 = .ok (.iconst 1, 1) := by decide +kernel
theorem dX5_sumUpCell_60 : decode cX5_sumUpCell 60 = .ok (.goto 4, 3) := by decide +kernel
theorem dX5_sumUpCell_63 : decode cX5_sumUpCell 63 = .ok (.iconst 0, 1) := by decide +kernel
theorem dX5_sumUpCell_64 : decode cX5_sumUpCell 64 = .ok (.iadd, 1) := by decide +kernel
theorem dX5_sumUpCell_65 : decode cX5_sumUpCell 65 = .ok (.putfield 95, 3) := by decide +kernel
theorem dX5_sumUpCell_68 : decode cX5_sumUpCell 68 = .ok (.return_, 1) := by decide +kernel
theorem dX5_sumUpCell_69 : decode cX5_sumUpCell 69 = .ok (.aload_n 0, 1) := by decide +kernel
theorem dX5_sumUpCell_70 : decode cX5_sumUpCell 70 = .ok (.getfield 24, 3) := by decide +kernel
theorem dX5_sumUpCell_73 : decode cX5_sumUpCell 73 = .ok (.iconst 2, 1) := by decide +kernel
theorem dX5_sumUpCell_74 : decode cX5_sumUpCell 74 = .ok (.iload 4, 2) := by decide +kernel
theorem dX5_sumUpCell_76 : decode cX5_sumUpCell 76 = .ok (.imul, 1) := by decide +kernel
theorem dX5_sumUpCell_77 : decode cX5_sumUpCell 77 = .ok (.iload_n 3, 1) := by decide +kernel
theorem dX5_sumUpCell_78 : decode cX5_sumUpCell 78 = .ok (.iadd, 1) := by decide +kernel
theorem dX5_sumUpCell_79 : decode cX5_sumUpCell 79 = .ok (.dup2, 1) := by decide +kernel
theorem dX5_sumUpCell_80 : decode cX5_sumUpCell 80 = .ok (.iaload, 1) := by decide +kernel
theorem dX5_sumUpCell_81 : decode cX5_sumUpCell 81 = .ok (.iconst 1, 1) := by decide +kernel
theorem dX5_sumUpCell_82 : decode cX5_sumUpCell 82 = .ok (.iadd, 1) := by decide +kernel
theorem dX5_sumUpCell_83 : decode cX5_sumUpCell 83 = .ok (.iastore, 1) := by decide +kernel
theorem dX5_sumUpCell_84 : decode cX5_sumUpCell 84 = .ok (.iload 4, 2) := by decide +kernel
theorem dX5_sumUpCell_86 : decode cX5_sumUpCell 86 = .ok (.aload_n 0, 1) := by decide +kernel
theorem dX5_sumUpCell_87 : decode cX5_sumUpCell 87 = .ok (.getfield 18, 3) := by decide +kernel
theorem dX5_sumUpCell_90 : decode cX5_sumUpCell 90 = .ok (.iload_n 3, 1) := by decide +kernel
theorem dX5_sumUpCell_91 : decode cX5_sumUpCell 91 = .ok (.iaload, 1) := by decide +kernel
theorem dX5_sumUpCell_92 : decode cX5_sumUpCell 92 = .ok (.if_icmp .le 18, 3) := by decide +kernel
theorem dX5_sumUpCell_95 : decode cX5_sumUpCell 95 = .ok (.aload_n 0, 1) := by decide +kernel
theorem dX5_sumUpCell_96 : decode cX5_sumUpCell 96 = .ok (.getfield 18, 3) := by decide +kernel
theorem dX5_sumUpCell_99 : decode cX5_sumUpCell 99 = .ok (.iload_n 3, 1) := by decide +kernel
theorem dX5_sumUpCell_100 : decode cX5_sumUpCell 100 = .ok (.iload 4, 2) := by decide +kernel
theorem dX5_sumUpCell_102 : decode cX5_sumUpCell 102 = .ok (.iastore, 1) := by decide +kernel
theorem dX5_sumUpCell_103 : decode cX5_sumUpCell 103 = .ok (.aload_n 0, 1) := by decide +kernel
theorem dX5_sumUpCell_104 : decode cX5_sumUpCell 104 = .ok (.getfield 21, 3) := by decide +kernel
theorem dX5_sumUpCell_107 : decode cX5_sumUpCell 107 = .ok (.iload_n 3, 1) := by decide +kernel
theorem dX5_sumUpCell_108 : decode cX5_sumUpCell 108 = .ok (.iload_n 2, 1) := by decide +kernel
theorem dX5_sumUpCell_109 : decode cX5_sumUpCell 109 = .ok (.iastore, 1) := by decide +kernel
theorem dX5_sumUpCell_110 : decode cX5_sumUpCell 110 = .ok (.return_, 1) := by decide +kernel
theorem dX5_size_0 : decode cX5_size 0 = .ok (.aload_n 0, 1) := by decide +kernel
theorem dX5_size_1 : decode cX5_size 1 = .ok (.getfield 54, 3) := by decide +kernel
theorem dX5_size_4 : decode cX5_size 4 = .ok (.aload_n 0, 1) := by decide +kernel
theorem dX5_size_5 : decode cX5_size 5 = .ok (.getfield 35, 3) := by decide +kernel
theorem dX5_size_8 : decode cX5_size 8 = .ok (.getfield 39, 3) := by decide +kernel
theorem dX5_size_11 : decode cX5_size 11 = .ok (.iaload, 1) := by decide +kernel
theorem dX5_size_12 : decode cX5_size 12 = .ok (.ireturn, 1) := by decide +kernel
theorem dX5_howManyAt_0 : decode cX5_howManyAt 0 = .ok (.iload_n 2, 1) := by decide +kernel
theorem dX5_howManyAt_1 : decode cX5_howManyAt 1 = .ok (.ifCond .lt 9, 3) := by decide +kernel
theorem dX5_howManyAt_4 : decode cX5_howManyAt 4 = .ok (.iload_n 2, 1) := by decide +kernel
theorem dX5_howManyAt_5 : decode cX5_howManyAt 5 = .ok (.bipush 126, 2) := by decide +kernel
theorem dX5_howManyAt_7 : decode cX5_howManyAt 7 = .ok (.if_icmp .le 7, 3) := by decide +kernel
theorem dX5_howManyAt_10 : decode cX5_howManyAt 10 = .ok (.iconst 0, 1) := by decide +kernel
theorem dX5_howManyAt_11 : decode cX5_howManyAt 11 = .ok (.goto 13, 3) := by decide +kernel
theorem dX5_howManyAt_14 : decode cX5_howManyAt 14 = .ok (.aload_n 0, 1) := by decide +kernel
theorem dX5_howManyAt_15 : decode cX5_howManyAt 15 = .ok (.getfield 24, 3) := by decide +kernel
theorem dX5_howManyAt_18 : decode cX5_howManyAt 18 = .ok (.iconst 2, 1) := by decide +kernel
theorem dX5_howManyAt_19 : decode cX5_howManyAt 19 = .ok (.iload_n 2, 1) := by decide +kernel
theorem dX5_howManyAt_20 : decode cX5_howManyAt 20 = .ok (.imul, 1) := by decide +kernel
theorem dX5_howManyAt_21 : decode cX5_howManyAt 21 = .ok (.iload_n 1, 1) := by decide +kernel
theorem dX5_howManyAt_22 : decode cX5_howManyAt 22 = .ok (.iadd, 1) := by decide +kernel
theorem dX5_howManyAt_23 : decode cX5_howManyAt 23 = .ok (.iaload, 1) := by decide +kernel
theorem dX5_howManyAt_24 : decode cX5_howManyAt 24 = .ok (.ireturn, 1) := by decide +kernel
theorem dX5_look_0 : decode cX5_look 0 = .ok (.aload_n 0, 1) := by decide +kernel
theorem dX5_look_1 : decode cX5_look 1 = .ok (.getfield 35, 3) := by decide +kernel
theorem dX5_look_4 : decode cX5_look 4 = .ok (.iload_n 1, 1) := by decide +kernel
theorem dX5_look_5 : decode cX5_look 5 = .ok (.iload_n 2, 1) := by decide +kernel
theorem dX5_look_6 : decode cX5_look 6 = .ok (.iload_n 3, 1) := by decide +kernel
theorem dX5_look_7 : decode cX5_look 7 = .ok (.iload 4, 2) := by decide +kernel
theorem dX5_look_9 : decode cX5_look 9 = .ok (.invokevirtual 76, 3) := by decide +kernel
theorem dX5_look_12 : decode cX5_look 12 = .ok (.istore 5, 2) := by decide +kernel
theorem dX5_look_14 : decode cX5_look 14 = .ok (.iload 5, 2) := by decide +kernel
theorem dX5_look_16 : decode cX5_look 16 = .ok (.iconst (-1), 1) := by decide +kernel
theorem dX5_look_17 : decode cX5_look 17 = .ok (.if_icmp .eq 13, 3) := by decide +kernel
theorem dX5_look_20 : decode cX5_look 20 = .ok (.aload_n 0, 1) := by decide +kernel
theorem dX5_look_21 : decode cX5_look 21 = .ok (.getfield 44, 3) := by decide +kernel
theorem dX5_look_24 : decode cX5_look 24 = .ok (.iload 5, 2) := by decide +kernel
theorem dX5_look_26 : decode cX5_look 26 = .ok (.baload, 1) := by decide +kernel
theorem dX5_look_27 : decode cX5_look 27 = .ok (.ifCond .ge 7, 3) := by decide +kernel
theorem dX5_look_30 : decode cX5_look 30 = .ok (.iconst (-1), 1) := by decide +kernel
theorem dX5_look_31 : decode cX5_look 31 = .ok (.goto 10, 3) := by decide +kernel
theorem dX5_look_34 : decode cX5_look 34 = .ok (.aload_n 0, 1) := by decide +kernel
theorem dX5_look_35 : decode cX5_look 35 = .ok (.getfield 44, 3) := by decide +kernel
theorem dX5_look_38 : decode cX5_look 38 = .ok (.iload 5, 2) := by decide +kernel
theorem dX5_look_40 : decode cX5_look 40 = .ok (.baload, 1) := by decide +kernel
theorem dX5_look_41 : decode cX5_look 41 = .ok (.ireturn, 1) := by decide +kernel
theorem dX5_numberOf_0 : decode cX5_numberOf 0 = .ok (.aload_n 0, 1) := by decide +kernel
theorem dX5_numberOf_1 : decode cX5_numberOf 1 = .ok (.getfield 35, 3) := by decide +kernel
theorem dX5_numberOf_4 : decode cX5_numberOf 4 = .ok (.iload_n 1, 1) := by decide +kernel
theorem dX5_numberOf_5 : decode cX5_numberOf 5 = .ok (.iload_n 2, 1) := by decide +kernel
theorem dX5_numberOf_6 : decode cX5_numberOf 6 = .ok (.iload_n 3, 1) := by decide +kernel
theorem dX5_numberOf_7 : decode cX5_numberOf 7 = .ok (.iload 4, 2) := by decide +kernel
theorem dX5_numberOf_9 : decode cX5_numberOf 9 = .ok (.invokevirtual 76, 3) := by decide +kernel
theorem dX5_numberOf_12 : decode cX5_numberOf 12 = .ok (.istore 5, 2) := by decide +kernel
theorem dX5_numberOf_14 : decode cX5_numberOf 14 = .ok (.iload 5, 2) := by decide +kernel
theorem dX5_numberOf_16 : decode cX5_numberOf 16 = .ok (.iconst (-1), 1) := by decide +kernel
theorem dX5_numberOf_17 : decode cX5_numberOf 17 = .ok (.if_icmp .ne 5, 3) := by decide +kernel
theorem dX5_numberOf_20 : decode cX5_numberOf 20 = .ok (.iconst (-1), 1) := by decide +kernel
theorem dX5_numberOf_21 : decode cX5_numberOf 21 = .ok (.ireturn, 1) := by decide +kernel
theorem dX5_numberOf_22 : decode cX5_numberOf 22 = .ok (.aload_n 0, 1) := by decide +kernel
theorem dX5_numberOf_23 : decode cX5_numberOf 23 = .ok (.getfield 54, 3) := by decide +kernel
theorem dX5_numberOf_26 : decode cX5_numberOf 26 = .ok (.iload 5, 2) := by decide +kernel
theorem dX5_numberOf_28 : decode cX5_numberOf 28 = .ok (.invokestatic 98, 3) := by decide +kernel
theorem dX5_numberOf_31 : decode cX5_numberOf 31 = .ok (.iaload, 1) := by decide +kernel
theorem dX5_numberOf_32 : decode cX5_numberOf 32 = .ok (.istore 6, 2) := by decide +kernel
theorem dX5_numberOf_34 : decode cX5_numberOf 34 = .ok (.iload 5, 2) := by decide +kernel
theorem dX5_numberOf_36 : decode cX5_numberOf 36 = .ok (.invokestatic 98, 3) := by decide +kernel
theorem dX5_numberOf_39 : decode cX5_numberOf 39 = .ok (.sipush 128, 3) := by decide +kernel
theorem dX5_numberOf_42 : decode cX5_numberOf 42 = .ok (.imul, 1) := by decide +kernel
theorem dX5_numberOf_43 : decode cX5_numberOf 43 = .ok (.istore 7, 2) := by decide +kernel
theorem dX5_numberOf_45 : decode cX5_numberOf 45 = .ok (.iload 7, 2) := by decide +kernel
theorem dX5_numberOf_47 : decode cX5_numberOf 47 = .ok (.iload 5, 2) := by decide +kernel
theorem dX5_numberOf_49 : decode cX5_numberOf 49 = .ok (.if_icmp .ge 31, 3) := by decide +kernel
theorem dX5_numberOf_52 : decode cX5_numberOf 52 = .ok (.iload 6, 2) := by decide +kernel
theorem dX5_numberOf_54 : decode cX5_numberOf 54 = .ok (.aload_n 0, 1) := by decide +kernel
theorem dX5_numberOf_55 : decode cX5_numberOf 55 = .ok (.getfield 44, 3) := by decide +kernel
theorem dX5_numberOf_58 : decode cX5_numberOf 58 = .ok (.iload 7, 2) := by decide +kernel
theorem dX5_numberOf_60 : decode cX5_numberOf 60 = .ok (.baload, 1) := by decide +kernel
theorem dX5_numberOf_61 : decode cX5_numberOf 61 = .ok (.bipush (-2), 2) := by decide +kernel
theorem dX5_numberOf_63 : decode cX5_numberOf 63 = .ok (.if_icmp .eq 7, 3) := by decide +kernel
theorem dX5_numberOf_66 : decode cX5_numberOf 66 = .ok (.iconst 1, 1) := by decide +kernel
theorem dX5_numberOf_67 : decode cX5_numberOf 67 = .ok (.goto 4, 3) := by decide +kernel
theorem dX5_numberOf_70 : decode cX5_numberOf 70 = .ok (.iconst 0, 1) := by decide +kernel
theorem dX5_numberOf_71 : decode cX5_numberOf 71 = .ok (.iadd, 1) := by decide +kernel
theorem dX5_numberOf_72 : decode cX5_numberOf 72 = .ok (.istore 6, 2) := by decide +kernel
theorem dX5_numberOf_74 : decode cX5_numberOf 74 = .ok (.iinc 7 1, 3) := by decide +kernel
theorem dX5_numberOf_77 : decode cX5_numberOf 77 = .ok (.goto (-32), 3) := by decide +kernel
theorem dX5_numberOf_80 : decode cX5_numberOf 80 = .ok (.iload 6, 2) := by decide +kernel
theorem dX5_numberOf_82 : decode cX5_numberOf 82 = .ok (.ireturn, 1) := by decide +kernel
theorem dX5_cellNumbered_0 : decode cX5_cellNumbered 0 = .ok (.iload_n 1, 1) := by decide +kernel
theorem dX5_cellNumbered_1 : decode cX5_cellNumbered 1 = .ok (.ifCond .lt 11, 3) := by decide +kernel
theorem dX5_cellNumbered_4 : decode cX5_cellNumbered 4 = .ok (.iload_n 1, 1) := by decide +kernel
theorem dX5_cellNumbered_5 : decode cX5_cellNumbered 5 = .ok (.aload_n 0, 1) := by decide +kernel
theorem dX5_cellNumbered_6 : decode cX5_cellNumbered 6 = .ok (.invokevirtual 101, 3) := by decide +kernel
theorem dX5_cellNumbered_9 : decode cX5_cellNumbered 9 = .ok (.if_icmp .lt 5, 3) := by decide +kernel
theorem dX5_cellNumbered_12 : decode cX5_cellNumbered 12 = .ok (.iconst (-1), 1) := by decide +kernel
theorem dX5_cellNumbered_13 : decode cX5_cellNumbered 13 = .ok (.ireturn, 1) := by decide +kernel
theorem dX5_cellNumbered_14 : decode cX5_cellNumbered 14 = .ok (.aload_n 0, 1) := by decide +kernel
theorem dX5_cellNumbered_15 : decode cX5_cellNumbered 15 = .ok (.iload_n 1, 1) := by decide +kernel
theorem dX5_cellNumbered_16 : decode cX5_cellNumbered 16 = .ok (.invokevirtual 104, 3) := by decide +kernel
theorem dX5_cellNumbered_19 : decode cX5_cellNumbered 19 = .ok (.istore_n 2, 1) := by decide +kernel
theorem dX5_cellNumbered_20 : decode cX5_cellNumbered 20 = .ok (.iload_n 1, 1) := by decide +kernel
theorem dX5_cellNumbered_21 : decode cX5_cellNumbered 21 = .ok (.aload_n 0, 1) := by decide +kernel
theorem dX5_cellNumbered_22 : decode cX5_cellNumbered 22 = .ok (.getfield 54, 3) := by decide +kernel
theorem dX5_cellNumbered_25 : decode cX5_cellNumbered 25 = .ok (.iload_n 2, 1) := by decide +kernel
theorem dX5_cellNumbered_26 : decode cX5_cellNumbered 26 = .ok (.iaload, 1) := by decide +kernel
theorem dX5_cellNumbered_27 : decode cX5_cellNumbered 27 = .ok (.isub, 1) := by decide +kernel
theorem dX5_cellNumbered_28 : decode cX5_cellNumbered 28 = .ok (.istore_n 3, 1) := by decide +kernel
theorem dX5_cellNumbered_29 : decode cX5_cellNumbered 29 = .ok (.iload_n 2, 1) := by decide +kernel
theorem dX5_cellNumbered_30 : decode cX5_cellNumbered 30 = .ok (.sipush 128, 3) := by decide +kernel
theorem dX5_cellNumbered_33 : decode cX5_cellNumbered 33 = .ok (.imul, 1) := by decide +kernel
theorem dX5_cellNumbered_34 : decode cX5_cellNumbered 34 = .ok (.istore 4, 2) := by decide +kernel
theorem dX5_cellNumbered_36 : decode cX5_cellNumbered 36 = .ok (.iload 4, 2) := by decide +kernel
theorem dX5_cellNumbered_38 : decode cX5_cellNumbered 38 = .ok (.iload_n 2, 1) := by decide +kernel
theorem dX5_cellNumbered_39 : decode cX5_cellNumbered 39 = .ok (.iconst 1, 1) := by decide +kernel
theorem dX5_cellNumbered_40 : decode cX5_cellNumbered 40 = .ok (.iadd, 1) := by decide +kernel
theorem dX5_cellNumbered_41 : decode cX5_cellNumbered 41 = .ok (.sipush 128, 3) := by decide +kernel
theorem dX5_cellNumbered_44 : decode cX5_cellNumbered 44 = .ok (.imul, 1) := by decide +kernel
theorem dX5_cellNumbered_45 : decode cX5_cellNumbered 45 = .ok (.if_icmp .ge 36, 3) := by decide +kernel
theorem dX5_cellNumbered_48 : decode cX5_cellNumbered 48 = .ok (.iload_n 3, 1) := by decide +kernel
theorem dX5_cellNumbered_49 : decode cX5_cellNumbered 49 = .ok (.aload_n 0, 1) := by decide +kernel
theorem dX5_cellNumbered_50 : decode cX5_cellNumbered 50 = .ok (.getfield 44, 3) := by decide +kernel
theorem dX5_cellNumbered_53 : decode cX5_cellNumbered 53 = .ok (.iload 4, 2) := by decide +kernel
theorem dX5_cellNumbered_55 : decode cX5_cellNumbered 55 = .ok (.baload, 1) := by decide +kernel
theorem dX5_cellNumbered_56 : decode cX5_cellNumbered 56 = .ok (.bipush (-2), 2) := by decide +kernel
theorem dX5_cellNumbered_58 : decode cX5_cellNumbered 58 = .ok (.if_icmp .eq 7, 3) := by decide +kernel
theorem dX5_cellNumbered_61 : decode cX5_cellNumbered 61 = .ok (.iconst 1, 1) := by decide +kernel
theorem dX5_cellNumbered_62 : decode cX5_cellNumbered 62 = .ok (.goto 4, 3) := by decide +kernel
theorem dX5_cellNumbered_65 : decode cX5_cellNumbered 65 = .ok (.iconst 0, 1) := by decide +kernel
theorem dX5_cellNumbered_66 : decode cX5_cellNumbered 66 = .ok (.isub, 1) := by decide +kernel
theorem dX5_cellNumbered_67 : decode cX5_cellNumbered 67 = .ok (.istore_n 3, 1) := by decide +kernel
theorem dX5_cellNumbered_68 : decode cX5_cellNumbered 68 = .ok (.iload_n 3, 1) := by decide +kernel
theorem dX5_cellNumbered_69 : decode cX5_cellNumbered 69 = .ok (.ifCond .ge 6, 3) := by decide +kernel
theorem dX5_cellNumbered_72 : decode cX5_cellNumbered 72 = .ok (.iload 4, 2) := by decide +kernel
theorem dX5_cellNumbered_74 : decode cX5_cellNumbered 74 = .ok (.ireturn, 1) := by decide +kernel
theorem dX5_cellNumbered_75 : decode cX5_cellNumbered 75 = .ok (.iinc 4 1, 3) := by decide +kernel
theorem dX5_cellNumbered_78 : decode cX5_cellNumbered 78 = .ok (.goto (-42), 3) := by decide +kernel
theorem dX5_cellNumbered_81 : decode cX5_cellNumbered 81 = .ok (.iconst (-1), 1) := by decide +kernel
theorem dX5_cellNumbered_82 : decode cX5_cellNumbered 82 = .ok (.ireturn, 1) := by decide +kernel
theorem dX5_pairWith_0 : decode cX5_pairWith 0 = .ok (.iconst 0, 1) := by decide +kernel
theorem dX5_pairWith_1 : decode cX5_pairWith 1 = .ok (.istore_n 2, 1) := by decide +kernel
theorem dX5_pairWith_2 : decode cX5_pairWith 2 = .ok (.aload_n 0, 1) := by decide +kernel
theorem dX5_pairWith_3 : decode cX5_pairWith 3 = .ok (.getfield 35, 3) := by decide +kernel
theorem dX5_pairWith_6 : decode cX5_pairWith 6 = .ok (.getfield 39, 3) := by decide +kernel
theorem dX5_pairWith_9 : decode cX5_pairWith 9 = .ok (.iconst 1, 1) := by decide +kernel
theorem dX5_pairWith_10 : decode cX5_pairWith 10 = .ok (.isub, 1) := by decide +kernel
theorem dX5_pairWith_11 : decode cX5_pairWith 11 = .ok (.istore_n 3, 1) := by decide +kernel
theorem dX5_pairWith_12 : decode cX5_pairWith 12 = .ok (.iload_n 2, 1) := by decide +kernel
theorem dX5_pairWith_13 : decode cX5_pairWith 13 = .ok (.iload_n 3, 1) := by decide +kernel
theorem dX5_pairWith_14 : decode cX5_pairWith 14 = .ok (.if_icmp .ge 37, 3) := by decide +kernel
theorem dX5_pairWith_17 : decode cX5_pairWith 17 = .ok (.iload_n 2, 1) := by decide +kernel
theorem dX5_pairWith_18 : decode cX5_pairWith 18 = .ok (.iload_n 3, 1) := by decide +kernel
theorem dX5_pairWith_19 : decode cX5_pairWith 19 = .ok (.iadd, 1) := by decide +kernel
theorem dX5_pairWith_20 : decode cX5_pairWith 20 = .ok (.iconst 1, 1) := by decide +kernel
theorem dX5_pairWith_21 : decode cX5_pairWith 21 = .ok (.iadd, 1) := by decide +kernel
theorem dX5_pairWith_22 : decode cX5_pairWith 22 = .ok (.iconst 2, 1) := by decide +kernel
theorem dX5_pairWith_23 : decode cX5_pairWith 23 = .ok (.idiv, 1) := by decide +kernel
theorem dX5_pairWith_24 : decode cX5_pairWith 24 = .ok (.istore 4, 2) := by decide +kernel
theorem dX5_pairWith_26 : decode cX5_pairWith 26 = .ok (.aload_n 0, 1) := by decide +kernel
theorem dX5_pairWith_27 : decode cX5_pairWith 27 = .ok (.getfield 54, 3) := by decide +kernel
theorem dX5_pairWith_30 : decode cX5_pairWith 30 = .ok (.iload 4, 2) := by decide +kernel
theorem dX5_pairWith_32 : decode cX5_pairWith 32 = .ok (.iaload, 1) := by decide +kernel
theorem dX5_pairWith_33 : decode cX5_pairWith 33 = .ok (.iload_n 1, 1) := by decide +kernel
theorem dX5_pairWith_34 : decode cX5_pairWith 34 = .ok (.if_icmp .gt 9, 3) := by decide +kernel
theorem dX5_pairWith_37 : decode cX5_pairWith 37 = .ok (.iload 4, 2) := by decide +kernel
theorem dX5_pairWith_39 : decode cX5_pairWith 39 = .ok (.istore_n 2, 1) := by decide +kernel
theorem dX5_pairWith_40 : decode cX5_pairWith 40 = .ok (.goto 8, 3) := by decide +kernel
theorem dX5_pairWith_43 : decode cX5_pairWith 43 = .ok (.iload 4, 2) := by decide +kernel
theorem dX5_pairWith_45 : decode cX5_pairWith 45 = .ok (.iconst 1, 1) := by decide +kernel
theorem dX5_pairWith_46 : decode cX5_pairWith 46 = .ok (.isub, 1) := by decide +kernel
theorem dX5_pairWith_47 : decode cX5_pairWith 47 = .ok (.istore_n 3, 1) := by decide +kernel
theorem dX5_pairWith_48 : decode cX5_pairWith 48 = .ok (.goto (-36), 3) := by decide +kernel
theorem dX5_pairWith_51 : decode cX5_pairWith 51 = .ok (.iload_n 2, 1) := by decide +kernel
theorem dX5_pairWith_52 : decode cX5_pairWith 52 = .ok (.ireturn, 1) := by decide +kernel
theorem dX5_tell_0 : decode cX5_tell 0 = .ok (.iload_n 2, 1) := by decide +kernel
theorem dX5_tell_1 : decode cX5_tell 1 = .ok (.tableswitch 78 0 4 #[35, 48, 61, 66, 71], 35) := by decide +kernel
theorem dX5_tell_36 : decode cX5_tell 36 = .ok (.aload_n 0, 1) := by decide +kernel
theorem dX5_tell_37 : decode cX5_tell 37 = .ok (.getfield 35, 3) := by decide +kernel
theorem dX5_tell_40 : decode cX5_tell 40 = .ok (.getfield 61, 3) := by decide +kernel
theorem dX5_tell_43 : decode cX5_tell 43 = .ok (.iload_n 1, 1) := by decide +kernel
theorem dX5_tell_44 : decode cX5_tell 44 = .ok (.invokestatic 98, 3) := by decide +kernel
theorem dX5_tell_47 : decode cX5_tell 47 = .ok (.iaload, 1) := by decide +kernel
theorem dX5_tell_48 : decode cX5_tell 48 = .ok (.ireturn, 1) := by decide +kernel
theorem dX5_tell_49 : decode cX5_tell 49 = .ok (.aload_n 0, 1) := by decide +kernel
theorem dX5_tell_50 : decode cX5_tell 50 = .ok (.getfield 35, 3) := by decide +kernel
theorem dX5_tell_53 : decode cX5_tell 53 = .ok (.getfield 64, 3) := by decide +kernel
theorem dX5_tell_56 : decode cX5_tell 56 = .ok (.iload_n 1, 1) := by decide +kernel
theorem dX5_tell_57 : decode cX5_tell 57 = .ok (.invokestatic 98, 3) := by decide +kernel
theorem dX5_tell_60 : decode cX5_tell 60 = .ok (.iaload, 1) := by decide +kernel
theorem dX5_tell_61 : decode cX5_tell 61 = .ok (.ireturn, 1) := by decide +kernel
theorem dX5_tell_62 : decode cX5_tell 62 = .ok (.iload_n 1, 1) := by decide +kernel
theorem dX5_tell_63 : decode cX5_tell 63 = .ok (.invokestatic 107, 3) := by decide +kernel
theorem dX5_tell_66 : decode cX5_tell 66 = .ok (.ireturn, 1) := by decide +kernel
theorem dX5_tell_67 : decode cX5_tell 67 = .ok (.iload_n 1, 1) := by decide +kernel
theorem dX5_tell_68 : decode cX5_tell 68 = .ok (.invokestatic 92, 3) := by decide +kernel
theorem dX5_tell_71 : decode cX5_tell 71 = .ok (.ireturn, 1) := by decide +kernel
theorem dX5_tell_72 : decode cX5_tell 72 = .ok (.aload_n 0, 1) := by decide +kernel
theorem dX5_tell_73 : decode cX5_tell 73 = .ok (.getfield 44, 3) := by decide +kernel
theorem dX5_tell_76 : decode cX5_tell 76 = .ok (.iload_n 1, 1) := by decide +kernel
theorem dX5_tell_77 : decode cX5_tell 77 = .ok (.baload, 1) := by decide +kernel
theorem dX5_tell_78 : decode cX5_tell 78 = .ok (.ireturn, 1) := by decide +kernel
theorem dX5_tell_79 : decode cX5_tell 79 = .ok (.iconst (-1), 1) := by decide +kernel
theorem dX5_tell_80 : decode cX5_tell 80 = .ok (.ireturn, 1) := by decide +kernel
theorem dL_distance_0 : decode cL_distance 0 = .ok (.aload 6, 2) := by decide +kernel
theorem dL_distance_2 : decode cL_distance 2 = .ok (.iconst 0, 1) := by decide +kernel
theorem dL_distance_3 : decode cL_distance 3 = .ok (.aload_n 0, 1) := by decide +kernel
theorem dL_distance_4 : decode cL_distance 4 = .ok (.iload_n 1, 1) := by decide +kernel
theorem dL_distance_5 : decode cL_distance 5 = .ok (.iload_n 2, 1) := by decide +kernel
theorem dL_distance_6 : decode cL_distance 6 = .ok (.iload_n 3, 1) := by decide +kernel
theorem dL_distance_7 : decode cL_distance 7 = .ok (.iload 4, 2) := by decide +kernel
theorem dL_distance_9 : decode cL_distance 9 = .ok (.iload 5, 2) := by decide +kernel
theorem dL_distance_11 : decode cL_distance 11 = .ok (.invokevirtual 7, 3) := by decide +kernel
theorem dL_distance_14 : decode cL_distance 14 = .ok (.i2l, 1) := by decide +kernel
theorem dL_distance_15 : decode cL_distance 15 = .ok (.lastore, 1) := by decide +kernel
theorem dL_distance_16 : decode cL_distance 16 = .ok (.goto 7, 3) := by decide +kernel
theorem dL_distance_19 : decode cL_distance 19 = .ok (.astore 7, 2) := by decide +kernel
theorem dL_distance_21 : decode cL_distance 21 = .ok (.iconst 1, 1) := by decide +kernel
theorem dL_distance_22 : decode cL_distance 22 = .ok (.ireturn, 1) := by decide +kernel
theorem dL_distance_23 : decode cL_distance 23 = .ok (.iconst 0, 1) := by decide +kernel
theorem dL_distance_24 : decode cL_distance 24 = .ok (.ireturn, 1) := by decide +kernel
theorem dL_best_0 : decode cL_best 0 = .ok (.aload 6, 2) := by decide +kernel
theorem dL_best_2 : decode cL_best 2 = .ok (.iconst 0, 1) := by decide +kernel
theorem dL_best_3 : decode cL_best 3 = .ok (.aload_n 0, 1) := by decide +kernel
theorem dL_best_4 : decode cL_best 4 = .ok (.iload_n 1, 1) := by decide +kernel
theorem dL_best_5 : decode cL_best 5 = .ok (.iload_n 2, 1) := by decide +kernel
theorem dL_best_6 : decode cL_best 6 = .ok (.iload_n 3, 1) := by decide +kernel
theorem dL_best_7 : decode cL_best 7 = .ok (.iload 4, 2) := by decide +kernel
theorem dL_best_9 : decode cL_best 9 = .ok (.iload 5, 2) := by decide +kernel
theorem dL_best_11 : decode cL_best 11 = .ok (.invokevirtual 15, 3) := by decide +kernel
theorem dL_best_14 : decode cL_best 14 = .ok (.i2l, 1) := by decide +kernel
theorem dL_best_15 : decode cL_best 15 = .ok (.lastore, 1) := by decide +kernel
theorem dL_best_16 : decode cL_best 16 = .ok (.goto 7, 3) := by decide +kernel
theorem dL_best_19 : decode cL_best 19 = .ok (.astore 7, 2) := by decide +kernel
theorem dL_best_21 : decode cL_best 21 = .ok (.iconst 1, 1) := by decide +kernel
theorem dL_best_22 : decode cL_best 22 = .ok (.ireturn, 1) := by decide +kernel
theorem dL_best_23 : decode cL_best 23 = .ok (.iconst 0, 1) := by decide +kernel
theorem dL_best_24 : decode cL_best 24 = .ok (.ireturn, 1) := by decide +kernel
theorem dL_line_0 : decode cL_line 0 = .ok (.aload 6, 2) := by decide +kernel
theorem dL_line_2 : decode cL_line 2 = .ok (.iconst 0, 1) := by decide +kernel
theorem dL_line_3 : decode cL_line 3 = .ok (.aload_n 0, 1) := by decide +kernel
theorem dL_line_4 : decode cL_line 4 = .ok (.iload_n 1, 1) := by decide +kernel
theorem dL_line_5 : decode cL_line 5 = .ok (.iload_n 2, 1) := by decide +kernel
theorem dL_line_6 : decode cL_line 6 = .ok (.iload_n 3, 1) := by decide +kernel
theorem dL_line_7 : decode cL_line 7 = .ok (.iload 4, 2) := by decide +kernel
theorem dL_line_9 : decode cL_line 9 = .ok (.iload 5, 2) := by decide +kernel
theorem dL_line_11 : decode cL_line 11 = .ok (.invokevirtual 18, 3) := by decide +kernel
theorem dL_line_14 : decode cL_line 14 = .ok (.i2l, 1) := by decide +kernel
theorem dL_line_15 : decode cL_line 15 = .ok (.lastore, 1) := by decide +kernel
theorem dL_line_16 : decode cL_line 16 = .ok (.goto 7, 3) := by decide +kernel
theorem dL_line_19 : decode cL_line 19 = .ok (.astore 7, 2) := by decide +kernel
theorem dL_line_21 : decode cL_line 21 = .ok (.iconst 1, 1) := by decide +kernel
theorem dL_line_22 : decode cL_line 22 = .ok (.ireturn, 1) := by decide +kernel
theorem dL_line_23 : decode cL_line 23 = .ok (.iconst 0, 1) := by decide +kernel
theorem dL_line_24 : decode cL_line 24 = .ok (.ireturn, 1) := by decide +kernel
theorem dL_number_0 : decode cL_number 0 = .ok (.aload 6, 2) := by decide +kernel
theorem dL_number_2 : decode cL_number 2 = .ok (.iconst 0, 1) := by decide +kernel
theorem dL_number_3 : decode cL_number 3 = .ok (.aload_n 0, 1) := by decide +kernel
theorem dL_number_4 : decode cL_number 4 = .ok (.iload_n 1, 1) := by decide +kernel
theorem dL_number_5 : decode cL_number 5 = .ok (.iload_n 2, 1) := by decide +kernel
theorem dL_number_6 : decode cL_number 6 = .ok (.iload_n 3, 1) := by decide +kernel
theorem dL_number_7 : decode cL_number 7 = .ok (.iload 4, 2) := by decide +kernel
theorem dL_number_9 : decode cL_number 9 = .ok (.iload 5, 2) := by decide +kernel
theorem dL_number_11 : decode cL_number 11 = .ok (.invokevirtual 21, 3) := by decide +kernel
theorem dL_number_14 : decode cL_number 14 = .ok (.i2l, 1) := by decide +kernel
theorem dL_number_15 : decode cL_number 15 = .ok (.lastore, 1) := by decide +kernel
theorem dL_number_16 : decode cL_number 16 = .ok (.goto 7, 3) := by decide +kernel
theorem dL_number_19 : decode cL_number 19 = .ok (.astore 7, 2) := by decide +kernel
theorem dL_number_21 : decode cL_number 21 = .ok (.iconst 1, 1) := by decide +kernel
theorem dL_number_22 : decode cL_number 22 = .ok (.ireturn, 1) := by decide +kernel
theorem dL_number_23 : decode cL_number 23 = .ok (.iconst 0, 1) := by decide +kernel
theorem dL_number_24 : decode cL_number 24 = .ok (.ireturn, 1) := by decide +kernel
theorem dL_position_0 : decode cL_position 0 = .ok (.aload 4, 2) := by decide +kernel
theorem dL_position_2 : decode cL_position 2 = .ok (.iconst 0, 1) := by decide +kernel
theorem dL_position_3 : decode cL_position 3 = .ok (.aload_n 0, 1) := by decide +kernel
theorem dL_position_4 : decode cL_position 4 = .ok (.iload_n 1, 1) := by decide +kernel
theorem dL_position_5 : decode cL_position 5 = .ok (.iload_n 2, 1) := by decide +kernel
theorem dL_position_6 : decode cL_position 6 = .ok (.iload_n 3, 1) := by decide +kernel
theorem dL_position_7 : decode cL_position 7 = .ok (.invokevirtual 24, 3) := by decide +kernel
theorem dL_position_10 : decode cL_position 10 = .ok (.i2l, 1) := by decide +kernel
theorem dL_position_11 : decode cL_position 11 = .ok (.lastore, 1) := by decide +kernel
theorem dL_position_12 : decode cL_position 12 = .ok (.goto 7, 3) := by decide +kernel
theorem dL_position_15 : decode cL_position 15 = .ok (.astore 5, 2) := by decide +kernel
theorem dL_position_17 : decode cL_position 17 = .ok (.iconst 1, 1) := by decide +kernel
theorem dL_position_18 : decode cL_position 18 = .ok (.ireturn, 1) := by decide +kernel
theorem dL_position_19 : decode cL_position 19 = .ok (.iconst 0, 1) := by decide +kernel
theorem dL_position_20 : decode cL_position 20 = .ok (.ireturn, 1) := by decide +kernel
theorem dL_count_0 : decode cL_count 0 = .ok (.aload 4, 2) := by decide +kernel
theorem dL_count_2 : decode cL_count 2 = .ok (.iconst 0, 1) := by decide +kernel
theorem dL_count_3 : decode cL_count 3 = .ok (.aload_n 0, 1) := by decide +kernel
theorem dL_count_4 : decode cL_count 4 = .ok (.iload_n 1, 1) := by decide +kernel
theorem dL_count_5 : decode cL_count 5 = .ok (.iload_n 2, 1) := by decide +kernel
theorem dL_count_6 : decode cL_count 6 = .ok (.iload_n 3, 1) := by decide +kernel
theorem dL_count_7 : decode cL_count 7 = .ok (.invokevirtual 28, 3) := by decide +kernel
theorem dL_count_10 : decode cL_count 10 = .ok (.i2l, 1) := by decide +kernel
theorem dL_count_11 : decode cL_count 11 = .ok (.lastore, 1) := by decide +kernel
theorem dL_count_12 : decode cL_count 12 = .ok (.goto 7, 3) := by decide +kernel
theorem dL_count_15 : decode cL_count 15 = .ok (.astore 5, 2) := by decide +kernel
theorem dL_count_17 : decode cL_count 17 = .ok (.iconst 1, 1) := by decide +kernel
theorem dL_count_18 : decode cL_count 18 = .ok (.ireturn, 1) := by decide +kernel
theorem dL_count_19 : decode cL_count 19 = .ok (.iconst 0, 1) := by decide +kernel
theorem dL_count_20 : decode cL_count 20 = .ok (.ireturn, 1) := by decide +kernel
theorem dL_longest_0 : decode cL_longest 0 = .ok (.aload 4, 2) := by decide +kernel
theorem dL_longest_2 : decode cL_longest 2 = .ok (.iconst 0, 1) := by decide +kernel
theorem dL_longest_3 : decode cL_longest 3 = .ok (.aload_n 0, 1) := by decide +kernel
theorem dL_longest_4 : decode cL_longest 4 = .ok (.iload_n 1, 1) := by decide +kernel
theorem dL_longest_5 : decode cL_longest 5 = .ok (.iload_n 2, 1) := by decide +kernel
theorem dL_longest_6 : decode cL_longest 6 = .ok (.iload_n 3, 1) := by decide +kernel
theorem dL_longest_7 : decode cL_longest 7 = .ok (.invokevirtual 31, 3) := by decide +kernel
theorem dL_longest_10 : decode cL_longest 10 = .ok (.i2l, 1) := by decide +kernel
theorem dL_longest_11 : decode cL_longest 11 = .ok (.lastore, 1) := by decide +kernel
theorem dL_longest_12 : decode cL_longest 12 = .ok (.goto 7, 3) := by decide +kernel
theorem dL_longest_15 : decode cL_longest 15 = .ok (.astore 5, 2) := by decide +kernel
theorem dL_longest_17 : decode cL_longest 17 = .ok (.iconst 1, 1) := by decide +kernel
theorem dL_longest_18 : decode cL_longest 18 = .ok (.ireturn, 1) := by decide +kernel
theorem dL_longest_19 : decode cL_longest 19 = .ok (.iconst 0, 1) := by decide +kernel
theorem dL_longest_20 : decode cL_longest 20 = .ok (.ireturn, 1) := by decide +kernel
theorem dL_law_0 : decode cL_law 0 = .ok (.new 8, 3) := by decide +kernel
theorem dL_law_3 : decode cL_law 3 = .ok (.dup, 1) := by decide +kernel
theorem dL_law_4 : decode cL_law 4 = .ok (.invokespecial 34, 3) := by decide +kernel
theorem dL_law_7 : decode cL_law 7 = .ok (.astore_n 1, 1) := by decide +kernel
theorem dL_law_8 : decode cL_law 8 = .ok (.new 35, 3) := by decide +kernel
theorem dL_law_11 : decode cL_law 11 = .ok (.dup, 1) := by decide +kernel
theorem dL_law_12 : decode cL_law 12 = .ok (.invokespecial 37, 3) := by decide +kernel
theorem dL_law_15 : decode cL_law 15 = .ok (.astore_n 2, 1) := by decide +kernel
theorem dL_law_16 : decode cL_law 16 = .ok (.iconst 1, 1) := by decide +kernel
theorem dL_law_17 : decode cL_law 17 = .ok (.newarray .long, 2) := by decide +kernel
theorem dL_law_19 : decode cL_law 19 = .ok (.astore_n 3, 1) := by decide +kernel
theorem dL_law_20 : decode cL_law 20 = .ok (.iconst 0, 1) := by decide +kernel
theorem dL_law_21 : decode cL_law 21 = .ok (.istore 4, 2) := by decide +kernel
theorem dL_law_23 : decode cL_law 23 = .ok (.iload 4, 2) := by decide +kernel
theorem dL_law_25 : decode cL_law 25 = .ok (.aload_n 0, 1) := by decide +kernel
theorem dL_law_26 : decode cL_law 26 = .ok (.arraylength, 1) := by decide +kernel
theorem dL_law_27 : decode cL_law 27 = .ok (.bipush 6, 2) := by decide +kernel
theorem dL_law_29 : decode cL_law 29 = .ok (.isub, 1) := by decide +kernel
theorem dL_law_30 : decode cL_law 30 = .ok (.if_icmp .gt 1222, 3) := by decide +kernel
theorem dL_law_33 : decode cL_law 33 = .ok (.aload_n 0, 1) := by decide +kernel
theorem dL_law_34 : decode cL_law 34 = .ok (.iload 4, 2) := by decide +kernel
theorem dL_law_36 : decode cL_law 36 = .ok (.iaload, 1) := by decide +kernel
theorem dL_law_37 : decode cL_law 37 = .ok (.bipush 31, 2) := by decide +kernel
theorem dL_law_39 : decode cL_law 39 = .ok (.iand, 1) := by decide +kernel
theorem dL_law_40 : decode cL_law 40 = .ok (.tableswitch 1206 0 16 #[84, 109, 134, 207, 280, 384, 488, 525, 629, 666, 770, 850, 930, 1010, 1083, 1108, 1181], 84) := by decide +kernel
theorem dL_law_124 : decode cL_law 124 = .ok (.aload_n 1, 1) := by decide +kernel
theorem dL_law_125 : decode cL_law 125 = .ok (.aload_n 0, 1) := by decide +kernel
theorem dL_law_126 : decode cL_law 126 = .ok (.iload 4, 2) := by decide +kernel
theorem dL_law_128 : decode cL_law 128 = .ok (.iconst 1, 1) := by decide +kernel
theorem dL_law_129 : decode cL_law 129 = .ok (.iadd, 1) := by decide +kernel
theorem dL_law_130 : decode cL_law 130 = .ok (.iaload, 1) := by decide +kernel
theorem dL_law_131 : decode cL_law 131 = .ok (.invokevirtual 38, 3) := by decide +kernel
theorem dL_law_134 : decode cL_law 134 = .ok (.aload_n 2, 1) := by decide +kernel
theorem dL_law_135 : decode cL_law 135 = .ok (.aload_n 0, 1) := by decide +kernel
theorem dL_law_136 : decode cL_law 136 = .ok (.iload 4, 2) := by decide +kernel
theorem dL_law_138 : decode cL_law 138 = .ok (.iconst 1, 1) := by decide +kernel
theorem dL_law_139 : decode cL_law 139 = .ok (.iadd, 1) := by decide +kernel
theorem dL_law_140 : decode cL_law 140 = .ok (.iaload, 1) := by decide +kernel
theorem dL_law_141 : decode cL_law 141 = .ok (.invokevirtual 42, 3) := by decide +kernel
theorem dL_law_144 : decode cL_law 144 = .ok (.if_icmp .eq 1102, 3) := by decide +kernel
theorem dL_law_147 : decode cL_law 147 = .ok (.iconst 0, 1) := by decide +kernel
theorem dL_law_148 : decode cL_law 148 = .ok (.ireturn, 1) := by decide +kernel
theorem dL_law_149 : decode cL_law 149 = .ok (.aload_n 1, 1) := by decide +kernel
theorem dL_law_150 : decode cL_law 150 = .ok (.aload_n 0, 1) := by decide +kernel
theorem dL_law_151 : decode cL_law 151 = .ok (.iload 4, 2) := by decide +kernel
theorem dL_law_153 : decode cL_law 153 = .ok (.iconst 1, 1) := by decide +kernel
theorem dL_law_154 : decode cL_law 154 = .ok (.iadd, 1) := by decide +kernel
theorem dL_law_155 : decode cL_law 155 = .ok (.iaload, 1) := by decide +kernel
theorem dL_law_156 : decode cL_law 156 = .ok (.invokevirtual 43, 3) := by decide +kernel
theorem dL_law_159 : decode cL_law 159 = .ok (.aload_n 2, 1) := by decide +kernel
theorem dL_law_160 : decode cL_law 160 = .ok (.aload_n 0, 1) := by decide +kernel
theorem dL_law_161 : decode cL_law 161 = .ok (.iload 4, 2) := by decide +kernel
theorem dL_law_163 : decode cL_law 163 = .ok (.iconst 1, 1) := by decide +kernel
theorem dL_law_164 : decode cL_law 164 = .ok (.iadd, 1) := by decide +kernel
theorem dL_law_165 : decode cL_law 165 = .ok (.iaload, 1) := by decide +kernel
theorem dL_law_166 : decode cL_law 166 = .ok (.invokevirtual 47, 3) := by decide +kernel
theorem dL_law_169 : decode cL_law 169 = .ok (.if_icmp .eq 1077, 3) := by decide +kernel
theorem dL_law_172 : decode cL_law 172 = .ok (.iconst 0, 1) := by decide +kernel
theorem dL_law_173 : decode cL_law 173 = .ok (.ireturn, 1) := by decide +kernel
theorem dL_law_174 : decode cL_law 174 = .ok (.aload_n 1, 1) := by decide +kernel
theorem dL_law_175 : decode cL_law 175 = .ok (.aload_n 0, 1) := by decide +kernel
theorem dL_law_176 : decode cL_law 176 = .ok (.iload 4, 2) := by decide +kernel
theorem dL_law_178 : decode cL_law 178 = .ok (.iconst 1, 1) := by decide +kernel
theorem dL_law_179 : decode cL_law 179 = .ok (.iadd, 1) := by decide +kernel
theorem dL_law_180 : decode cL_law 180 = .ok (.iaload, 1) := by decide +kernel
theorem dL_law_181 : decode cL_law 181 = .ok (.aload_n 0, 1) := by decide +kernel
theorem dL_law_182 : decode cL_law 182 = .ok (.iload 4, 2) := by decide +kernel
theorem dL_law_184 : decode cL_law 184 = .ok (.iconst 2, 1) := by decide +kernel
theorem dL_law_185 : decode cL_law 185 = .ok (.iadd, 1) := by decide +kernel
theorem dL_law_186 : decode cL_law 186 = .ok (.iaload, 1) := by decide +kernel
theorem dL_law_187 : decode cL_law 187 = .ok (.aload_n 0, 1) := by decide +kernel
theorem dL_law_188 : decode cL_law 188 = .ok (.iload 4, 2) := by decide +kernel
theorem dL_law_190 : decode cL_law 190 = .ok (.iconst 3, 1) := by decide +kernel
theorem dL_law_191 : decode cL_law 191 = .ok (.iadd, 1) := by decide +kernel
theorem dL_law_192 : decode cL_law 192 = .ok (.iaload, 1) := by decide +kernel
theorem dL_law_193 : decode cL_law 193 = .ok (.aload_n 0, 1) := by decide +kernel
theorem dL_law_194 : decode cL_law 194 = .ok (.iload 4, 2) := by decide +kernel
theorem dL_law_196 : decode cL_law 196 = .ok (.iconst 4, 1) := by decide +kernel
theorem dL_law_197 : decode cL_law 197 = .ok (.iadd, 1) := by decide +kernel
theorem dL_law_198 : decode cL_law 198 = .ok (.iaload, 1) := by decide +kernel
theorem dL_law_199 : decode cL_law 199 = .ok (.aload_n 0, 1) := by decide +kernel
theorem dL_law_200 : decode cL_law 200 = .ok (.iload 4, 2) := by decide +kernel
theorem dL_law_202 : decode cL_law 202 = .ok (.iconst 5, 1) := by decide +kernel
theorem dL_law_203 : decode cL_law 203 = .ok (.iadd, 1) := by decide +kernel
theorem dL_law_204 : decode cL_law 204 = .ok (.iaload, 1) := by decide +kernel
theorem dL_law_205 : decode cL_law 205 = .ok (.invokevirtual 48, 3) := by decide +kernel
theorem dL_law_208 : decode cL_law 208 = .ok (.aload_n 2, 1) := by decide +kernel
theorem dL_law_209 : decode cL_law 209 = .ok (.aload_n 0, 1) := by decide +kernel
theorem dL_law_210 : decode cL_law 210 = .ok (.iload 4, 2) := by decide +kernel
theorem dL_law_212 : decode cL_law 212 = .ok (.iconst 1, 1) := by decide +kernel
theorem dL_law_213 : decode cL_law 213 = .ok (.iadd, 1) := by decide +kernel
theorem dL_law_214 : decode cL_law 214 = .ok (.iaload, 1) := by decide +kernel
theorem dL_law_215 : decode cL_law 215 = .ok (.aload_n 0, 1) := by decide +kernel
theorem dL_law_216 : decode cL_law 216 = .ok (.iload 4, 2) := by decide +kernel
theorem dL_law_218 : decode cL_law 218 = .ok (.iconst 2, 1) := by decide +kernel
theorem dL_law_219 : decode cL_law 219 = .ok (.iadd, 1) := by decide +kernel
theorem dL_law_220 : decode cL_law 220 = .ok (.iaload, 1) := by decide +kernel
theorem dL_law_221 : decode cL_law 221 = .ok (.aload_n 0, 1) := by decide +kernel
theorem dL_law_222 : decode cL_law 222 = .ok (.iload 4, 2) := by decide +kernel
theorem dL_law_224 : decode cL_law 224 = .ok (.iconst 3, 1) := by decide +kernel
theorem dL_law_225 : decode cL_law 225 = .ok (.iadd, 1) := by decide +kernel
theorem dL_law_226 : decode cL_law 226 = .ok (.iaload, 1) := by decide +kernel
theorem dL_law_227 : decode cL_law 227 = .ok (.aload_n 0, 1) := by decide +kernel
theorem dL_law_228 : decode cL_law 228 = .ok (.iload 4, 2) := by decide +kernel
theorem dL_law_230 : decode cL_law 230 = .ok (.iconst 4, 1) := by decide +kernel
theorem dL_law_231 : decode cL_law 231 = .ok (.iadd, 1) := by decide +kernel
theorem dL_law_232 : decode cL_law 232 = .ok (.iaload, 1) := by decide +kernel
theorem dL_law_233 : decode cL_law 233 = .ok (.aload_n 0, 1) := by decide +kernel
theorem dL_law_234 : decode cL_law 234 = .ok (.iload 4, 2) := by decide +kernel
theorem dL_law_236 : decode cL_law 236 = .ok (.iconst 5, 1) := by decide +kernel
theorem dL_law_237 : decode cL_law 237 = .ok (.iadd, 1) := by decide +kernel
theorem dL_law_238 : decode cL_law 238 = .ok (.iaload, 1) := by decide +kernel
theorem dL_law_239 : decode cL_law 239 = .ok (.invokevirtual 52, 3) := by decide +kernel
theorem dL_law_242 : decode cL_law 242 = .ok (.if_icmp .eq 1004, 3) := by decide +kernel
theorem dL_law_245 : decode cL_law 245 = .ok (.iconst 0, 1) := by decide +kernel
theorem dL_law_246 : decode cL_law 246 = .ok (.ireturn, 1) := by decide +kernel
theorem dL_law_247 : decode cL_law 247 = .ok (.aload_n 1, 1) := by decide +kernel
theorem dL_law_248 : decode cL_law 248 = .ok (.aload_n 0, 1) := by decide +kernel
theorem dL_law_249 : decode cL_law 249 = .ok (.iload 4, 2) := by decide +kernel
theorem dL_law_251 : decode cL_law 251 = .ok (.iconst 1, 1) := by decide +kernel
theorem dL_law_252 : decode cL_law 252 = .ok (.iadd, 1) := by decide +kernel
theorem dL_law_253 : decode cL_law 253 = .ok (.iaload, 1) := by decide +kernel
theorem dL_law_254 : decode cL_law 254 = .ok (.aload_n 0, 1) := by decide +kernel
theorem dL_law_255 : decode cL_law 255 = .ok (.iload 4, 2) := by decide +kernel
theorem dL_law_257 : decode cL_law 257 = .ok (.iconst 2, 1) := by decide +kernel
theorem dL_law_258 : decode cL_law 258 = .ok (.iadd, 1) := by decide +kernel
theorem dL_law_259 : decode cL_law 259 = .ok (.iaload, 1) := by decide +kernel
theorem dL_law_260 : decode cL_law 260 = .ok (.aload_n 0, 1) := by decide +kernel
theorem dL_law_261 : decode cL_law 261 = .ok (.iload 4, 2) := by decide +kernel
theorem dL_law_263 : decode cL_law 263 = .ok (.iconst 3, 1) := by decide +kernel
theorem dL_law_264 : decode cL_law 264 = .ok (.iadd, 1) := by decide +kernel
theorem dL_law_265 : decode cL_law 265 = .ok (.iaload, 1) := by decide +kernel
theorem dL_law_266 : decode cL_law 266 = .ok (.aload_n 0, 1) := by decide +kernel
theorem dL_law_267 : decode cL_law 267 = .ok (.iload 4, 2) := by decide +kernel
theorem dL_law_269 : decode cL_law 269 = .ok (.iconst 4, 1) := by decide +kernel
theorem dL_law_270 : decode cL_law 270 = .ok (.iadd, 1) := by decide +kernel
theorem dL_law_271 : decode cL_law 271 = .ok (.iaload, 1) := by decide +kernel
theorem dL_law_272 : decode cL_law 272 = .ok (.aload_n 0, 1) := by decide +kernel
theorem dL_law_273 : decode cL_law 273 = .ok (.iload 4, 2) := by decide +kernel
theorem dL_law_275 : decode cL_law 275 = .ok (.iconst 5, 1) := by decide +kernel
theorem dL_law_276 : decode cL_law 276 = .ok (.iadd, 1) := by decide +kernel
theorem dL_law_277 : decode cL_law 277 = .ok (.iaload, 1) := by decide +kernel
theorem dL_law_278 : decode cL_law 278 = .ok (.invokevirtual 53, 3) := by decide +kernel
theorem dL_law_281 : decode cL_law 281 = .ok (.aload_n 2, 1) := by decide +kernel
theorem dL_law_282 : decode cL_law 282 = .ok (.aload_n 0, 1) := by decide +kernel
theorem dL_law_283 : decode cL_law 283 = .ok (.iload 4, 2) := by decide +kernel
theorem dL_law_285 : decode cL_law 285 = .ok (.iconst 1, 1) := by decide +kernel
theorem dL_law_286 : decode cL_law 286 = .ok (.iadd, 1) := by decide +kernel
theorem dL_law_287 : decode cL_law 287 = .ok (.iaload, 1) := by decide +kernel
theorem dL_law_288 : decode cL_law 288 = .ok (.aload_n 0, 1) := by decide +kernel
theorem dL_law_289 : decode cL_law 289 = .ok (.iload 4, 2) := by decide +kernel
theorem dL_law_291 : decode cL_law 291 = .ok (.iconst 2, 1) := by decide +kernel
theorem dL_law_292 : decode cL_law 292 = .ok (.iadd, 1) := by decide +kernel
theorem dL_law_293 : decode cL_law 293 = .ok (.iaload, 1) := by decide +kernel
theorem dL_law_294 : decode cL_law 294 = .ok (.aload_n 0, 1) := by decide +kernel
theorem dL_law_295 : decode cL_law 295 = .ok (.iload 4, 2) := by decide +kernel
theorem dL_law_297 : decode cL_law 297 = .ok (.iconst 3, 1) := by decide +kernel
theorem dL_law_298 : decode cL_law 298 = .ok (.iadd, 1) := by decide +kernel
theorem dL_law_299 : decode cL_law 299 = .ok (.iaload, 1) := by decide +kernel
theorem dL_law_300 : decode cL_law 300 = .ok (.aload_n 0, 1) := by decide +kernel
theorem dL_law_301 : decode cL_law 301 = .ok (.iload 4, 2) := by decide +kernel
theorem dL_law_303 : decode cL_law 303 = .ok (.iconst 4, 1) := by decide +kernel
theorem dL_law_304 : decode cL_law 304 = .ok (.iadd, 1) := by decide +kernel
theorem dL_law_305 : decode cL_law 305 = .ok (.iaload, 1) := by decide +kernel
theorem dL_law_306 : decode cL_law 306 = .ok (.aload_n 0, 1) := by decide +kernel
theorem dL_law_307 : decode cL_law 307 = .ok (.iload 4, 2) := by decide +kernel
theorem dL_law_309 : decode cL_law 309 = .ok (.iconst 5, 1) := by decide +kernel
theorem dL_law_310 : decode cL_law 310 = .ok (.iadd, 1) := by decide +kernel
theorem dL_law_311 : decode cL_law 311 = .ok (.iaload, 1) := by decide +kernel
theorem dL_law_312 : decode cL_law 312 = .ok (.invokevirtual 56, 3) := by decide +kernel
theorem dL_law_315 : decode cL_law 315 = .ok (.if_icmp .eq 931, 3) := by decide +kernel
theorem dL_law_318 : decode cL_law 318 = .ok (.iconst 0, 1) := by decide +kernel
theorem dL_law_319 : decode cL_law 319 = .ok (.ireturn, 1) := by decide +kernel
theorem dL_law_320 : decode cL_law 320 = .ok (.aload_n 1, 1) := by decide +kernel
theorem dL_law_321 : decode cL_law 321 = .ok (.aload_n 0, 1) := by decide +kernel
theorem dL_law_322 : decode cL_law 322 = .ok (.iload 4, 2) := by decide +kernel
theorem dL_law_324 : decode cL_law 324 = .ok (.iconst 1, 1) := by decide +kernel
theorem dL_law_325 : decode cL_law 325 = .ok (.iadd, 1) := by decide +kernel
theorem dL_law_326 : decode cL_law 326 = .ok (.iaload, 1) := by decide +kernel
theorem dL_law_327 : decode cL_law 327 = .ok (.aload_n 0, 1) := by decide +kernel
theorem dL_law_328 : decode cL_law 328 = .ok (.iload 4, 2) := by decide +kernel
theorem dL_law_330 : decode cL_law 330 = .ok (.iconst 2, 1) := by decide +kernel
theorem dL_law_331 : decode cL_law 331 = .ok (.iadd, 1) := by decide +kernel
theorem dL_law_332 : decode cL_law 332 = .ok (.iaload, 1) := by decide +kernel
theorem dL_law_333 : decode cL_law 333 = .ok (.aload_n 0, 1) := by decide +kernel
theorem dL_law_334 : decode cL_law 334 = .ok (.iload 4, 2) := by decide +kernel
theorem dL_law_336 : decode cL_law 336 = .ok (.iconst 3, 1) := by decide +kernel
theorem dL_law_337 : decode cL_law 337 = .ok (.iadd, 1) := by decide +kernel
theorem dL_law_338 : decode cL_law 338 = .ok (.iaload, 1) := by decide +kernel
theorem dL_law_339 : decode cL_law 339 = .ok (.aload_n 0, 1) := by decide +kernel
theorem dL_law_340 : decode cL_law 340 = .ok (.iload 4, 2) := by decide +kernel
theorem dL_law_342 : decode cL_law 342 = .ok (.iconst 4, 1) := by decide +kernel
theorem dL_law_343 : decode cL_law 343 = .ok (.iadd, 1) := by decide +kernel
theorem dL_law_344 : decode cL_law 344 = .ok (.iaload, 1) := by decide +kernel
theorem dL_law_345 : decode cL_law 345 = .ok (.aload_n 0, 1) := by decide +kernel
theorem dL_law_346 : decode cL_law 346 = .ok (.iload 4, 2) := by decide +kernel
theorem dL_law_348 : decode cL_law 348 = .ok (.iconst 5, 1) := by decide +kernel
theorem dL_law_349 : decode cL_law 349 = .ok (.iadd, 1) := by decide +kernel
theorem dL_law_350 : decode cL_law 350 = .ok (.iaload, 1) := by decide +kernel
theorem dL_law_351 : decode cL_law 351 = .ok (.aload_n 3, 1) := by decide +kernel
theorem dL_law_352 : decode cL_law 352 = .ok (.invokestatic 57, 3) := by decide +kernel
theorem dL_law_355 : decode cL_law 355 = .ok (.istore 5, 2) := by decide +kernel
theorem dL_law_357 : decode cL_law 357 = .ok (.aload_n 2, 1) := by decide +kernel
theorem dL_law_358 : decode cL_law 358 = .ok (.aload_n 0, 1) := by decide +kernel
theorem dL_law_359 : decode cL_law 359 = .ok (.iload 4, 2) := by decide +kernel
theorem dL_law_361 : decode cL_law 361 = .ok (.iconst 1, 1) := by decide +kernel
theorem dL_law_362 : decode cL_law 362 = .ok (.iadd, 1) := by decide +kernel
theorem dL_law_363 : decode cL_law 363 = .ok (.iaload, 1) := by decide +kernel
theorem dL_law_364 : decode cL_law 364 = .ok (.aload_n 0, 1) := by decide +kernel
theorem dL_law_365 : decode cL_law 365 = .ok (.iload 4, 2) := by decide +kernel
theorem dL_law_367 : decode cL_law 367 = .ok (.iconst 2, 1) := by decide +kernel
theorem dL_law_368 : decode cL_law 368 = .ok (.iadd, 1) := by decide +kernel
theorem dL_law_369 : decode cL_law 369 = .ok (.iaload, 1) := by decide +kernel
theorem dL_law_370 : decode cL_law 370 = .ok (.aload_n 0, 1) := by decide +kernel
theorem dL_law_371 : decode cL_law 371 = .ok (.iload 4, 2) := by decide +kernel
theorem dL_law_373 : decode cL_law 373 = .ok (.iconst 3, 1) := by decide +kernel
theorem dL_law_374 : decode cL_law 374 = .ok (.iadd, 1) := by decide +kernel
theorem dL_law_375 : decode cL_law 375 = .ok (.iaload, 1) := by decide +kernel
theorem dL_law_376 : decode cL_law 376 = .ok (.aload_n 0, 1) := by decide +kernel
theorem dL_law_377 : decode cL_law 377 = .ok (.iload 4, 2) := by decide +kernel
theorem dL_law_379 : decode cL_law 379 = .ok (.iconst 4, 1) := by decide +kernel
theorem dL_law_380 : decode cL_law 380 = .ok (.iadd, 1) := by decide +kernel
theorem dL_law_381 : decode cL_law 381 = .ok (.iaload, 1) := by decide +kernel
theorem dL_law_382 : decode cL_law 382 = .ok (.aload_n 0, 1) := by decide +kernel
theorem dL_law_383 : decode cL_law 383 = .ok (.iload 4, 2) := by decide +kernel
theorem dL_law_385 : decode cL_law 385 = .ok (.iconst 5, 1) := by decide +kernel
theorem dL_law_386 : decode cL_law 386 = .ok (.iadd, 1) := by decide +kernel
theorem dL_law_387 : decode cL_law 387 = .ok (.iaload, 1) := by decide +kernel
theorem dL_law_388 : decode cL_law 388 = .ok (.invokevirtual 62, 3) := by decide +kernel
theorem dL_law_391 : decode cL_law 391 = .ok (.istore 6, 2) := by decide +kernel
theorem dL_law_393 : decode cL_law 393 = .ok (.aload_n 2, 1) := by decide +kernel
theorem dL_law_394 : decode cL_law 394 = .ok (.invokevirtual 63, 3) := by decide +kernel
theorem dL_law_397 : decode cL_law 397 = .ok (.iload 5, 2) := by decide +kernel
theorem dL_law_399 : decode cL_law 399 = .ok (.if_icmp .eq 5, 3) := by decide +kernel
theorem dL_law_402 : decode cL_law 402 = .ok (.iconst 0, 1) := by decide +kernel
theorem dL_law_403 : decode cL_law 403 = .ok (.ireturn, 1) := by decide +kernel
theorem dL_law_404 : decode cL_law 404 = .ok (.iload 5, 2) := by decide +kernel
theorem dL_law_406 : decode cL_law 406 = .ok (.ifCond .ne 15, 3) := by decide +kernel
theorem dL_law_409 : decode cL_law 409 = .ok (.aload_n 3, 1) := by decide +kernel
theorem dL_law_410 : decode cL_law 410 = .ok (.iconst 0, 1) := by decide +kernel
theorem dL_law_411 : decode cL_law 411 = .ok (.laload, 1) := by decide +kernel
theorem dL_law_412 : decode cL_law 412 = .ok (.iload 6, 2) := by decide +kernel
theorem dL_law_414 : decode cL_law 414 = .ok (.i2l, 1) := by decide +kernel
theorem dL_law_415 : decode cL_law 415 = .ok (.lcmp, 1) := by decide +kernel
theorem dL_law_416 : decode cL_law 416 = .ok (.ifCond .eq 5, 3) := by decide +kernel
theorem dL_law_419 : decode cL_law 419 = .ok (.iconst 0, 1) := by decide +kernel
theorem dL_law_420 : decode cL_law 420 = .ok (.ireturn, 1) := by decide +kernel
theorem dL_law_421 : decode cL_law 421 = .ok (.goto 825, 3) := by decide +kernel
theorem dL_law_424 : decode cL_law 424 = .ok (.aload_n 1, 1) := by decide +kernel
theorem dL_law_425 : decode cL_law 425 = .ok (.aload_n 0, 1) := by decide +kernel
theorem dL_law_426 : decode cL_law 426 = .ok (.iload 4, 2) := by decide +kernel
theorem dL_law_428 : decode cL_law 428 = .ok (.iconst 1, 1) := by decide +kernel
theorem dL_law_429 : decode cL_law 429 = .ok (.iadd, 1) := by decide +kernel
theorem dL_law_430 : decode cL_law 430 = .ok (.iaload, 1) := by decide +kernel
theorem dL_law_431 : decode cL_law 431 = .ok (.aload_n 0, 1) := by decide +kernel
theorem dL_law_432 : decode cL_law 432 = .ok (.iload 4, 2) := by decide +kernel
theorem dL_law_434 : decode cL_law 434 = .ok (.iconst 2, 1) := by decide +kernel
theorem dL_law_435 : decode cL_law 435 = .ok (.iadd, 1) := by decide +kernel
theorem dL_law_436 : decode cL_law 436 = .ok (.iaload, 1) := by decide +kernel
theorem dL_law_437 : decode cL_law 437 = .ok (.aload_n 0, 1) := by decide +kernel
theorem dL_law_438 : decode cL_law 438 = .ok (.iload 4, 2) := by decide +kernel
theorem dL_law_440 : decode cL_law 440 = .ok (.iconst 3, 1) := by decide +kernel
theorem dL_law_441 : decode cL_law 441 = .ok (.iadd, 1) := by decide +kernel
theorem dL_law_442 : decode cL_law 442 = .ok (.iaload, 1) := by decide +kernel
theorem dL_law_443 : decode cL_law 443 = .ok (.aload_n 0, 1) := by decide +kernel
theorem dL_law_444 : decode cL_law 444 = .ok (.iload 4, 2) := by decide +kernel
theorem dL_law_446 : decode cL_law 446 = .ok (.iconst 4, 1) := by decide +kernel
theorem dL_law_447 : decode cL_law 447 = .ok (.iadd, 1) := by decide +kernel
theorem dL_law_448 : decode cL_law 448 = .ok (.iaload, 1) := by decide +kernel
theorem dL_law_449 : decode cL_law 449 = .ok (.aload_n 0, 1) := by decide +kernel
theorem dL_law_450 : decode cL_law 450 = .ok (.iload 4, 2) := by decide +kernel
theorem dL_law_452 : decode cL_law 452 = .ok (.iconst 5, 1) := by decide +kernel
theorem dL_law_453 : decode cL_law 453 = .ok (.iadd, 1) := by decide +kernel
theorem dL_law_454 : decode cL_law 454 = .ok (.iaload, 1) := by decide +kernel
theorem dL_law_455 : decode cL_law 455 = .ok (.aload_n 3, 1) := by decide +kernel
theorem dL_law_456 : decode cL_law 456 = .ok (.invokestatic 67, 3) := by decide +kernel
theorem dL_law_459 : decode cL_law 459 = .ok (.istore 5, 2) := by decide +kernel
theorem dL_law_461 : decode cL_law 461 = .ok (.aload_n 2, 1) := by decide +kernel
theorem dL_law_462 : decode cL_law 462 = .ok (.aload_n 0, 1) := by decide +kernel
theorem dL_law_463 : decode cL_law 463 = .ok (.iload 4, 2) := by decide +kernel
theorem dL_law_465 : decode cL_law 465 = .ok (.iconst 1, 1) := by decide +kernel
theorem dL_law_466 : decode cL_law 466 = .ok (.iadd, 1) := by decide +kernel
theorem dL_law_467 : decode cL_law 467 = .ok (.iaload, 1) := by decide +kernel
theorem dL_law_468 : decode cL_law 468 = .ok (.aload_n 0, 1) := by decide +kernel
theorem dL_law_469 : decode cL_law 469 = .ok (.iload 4, 2) := by decide +kernel
theorem dL_law_471 : decode cL_law 471 = .ok (.iconst 2, 1) := by decide +kernel
theorem dL_law_472 : decode cL_law 472 = .ok (.iadd, 1) := by decide +kernel
theorem dL_law_473 : decode cL_law 473 = .ok (.iaload, 1) := by decide +kernel
theorem dL_law_474 : decode cL_law 474 = .ok (.aload_n 0, 1) := by decide +kernel
theorem dL_law_475 : decode cL_law 475 = .ok (.iload 4, 2) := by decide +kernel
theorem dL_law_477 : decode cL_law 477 = .ok (.iconst 3, 1) := by decide +kernel
theorem dL_law_478 : decode cL_law 478 = .ok (.iadd, 1) := by decide +kernel
theorem dL_law_479 : decode cL_law 479 = .ok (.iaload, 1) := by decide +kernel
theorem dL_law_480 : decode cL_law 480 = .ok (.aload_n 0, 1) := by decide +kernel
theorem dL_law_481 : decode cL_law 481 = .ok (.iload 4, 2) := by decide +kernel
theorem dL_law_483 : decode cL_law 483 = .ok (.iconst 4, 1) := by decide +kernel
theorem dL_law_484 : decode cL_law 484 = .ok (.iadd, 1) := by decide +kernel
theorem dL_law_485 : decode cL_law 485 = .ok (.iaload, 1) := by decide +kernel
theorem dL_law_486 : decode cL_law 486 = .ok (.aload_n 0, 1) := by decide +kernel
theorem dL_law_487 : decode cL_law 487 = .ok (.iload 4, 2) := by decide +kernel
theorem dL_law_489 : decode cL_law 489 = .ok (.iconst 5, 1) := by decide +kernel
theorem dL_law_490 : decode cL_law 490 = .ok (.iadd, 1) := by decide +kernel
theorem dL_law_491 : decode cL_law 491 = .ok (.iaload, 1) := by decide +kernel
theorem dL_law_492 : decode cL_law 492 = .ok (.invokevirtual 69, 3) := by decide +kernel
theorem dL_law_495 : decode cL_law 495 = .ok (.istore 6, 2) := by decide +kernel
theorem dL_law_497 : decode cL_law 497 = .ok (.aload_n 2, 1) := by decide +kernel
theorem dL_law_498 : decode cL_law 498 = .ok (.invokevirtual 63, 3) := by decide +kernel
theorem dL_law_501 : decode cL_law 501 = .ok (.iload 5, 2) := by decide +kernel
theorem dL_law_503 : decode cL_law 503 = .ok (.if_icmp .eq 5, 3) := by decide +kernel
theorem dL_law_506 : decode cL_law 506 = .ok (.iconst 0, 1) := by decide +kernel
theorem dL_law_507 : decode cL_law 507 = .ok (.ireturn, 1) := by decide +kernel
theorem dL_law_508 : decode cL_law 508 = .ok (.iload 5, 2) := by decide +kernel
theorem dL_law_510 : decode cL_law 510 = .ok (.ifCond .ne 15, 3) := by decide +kernel
theorem dL_law_513 : decode cL_law 513 = .ok (.aload_n 3, 1) := by decide +kernel
theorem dL_law_514 : decode cL_law 514 = .ok (.iconst 0, 1) := by decide +kernel
theorem dL_law_515 : decode cL_law 515 = .ok (.laload, 1) := by decide +kernel
theorem dL_law_516 : decode cL_law 516 = .ok (.iload 6, 2) := by decide +kernel
theorem dL_law_518 : decode cL_law 518 = .ok (.i2l, 1) := by decide +kernel
theorem dL_law_519 : decode cL_law 519 = .ok (.lcmp, 1) := by decide +kernel
theorem dL_law_520 : decode cL_law 520 = .ok (.ifCond .eq 5, 3) := by decide +kernel
theorem dL_law_523 : decode cL_law 523 = .ok (.iconst 0, 1) := by decide +kernel
theorem dL_law_524 : decode cL_law 524 = .ok (.ireturn, 1) := by decide +kernel
theorem dL_law_525 : decode cL_law 525 = .ok (.goto 721, 3) := by decide +kernel
theorem dL_law_528 : decode cL_law 528 = .ok (.aload_n 1, 1) := by decide +kernel
theorem dL_law_529 : decode cL_law 529 = .ok (.aload_n 0, 1) := by decide +kernel
theorem dL_law_530 : decode cL_law 530 = .ok (.iload 4, 2) := by decide +kernel
theorem dL_law_532 : decode cL_law 532 = .ok (.iconst 1, 1) := by decide +kernel
theorem dL_law_533 : decode cL_law 533 = .ok (.iadd, 1) := by decide +kernel
theorem dL_law_534 : decode cL_law 534 = .ok (.iaload, 1) := by decide +kernel
theorem dL_law_535 : decode cL_law 535 = .ok (.aload_n 0, 1) := by decide +kernel
theorem dL_law_536 : decode cL_law 536 = .ok (.iload 4, 2) := by decide +kernel
theorem dL_law_538 : decode cL_law 538 = .ok (.iconst 2, 1) := by decide +kernel
theorem dL_law_539 : decode cL_law 539 = .ok (.iadd, 1) := by decide +kernel
theorem dL_law_540 : decode cL_law 540 = .ok (.iaload, 1) := by decide +kernel
theorem dL_law_541 : decode cL_law 541 = .ok (.invokevirtual 70, 3) := by decide +kernel
theorem dL_law_544 : decode cL_law 544 = .ok (.aload_n 2, 1) := by decide +kernel
theorem dL_law_545 : decode cL_law 545 = .ok (.aload_n 0, 1) := by decide +kernel
theorem dL_law_546 : decode cL_law 546 = .ok (.iload 4, 2) := by decide +kernel
theorem dL_law_548 : decode cL_law 548 = .ok (.iconst 1, 1) := by decide +kernel
theorem dL_law_549 : decode cL_law 549 = .ok (.iadd, 1) := by decide +kernel
theorem dL_law_550 : decode cL_law 550 = .ok (.iaload, 1) := by decide +kernel
theorem dL_law_551 : decode cL_law 551 = .ok (.aload_n 0, 1) := by decide +kernel
theorem dL_law_552 : decode cL_law 552 = .ok (.iload 4, 2) := by decide +kernel
theorem dL_law_554 : decode cL_law 554 = .ok (.iconst 2, 1) := by decide +kernel
theorem dL_law_555 : decode cL_law 555 = .ok (.iadd, 1) := by decide +kernel
theorem dL_law_556 : decode cL_law 556 = .ok (.iaload, 1) := by decide +kernel
theorem dL_law_557 : decode cL_law 557 = .ok (.invokevirtual 74, 3) := by decide +kernel
theorem dL_law_560 : decode cL_law 560 = .ok (.if_icmp .eq 686, 3) := by decide +kernel
theorem dL_law_563 : decode cL_law 563 = .ok (.iconst 0, 1) := by decide +kernel
theorem dL_law_564 : decode cL_law 564 = .ok (.ireturn, 1) := by decide +kernel
theorem dL_law_565 : decode cL_law 565 = .ok (.aload_n 1, 1) := by decide +kernel
theorem dL_law_566 : decode cL_law 566 = .ok (.aload_n 0, 1) := by decide +kernel
theorem dL_law_567 : decode cL_law 567 = .ok (.iload 4, 2) := by decide +kernel
theorem dL_law_569 : decode cL_law 569 = .ok (.iconst 1, 1) := by decide +kernel
theorem dL_law_570 : decode cL_law 570 = .ok (.iadd, 1) := by decide +kernel
theorem dL_law_571 : decode cL_law 571 = .ok (.iaload, 1) := by decide +kernel
theorem dL_law_572 : decode cL_law 572 = .ok (.aload_n 0, 1) := by decide +kernel
theorem dL_law_573 : decode cL_law 573 = .ok (.iload 4, 2) := by decide +kernel
theorem dL_law_575 : decode cL_law 575 = .ok (.iconst 2, 1) := by decide +kernel
theorem dL_law_576 : decode cL_law 576 = .ok (.iadd, 1) := by decide +kernel
theorem dL_law_577 : decode cL_law 577 = .ok (.iaload, 1) := by decide +kernel
theorem dL_law_578 : decode cL_law 578 = .ok (.aload_n 0, 1) := by decide +kernel
theorem dL_law_579 : decode cL_law 579 = .ok (.iload 4, 2) := by decide +kernel
theorem dL_law_581 : decode cL_law 581 = .ok (.iconst 3, 1) := by decide +kernel
theorem dL_law_582 : decode cL_law 582 = .ok (.iadd, 1) := by decide +kernel
theorem dL_law_583 : decode cL_law 583 = .ok (.iaload, 1) := by decide +kernel
theorem dL_law_584 : decode cL_law 584 = .ok (.aload_n 0, 1) := by decide +kernel
theorem dL_law_585 : decode cL_law 585 = .ok (.iload 4, 2) := by decide +kernel
theorem dL_law_587 : decode cL_law 587 = .ok (.iconst 4, 1) := by decide +kernel
theorem dL_law_588 : decode cL_law 588 = .ok (.iadd, 1) := by decide +kernel
theorem dL_law_589 : decode cL_law 589 = .ok (.iaload, 1) := by decide +kernel
theorem dL_law_590 : decode cL_law 590 = .ok (.aload_n 0, 1) := by decide +kernel
theorem dL_law_591 : decode cL_law 591 = .ok (.iload 4, 2) := by decide +kernel
theorem dL_law_593 : decode cL_law 593 = .ok (.iconst 5, 1) := by decide +kernel
theorem dL_law_594 : decode cL_law 594 = .ok (.iadd, 1) := by decide +kernel
theorem dL_law_595 : decode cL_law 595 = .ok (.iaload, 1) := by decide +kernel
theorem dL_law_596 : decode cL_law 596 = .ok (.aload_n 3, 1) := by decide +kernel
theorem dL_law_597 : decode cL_law 597 = .ok (.invokestatic 75, 3) := by decide +kernel
theorem dL_law_600 : decode cL_law 600 = .ok (.istore 5, 2) := by decide +kernel
theorem dL_law_602 : decode cL_law 602 = .ok (.aload_n 2, 1) := by decide +kernel
theorem dL_law_603 : decode cL_law 603 = .ok (.aload_n 0, 1) := by decide +kernel
theorem dL_law_604 : decode cL_law 604 = .ok (.iload 4, 2) := by decide +kernel
theorem dL_law_606 : decode cL_law 606 = .ok (.iconst 1, 1) := by decide +kernel
theorem dL_law_607 : decode cL_law 607 = .ok (.iadd, 1) := by decide +kernel
theorem dL_law_608 : decode cL_law 608 = .ok (.iaload, 1) := by decide +kernel
theorem dL_law_609 : decode cL_law 609 = .ok (.aload_n 0, 1) := by decide +kernel
theorem dL_law_610 : decode cL_law 610 = .ok (.iload 4, 2) := by decide +kernel
theorem dL_law_612 : decode cL_law 612 = .ok (.iconst 2, 1) := by decide +kernel
theorem dL_law_613 : decode cL_law 613 = .ok (.iadd, 1) := by decide +kernel
theorem dL_law_614 : decode cL_law 614 = .ok (.iaload, 1) := by decide +kernel
theorem dL_law_615 : decode cL_law 615 = .ok (.aload_n 0, 1) := by decide +kernel
theorem dL_law_616 : decode cL_law 616 = .ok (.iload 4, 2) := by decide +kernel
theorem dL_law_618 : decode cL_law 618 = .ok (.iconst 3, 1) := by decide +kernel
theorem dL_law_619 : decode cL_law 619 = .ok (.iadd, 1) := by decide +kernel
theorem dL_law_620 : decode cL_law 620 = .ok (.iaload, 1) := by decide +kernel
theorem dL_law_621 : decode cL_law 621 = .ok (.aload_n 0, 1) := by decide +kernel
theorem dL_law_622 : decode cL_law 622 = .ok (.iload 4, 2) := by decide +kernel
theorem dL_law_624 : decode cL_law 624 = .ok (.iconst 4, 1) := by decide +kernel
theorem dL_law_625 : decode cL_law 625 = .ok (.iadd, 1) := by decide +kernel
theorem dL_law_626 : decode cL_law 626 = .ok (.iaload, 1) := by decide +kernel
theorem dL_law_627 : decode cL_law 627 = .ok (.aload_n 0, 1) := by decide +kernel
theorem dL_law_628 : decode cL_law 628 = .ok (.iload 4, 2) := by decide +kernel
theorem dL_law_630 : decode cL_law 630 = .ok (.iconst 5, 1) := by decide +kernel
theorem dL_law_631 : decode cL_law 631 = .ok (.iadd, 1) := by decide +kernel
theorem dL_law_632 : decode cL_law 632 = .ok (.iaload, 1) := by decide +kernel
theorem dL_law_633 : decode cL_law 633 = .ok (.invokevirtual 77, 3) := by decide +kernel
theorem dL_law_636 : decode cL_law 636 = .ok (.istore 6, 2) := by decide +kernel
theorem dL_law_638 : decode cL_law 638 = .ok (.aload_n 2, 1) := by decide +kernel
theorem dL_law_639 : decode cL_law 639 = .ok (.invokevirtual 63, 3) := by decide +kernel
theorem dL_law_642 : decode cL_law 642 = .ok (.iload 5, 2) := by decide +kernel
theorem dL_law_644 : decode cL_law 644 = .ok (.if_icmp .eq 5, 3) := by decide +kernel
theorem dL_law_647 : decode cL_law 647 = .ok (.iconst 0, 1) := by decide +kernel
theorem dL_law_648 : decode cL_law 648 = .ok (.ireturn, 1) := by decide +kernel
theorem dL_law_649 : decode cL_law 649 = .ok (.iload 5, 2) := by decide +kernel
theorem dL_law_651 : decode cL_law 651 = .ok (.ifCond .ne 15, 3) := by decide +kernel
theorem dL_law_654 : decode cL_law 654 = .ok (.aload_n 3, 1) := by decide +kernel
theorem dL_law_655 : decode cL_law 655 = .ok (.iconst 0, 1) := by decide +kernel
theorem dL_law_656 : decode cL_law 656 = .ok (.laload, 1) := by decide +kernel
theorem dL_law_657 : decode cL_law 657 = .ok (.iload 6, 2) := by decide +kernel
theorem dL_law_659 : decode cL_law 659 = .ok (.i2l, 1) := by decide +kernel
theorem dL_law_660 : decode cL_law 660 = .ok (.lcmp, 1) := by decide +kernel
theorem dL_law_661 : decode cL_law 661 = .ok (.ifCond .eq 5, 3) := by decide +kernel
theorem dL_law_664 : decode cL_law 664 = .ok (.iconst 0, 1) := by decide +kernel
theorem dL_law_665 : decode cL_law 665 = .ok (.ireturn, 1) := by decide +kernel
theorem dL_law_666 : decode cL_law 666 = .ok (.goto 580, 3) := by decide +kernel
theorem dL_law_669 : decode cL_law 669 = .ok (.aload_n 1, 1) := by decide +kernel
theorem dL_law_670 : decode cL_law 670 = .ok (.aload_n 0, 1) := by decide +kernel
theorem dL_law_671 : decode cL_law 671 = .ok (.iload 4, 2) := by decide +kernel
theorem dL_law_673 : decode cL_law 673 = .ok (.iconst 1, 1) := by decide +kernel
theorem dL_law_674 : decode cL_law 674 = .ok (.iadd, 1) := by decide +kernel
theorem dL_law_675 : decode cL_law 675 = .ok (.iaload, 1) := by decide +kernel
theorem dL_law_676 : decode cL_law 676 = .ok (.aload_n 0, 1) := by decide +kernel
theorem dL_law_677 : decode cL_law 677 = .ok (.iload 4, 2) := by decide +kernel
theorem dL_law_679 : decode cL_law 679 = .ok (.iconst 2, 1) := by decide +kernel
theorem dL_law_680 : decode cL_law 680 = .ok (.iadd, 1) := by decide +kernel
theorem dL_law_681 : decode cL_law 681 = .ok (.iaload, 1) := by decide +kernel
theorem dL_law_682 : decode cL_law 682 = .ok (.invokevirtual 78, 3) := by decide +kernel
theorem dL_law_685 : decode cL_law 685 = .ok (.aload_n 2, 1) := by decide +kernel
theorem dL_law_686 : decode cL_law 686 = .ok (.aload_n 0, 1) := by decide +kernel
theorem dL_law_687 : decode cL_law 687 = .ok (.iload 4, 2) := by decide +kernel
theorem dL_law_689 : decode cL_law 689 = .ok (.iconst 1, 1) := by decide +kernel
theorem dL_law_690 : decode cL_law 690 = .ok (.iadd, 1) := by decide +kernel
theorem dL_law_691 : decode cL_law 691 = .ok (.iaload, 1) := by decide +kernel
theorem dL_law_692 : decode cL_law 692 = .ok (.aload_n 0, 1) := by decide +kernel
theorem dL_law_693 : decode cL_law 693 = .ok (.iload 4, 2) := by decide +kernel
theorem dL_law_695 : decode cL_law 695 = .ok (.iconst 2, 1) := by decide +kernel
theorem dL_law_696 : decode cL_law 696 = .ok (.iadd, 1) := by decide +kernel
theorem dL_law_697 : decode cL_law 697 = .ok (.iaload, 1) := by decide +kernel
theorem dL_law_698 : decode cL_law 698 = .ok (.invokevirtual 81, 3) := by decide +kernel
theorem dL_law_701 : decode cL_law 701 = .ok (.if_icmp .eq 545, 3) := by decide +kernel
theorem dL_law_704 : decode cL_law 704 = .ok (.iconst 0, 1) := by decide +kernel
theorem dL_law_705 : decode cL_law 705 = .ok (.ireturn, 1) := by decide +kernel
theorem dL_law_706 : decode cL_law 706 = .ok (.aload_n 1, 1) := by decide +kernel
theorem dL_law_707 : decode cL_law 707 = .ok (.aload_n 0, 1) := by decide +kernel
theorem dL_law_708 : decode cL_law 708 = .ok (.iload 4, 2) := by decide +kernel
theorem dL_law_710 : decode cL_law 710 = .ok (.iconst 1, 1) := by decide +kernel
theorem dL_law_711 : decode cL_law 711 = .ok (.iadd, 1) := by decide +kernel
theorem dL_law_712 : decode cL_law 712 = .ok (.iaload, 1) := by decide +kernel
theorem dL_law_713 : decode cL_law 713 = .ok (.aload_n 0, 1) := by decide +kernel
theorem dL_law_714 : decode cL_law 714 = .ok (.iload 4, 2) := by decide +kernel
theorem dL_law_716 : decode cL_law 716 = .ok (.iconst 2, 1) := by decide +kernel
theorem dL_law_717 : decode cL_law 717 = .ok (.iadd, 1) := by decide +kernel
theorem dL_law_718 : decode cL_law 718 = .ok (.iaload, 1) := by decide +kernel
theorem dL_law_719 : decode cL_law 719 = .ok (.aload_n 0, 1) := by decide +kernel
theorem dL_law_720 : decode cL_law 720 = .ok (.iload 4, 2) := by decide +kernel
theorem dL_law_722 : decode cL_law 722 = .ok (.iconst 3, 1) := by decide +kernel
theorem dL_law_723 : decode cL_law 723 = .ok (.iadd, 1) := by decide +kernel
theorem dL_law_724 : decode cL_law 724 = .ok (.iaload, 1) := by decide +kernel
theorem dL_law_725 : decode cL_law 725 = .ok (.aload_n 0, 1) := by decide +kernel
theorem dL_law_726 : decode cL_law 726 = .ok (.iload 4, 2) := by decide +kernel
theorem dL_law_728 : decode cL_law 728 = .ok (.iconst 4, 1) := by decide +kernel
theorem dL_law_729 : decode cL_law 729 = .ok (.iadd, 1) := by decide +kernel
theorem dL_law_730 : decode cL_law 730 = .ok (.iaload, 1) := by decide +kernel
theorem dL_law_731 : decode cL_law 731 = .ok (.aload_n 0, 1) := by decide +kernel
theorem dL_law_732 : decode cL_law 732 = .ok (.iload 4, 2) := by decide +kernel
theorem dL_law_734 : decode cL_law 734 = .ok (.iconst 5, 1) := by decide +kernel
theorem dL_law_735 : decode cL_law 735 = .ok (.iadd, 1) := by decide +kernel
theorem dL_law_736 : decode cL_law 736 = .ok (.iaload, 1) := by decide +kernel
theorem dL_law_737 : decode cL_law 737 = .ok (.aload_n 3, 1) := by decide +kernel
theorem dL_law_738 : decode cL_law 738 = .ok (.invokestatic 82, 3) := by decide +kernel
theorem dL_law_741 : decode cL_law 741 = .ok (.istore 5, 2) := by decide +kernel
theorem dL_law_743 : decode cL_law 743 = .ok (.aload_n 2, 1) := by decide +kernel
theorem dL_law_744 : decode cL_law 744 = .ok (.aload_n 0, 1) := by decide +kernel
theorem dL_law_745 : decode cL_law 745 = .ok (.iload 4, 2) := by decide +kernel
theorem dL_law_747 : decode cL_law 747 = .ok (.iconst 1, 1) := by decide +kernel
theorem dL_law_748 : decode cL_law 748 = .ok (.iadd, 1) := by decide +kernel
theorem dL_law_749 : decode cL_law 749 = .ok (.iaload, 1) := by decide +kernel
theorem dL_law_750 : decode cL_law 750 = .ok (.aload_n 0, 1) := by decide +kernel
theorem dL_law_751 : decode cL_law 751 = .ok (.iload 4, 2) := by decide +kernel
theorem dL_law_753 : decode cL_law 753 = .ok (.iconst 2, 1) := by decide +kernel
theorem dL_law_754 : decode cL_law 754 = .ok (.iadd, 1) := by decide +kernel
theorem dL_law_755 : decode cL_law 755 = .ok (.iaload, 1) := by decide +kernel
theorem dL_law_756 : decode cL_law 756 = .ok (.aload_n 0, 1) := by decide +kernel
theorem dL_law_757 : decode cL_law 757 = .ok (.iload 4, 2) := by decide +kernel
theorem dL_law_759 : decode cL_law 759 = .ok (.iconst 3, 1) := by decide +kernel
theorem dL_law_760 : decode cL_law 760 = .ok (.iadd, 1) := by decide +kernel
theorem dL_law_761 : decode cL_law 761 = .ok (.iaload, 1) := by decide +kernel
theorem dL_law_762 : decode cL_law 762 = .ok (.aload_n 0, 1) := by decide +kernel
theorem dL_law_763 : decode cL_law 763 = .ok (.iload 4, 2) := by decide +kernel
theorem dL_law_765 : decode cL_law 765 = .ok (.iconst 4, 1) := by decide +kernel
theorem dL_law_766 : decode cL_law 766 = .ok (.iadd, 1) := by decide +kernel
theorem dL_law_767 : decode cL_law 767 = .ok (.iaload, 1) := by decide +kernel
theorem dL_law_768 : decode cL_law 768 = .ok (.aload_n 0, 1) := by decide +kernel
theorem dL_law_769 : decode cL_law 769 = .ok (.iload 4, 2) := by decide +kernel
theorem dL_law_771 : decode cL_law 771 = .ok (.iconst 5, 1) := by decide +kernel
theorem dL_law_772 : decode cL_law 772 = .ok (.iadd, 1) := by decide +kernel
theorem dL_law_773 : decode cL_law 773 = .ok (.iaload, 1) := by decide +kernel
theorem dL_law_774 : decode cL_law 774 = .ok (.invokevirtual 84, 3) := by decide +kernel
theorem dL_law_777 : decode cL_law 777 = .ok (.istore 6, 2) := by decide +kernel
theorem dL_law_779 : decode cL_law 779 = .ok (.aload_n 2, 1) := by decide +kernel
theorem dL_law_780 : decode cL_law 780 = .ok (.invokevirtual 63, 3) := by decide +kernel
theorem dL_law_783 : decode cL_law 783 = .ok (.iload 5, 2) := by decide +kernel
theorem dL_law_785 : decode cL_law 785 = .ok (.if_icmp .eq 5, 3) := by decide +kernel
theorem dL_law_788 : decode cL_law 788 = .ok (.iconst 0, 1) := by decide +kernel
theorem dL_law_789 : decode cL_law 789 = .ok (.ireturn, 1) := by decide +kernel
theorem dL_law_790 : decode cL_law 790 = .ok (.iload 5, 2) := by decide +kernel
theorem dL_law_792 : decode cL_law 792 = .ok (.ifCond .ne 15, 3) := by decide +kernel
theorem dL_law_795 : decode cL_law 795 = .ok (.aload_n 3, 1) := by decide +kernel
theorem dL_law_796 : decode cL_law 796 = .ok (.iconst 0, 1) := by decide +kernel
theorem dL_law_797 : decode cL_law 797 = .ok (.laload, 1) := by decide +kernel
theorem dL_law_798 : decode cL_law 798 = .ok (.iload 6, 2) := by decide +kernel
theorem dL_law_800 : decode cL_law 800 = .ok (.i2l, 1) := by decide +kernel
theorem dL_law_801 : decode cL_law 801 = .ok (.lcmp, 1) := by decide +kernel
theorem dL_law_802 : decode cL_law 802 = .ok (.ifCond .eq 5, 3) := by decide +kernel
theorem dL_law_805 : decode cL_law 805 = .ok (.iconst 0, 1) := by decide +kernel
theorem dL_law_806 : decode cL_law 806 = .ok (.ireturn, 1) := by decide +kernel
theorem dL_law_807 : decode cL_law 807 = .ok (.goto 439, 3) := by decide +kernel
theorem dL_law_810 : decode cL_law 810 = .ok (.aload_n 1, 1) := by decide +kernel
theorem dL_law_811 : decode cL_law 811 = .ok (.aload_n 0, 1) := by decide +kernel
theorem dL_law_812 : decode cL_law 812 = .ok (.iload 4, 2) := by decide +kernel
theorem dL_law_814 : decode cL_law 814 = .ok (.iconst 1, 1) := by decide +kernel
theorem dL_law_815 : decode cL_law 815 = .ok (.iadd, 1) := by decide +kernel
theorem dL_law_816 : decode cL_law 816 = .ok (.iaload, 1) := by decide +kernel
theorem dL_law_817 : decode cL_law 817 = .ok (.aload_n 0, 1) := by decide +kernel
theorem dL_law_818 : decode cL_law 818 = .ok (.iload 4, 2) := by decide +kernel
theorem dL_law_820 : decode cL_law 820 = .ok (.iconst 2, 1) := by decide +kernel
theorem dL_law_821 : decode cL_law 821 = .ok (.iadd, 1) := by decide +kernel
theorem dL_law_822 : decode cL_law 822 = .ok (.iaload, 1) := by decide +kernel
theorem dL_law_823 : decode cL_law 823 = .ok (.aload_n 0, 1) := by decide +kernel
theorem dL_law_824 : decode cL_law 824 = .ok (.iload 4, 2) := by decide +kernel
theorem dL_law_826 : decode cL_law 826 = .ok (.iconst 3, 1) := by decide +kernel
theorem dL_law_827 : decode cL_law 827 = .ok (.iadd, 1) := by decide +kernel
theorem dL_law_828 : decode cL_law 828 = .ok (.iaload, 1) := by decide +kernel
theorem dL_law_829 : decode cL_law 829 = .ok (.aload_n 3, 1) := by decide +kernel
theorem dL_law_830 : decode cL_law 830 = .ok (.invokestatic 85, 3) := by decide +kernel
theorem dL_law_833 : decode cL_law 833 = .ok (.istore 5, 2) := by decide +kernel
theorem dL_law_835 : decode cL_law 835 = .ok (.aload_n 2, 1) := by decide +kernel
theorem dL_law_836 : decode cL_law 836 = .ok (.aload_n 0, 1) := by decide +kernel
theorem dL_law_837 : decode cL_law 837 = .ok (.iload 4, 2) := by decide +kernel
theorem dL_law_839 : decode cL_law 839 = .ok (.iconst 1, 1) := by decide +kernel
theorem dL_law_840 : decode cL_law 840 = .ok (.iadd, 1) := by decide +kernel
theorem dL_law_841 : decode cL_law 841 = .ok (.iaload, 1) := by decide +kernel
theorem dL_law_842 : decode cL_law 842 = .ok (.aload_n 0, 1) := by decide +kernel
theorem dL_law_843 : decode cL_law 843 = .ok (.iload 4, 2) := by decide +kernel
theorem dL_law_845 : decode cL_law 845 = .ok (.iconst 2, 1) := by decide +kernel
theorem dL_law_846 : decode cL_law 846 = .ok (.iadd, 1) := by decide +kernel
theorem dL_law_847 : decode cL_law 847 = .ok (.iaload, 1) := by decide +kernel
theorem dL_law_848 : decode cL_law 848 = .ok (.aload_n 0, 1) := by decide +kernel
theorem dL_law_849 : decode cL_law 849 = .ok (.iload 4, 2) := by decide +kernel
theorem dL_law_851 : decode cL_law 851 = .ok (.iconst 3, 1) := by decide +kernel
theorem dL_law_852 : decode cL_law 852 = .ok (.iadd, 1) := by decide +kernel
theorem dL_law_853 : decode cL_law 853 = .ok (.iaload, 1) := by decide +kernel
theorem dL_law_854 : decode cL_law 854 = .ok (.invokevirtual 88, 3) := by decide +kernel
theorem dL_law_857 : decode cL_law 857 = .ok (.istore 6, 2) := by decide +kernel
theorem dL_law_859 : decode cL_law 859 = .ok (.aload_n 2, 1) := by decide +kernel
theorem dL_law_860 : decode cL_law 860 = .ok (.invokevirtual 63, 3) := by decide +kernel
theorem dL_law_863 : decode cL_law 863 = .ok (.iload 5, 2) := by decide +kernel
theorem dL_law_865 : decode cL_law 865 = .ok (.if_icmp .eq 5, 3) := by decide +kernel
theorem dL_law_868 : decode cL_law 868 = .ok (.iconst 0, 1) := by decide +kernel
theorem dL_law_869 : decode cL_law 869 = .ok (.ireturn, 1) := by decide +kernel
theorem dL_law_870 : decode cL_law 870 = .ok (.iload 5, 2) := by decide +kernel
theorem dL_law_872 : decode cL_law 872 = .ok (.ifCond .ne 15, 3) := by decide +kernel
theorem dL_law_875 : decode cL_law 875 = .ok (.aload_n 3, 1) := by decide +kernel
theorem dL_law_876 : decode cL_law 876 = .ok (.iconst 0, 1) := by decide +kernel
theorem dL_law_877 : decode cL_law 877 = .ok (.laload, 1) := by decide +kernel
theorem dL_law_878 : decode cL_law 878 = .ok (.iload 6, 2) := by decide +kernel
theorem dL_law_880 : decode cL_law 880 = .ok (.i2l, 1) := by decide +kernel
theorem dL_law_881 : decode cL_law 881 = .ok (.lcmp, 1) := by decide +kernel
theorem dL_law_882 : decode cL_law 882 = .ok (.ifCond .eq 5, 3) := by decide +kernel
theorem dL_law_885 : decode cL_law 885 = .ok (.iconst 0, 1) := by decide +kernel
theorem dL_law_886 : decode cL_law 886 = .ok (.ireturn, 1) := by decide +kernel
theorem dL_law_887 : decode cL_law 887 = .ok (.goto 359, 3) := by decide +kernel
theorem dL_law_890 : decode cL_law 890 = .ok (.aload_n 1, 1) := by decide +kernel
theorem dL_law_891 : decode cL_law 891 = .ok (.aload_n 0, 1) := by decide +kernel
theorem dL_law_892 : decode cL_law 892 = .ok (.iload 4, 2) := by decide +kernel
theorem dL_law_894 : decode cL_law 894 = .ok (.iconst 1, 1) := by decide +kernel
theorem dL_law_895 : decode cL_law 895 = .ok (.iadd, 1) := by decide +kernel
theorem dL_law_896 : decode cL_law 896 = .ok (.iaload, 1) := by decide +kernel
theorem dL_law_897 : decode cL_law 897 = .ok (.aload_n 0, 1) := by decide +kernel
theorem dL_law_898 : decode cL_law 898 = .ok (.iload 4, 2) := by decide +kernel
theorem dL_law_900 : decode cL_law 900 = .ok (.iconst 2, 1) := by decide +kernel
theorem dL_law_901 : decode cL_law 901 = .ok (.iadd, 1) := by decide +kernel
theorem dL_law_902 : decode cL_law 902 = .ok (.iaload, 1) := by decide +kernel
theorem dL_law_903 : decode cL_law 903 = .ok (.aload_n 0, 1) := by decide +kernel
theorem dL_law_904 : decode cL_law 904 = .ok (.iload 4, 2) := by decide +kernel
theorem dL_law_906 : decode cL_law 906 = .ok (.iconst 3, 1) := by decide +kernel
theorem dL_law_907 : decode cL_law 907 = .ok (.iadd, 1) := by decide +kernel
theorem dL_law_908 : decode cL_law 908 = .ok (.iaload, 1) := by decide +kernel
theorem dL_law_909 : decode cL_law 909 = .ok (.aload_n 3, 1) := by decide +kernel
theorem dL_law_910 : decode cL_law 910 = .ok (.invokestatic 89, 3) := by decide +kernel
theorem dL_law_913 : decode cL_law 913 = .ok (.istore 5, 2) := by decide +kernel
theorem dL_law_915 : decode cL_law 915 = .ok (.aload_n 2, 1) := by decide +kernel
theorem dL_law_916 : decode cL_law 916 = .ok (.aload_n 0, 1) := by decide +kernel
theorem dL_law_917 : decode cL_law 917 = .ok (.iload 4, 2) := by decide +kernel
theorem dL_law_919 : decode cL_law 919 = .ok (.iconst 1, 1) := by decide +kernel
theorem dL_law_920 : decode cL_law 920 = .ok (.iadd, 1) := by decide +kernel
theorem dL_law_921 : decode cL_law 921 = .ok (.iaload, 1) := by decide +kernel
theorem dL_law_922 : decode cL_law 922 = .ok (.aload_n 0, 1) := by decide +kernel
theorem dL_law_923 : decode cL_law 923 = .ok (.iload 4, 2) := by decide +kernel
theorem dL_law_925 : decode cL_law 925 = .ok (.iconst 2, 1) := by decide +kernel
theorem dL_law_926 : decode cL_law 926 = .ok (.iadd, 1) := by decide +kernel
theorem dL_law_927 : decode cL_law 927 = .ok (.iaload, 1) := by decide +kernel
theorem dL_law_928 : decode cL_law 928 = .ok (.aload_n 0, 1) := by decide +kernel
theorem dL_law_929 : decode cL_law 929 = .ok (.iload 4, 2) := by decide +kernel
theorem dL_law_931 : decode cL_law 931 = .ok (.iconst 3, 1) := by decide +kernel
theorem dL_law_932 : decode cL_law 932 = .ok (.iadd, 1) := by decide +kernel
theorem dL_law_933 : decode cL_law 933 = .ok (.iaload, 1) := by decide +kernel
theorem dL_law_934 : decode cL_law 934 = .ok (.invokevirtual 91, 3) := by decide +kernel
theorem dL_law_937 : decode cL_law 937 = .ok (.istore 6, 2) := by decide +kernel
theorem dL_law_939 : decode cL_law 939 = .ok (.aload_n 2, 1) := by decide +kernel
theorem dL_law_940 : decode cL_law 940 = .ok (.invokevirtual 63, 3) := by decide +kernel
theorem dL_law_943 : decode cL_law 943 = .ok (.iload 5, 2) := by decide +kernel
theorem dL_law_945 : decode cL_law 945 = .ok (.if_icmp .eq 5, 3) := by decide +kernel
theorem dL_law_948 : decode cL_law 948 = .ok (.iconst 0, 1) := by decide +kernel
theorem dL_law_949 : decode cL_law 949 = .ok (.ireturn, 1) := by decide +kernel
theorem dL_law_950 : decode cL_law 950 = .ok (.iload 5, 2) := by decide +kernel
theorem dL_law_952 : decode cL_law 952 = .ok (.ifCond .ne 15, 3) := by decide +kernel
theorem dL_law_955 : decode cL_law 955 = .ok (.aload_n 3, 1) := by decide +kernel
theorem dL_law_956 : decode cL_law 956 = .ok (.iconst 0, 1) := by decide +kernel
theorem dL_law_957 : decode cL_law 957 = .ok (.laload, 1) := by decide +kernel
theorem dL_law_958 : decode cL_law 958 = .ok (.iload 6, 2) := by decide +kernel
theorem dL_law_960 : decode cL_law 960 = .ok (.i2l, 1) := by decide +kernel
theorem dL_law_961 : decode cL_law 961 = .ok (.lcmp, 1) := by decide +kernel
theorem dL_law_962 : decode cL_law 962 = .ok (.ifCond .eq 5, 3) := by decide +kernel
theorem dL_law_965 : decode cL_law 965 = .ok (.iconst 0, 1) := by decide +kernel
theorem dL_law_966 : decode cL_law 966 = .ok (.ireturn, 1) := by decide +kernel
theorem dL_law_967 : decode cL_law 967 = .ok (.goto 279, 3) := by decide +kernel
theorem dL_law_970 : decode cL_law 970 = .ok (.aload_n 1, 1) := by decide +kernel
theorem dL_law_971 : decode cL_law 971 = .ok (.aload_n 0, 1) := by decide +kernel
theorem dL_law_972 : decode cL_law 972 = .ok (.iload 4, 2) := by decide +kernel
theorem dL_law_974 : decode cL_law 974 = .ok (.iconst 1, 1) := by decide +kernel
theorem dL_law_975 : decode cL_law 975 = .ok (.iadd, 1) := by decide +kernel
theorem dL_law_976 : decode cL_law 976 = .ok (.iaload, 1) := by decide +kernel
theorem dL_law_977 : decode cL_law 977 = .ok (.aload_n 0, 1) := by decide +kernel
theorem dL_law_978 : decode cL_law 978 = .ok (.iload 4, 2) := by decide +kernel
theorem dL_law_980 : decode cL_law 980 = .ok (.iconst 2, 1) := by decide +kernel
theorem dL_law_981 : decode cL_law 981 = .ok (.iadd, 1) := by decide +kernel
theorem dL_law_982 : decode cL_law 982 = .ok (.iaload, 1) := by decide +kernel
theorem dL_law_983 : decode cL_law 983 = .ok (.aload_n 0, 1) := by decide +kernel
theorem dL_law_984 : decode cL_law 984 = .ok (.iload 4, 2) := by decide +kernel
theorem dL_law_986 : decode cL_law 986 = .ok (.iconst 3, 1) := by decide +kernel
theorem dL_law_987 : decode cL_law 987 = .ok (.iadd, 1) := by decide +kernel
theorem dL_law_988 : decode cL_law 988 = .ok (.iaload, 1) := by decide +kernel
theorem dL_law_989 : decode cL_law 989 = .ok (.aload_n 3, 1) := by decide +kernel
theorem dL_law_990 : decode cL_law 990 = .ok (.invokestatic 92, 3) := by decide +kernel
theorem dL_law_993 : decode cL_law 993 = .ok (.istore 5, 2) := by decide +kernel
theorem dL_law_995 : decode cL_law 995 = .ok (.aload_n 2, 1) := by decide +kernel
theorem dL_law_996 : decode cL_law 996 = .ok (.aload_n 0, 1) := by decide +kernel
theorem dL_law_997 : decode cL_law 997 = .ok (.iload 4, 2) := by decide +kernel
theorem dL_law_999 : decode cL_law 999 = .ok (.iconst 1, 1) := by decide +kernel
theorem dL_law_1000 : decode cL_law 1000 = .ok (.iadd, 1) := by decide +kernel
theorem dL_law_1001 : decode cL_law 1001 = .ok (.iaload, 1) := by decide +kernel
theorem dL_law_1002 : decode cL_law 1002 = .ok (.aload_n 0, 1) := by decide +kernel
theorem dL_law_1003 : decode cL_law 1003 = .ok (.iload 4, 2) := by decide +kernel
theorem dL_law_1005 : decode cL_law 1005 = .ok (.iconst 2, 1) := by decide +kernel
theorem dL_law_1006 : decode cL_law 1006 = .ok (.iadd, 1) := by decide +kernel
theorem dL_law_1007 : decode cL_law 1007 = .ok (.iaload, 1) := by decide +kernel
theorem dL_law_1008 : decode cL_law 1008 = .ok (.aload_n 0, 1) := by decide +kernel
theorem dL_law_1009 : decode cL_law 1009 = .ok (.iload 4, 2) := by decide +kernel
theorem dL_law_1011 : decode cL_law 1011 = .ok (.iconst 3, 1) := by decide +kernel
theorem dL_law_1012 : decode cL_law 1012 = .ok (.iadd, 1) := by decide +kernel
theorem dL_law_1013 : decode cL_law 1013 = .ok (.iaload, 1) := by decide +kernel
theorem dL_law_1014 : decode cL_law 1014 = .ok (.invokevirtual 94, 3) := by decide +kernel
theorem dL_law_1017 : decode cL_law 1017 = .ok (.istore 6, 2) := by decide +kernel
theorem dL_law_1019 : decode cL_law 1019 = .ok (.aload_n 2, 1) := by decide +kernel
theorem dL_law_1020 : decode cL_law 1020 = .ok (.invokevirtual 63, 3) := by decide +kernel
theorem dL_law_1023 : decode cL_law 1023 = .ok (.iload 5, 2) := by decide +kernel
theorem dL_law_1025 : decode cL_law 1025 = .ok (.if_icmp .eq 5, 3) := by decide +kernel
theorem dL_law_1028 : decode cL_law 1028 = .ok (.iconst 0, 1) := by decide +kernel
theorem dL_law_1029 : decode cL_law 1029 = .ok (.ireturn, 1) := by decide +kernel
theorem dL_law_1030 : decode cL_law 1030 = .ok (.iload 5, 2) := by decide +kernel
theorem dL_law_1032 : decode cL_law 1032 = .ok (.ifCond .ne 15, 3) := by decide +kernel
theorem dL_law_1035 : decode cL_law 1035 = .ok (.aload_n 3, 1) := by decide +kernel
theorem dL_law_1036 : decode cL_law 1036 = .ok (.iconst 0, 1) := by decide +kernel
theorem dL_law_1037 : decode cL_law 1037 = .ok (.laload, 1) := by decide +kernel
theorem dL_law_1038 : decode cL_law 1038 = .ok (.iload 6, 2) := by decide +kernel
theorem dL_law_1040 : decode cL_law 1040 = .ok (.i2l, 1) := by decide +kernel
theorem dL_law_1041 : decode cL_law 1041 = .ok (.lcmp, 1) := by decide +kernel
theorem dL_law_1042 : decode cL_law 1042 = .ok (.ifCond .eq 5, 3) := by decide +kernel
theorem dL_law_1045 : decode cL_law 1045 = .ok (.iconst 0, 1) := by decide +kernel
theorem dL_law_1046 : decode cL_law 1046 = .ok (.ireturn, 1) := by decide +kernel
theorem dL_law_1047 : decode cL_law 1047 = .ok (.goto 199, 3) := by decide +kernel
theorem dL_law_1050 : decode cL_law 1050 = .ok (.aload_n 1, 1) := by decide +kernel
theorem dL_law_1051 : decode cL_law 1051 = .ok (.aload_n 0, 1) := by decide +kernel
theorem dL_law_1052 : decode cL_law 1052 = .ok (.iload 4, 2) := by decide +kernel
theorem dL_law_1054 : decode cL_law 1054 = .ok (.iconst 1, 1) := by decide +kernel
theorem dL_law_1055 : decode cL_law 1055 = .ok (.iadd, 1) := by decide +kernel
theorem dL_law_1056 : decode cL_law 1056 = .ok (.iaload, 1) := by decide +kernel
theorem dL_law_1057 : decode cL_law 1057 = .ok (.aload_n 0, 1) := by decide +kernel
theorem dL_law_1058 : decode cL_law 1058 = .ok (.iload 4, 2) := by decide +kernel
theorem dL_law_1060 : decode cL_law 1060 = .ok (.iconst 2, 1) := by decide +kernel
theorem dL_law_1061 : decode cL_law 1061 = .ok (.iadd, 1) := by decide +kernel
theorem dL_law_1062 : decode cL_law 1062 = .ok (.iaload, 1) := by decide +kernel
theorem dL_law_1063 : decode cL_law 1063 = .ok (.aload_n 0, 1) := by decide +kernel
theorem dL_law_1064 : decode cL_law 1064 = .ok (.iload 4, 2) := by decide +kernel
theorem dL_law_1066 : decode cL_law 1066 = .ok (.iconst 3, 1) := by decide +kernel
theorem dL_law_1067 : decode cL_law 1067 = .ok (.iadd, 1) := by decide +kernel
theorem dL_law_1068 : decode cL_law 1068 = .ok (.iaload, 1) := by decide +kernel
theorem dL_law_1069 : decode cL_law 1069 = .ok (.aload_n 0, 1) := by decide +kernel
theorem dL_law_1070 : decode cL_law 1070 = .ok (.iload 4, 2) := by decide +kernel
theorem dL_law_1072 : decode cL_law 1072 = .ok (.iconst 4, 1) := by decide +kernel
theorem dL_law_1073 : decode cL_law 1073 = .ok (.iadd, 1) := by decide +kernel
theorem dL_law_1074 : decode cL_law 1074 = .ok (.iaload, 1) := by decide +kernel
theorem dL_law_1075 : decode cL_law 1075 = .ok (.aload_n 0, 1) := by decide +kernel
theorem dL_law_1076 : decode cL_law 1076 = .ok (.iload 4, 2) := by decide +kernel
theorem dL_law_1078 : decode cL_law 1078 = .ok (.iconst 5, 1) := by decide +kernel
theorem dL_law_1079 : decode cL_law 1079 = .ok (.iadd, 1) := by decide +kernel
theorem dL_law_1080 : decode cL_law 1080 = .ok (.iaload, 1) := by decide +kernel
theorem dL_law_1081 : decode cL_law 1081 = .ok (.invokevirtual 95, 3) := by decide +kernel
theorem dL_law_1084 : decode cL_law 1084 = .ok (.aload_n 2, 1) := by decide +kernel
theorem dL_law_1085 : decode cL_law 1085 = .ok (.aload_n 0, 1) := by decide +kernel
theorem dL_law_1086 : decode cL_law 1086 = .ok (.iload 4, 2) := by decide +kernel
theorem dL_law_1088 : decode cL_law 1088 = .ok (.iconst 1, 1) := by decide +kernel
theorem dL_law_1089 : decode cL_law 1089 = .ok (.iadd, 1) := by decide +kernel
theorem dL_law_1090 : decode cL_law 1090 = .ok (.iaload, 1) := by decide +kernel
theorem dL_law_1091 : decode cL_law 1091 = .ok (.aload_n 0, 1) := by decide +kernel
theorem dL_law_1092 : decode cL_law 1092 = .ok (.iload 4, 2) := by decide +kernel
theorem dL_law_1094 : decode cL_law 1094 = .ok (.iconst 2, 1) := by decide +kernel
theorem dL_law_1095 : decode cL_law 1095 = .ok (.iadd, 1) := by decide +kernel
theorem dL_law_1096 : decode cL_law 1096 = .ok (.iaload, 1) := by decide +kernel
theorem dL_law_1097 : decode cL_law 1097 = .ok (.aload_n 0, 1) := by decide +kernel
theorem dL_law_1098 : decode cL_law 1098 = .ok (.iload 4, 2) := by decide +kernel
theorem dL_law_1100 : decode cL_law 1100 = .ok (.iconst 3, 1) := by decide +kernel
theorem dL_law_1101 : decode cL_law 1101 = .ok (.iadd, 1) := by decide +kernel
theorem dL_law_1102 : decode cL_law 1102 = .ok (.iaload, 1) := by decide +kernel
theorem dL_law_1103 : decode cL_law 1103 = .ok (.aload_n 0, 1) := by decide +kernel
theorem dL_law_1104 : decode cL_law 1104 = .ok (.iload 4, 2) := by decide +kernel
theorem dL_law_1106 : decode cL_law 1106 = .ok (.iconst 4, 1) := by decide +kernel
theorem dL_law_1107 : decode cL_law 1107 = .ok (.iadd, 1) := by decide +kernel
theorem dL_law_1108 : decode cL_law 1108 = .ok (.iaload, 1) := by decide +kernel
theorem dL_law_1109 : decode cL_law 1109 = .ok (.aload_n 0, 1) := by decide +kernel
theorem dL_law_1110 : decode cL_law 1110 = .ok (.iload 4, 2) := by decide +kernel
theorem dL_law_1112 : decode cL_law 1112 = .ok (.iconst 5, 1) := by decide +kernel
theorem dL_law_1113 : decode cL_law 1113 = .ok (.iadd, 1) := by decide +kernel
theorem dL_law_1114 : decode cL_law 1114 = .ok (.iaload, 1) := by decide +kernel
theorem dL_law_1115 : decode cL_law 1115 = .ok (.invokevirtual 98, 3) := by decide +kernel
theorem dL_law_1118 : decode cL_law 1118 = .ok (.if_icmp .eq 128, 3) := by decide +kernel
theorem dL_law_1121 : decode cL_law 1121 = .ok (.iconst 0, 1) := by decide +kernel
theorem dL_law_1122 : decode cL_law 1122 = .ok (.ireturn, 1) := by decide +kernel
theorem dL_law_1123 : decode cL_law 1123 = .ok (.aload_n 1, 1) := by decide +kernel
theorem dL_law_1124 : decode cL_law 1124 = .ok (.aload_n 0, 1) := by decide +kernel
theorem dL_law_1125 : decode cL_law 1125 = .ok (.iload 4, 2) := by decide +kernel
theorem dL_law_1127 : decode cL_law 1127 = .ok (.iconst 1, 1) := by decide +kernel
theorem dL_law_1128 : decode cL_law 1128 = .ok (.iadd, 1) := by decide +kernel
theorem dL_law_1129 : decode cL_law 1129 = .ok (.iaload, 1) := by decide +kernel
theorem dL_law_1130 : decode cL_law 1130 = .ok (.invokevirtual 99, 3) := by decide +kernel
theorem dL_law_1133 : decode cL_law 1133 = .ok (.aload_n 2, 1) := by decide +kernel
theorem dL_law_1134 : decode cL_law 1134 = .ok (.aload_n 0, 1) := by decide +kernel
theorem dL_law_1135 : decode cL_law 1135 = .ok (.iload 4, 2) := by decide +kernel
theorem dL_law_1137 : decode cL_law 1137 = .ok (.iconst 1, 1) := by decide +kernel
theorem dL_law_1138 : decode cL_law 1138 = .ok (.iadd, 1) := by decide +kernel
theorem dL_law_1139 : decode cL_law 1139 = .ok (.iaload, 1) := by decide +kernel
theorem dL_law_1140 : decode cL_law 1140 = .ok (.invokevirtual 102, 3) := by decide +kernel
theorem dL_law_1143 : decode cL_law 1143 = .ok (.if_icmp .eq 103, 3) := by decide +kernel
theorem dL_law_1146 : decode cL_law 1146 = .ok (.iconst 0, 1) := by decide +kernel
theorem dL_law_1147 : decode cL_law 1147 = .ok (.ireturn, 1) := by decide +kernel
theorem dL_law_1148 : decode cL_law 1148 = .ok (.aload_n 1, 1) := by decide +kernel
theorem dL_law_1149 : decode cL_law 1149 = .ok (.aload_n 0, 1) := by decide +kernel
theorem dL_law_1150 : decode cL_law 1150 = .ok (.iload 4, 2) := by decide +kernel
theorem dL_law_1152 : decode cL_law 1152 = .ok (.iconst 1, 1) := by decide +kernel
theorem dL_law_1153 : decode cL_law 1153 = .ok (.iadd, 1) := by decide +kernel
theorem dL_law_1154 : decode cL_law 1154 = .ok (.iaload, 1) := by decide +kernel
theorem dL_law_1155 : decode cL_law 1155 = .ok (.aload_n 0, 1) := by decide +kernel
theorem dL_law_1156 : decode cL_law 1156 = .ok (.iload 4, 2) := by decide +kernel
theorem dL_law_1158 : decode cL_law 1158 = .ok (.iconst 2, 1) := by decide +kernel
theorem dL_law_1159 : decode cL_law 1159 = .ok (.iadd, 1) := by decide +kernel
theorem dL_law_1160 : decode cL_law 1160 = .ok (.iaload, 1) := by decide +kernel
theorem dL_law_1161 : decode cL_law 1161 = .ok (.aload_n 0, 1) := by decide +kernel
theorem dL_law_1162 : decode cL_law 1162 = .ok (.iload 4, 2) := by decide +kernel
theorem dL_law_1164 : decode cL_law 1164 = .ok (.iconst 3, 1) := by decide +kernel
theorem dL_law_1165 : decode cL_law 1165 = .ok (.iadd, 1) := by decide +kernel
theorem dL_law_1166 : decode cL_law 1166 = .ok (.iaload, 1) := by decide +kernel
theorem dL_law_1167 : decode cL_law 1167 = .ok (.aload_n 0, 1) := by decide +kernel
theorem dL_law_1168 : decode cL_law 1168 = .ok (.iload 4, 2) := by decide +kernel
theorem dL_law_1170 : decode cL_law 1170 = .ok (.iconst 4, 1) := by decide +kernel
theorem dL_law_1171 : decode cL_law 1171 = .ok (.iadd, 1) := by decide +kernel
theorem dL_law_1172 : decode cL_law 1172 = .ok (.iaload, 1) := by decide +kernel
theorem dL_law_1173 : decode cL_law 1173 = .ok (.aload_n 0, 1) := by decide +kernel
theorem dL_law_1174 : decode cL_law 1174 = .ok (.iload 4, 2) := by decide +kernel
theorem dL_law_1176 : decode cL_law 1176 = .ok (.iconst 5, 1) := by decide +kernel
theorem dL_law_1177 : decode cL_law 1177 = .ok (.iadd, 1) := by decide +kernel
theorem dL_law_1178 : decode cL_law 1178 = .ok (.iaload, 1) := by decide +kernel
theorem dL_law_1179 : decode cL_law 1179 = .ok (.invokevirtual 103, 3) := by decide +kernel
theorem dL_law_1182 : decode cL_law 1182 = .ok (.aload_n 2, 1) := by decide +kernel
theorem dL_law_1183 : decode cL_law 1183 = .ok (.aload_n 0, 1) := by decide +kernel
theorem dL_law_1184 : decode cL_law 1184 = .ok (.iload 4, 2) := by decide +kernel
theorem dL_law_1186 : decode cL_law 1186 = .ok (.iconst 1, 1) := by decide +kernel
theorem dL_law_1187 : decode cL_law 1187 = .ok (.iadd, 1) := by decide +kernel
theorem dL_law_1188 : decode cL_law 1188 = .ok (.iaload, 1) := by decide +kernel
theorem dL_law_1189 : decode cL_law 1189 = .ok (.aload_n 0, 1) := by decide +kernel
theorem dL_law_1190 : decode cL_law 1190 = .ok (.iload 4, 2) := by decide +kernel
theorem dL_law_1192 : decode cL_law 1192 = .ok (.iconst 2, 1) := by decide +kernel
theorem dL_law_1193 : decode cL_law 1193 = .ok (.iadd, 1) := by decide +kernel
theorem dL_law_1194 : decode cL_law 1194 = .ok (.iaload, 1) := by decide +kernel
theorem dL_law_1195 : decode cL_law 1195 = .ok (.aload_n 0, 1) := by decide +kernel
theorem dL_law_1196 : decode cL_law 1196 = .ok (.iload 4, 2) := by decide +kernel
theorem dL_law_1198 : decode cL_law 1198 = .ok (.iconst 3, 1) := by decide +kernel
theorem dL_law_1199 : decode cL_law 1199 = .ok (.iadd, 1) := by decide +kernel
theorem dL_law_1200 : decode cL_law 1200 = .ok (.iaload, 1) := by decide +kernel
theorem dL_law_1201 : decode cL_law 1201 = .ok (.aload_n 0, 1) := by decide +kernel
theorem dL_law_1202 : decode cL_law 1202 = .ok (.iload 4, 2) := by decide +kernel
theorem dL_law_1204 : decode cL_law 1204 = .ok (.iconst 4, 1) := by decide +kernel
theorem dL_law_1205 : decode cL_law 1205 = .ok (.iadd, 1) := by decide +kernel
theorem dL_law_1206 : decode cL_law 1206 = .ok (.iaload, 1) := by decide +kernel
theorem dL_law_1207 : decode cL_law 1207 = .ok (.aload_n 0, 1) := by decide +kernel
theorem dL_law_1208 : decode cL_law 1208 = .ok (.iload 4, 2) := by decide +kernel
theorem dL_law_1210 : decode cL_law 1210 = .ok (.iconst 5, 1) := by decide +kernel
theorem dL_law_1211 : decode cL_law 1211 = .ok (.iadd, 1) := by decide +kernel
theorem dL_law_1212 : decode cL_law 1212 = .ok (.iaload, 1) := by decide +kernel
theorem dL_law_1213 : decode cL_law 1213 = .ok (.invokevirtual 106, 3) := by decide +kernel
theorem dL_law_1216 : decode cL_law 1216 = .ok (.if_icmp .eq 30, 3) := by decide +kernel
theorem dL_law_1219 : decode cL_law 1219 = .ok (.iconst 0, 1) := by decide +kernel
theorem dL_law_1220 : decode cL_law 1220 = .ok (.ireturn, 1) := by decide +kernel
theorem dL_law_1221 : decode cL_law 1221 = .ok (.aload_n 1, 1) := by decide +kernel
theorem dL_law_1222 : decode cL_law 1222 = .ok (.aload_n 0, 1) := by decide +kernel
theorem dL_law_1223 : decode cL_law 1223 = .ok (.iload 4, 2) := by decide +kernel
theorem dL_law_1225 : decode cL_law 1225 = .ok (.iconst 1, 1) := by decide +kernel
theorem dL_law_1226 : decode cL_law 1226 = .ok (.iadd, 1) := by decide +kernel
theorem dL_law_1227 : decode cL_law 1227 = .ok (.iaload, 1) := by decide +kernel
theorem dL_law_1228 : decode cL_law 1228 = .ok (.invokevirtual 107, 3) := by decide +kernel
theorem dL_law_1231 : decode cL_law 1231 = .ok (.aload_n 2, 1) := by decide +kernel
theorem dL_law_1232 : decode cL_law 1232 = .ok (.aload_n 0, 1) := by decide +kernel
theorem dL_law_1233 : decode cL_law 1233 = .ok (.iload 4, 2) := by decide +kernel
theorem dL_law_1235 : decode cL_law 1235 = .ok (.iconst 1, 1) := by decide +kernel
theorem dL_law_1236 : decode cL_law 1236 = .ok (.iadd, 1) := by decide +kernel
theorem dL_law_1237 : decode cL_law 1237 = .ok (.iaload, 1) := by decide +kernel
theorem dL_law_1238 : decode cL_law 1238 = .ok (.invokevirtual 110, 3) := by decide +kernel
theorem dL_law_1241 : decode cL_law 1241 = .ok (.if_icmp .eq 5, 3) := by decide +kernel
theorem dL_law_1244 : decode cL_law 1244 = .ok (.iconst 0, 1) := by decide +kernel
theorem dL_law_1245 : decode cL_law 1245 = .ok (.ireturn, 1) := by decide +kernel
theorem dL_law_1246 : decode cL_law 1246 = .ok (.iinc 4 6, 3) := by decide +kernel
theorem dL_law_1249 : decode cL_law 1249 = .ok (.goto (-1226), 3) := by decide +kernel
theorem dL_law_1252 : decode cL_law 1252 = .ok (.iconst 1, 1) := by decide +kernel
theorem dL_law_1253 : decode cL_law 1253 = .ok (.ireturn, 1) := by decide +kernel
theorem dJ13_bitCount_95d88_0 : decode cJ13_bitCount_95d88 0 = .ok (.lload_n 0, 1) := by decide +kernel
theorem dJ13_bitCount_95d88_1 : decode cJ13_bitCount_95d88 1 = .ok (.lload_n 0, 1) := by decide +kernel
theorem dJ13_bitCount_95d88_2 : decode cJ13_bitCount_95d88 2 = .ok (.iconst 1, 1) := by decide +kernel
theorem dJ13_bitCount_95d88_3 : decode cJ13_bitCount_95d88 3 = .ok (.lushr, 1) := by decide +kernel
theorem dJ13_bitCount_95d88_4 : decode cJ13_bitCount_95d88 4 = .ok (.ldc2_w 314, 3) := by decide +kernel
theorem dJ13_bitCount_95d88_7 : decode cJ13_bitCount_95d88 7 = .ok (.land, 1) := by decide +kernel
theorem dJ13_bitCount_95d88_8 : decode cJ13_bitCount_95d88 8 = .ok (.lsub, 1) := by decide +kernel
theorem dJ13_bitCount_95d88_9 : decode cJ13_bitCount_95d88 9 = .ok (.lstore_n 0, 1) := by decide +kernel
theorem dJ13_bitCount_95d88_10 : decode cJ13_bitCount_95d88 10 = .ok (.lload_n 0, 1) := by decide +kernel
theorem dJ13_bitCount_95d88_11 : decode cJ13_bitCount_95d88 11 = .ok (.ldc2_w 316, 3) := by decide +kernel
theorem dJ13_bitCount_95d88_14 : decode cJ13_bitCount_95d88 14 = .ok (.land, 1) := by decide +kernel
theorem dJ13_bitCount_95d88_15 : decode cJ13_bitCount_95d88 15 = .ok (.lload_n 0, 1) := by decide +kernel
theorem dJ13_bitCount_95d88_16 : decode cJ13_bitCount_95d88 16 = .ok (.iconst 2, 1) := by decide +kernel
theorem dJ13_bitCount_95d88_17 : decode cJ13_bitCount_95d88 17 = .ok (.lushr, 1) := by decide +kernel
theorem dJ13_bitCount_95d88_18 : decode cJ13_bitCount_95d88 18 = .ok (.ldc2_w 316, 3) := by decide +kernel
theorem dJ13_bitCount_95d88_21 : decode cJ13_bitCount_95d88 21 = .ok (.land, 1) := by decide +kernel
theorem dJ13_bitCount_95d88_22 : decode cJ13_bitCount_95d88 22 = .ok (.ladd, 1) := by decide +kernel
theorem dJ13_bitCount_95d88_23 : decode cJ13_bitCount_95d88 23 = .ok (.lstore_n 0, 1) := by decide +kernel
theorem dJ13_bitCount_95d88_24 : decode cJ13_bitCount_95d88 24 = .ok (.lload_n 0, 1) := by decide +kernel
theorem dJ13_bitCount_95d88_25 : decode cJ13_bitCount_95d88 25 = .ok (.lload_n 0, 1) := by decide +kernel
theorem dJ13_bitCount_95d88_26 : decode cJ13_bitCount_95d88 26 = .ok (.iconst 4, 1) := by decide +kernel
theorem dJ13_bitCount_95d88_27 : decode cJ13_bitCount_95d88 27 = .ok (.lushr, 1) := by decide +kernel
theorem dJ13_bitCount_95d88_28 : decode cJ13_bitCount_95d88 28 = .ok (.ladd, 1) := by decide +kernel
theorem dJ13_bitCount_95d88_29 : decode cJ13_bitCount_95d88 29 = .ok (.ldc2_w 318, 3) := by decide +kernel
theorem dJ13_bitCount_95d88_32 : decode cJ13_bitCount_95d88 32 = .ok (.land, 1) := by decide +kernel
theorem dJ13_bitCount_95d88_33 : decode cJ13_bitCount_95d88 33 = .ok (.lstore_n 0, 1) := by decide +kernel
theorem dJ13_bitCount_95d88_34 : decode cJ13_bitCount_95d88 34 = .ok (.lload_n 0, 1) := by decide +kernel
theorem dJ13_bitCount_95d88_35 : decode cJ13_bitCount_95d88 35 = .ok (.lload_n 0, 1) := by decide +kernel
theorem dJ13_bitCount_95d88_36 : decode cJ13_bitCount_95d88 36 = .ok (.bipush 8, 2) := by decide +kernel
theorem dJ13_bitCount_95d88_38 : decode cJ13_bitCount_95d88 38 = .ok (.lushr, 1) := by decide +kernel
theorem dJ13_bitCount_95d88_39 : decode cJ13_bitCount_95d88 39 = .ok (.ladd, 1) := by decide +kernel
theorem dJ13_bitCount_95d88_40 : decode cJ13_bitCount_95d88 40 = .ok (.lstore_n 0, 1) := by decide +kernel
theorem dJ13_bitCount_95d88_41 : decode cJ13_bitCount_95d88 41 = .ok (.lload_n 0, 1) := by decide +kernel
theorem dJ13_bitCount_95d88_42 : decode cJ13_bitCount_95d88 42 = .ok (.lload_n 0, 1) := by decide +kernel
theorem dJ13_bitCount_95d88_43 : decode cJ13_bitCount_95d88 43 = .ok (.bipush 16, 2) := by decide +kernel
theorem dJ13_bitCount_95d88_45 : decode cJ13_bitCount_95d88 45 = .ok (.lushr, 1) := by decide +kernel
theorem dJ13_bitCount_95d88_46 : decode cJ13_bitCount_95d88 46 = .ok (.ladd, 1) := by decide +kernel
theorem dJ13_bitCount_95d88_47 : decode cJ13_bitCount_95d88 47 = .ok (.lstore_n 0, 1) := by decide +kernel
theorem dJ13_bitCount_95d88_48 : decode cJ13_bitCount_95d88 48 = .ok (.lload_n 0, 1) := by decide +kernel
theorem dJ13_bitCount_95d88_49 : decode cJ13_bitCount_95d88 49 = .ok (.lload_n 0, 1) := by decide +kernel
theorem dJ13_bitCount_95d88_50 : decode cJ13_bitCount_95d88 50 = .ok (.bipush 32, 2) := by decide +kernel
theorem dJ13_bitCount_95d88_52 : decode cJ13_bitCount_95d88 52 = .ok (.lushr, 1) := by decide +kernel
theorem dJ13_bitCount_95d88_53 : decode cJ13_bitCount_95d88 53 = .ok (.ladd, 1) := by decide +kernel
theorem dJ13_bitCount_95d88_54 : decode cJ13_bitCount_95d88 54 = .ok (.lstore_n 0, 1) := by decide +kernel
theorem dJ13_bitCount_95d88_55 : decode cJ13_bitCount_95d88 55 = .ok (.lload_n 0, 1) := by decide +kernel
theorem dJ13_bitCount_95d88_56 : decode cJ13_bitCount_95d88 56 = .ok (.l2i, 1) := by decide +kernel
theorem dJ13_bitCount_95d88_57 : decode cJ13_bitCount_95d88 57 = .ok (.bipush 127, 2) := by decide +kernel
theorem dJ13_bitCount_95d88_59 : decode cJ13_bitCount_95d88 59 = .ok (.iand, 1) := by decide +kernel
theorem dJ13_bitCount_95d88_60 : decode cJ13_bitCount_95d88 60 = .ok (.ireturn, 1) := by decide +kernel
theorem dJ9_max_7cf53_0 : decode cJ9_max_7cf53 0 = .ok (.iload_n 0, 1) := by decide +kernel
theorem dJ9_max_7cf53_1 : decode cJ9_max_7cf53 1 = .ok (.iload_n 1, 1) := by decide +kernel
theorem dJ9_max_7cf53_2 : decode cJ9_max_7cf53 2 = .ok (.if_icmp .lt 7, 3) := by decide +kernel
theorem dJ9_max_7cf53_5 : decode cJ9_max_7cf53 5 = .ok (.iload_n 0, 1) := by decide +kernel
theorem dJ9_max_7cf53_6 : decode cJ9_max_7cf53 6 = .ok (.goto 4, 3) := by decide +kernel
theorem dJ9_max_7cf53_9 : decode cJ9_max_7cf53 9 = .ok (.iload_n 1, 1) := by decide +kernel
theorem dJ9_max_7cf53_10 : decode cJ9_max_7cf53 10 = .ok (.ireturn, 1) := by decide +kernel
theorem dJ9_min_7cf53_0 : decode cJ9_min_7cf53 0 = .ok (.iload_n 0, 1) := by decide +kernel
theorem dJ9_min_7cf53_1 : decode cJ9_min_7cf53 1 = .ok (.iload_n 1, 1) := by decide +kernel
theorem dJ9_min_7cf53_2 : decode cJ9_min_7cf53 2 = .ok (.if_icmp .gt 7, 3) := by decide +kernel
theorem dJ9_min_7cf53_5 : decode cJ9_min_7cf53 5 = .ok (.iload_n 0, 1) := by decide +kernel
theorem dJ9_min_7cf53_6 : decode cJ9_min_7cf53 6 = .ok (.goto 4, 3) := by decide +kernel
theorem dJ9_min_7cf53_9 : decode cJ9_min_7cf53 9 = .ok (.iload_n 1, 1) := by decide +kernel
theorem dJ9_min_7cf53_10 : decode cJ9_min_7cf53 10 = .ok (.ireturn, 1) := by decide +kernel
theorem dJ7_fill_53178_0 : decode cJ7_fill_53178 0 = .ok (.iconst 0, 1) := by decide +kernel
theorem dJ7_fill_53178_1 : decode cJ7_fill_53178 1 = .ok (.istore_n 2, 1) := by decide +kernel
theorem dJ7_fill_53178_2 : decode cJ7_fill_53178 2 = .ok (.aload_n 0, 1) := by decide +kernel
theorem dJ7_fill_53178_3 : decode cJ7_fill_53178 3 = .ok (.arraylength, 1) := by decide +kernel
theorem dJ7_fill_53178_4 : decode cJ7_fill_53178 4 = .ok (.istore_n 3, 1) := by decide +kernel
theorem dJ7_fill_53178_5 : decode cJ7_fill_53178 5 = .ok (.iload_n 2, 1) := by decide +kernel
theorem dJ7_fill_53178_6 : decode cJ7_fill_53178 6 = .ok (.iload_n 3, 1) := by decide +kernel
theorem dJ7_fill_53178_7 : decode cJ7_fill_53178 7 = .ok (.if_icmp .ge 13, 3) := by decide +kernel
theorem dJ7_fill_53178_10 : decode cJ7_fill_53178 10 = .ok (.aload_n 0, 1) := by decide +kernel
theorem dJ7_fill_53178_11 : decode cJ7_fill_53178 11 = .ok (.iload_n 2, 1) := by decide +kernel
theorem dJ7_fill_53178_12 : decode cJ7_fill_53178 12 = .ok (.iload_n 1, 1) := by decide +kernel
theorem dJ7_fill_53178_13 : decode cJ7_fill_53178 13 = .ok (.iastore, 1) := by decide +kernel
theorem dJ7_fill_53178_14 : decode cJ7_fill_53178 14 = .ok (.iinc 2 1, 3) := by decide +kernel
theorem dJ7_fill_53178_17 : decode cJ7_fill_53178 17 = .ok (.goto (-12), 3) := by decide +kernel
theorem dJ7_fill_53178_20 : decode cJ7_fill_53178 20 = .ok (.return_, 1) := by decide +kernel
theorem dJ7_fill_031fb_0 : decode cJ7_fill_031fb 0 = .ok (.iconst 0, 1) := by decide +kernel
theorem dJ7_fill_031fb_1 : decode cJ7_fill_031fb 1 = .ok (.istore_n 2, 1) := by decide +kernel
theorem dJ7_fill_031fb_2 : decode cJ7_fill_031fb 2 = .ok (.aload_n 0, 1) := by decide +kernel
theorem dJ7_fill_031fb_3 : decode cJ7_fill_031fb 3 = .ok (.arraylength, 1) := by decide +kernel
theorem dJ7_fill_031fb_4 : decode cJ7_fill_031fb 4 = .ok (.istore_n 3, 1) := by decide +kernel
theorem dJ7_fill_031fb_5 : decode cJ7_fill_031fb 5 = .ok (.iload_n 2, 1) := by decide +kernel
theorem dJ7_fill_031fb_6 : decode cJ7_fill_031fb 6 = .ok (.iload_n 3, 1) := by decide +kernel
theorem dJ7_fill_031fb_7 : decode cJ7_fill_031fb 7 = .ok (.if_icmp .ge 13, 3) := by decide +kernel
theorem dJ7_fill_031fb_10 : decode cJ7_fill_031fb 10 = .ok (.aload_n 0, 1) := by decide +kernel
theorem dJ7_fill_031fb_11 : decode cJ7_fill_031fb 11 = .ok (.iload_n 2, 1) := by decide +kernel
theorem dJ7_fill_031fb_12 : decode cJ7_fill_031fb 12 = .ok (.iload_n 1, 1) := by decide +kernel
theorem dJ7_fill_031fb_13 : decode cJ7_fill_031fb 13 = .ok (.bastore, 1) := by decide +kernel
theorem dJ7_fill_031fb_14 : decode cJ7_fill_031fb 14 = .ok (.iinc 2 1, 3) := by decide +kernel
theorem dJ7_fill_031fb_17 : decode cJ7_fill_031fb 17 = .ok (.goto (-12), 3) := by decide +kernel
theorem dJ7_fill_031fb_20 : decode cJ7_fill_031fb 20 = .ok (.return_, 1) := by decide +kernel
end
section
/-! ===== BEGIN exceptions that leave a method, and their catching by the caller (launches without stack traces) ===== -/
section VXA
/-! The laws vx_back, vx_callV, vx_callS, vx_callSW, vx_throw0, vx_throwS follow proofs of the library, with one case more: JvmDerived/Free/Laws.lean (Back.of_free), Shelf42/LK1.lean (callV, callS), Shelf/KitTraced.lean (throwNew0V, throwNewS). -/
/-- where a method has thrown q: the class by its name, the cell, what was written, the world -/
def vx_T (XC : String → State → State → Prop) (st : State) (q : Addr) (t : State) (mc ms : Nat) (free : Addr → Prop) : Prop :=
  ∃ (E : String) (ce : Cell) (L : List Loc), XC E st t ∧ t.heap[q]? = some ce ∧ ce.vm = .none ∧ st.vm.findClass E = some ce.cls ∧ st.WarmedH t.vm ∧ st.sameButNew ({ t with vm := st.vm } : State) L mc ms ∧ ∀ z ∈ L, free z.base
def vx_Q (Qc : Array Value → State → Outcome → State → Prop) (XC : String → State → State → Prop) (mc ms : Nat) (free : Addr → Prop) : Array Value → State → Outcome → State → Prop := fun a st o t =>
  (Qc a st o t ∧ ∃ L, FrameEnd st o t L mc ms ∧ ∀ q ∈ L, free q.base) ∨ ∃ q, o = .threw q ∧ vx_T XC st q t mc ms free
/-- a callee that returns or throws -/
def vx_Met (l : Launch) (y : MethodName) (ws : List Cond) (rm : Room) (Pc : Array Value → State → Prop) (Qc : Array Value → State → Outcome → State → Prop) (XC : String → State → State → Prop) (mc ms : Nat) (free : Addr → Prop) : Prop :=
  MetFree l y (headSpec ws rm) Pc (fun _ _ _ _ _ => True) (vx_Q Qc XC mc ms free)
def vx_Post (XC : String → State → State → Prop) (mc ms : Nat) (free : Addr → Prop) : Pt → Array Value → Addr → Pt → Prop := fun A a q B =>
  ∃ (g : JFrame) (mk : MethodId) (t : State) (L : List Loc) (E : String) (ce : Cell), B.U.heap = t.heap ∧ B.U.vm = t.vm ∧ XC E (A.U.calling g mk a) t ∧ t.heap[q]? = some ce ∧ ce.vm = .none ∧ A.U.vm.findClass E = some ce.cls ∧ B.locs = A.locs ++ L ∧ (∀ z ∈ L, free z.base) ∧ B.cells = A.cells + mc ∧ B.slots = A.slots + ms
def vx_Back (l : Launch) (R : Room) (p : Program) (e : Env) (below : List Frame) (s : State) (sargs : Array Value) (y : MethodName) (len W9 : Nat)
    (Pre : Pt → Array Value → Prop) (Post : Pt → Array Value → Option Value → Pt → Prop) (PostX : Pt → Array Value → Addr → Pt → Prop) : Prop :=
  ∀ (m : MethodId) (meth : Method) (c : Code) (A : Pt) (g : JFrame) (ig : Instr) (mk : MethodId) (a : Array Value),
    Stand p l e R s m sargs below meth c A.U A.locs A.cells A.slots → g.method = m → g.locals.size = c.maxLocals → decode c.code g.pc = .ok (ig, len) →
    2 * g.monitorRoom + (g.stack.map fun v => v.category).sum ≤ W9 → A.U.methodNamed? y = some mk → Pre A a →
    (∃ (v : Option Value) (B : Pt), Stand p l e R s m sargs below meth c B.U B.locs B.cells B.slots ∧ Post A a v B ∧
      Steps p.tables e below (doInvoke e (A.U.setTop g) [] mk a).1 (B.U.setTop { g with pc := g.pc + len, stack := v.toList ++ g.stack })) ∨
    (∃ (q : Addr) (B : Pt), Stand p l e R s m sargs below meth c B.U B.locs B.cells B.slots ∧ PostX A a q B ∧
      Steps p.tables e below (doInvoke e (A.U.setTop g) [] mk a).1 ((B.U.setTop g).pushFrame (.throwing q)))
section Payer
variable {l : Launch} {R : Room} {p : Program} {e : Env} {below : List Frame} {s : State} {sargs : Array Value} {y : MethodName} {len W9 : Nat}
theorem vx_back {ws : List Cond} {rm : Room} {Pc : Array Value → State → Prop} {Qc : Array Value → State → Outcome → State → Prop} {XC : String → State → State → Prop} {mc ms : Nat} {free : Addr → Prop} {bytes : ByteArray} {maxL : Nat} {ret : Option FieldType}
    (hM : vx_Met l y ws rm Pc Qc XC mc ms free) (hblind : FrameBlind Pc) (hrc : rm.cells = mc) (hrs : rm.slots = ms)
    (hframes : rm.frames + 1 ≤ R.frames) (hlocals : W9 + (maxL + 11) + rm.locals ≤ R.locals)
    (hws : ∀ w ∈ ws, ∀ a' U, s.WarmedH U.vm → w.before a' U = true) (hcode : Cond.code y bytes maxL ret ∈ ws) (hinit : ∀ a' U, s.WarmedH U.vm → (Cond.initialized y.cls).before a' U = true) :
    vx_Back l R p e below s sargs y len W9 (PreOf R mc ms Pc) (PostOf Qc mc ms free) (vx_Post XC mc ms free) := by
  intro m meth c A g ig mk a X hg hsize hdg hW hn hp
  have h1 : (headSpec ws rm).pre.before a A.U = true := atoms_intro fun w hw => hws w hw _ _ X.warmed
  have h2 : (Cond.code y bytes maxL ret).before a A.U = true := hws _ hcode _ _ X.warmed
  have h3 : (Cond.initialized y.cls).before a A.U = true := hinit _ _ X.warmed
  have h4 : A.cells + (headSpec ws rm).room.cells ≤ R.cells := by rw [show (headSpec ws rm).room.cells = mc from hrc]; exact hp.1
  have h5 : A.slots + (headSpec ws rm).room.slots ≤ R.slots := by rw [show (headSpec ws rm).room.slots = ms from hrs]; exact hp.2.1
  have hPc : Pc a (A.U.calling g mk a) := hblind _ _ _ _ hp.2.2
  obtain ⟨U, Ls, c0, s0⟩ := A
  dsimp only [Pt.U, Pt.locs, Pt.cells, Pt.slots] at h1 h2 h3 h4 h5 X hn hPc ⊢
  obtain ⟨methY, cY, hmY, hcY, -, hlY, -, -, -, -⟩ := Cond.code_spec hn h2
  obtain ⟨kY, hkY, -⟩ := className_of_methodNamed hn
  have hinitY : kY.init = .initialized := Cond.initialized_spec (findClass_of_methodNamed hn) hkY h3
  have h : At U g.method c below := by rw [hg]; exact X.here
  have hlocals9 : W9 + (maxL + 11) + (headSpec ws rm).room.locals ≤ R.locals := hlocals
  have happ : (headSpec ws rm).appliesLoose y e.platform (U.calling g mk a) = true :=
    Spec.appliesLoose_calling (g := g) h hdg hn hkY hinitY
      (X.room_calling (g := g) (R' := (headSpec ws rm).room) hsize hmY hcY hframes (by rw [hlY]; omega) h4 h5) h1
  obtain ⟨mid, hmid⟩ := h.above
  have hfr : (U.setTop g).frames = (.java g :: mid) ++ below := by rw [State.frames_setTop' g h.top, hmid]; rfl
  obtain ⟨o, s₂, hsteps, -, hend, hq⟩ := Steps.callFree hM p X.admits X.cas X.clock (acts := []) hfr happ hPc trivial
  have hq' : vx_Q Qc XC mc ms free a (U.calling g mk a) o s₂ := hq
  rw [State.frames_setTop' g h.top] at hend
  obtain ⟨g₀, hg0⟩ := Option.isSome_iff_exists.mp h.top
  obtain ⟨r, hr⟩ := State.topJava?_eq_some.mp hg0
  have hr' : (({ U with heap := s₂.heap, slotsUsed := s₂.slotsUsed } : State).setVm s₂.vm).frames = .java g₀ :: r := hr
  rcases hq' with ⟨hqc, L, hfe, hL⟩ | ⟨q, rfl, E, ce, L, hx, hce, hcv, hcl, hW₂, hsm, hL⟩
  · obtain ⟨⟨v, rfl⟩, hW₂, e2, q2, q3, q4, q5, q6⟩ := id hfe
    have e3 : s₂ = ({ (U.calling g mk a).setFrames s₂.frames with heap := s₂.heap, slotsUsed := s₂.slotsUsed } : State).setVm s₂.vm := by
      have : s₂ = ({ s₂ with vm := (U.calling g mk a).vm } : State).setVm s₂.vm := rfl
      rw [e2] at this
      exact this
    obtain ⟨c₂, i₂, len₂, hc₂, hd₂, hf₂⟩ := hend
    have hW' : U.WarmedH s₂.vm := hW₂
    have hcc : c₂ = c := by
      have h1 : s₂.code? g.method = U.code? g.method := by
        rw [State.code?_eq, State.code?_eq, hW'.alike.method?]
      exact Option.some.inj (hc₂.symm.trans (h1.trans h.code))
    subst hcc
    have hlen : len₂ = len := by rw [hdg] at hd₂; cases hd₂; rfl
    subst hlen
    have hs₂ : s₂ = (({ U with heap := s₂.heap, slotsUsed := s₂.slotsUsed } : State).setVm s₂.vm).setTop { g with pc := g.pc + len₂, stack := v.toList ++ g.stack } := by
      refine e3.trans ?_
      rw [hf₂, State.calling_eq h.top, State.setFrames_setFrames, State.setTop_of_frames _ hr', hr]
      rfl
    have hsame : U.sameButNew ({ U with heap := s₂.heap, slotsUsed := s₂.slotsUsed } : State) L mc ms := by
      refine ⟨?_, q2, q3, q4, q5, q6⟩
      obtain ⟨t, ht, -⟩ := State.frames_cons hr
      show ({ U with heap := s₂.heap, slotsUsed := s₂.slotsUsed } : State) = { U.setFrames U.frames with heap := s₂.heap, slotsUsed := s₂.slotsUsed }
      rw [State.setFrames_self ht]
    subst hg
    refine Or.inl ⟨v, ⟨(({ U with heap := s₂.heap, slotsUsed := s₂.slotsUsed } : State).setVm s₂.vm), Ls ++ L, c0 + mc, s0 + ms⟩,
      ⟨X.admits, X.cas, X.clock, X.frames, X.room, X.hears, X.method, X.code, (X.here.setHeapUsed s₂.heap s₂.slotsUsed).setVm hW'.alike, X.tail, State.WarmedH.trans X.warmed hW', X.limits, X.bytes, X.same.trans (hsame.setVm s.vm)⟩,
      ⟨g, mk, s₂, L, rfl, rfl, hqc, rfl, hL, rfl, rfl⟩, ?_⟩
    show Steps p.tables e below _ ((({ U with heap := s₂.heap, slotsUsed := s₂.slotsUsed } : State).setVm s₂.vm).setTop { g with pc := g.pc + len₂, stack := v.toList ++ g.stack })
    rw [← hs₂]
    exact hsteps
  · obtain ⟨e2, q2, q3, q4, q5, q6⟩ := id hsm
    have e3 : s₂ = ({ (U.calling g mk a).setFrames s₂.frames with heap := s₂.heap, slotsUsed := s₂.slotsUsed } : State).setVm s₂.vm := by
      have : s₂ = ({ s₂ with vm := (U.calling g mk a).vm } : State).setVm s₂.vm := rfl
      rw [e2] at this
      exact this
    have hf₂ : s₂.frames = .throwing q :: .java g :: U.frames.tail := hend
    have hW' : U.WarmedH s₂.vm := hW₂
    have hs₂ : s₂ = ((({ U with heap := s₂.heap, slotsUsed := s₂.slotsUsed } : State).setVm s₂.vm).setTop g).pushFrame (.throwing q) := by
      refine e3.trans ?_
      rw [hf₂, State.calling_eq h.top, State.setFrames_setFrames, State.pushFrame, State.frames_setTop _ hr', State.setTop_of_frames _ hr', State.setFrames_setFrames, hr]
      rfl
    have hsame : U.sameButNew ({ U with heap := s₂.heap, slotsUsed := s₂.slotsUsed } : State) L mc ms := by
      refine ⟨?_, q2, q3, q4, q5, q6⟩
      obtain ⟨t, ht, -⟩ := State.frames_cons hr
      show ({ U with heap := s₂.heap, slotsUsed := s₂.slotsUsed } : State) = { U.setFrames U.frames with heap := s₂.heap, slotsUsed := s₂.slotsUsed }
      rw [State.setFrames_self ht]
    subst hg
    refine Or.inr ⟨q, ⟨(({ U with heap := s₂.heap, slotsUsed := s₂.slotsUsed } : State).setVm s₂.vm), Ls ++ L, c0 + mc, s0 + ms⟩,
      ⟨X.admits, X.cas, X.clock, X.frames, X.room, X.hears, X.method, X.code, (X.here.setHeapUsed s₂.heap s₂.slotsUsed).setVm hW'.alike, X.tail, State.WarmedH.trans X.warmed hW', X.limits, X.bytes, X.same.trans (hsame.setVm s.vm)⟩,
      ⟨g, mk, s₂, L, E, ce, rfl, rfl, hx, hce, hcv, hcl, rfl, hL, rfl, rfl⟩, ?_⟩
    show Steps p.tables e below _ (((({ U with heap := s₂.heap, slotsUsed := s₂.slotsUsed } : State).setVm s₂.vm).setTop g).pushFrame (.throwing q))
    rw [← hs₂]
    exact hsteps
end Payer
section Calls
variable {p : Program} {l : Launch} {e : Env} {R : Room} {s : State} {m : MethodId} {args : Array Value} {below : List Frame} {meth : Method} {c : Code} {T : State} {locs : List Loc} {cells slots : Nat}
theorem vx_callV (X : Stand p l e R s m args below meth c T locs cells slots) (hexec : p.tables.exec = Jvm.exec) {own C : String} {index : Nat} {y : MethodName} {bytes : ByteArray} {maxL : Nat} {ret : Option FieldType}
    (hown : s.vm.findClass own = some m.cls) (hlink : (Cond.methodLink own index y).before args s = true) (hinst : (Cond.instanceMethod y).before args s = true) (hsel : (Cond.selects C y y).before args s = true)
    (hcode : (Cond.code y bytes maxL ret).before args s = true) (hy : y.cls ≠ "java/lang/invoke/MethodHandle" ∧ y.cls ≠ "java/lang/invoke/VarHandle")
    {W9 : Nat} {Pre : Pt → Array Value → Prop} {Post : Pt → Array Value → Option Value → Pt → Prop} {PostX : Pt → Array Value → Addr → Pt → Prop} (hK : vx_Back l R p e below s args y 3 W9 Pre Post PostX)
    {b : Addr} {cellB : Cell} (hcell : T.heap[b]? = some cellB) (hobj : cellB.vm.isStatics = false) (hcls : s.vm.findClass C = some cellB.cls)
    {g : JFrame} (hg : g.method = m) (hsize : g.locals.size = c.maxLocals) {argsL rest : List Value} (hlen : ∀ sig, parseMethodDescriptor y.desc = some sig → argsL.length = sig.parameters.length)
    (hstack : g.stack = argsL.reverse ++ .ref b :: rest) (hW : 2 * g.monitorRoom + (rest.map fun v => v.category).sum ≤ W9) (hdg : decode c.code g.pc = .ok (.invokevirtual index, 3))
    (hpre : ∀ vm₁, s.WarmedH vm₁ → Pre ⟨T.setVm vm₁, locs, cells, slots⟩ (Value.ref b :: argsL).toArray) :
    (∃ (v : Option Value) (vm₁ : Vm) (B : Pt), s.WarmedH vm₁ ∧ Stand p l e R s m args below meth c B.U B.locs B.cells B.slots ∧ Post ⟨T.setVm vm₁, locs, cells, slots⟩ (Value.ref b :: argsL).toArray v B ∧
      ∀ target, Steps p.tables e below (B.U.setTop { g with pc := g.pc + 3, stack := v.toList ++ rest }) target → Steps p.tables e below (T.setTop g) target) ∨
    (∃ (q : Addr) (vm₁ : Vm) (B : Pt), s.WarmedH vm₁ ∧ Stand p l e R s m args below meth c B.U B.locs B.cells B.slots ∧ PostX ⟨T.setVm vm₁, locs, cells, slots⟩ (Value.ref b :: argsL).toArray q B ∧
      Steps p.tables e below (T.setTop g) ((B.U.setTop { g with stack := rest }).pushFrame (.throwing q))) := by
  obtain ⟨mk, methM, hnamed, hmethM, hstM, habM⟩ := Cond.instanceMethod_spec hinst
  obtain ⟨methM', cM, hmethM', -, -, -, -, -, -, hsigM⟩ := Cond.code_spec hnamed hcode
  cases hmethM.symm.trans hmethM'
  obtain ⟨c2, r2, m2, q1, q2, q3, q4, kP, hkP, hkPi⟩ := Cond.selects_spec hsel
  cases hcls.symm.trans q1
  cases (State.methodFound?_of_named hnamed hy).symm.trans q2
  cases hnamed.symm.trans q3
  have hselP : selectMethod e.platform s.vm cellB.cls mk = .method mk := by rw [Launch.admits_selectMethod X.admits]; exact q4
  obtain ⟨vm₁, X₁, hstep₁⟩ := X.invokevirtual hexec hown hlink hnamed hmethM hstM hkP hkPi hy (a := b) (cell := cellB) hcell
    (fun z h => by rw [h] at hobj; cases hobj) hselP hmethM habM hkP hkPi (g := g) hg (argsL := argsL) (rest := rest) (hlen _ hsigM) hstack hdg
  rcases hK m meth c ⟨T.setVm vm₁, locs, cells, slots⟩ { g with stack := rest } (.invokevirtual index) mk (Value.ref b :: argsL).toArray X₁ hg hsize hdg hW (X₁.named hnamed) (hpre vm₁ X₁.warmed) with ⟨v, B, X', hpost, hsteps⟩ | ⟨q, B, X', hpost, hsteps⟩
  · exact Or.inl ⟨v, vm₁, B, X₁.warmed, X', hpost, fun target h => hstep₁ _ fun acts => by rw [doInvoke_state]; exact hsteps.trans h⟩
  · exact Or.inr ⟨q, vm₁, B, X₁.warmed, X', hpost, hstep₁ _ fun acts => by rw [doInvoke_state]; exact hsteps⟩
theorem vx_callS (X : Stand p l e R s m args below meth c T locs cells slots) (hexec : p.tables.exec = Jvm.exec) {own : String} {index : Nat} {y : MethodName} {bytes : ByteArray} {maxL : Nat} {ret : Option FieldType}
    (hown : s.vm.findClass own = some m.cls) (hlink : (Cond.methodLink own index y).before args s = true) (hstat : (Cond.static y).before args s = true) (hinit : (Cond.initialized y.cls).before args s = true)
    (hcode : (Cond.code y bytes maxL ret).before args s = true) (hy : y.cls ≠ "java/lang/invoke/MethodHandle" ∧ y.cls ≠ "java/lang/invoke/VarHandle")
    {W9 : Nat} {Pre : Pt → Array Value → Prop} {Post : Pt → Array Value → Option Value → Pt → Prop} {PostX : Pt → Array Value → Addr → Pt → Prop} (hK : vx_Back l R p e below s args y 3 W9 Pre Post PostX)
    {g : JFrame} (hg : g.method = m) (hsize : g.locals.size = c.maxLocals) {argsL rest : List Value} (hlen : ∀ sig, parseMethodDescriptor y.desc = some sig → argsL.length = sig.parameters.length)
    (hstack : g.stack = argsL.reverse ++ rest) (hW : 2 * g.monitorRoom + (rest.map fun v => v.category).sum ≤ W9) (hdg : decode c.code g.pc = .ok (.invokestatic index, 3))
    (hpre : ∀ vm₁, s.WarmedH vm₁ → Pre ⟨T.setVm vm₁, locs, cells, slots⟩ argsL.toArray) :
    (∃ (v : Option Value) (vm₁ : Vm) (B : Pt), s.WarmedH vm₁ ∧ Stand p l e R s m args below meth c B.U B.locs B.cells B.slots ∧ Post ⟨T.setVm vm₁, locs, cells, slots⟩ argsL.toArray v B ∧
      ∀ target, Steps p.tables e below (B.U.setTop { g with pc := g.pc + 3, stack := v.toList ++ rest }) target → Steps p.tables e below (T.setTop g) target) ∨
    (∃ (q : Addr) (vm₁ : Vm) (B : Pt), s.WarmedH vm₁ ∧ Stand p l e R s m args below meth c B.U B.locs B.cells B.slots ∧ PostX ⟨T.setVm vm₁, locs, cells, slots⟩ argsL.toArray q B ∧
      Steps p.tables e below (T.setTop g) ((B.U.setTop { g with stack := rest }).pushFrame (.throwing q))) := by
  obtain ⟨mk, hnamed⟩ := Cond.code_named hcode
  obtain ⟨methM, cM, hmethM, -, -, -, -, -, -, hsigM⟩ := Cond.code_spec hnamed hcode
  have hstatic : methM.isStatic = true := Cond.static_spec hnamed hmethM hstat
  obtain ⟨kP, hkP, -⟩ := className_of_methodNamed hnamed
  have hinitP : kP.init = .initialized := Cond.initialized_spec (findClass_of_methodNamed hnamed) hkP hinit
  obtain ⟨vm₁, X₁, hstep₁⟩ := X.invokestatic hexec hown hlink hnamed hmethM hstatic hkP hinitP hy (g := g) hg (argsL := argsL) (rest := rest) (hlen _ hsigM) hstack hdg
  rcases hK m meth c ⟨T.setVm vm₁, locs, cells, slots⟩ { g with stack := rest } (.invokestatic index) mk argsL.toArray X₁ hg hsize hdg hW (X₁.named hnamed) (hpre vm₁ X₁.warmed) with ⟨v, B, X', hpost, hsteps⟩ | ⟨q, B, X', hpost, hsteps⟩
  · exact Or.inl ⟨v, vm₁, B, X₁.warmed, X', hpost, fun target h => hstep₁ _ fun acts => by rw [doInvoke_state]; exact hsteps.trans h⟩
  · exact Or.inr ⟨q, vm₁, B, X₁.warmed, X', hpost, hstep₁ _ fun acts => by rw [doInvoke_state]; exact hsteps⟩
end Calls
theorem vx_cls {s : State} {T : State} {vm₁ : Vm} {E : String} {k : ClassId} (hW : s.WarmedH vm₁) (h : (T.setVm vm₁).vm.findClass E = some k) : s.vm.findClass E = some k := by
  have h1 : vm₁.findClass E = some k := h
  rw [hW.alike.findClass] at h1
  exact h1
/-- the method's frame g, with q thrown over it -/
def vx_W (p : Program) (l : Launch) (e : Env) (R : Room) (s : State) (m : MethodId) (args : Array Value) (below : List Frame) (meth : Method) (c : Code) (H : Heap) (locs : List Loc) (cells slots : Nat) (Q : State → Prop) (g : JFrame) (q : Addr) : Prop :=
  ∀ T : State, T.heap = H → Stand p l e R s m args below meth c T locs cells slots → ∃ t, Steps p.tables e below ((T.setTop g).pushFrame (.throwing q)) t ∧ Q t
def vx_Run (p : Program) (l : Launch) (e : Env) (R : Room) (s : State) (m : MethodId) (args : Array Value) (below : List Frame) (meth : Method) (c : Code) (H : Heap) (locs : List Loc) (cells slots mc ms : Nat) (g : JFrame) (rest : List Value) (Qa : State → Outcome → State → Prop) (XC : String → State → State → Prop) (free : Addr → Prop) : Prop :=
  ∀ T : State, T.heap = H → Stand p l e R s m args below meth c T locs cells slots →
    (∃ (v : Option Value) (st₀ t T' : State) (L : List Loc), st₀.heap = H ∧ Stand p l e R s m args below meth c T' (locs ++ L) (cells + mc) (slots + ms) ∧ (∀ q ∈ L, free q.base) ∧ T'.heap = t.heap ∧ T'.vm = t.vm ∧ Qa st₀ (.returned v) t ∧
      Goes p e below T g T' { g with pc := g.pc + 3, stack := v.toList ++ rest }) ∨
    (∃ (q : Addr) (st₀ t T' : State) (L : List Loc) (E : String) (ce : Cell), st₀.heap = H ∧ Stand p l e R s m args below meth c T' (locs ++ L) (cells + mc) (slots + ms) ∧ (∀ z ∈ L, free z.base) ∧ T'.heap = t.heap ∧ T'.vm = t.vm ∧ XC E st₀ t ∧ t.heap[q]? = some ce ∧ ce.vm = .none ∧ s.vm.findClass E = some ce.cls ∧
      Steps p.tables e below (T.setTop g) ((T'.setTop { g with stack := rest }).pushFrame (.throwing q)))
def vx_X {S : Type} (px : S → Prop) (B : String → S → State → Prop) (A : Nat → Prop) : String → State → State → Prop := fun E st t => ∃ u : S, px u ∧ B E u t ∧ va_F A st t
section Runs
variable {p : Program} {l : Launch} {e : Env} {R : Room} {s : State} {m : MethodId} {args : Array Value} {below : List Frame} {meth : Method} {c : Code} {H : Heap} {locs : List Loc} {cells slots : Nat}
variable {y : MethodName} {bytes cc : ByteArray} {maxL nL mc ms n index : Nat} {ret : Option FieldType} {ws : List Cond} {rm : Room} {Pc : Array Value → State → Prop} {Qc : Array Value → State → Outcome → State → Prop} {XC : String → State → State → Prop} {free : Addr → Prop} {Ts : List Cond} {own C : String} {b : Addr} {As rest : List Value} {g : JFrame}
theorem vx_callBack (cb : CallB R s args own index y bytes maxL ret ws rm mc ms n) (hM : vx_Met l y ws rm Pc Qc XC mc ms free) (hbl : FrameBlind Pc) : vx_Back l R p e below s args y 3 8 (PreOf R mc ms Pc) (PostOf Qc mc ms free) (vx_Post XC mc ms free) := by
  obtain ⟨hrc, hrs, hfr, hlo, hws, hcw, -, hini, -⟩ := cb
  exact vx_back (bytes := bytes) (maxL := maxL) (ret := ret) hM hbl hrc hrs hfr hlo hws hcw (fun a' U hW => word_at hW (Or.inl (by first | rfl | simp [Cond.onTables, Cond.keeps, Cond.steady])) hini)
theorem vx_runV (S : CallFix p m c cc nL s args Ts own) (hM : vx_Met l y ws rm Pc Qc XC mc ms free) (cw : CallW R s args own C index y bytes maxL ret ws rm mc ms n) (hp : PreV s H C b Pc As)
    (hg : g.method = m) (hn : As.length = n) (hsize : g.locals.size = nL) (hstack : g.stack = As.reverse ++ .ref b :: rest) (hW : 2 * g.monitorRoom + (rest.map fun v => v.category).sum ≤ 8) (hdg : decode cc g.pc = .ok (.invokevirtual index, 3)) (hf : cells + mc ≤ R.cells ∧ slots + ms ≤ R.slots) :
    vx_Run p l e R s m args below meth c H locs cells slots mc ms g rest (Qc (Value.ref b :: As).toArray) XC free := by
  have hK : vx_Back l R p e below s args y 3 8 (PreOf R mc ms Pc) (PostOf Qc mc ms free) (vx_Post XC mc ms free) := vx_callBack cw.1 hM hp.1
  obtain ⟨⟨-, -, -, -, -, -, hcode, -, hy, hlen, hl⟩, hin, hse⟩ := cw
  obtain ⟨hx, hb, hml, ho, -⟩ := S
  obtain ⟨-, ⟨cellB, hcB, hoB, hclB⟩, hPc⟩ := hp
  intro T hT X
  rcases vx_callV X hx (C := C) (bytes := bytes) (maxL := maxL) (ret := ret) ho hl hin hse hcode hy hK (by rw [hT]; exact hcB) hoB hclB hg (hsize.trans hml.symm) (argsL := As) (rest := rest) (fun sig h => hn.trans (hlen sig h)) hstack hW (by rw [hb]; exact hdg)
    (fun vm₁ hW₁ => ⟨hf.1, hf.2, hPc (T.setVm vm₁) hT hW₁⟩) with ⟨v, vm₁, ⟨U', l2, c2, s2⟩, hW₁, X', ⟨g', mk, t, L, e1, e2, hq, h1, hL, h2, h3⟩, st⟩ | ⟨q, vm₁, ⟨U', l2, c2, s2⟩, hW₁, X', ⟨g', mk, t, L, E, ce, e1, e2, hq, hce, hcv, hcl, h1, hL, h2, h3⟩, st⟩
  · dsimp only [Pt.U, Pt.locs, Pt.cells, Pt.slots] at X' e1 e2 h1 h2 h3 st
    subst h1; subst h2; subst h3
    exact Or.inl ⟨v, (T.setVm vm₁).calling g' mk (Value.ref b :: As).toArray, t, U', L, hT, X', hL, e1, e2, hq, st⟩
  · dsimp only [Pt.U, Pt.locs, Pt.cells, Pt.slots] at X' e1 e2 h1 h2 h3 st hcl
    subst h1; subst h2; subst h3
    exact Or.inr ⟨q, (T.setVm vm₁).calling g' mk (Value.ref b :: As).toArray, t, U', L, E, ce, hT, X', hL, e1, e2, hq, hce, hcv, vx_cls hW₁ hcl, st⟩
theorem vx_runS (S : CallFix p m c cc nL s args Ts own) (hM : vx_Met l y ws rm Pc Qc XC mc ms free) (cw : CallB R s args own index y bytes maxL ret ws rm mc ms n ∧ (Cond.static y).before args s = true) (hp : PreS s H Pc As)
    (hg : g.method = m) (hn : As.length = n) (hsize : g.locals.size = nL) (hstack : g.stack = As.reverse ++ rest) (hW : 2 * g.monitorRoom + (rest.map fun v => v.category).sum ≤ 8) (hdg : decode cc g.pc = .ok (.invokestatic index, 3)) (hf : cells + mc ≤ R.cells ∧ slots + ms ≤ R.slots) :
    vx_Run p l e R s m args below meth c H locs cells slots mc ms g rest (Qc As.toArray) XC free := by
  have hK : vx_Back l R p e below s args y 3 8 (PreOf R mc ms Pc) (PostOf Qc mc ms free) (vx_Post XC mc ms free) := vx_callBack cw.1 hM hp.1
  obtain ⟨⟨-, -, -, -, -, -, hcode, hini, hy, hlen, hl⟩, hstt⟩ := cw
  obtain ⟨hx, hb, hml, ho, -⟩ := S
  intro T hT X
  rcases vx_callS X hx (bytes := bytes) (maxL := maxL) (ret := ret) ho hl hstt hini hcode hy hK hg (hsize.trans hml.symm) (argsL := As) (rest := rest) (fun sig h => hn.trans (hlen sig h)) hstack hW (by rw [hb]; exact hdg)
    (fun vm₁ hW₁ => ⟨hf.1, hf.2, hp.2 (T.setVm vm₁) hT hW₁⟩) with ⟨v, vm₁, ⟨U', l2, c2, s2⟩, hW₁, X', ⟨g', mk, t, L, e1, e2, hq, h1, hL, h2, h3⟩, st⟩ | ⟨q, vm₁, ⟨U', l2, c2, s2⟩, hW₁, X', ⟨g', mk, t, L, E, ce, e1, e2, hq, hce, hcv, hcl, h1, hL, h2, h3⟩, st⟩
  · dsimp only [Pt.U, Pt.locs, Pt.cells, Pt.slots] at X' e1 e2 h1 h2 h3 st
    subst h1; subst h2; subst h3
    exact Or.inl ⟨v, (T.setVm vm₁).calling g' mk As.toArray, t, U', L, hT, X', hL, e1, e2, hq, st⟩
  · dsimp only [Pt.U, Pt.locs, Pt.cells, Pt.slots] at X' e1 e2 h1 h2 h3 st hcl
    subst h1; subst h2; subst h3
    exact Or.inr ⟨q, (T.setVm vm₁).calling g' mk As.toArray, t, U', L, E, ce, hT, X', hL, e1, e2, hq, hce, hcv, vx_cls hW₁ hcl, st⟩
end Runs
section Rows
variable {p : Program} {l : Launch} {e : Env} {R : Room} {s : State} {m : MethodId} {args : Array Value} {below : List Frame} {meth : Method} {c : Code} {H : Heap} {locs : List Loc} {cells slots : Nat} {Q : State → Prop}
variable {mc ms : Nat} {free : Addr → Prop} {A0 A1 : Nat → Prop} {H0 : Heap} {a : Array Value} {pc : Nat} {ls : Array Slot} {st0 rest : List Value}
theorem vx_keep {st₀ t T' : State} {L : List Loc} (h0 : st₀.heap = H) (e1 : T'.heap = t.heap) (hS : va_S A0 H0 H locs) (hA : ∀ q, q < H.size → A1 q → A0 q) (hf : ∀ q, free q → A0 q) (hL : ∀ q ∈ L, free q.base) (hF : va_F A1 st₀ t) :
    H.size ≤ T'.heap.size ∧ (∀ q : Nat, q < H.size → ¬ A1 q → T'.heap[q]? = H[q]?) ∧ va_S A0 H0 T'.heap (locs ++ L) := by
  obtain ⟨hz, hk⟩ := hF
  rw [h0] at hz hk
  exact ⟨by rw [e1]; exact hz, fun q h1 h2 => by rw [e1]; exact hk q h1 h2,
    ⟨Nat.le_trans hS.1 (by rw [e1]; exact hz), fun q h1 h2 => by rw [e1, hk q (Nat.lt_of_lt_of_le h1 hS.1) (fun z => h2 (hA q (Nat.lt_of_lt_of_le h1 hS.1) z))]; exact hS.2.1 q h1 h2, fun q hq => by
      rcases List.mem_append.mp hq with h | h
      · exact hS.2.2 q h
      · exact hf _ (hL q h)⟩⟩
theorem vx_calli {S SX : Type} {post : Int32 → S → Prop} {px : SX → Prop} {B : S → State → Prop} {BX : String → SX → State → Prop} {AX : Nat → Prop} (hr : vx_Run p l e R s m args below meth c H locs cells slots mc ms (F0 m pc ls st0) rest (va_Qi post B A1 a) (vx_X px BX AX) free) (hS : va_S A0 H0 H locs) (hA : ∀ q, q < H.size → A1 q → A0 q) (hf : ∀ q, free q → A0 q) (hAX : ∀ q, q < H.size → AX q → A0 q)
    (kx : ∀ (E : String) (ce : Cell) (q9 : Addr) (u : SX) (t : State) (H1 : Heap) (locs1 : List Loc), t.heap = H1 → s.vm.Alike t.vm → px u → BX E u t → H.size ≤ H1.size → (∀ q : Nat, q < H.size → ¬ AX q → H1[q]? = H[q]?) → va_S A0 H0 H1 locs1 → H1[q9]? = some ce → ce.vm = .none → s.vm.findClass E = some ce.cls → vx_W p l e R s m args below meth c H1 locs1 (cells + mc) (slots + ms) Q (F0 m pc ls rest) q9)
    (kk : ∀ (r : Int32) (u : S) (t : State) (H1 : Heap) (locs1 : List Loc), t.heap = H1 → s.vm.Alike t.vm → post r u → B u t → H.size ≤ H1.size → (∀ q : Nat, q < H.size → ¬ A1 q → H1[q]? = H[q]?) → va_S A0 H0 H1 locs1 → W p l e R s m args below meth c H1 locs1 (cells + mc) (slots + ms) Q (F0 m (pc + 3) ls (.int r :: rest))) : W p l e R s m args below meth c H locs cells slots Q (F0 m pc ls st0) := by
  intro T hT X
  rcases hr T hT X with ⟨v, st₀, t, T', L, h0, X', hL, e1, e2, ⟨⟨r, u, hv, hp, hb⟩, hF⟩, st⟩ | ⟨q, st₀, t, T', L, E, ce, h0, X', hL, e1, e2, ⟨u, hp, hb, hF⟩, hce, hcv, hcl, st⟩
  · cases hv
    obtain ⟨k1, k2, k3⟩ := vx_keep h0 e1 hS hA hf hL hF
    obtain ⟨t2, a1, b1⟩ := kk r u t T'.heap (locs ++ L) e1.symm (by rw [← e2]; exact X'.warmed.alike) hp hb k1 k2 k3 T' rfl X'
    exact ⟨t2, st t2 a1, b1⟩
  · obtain ⟨k1, k2, k3⟩ := vx_keep h0 e1 hS hAX hf hL hF
    obtain ⟨t2, a1, b1⟩ := kx E ce q u t T'.heap (locs ++ L) e1.symm (by rw [← e2]; exact X'.warmed.alike) hp hb k1 k2 k3 (by rw [e1]; exact hce) hcv hcl T' rfl X'
    exact ⟨t2, st.trans a1, b1⟩
theorem vx_calll {S SX : Type} {post : Int64 → S → Prop} {px : SX → Prop} {B : S → State → Prop} {BX : String → SX → State → Prop} {AX : Nat → Prop} (hr : vx_Run p l e R s m args below meth c H locs cells slots mc ms (F0 m pc ls st0) rest (va_Ql post B A1 a) (vx_X px BX AX) free) (hS : va_S A0 H0 H locs) (hA : ∀ q, q < H.size → A1 q → A0 q) (hf : ∀ q, free q → A0 q) (hAX : ∀ q, q < H.size → AX q → A0 q)
    (kx : ∀ (E : String) (ce : Cell) (q9 : Addr) (u : SX) (t : State) (H1 : Heap) (locs1 : List Loc), t.heap = H1 → s.vm.Alike t.vm → px u → BX E u t → H.size ≤ H1.size → (∀ q : Nat, q < H.size → ¬ AX q → H1[q]? = H[q]?) → va_S A0 H0 H1 locs1 → H1[q9]? = some ce → ce.vm = .none → s.vm.findClass E = some ce.cls → vx_W p l e R s m args below meth c H1 locs1 (cells + mc) (slots + ms) Q (F0 m pc ls rest) q9)
    (kk : ∀ (r : Int64) (u : S) (t : State) (H1 : Heap) (locs1 : List Loc), t.heap = H1 → s.vm.Alike t.vm → post r u → B u t → H.size ≤ H1.size → (∀ q : Nat, q < H.size → ¬ A1 q → H1[q]? = H[q]?) → va_S A0 H0 H1 locs1 → W p l e R s m args below meth c H1 locs1 (cells + mc) (slots + ms) Q (F0 m (pc + 3) ls (.long r :: rest))) : W p l e R s m args below meth c H locs cells slots Q (F0 m pc ls st0) := by
  intro T hT X
  rcases hr T hT X with ⟨v, st₀, t, T', L, h0, X', hL, e1, e2, ⟨⟨r, u, hv, hp, hb⟩, hF⟩, st⟩ | ⟨q, st₀, t, T', L, E, ce, h0, X', hL, e1, e2, ⟨u, hp, hb, hF⟩, hce, hcv, hcl, st⟩
  · cases hv
    obtain ⟨k1, k2, k3⟩ := vx_keep h0 e1 hS hA hf hL hF
    obtain ⟨t2, a1, b1⟩ := kk r u t T'.heap (locs ++ L) e1.symm (by rw [← e2]; exact X'.warmed.alike) hp hb k1 k2 k3 T' rfl X'
    exact ⟨t2, st t2 a1, b1⟩
  · obtain ⟨k1, k2, k3⟩ := vx_keep h0 e1 hS hAX hf hL hF
    obtain ⟨t2, a1, b1⟩ := kx E ce q u t T'.heap (locs ++ L) e1.symm (by rw [← e2]; exact X'.warmed.alike) hp hb k1 k2 k3 (by rw [e1]; exact hce) hcv hcl T' rfl X'
    exact ⟨t2, st.trans a1, b1⟩
theorem vx_callf {S SX : Type} {post : UInt32 → S → Prop} {px : SX → Prop} {B : S → State → Prop} {BX : String → SX → State → Prop} {AX : Nat → Prop} (hr : vx_Run p l e R s m args below meth c H locs cells slots mc ms (F0 m pc ls st0) rest (va_Qf post B A1 a) (vx_X px BX AX) free) (hS : va_S A0 H0 H locs) (hA : ∀ q, q < H.size → A1 q → A0 q) (hf : ∀ q, free q → A0 q) (hAX : ∀ q, q < H.size → AX q → A0 q)
    (kx : ∀ (E : String) (ce : Cell) (q9 : Addr) (u : SX) (t : State) (H1 : Heap) (locs1 : List Loc), t.heap = H1 → s.vm.Alike t.vm → px u → BX E u t → H.size ≤ H1.size → (∀ q : Nat, q < H.size → ¬ AX q → H1[q]? = H[q]?) → va_S A0 H0 H1 locs1 → H1[q9]? = some ce → ce.vm = .none → s.vm.findClass E = some ce.cls → vx_W p l e R s m args below meth c H1 locs1 (cells + mc) (slots + ms) Q (F0 m pc ls rest) q9)
    (kk : ∀ (r : UInt32) (u : S) (t : State) (H1 : Heap) (locs1 : List Loc), t.heap = H1 → s.vm.Alike t.vm → post r u → B u t → H.size ≤ H1.size → (∀ q : Nat, q < H.size → ¬ A1 q → H1[q]? = H[q]?) → va_S A0 H0 H1 locs1 → W p l e R s m args below meth c H1 locs1 (cells + mc) (slots + ms) Q (F0 m (pc + 3) ls (.float r :: rest))) : W p l e R s m args below meth c H locs cells slots Q (F0 m pc ls st0) := by
  intro T hT X
  rcases hr T hT X with ⟨v, st₀, t, T', L, h0, X', hL, e1, e2, ⟨⟨r, u, hv, hp, hb⟩, hF⟩, st⟩ | ⟨q, st₀, t, T', L, E, ce, h0, X', hL, e1, e2, ⟨u, hp, hb, hF⟩, hce, hcv, hcl, st⟩
  · cases hv
    obtain ⟨k1, k2, k3⟩ := vx_keep h0 e1 hS hA hf hL hF
    obtain ⟨t2, a1, b1⟩ := kk r u t T'.heap (locs ++ L) e1.symm (by rw [← e2]; exact X'.warmed.alike) hp hb k1 k2 k3 T' rfl X'
    exact ⟨t2, st t2 a1, b1⟩
  · obtain ⟨k1, k2, k3⟩ := vx_keep h0 e1 hS hAX hf hL hF
    obtain ⟨t2, a1, b1⟩ := kx E ce q u t T'.heap (locs ++ L) e1.symm (by rw [← e2]; exact X'.warmed.alike) hp hb k1 k2 k3 (by rw [e1]; exact hce) hcv hcl T' rfl X'
    exact ⟨t2, st.trans a1, b1⟩
theorem vx_calld {S SX : Type} {post : UInt64 → S → Prop} {px : SX → Prop} {B : S → State → Prop} {BX : String → SX → State → Prop} {AX : Nat → Prop} (hr : vx_Run p l e R s m args below meth c H locs cells slots mc ms (F0 m pc ls st0) rest (va_Qd post B A1 a) (vx_X px BX AX) free) (hS : va_S A0 H0 H locs) (hA : ∀ q, q < H.size → A1 q → A0 q) (hf : ∀ q, free q → A0 q) (hAX : ∀ q, q < H.size → AX q → A0 q)
    (kx : ∀ (E : String) (ce : Cell) (q9 : Addr) (u : SX) (t : State) (H1 : Heap) (locs1 : List Loc), t.heap = H1 → s.vm.Alike t.vm → px u → BX E u t → H.size ≤ H1.size → (∀ q : Nat, q < H.size → ¬ AX q → H1[q]? = H[q]?) → va_S A0 H0 H1 locs1 → H1[q9]? = some ce → ce.vm = .none → s.vm.findClass E = some ce.cls → vx_W p l e R s m args below meth c H1 locs1 (cells + mc) (slots + ms) Q (F0 m pc ls rest) q9)
    (kk : ∀ (r : UInt64) (u : S) (t : State) (H1 : Heap) (locs1 : List Loc), t.heap = H1 → s.vm.Alike t.vm → post r u → B u t → H.size ≤ H1.size → (∀ q : Nat, q < H.size → ¬ A1 q → H1[q]? = H[q]?) → va_S A0 H0 H1 locs1 → W p l e R s m args below meth c H1 locs1 (cells + mc) (slots + ms) Q (F0 m (pc + 3) ls (.double r :: rest))) : W p l e R s m args below meth c H locs cells slots Q (F0 m pc ls st0) := by
  intro T hT X
  rcases hr T hT X with ⟨v, st₀, t, T', L, h0, X', hL, e1, e2, ⟨⟨r, u, hv, hp, hb⟩, hF⟩, st⟩ | ⟨q, st₀, t, T', L, E, ce, h0, X', hL, e1, e2, ⟨u, hp, hb, hF⟩, hce, hcv, hcl, st⟩
  · cases hv
    obtain ⟨k1, k2, k3⟩ := vx_keep h0 e1 hS hA hf hL hF
    obtain ⟨t2, a1, b1⟩ := kk r u t T'.heap (locs ++ L) e1.symm (by rw [← e2]; exact X'.warmed.alike) hp hb k1 k2 k3 T' rfl X'
    exact ⟨t2, st t2 a1, b1⟩
  · obtain ⟨k1, k2, k3⟩ := vx_keep h0 e1 hS hAX hf hL hF
    obtain ⟨t2, a1, b1⟩ := kx E ce q u t T'.heap (locs ++ L) e1.symm (by rw [← e2]; exact X'.warmed.alike) hp hb k1 k2 k3 (by rw [e1]; exact hce) hcv hcl T' rfl X'
    exact ⟨t2, st.trans a1, b1⟩
theorem vx_callv {S SX : Type} {post : S → Prop} {px : SX → Prop} {B : S → State → Prop} {BX : String → SX → State → Prop} {AX : Nat → Prop} (hr : vx_Run p l e R s m args below meth c H locs cells slots mc ms (F0 m pc ls st0) rest (va_Qv post B A1 a) (vx_X px BX AX) free) (hS : va_S A0 H0 H locs) (hA : ∀ q, q < H.size → A1 q → A0 q) (hf : ∀ q, free q → A0 q) (hAX : ∀ q, q < H.size → AX q → A0 q)
    (kx : ∀ (E : String) (ce : Cell) (q9 : Addr) (u : SX) (t : State) (H1 : Heap) (locs1 : List Loc), t.heap = H1 → s.vm.Alike t.vm → px u → BX E u t → H.size ≤ H1.size → (∀ q : Nat, q < H.size → ¬ AX q → H1[q]? = H[q]?) → va_S A0 H0 H1 locs1 → H1[q9]? = some ce → ce.vm = .none → s.vm.findClass E = some ce.cls → vx_W p l e R s m args below meth c H1 locs1 (cells + mc) (slots + ms) Q (F0 m pc ls rest) q9)
    (kk : ∀ (u : S) (t : State) (H1 : Heap) (locs1 : List Loc), t.heap = H1 → s.vm.Alike t.vm → post u → B u t → H.size ≤ H1.size → (∀ q : Nat, q < H.size → ¬ A1 q → H1[q]? = H[q]?) → va_S A0 H0 H1 locs1 → W p l e R s m args below meth c H1 locs1 (cells + mc) (slots + ms) Q (F0 m (pc + 3) ls (rest))) : W p l e R s m args below meth c H locs cells slots Q (F0 m pc ls st0) := by
  intro T hT X
  rcases hr T hT X with ⟨v, st₀, t, T', L, h0, X', hL, e1, e2, ⟨⟨u, hv, hp, hb⟩, hF⟩, st⟩ | ⟨q, st₀, t, T', L, E, ce, h0, X', hL, e1, e2, ⟨u, hp, hb, hF⟩, hce, hcv, hcl, st⟩
  · cases hv
    obtain ⟨k1, k2, k3⟩ := vx_keep h0 e1 hS hA hf hL hF
    obtain ⟨t2, a1, b1⟩ := kk u t T'.heap (locs ++ L) e1.symm (by rw [← e2]; exact X'.warmed.alike) hp hb k1 k2 k3 T' rfl X'
    exact ⟨t2, st t2 a1, b1⟩
  · obtain ⟨k1, k2, k3⟩ := vx_keep h0 e1 hS hAX hf hL hF
    obtain ⟨t2, a1, b1⟩ := kx E ce q u t T'.heap (locs ++ L) e1.symm (by rw [← e2]; exact X'.warmed.alike) hp hb k1 k2 k3 (by rw [e1]; exact hce) hcv hcl T' rfl X'
    exact ⟨t2, st.trans a1, b1⟩
/-- caught by the row x of this method's table; the rows ahead don't take it -/
theorem vx_catch {own name : String} {E : String} {ce : Cell} {q : Addr} (hown : s.vm.findClass own = some m.cls) (pre : List ExceptionTableEntry) (x : ExceptionTableEntry) (suf : List ExceptionTableEntry) (hsplit : c.exceptionTable.toList = pre ++ x :: suf)
    (hpass : ∀ z ∈ pre, covers z pc = false ∨ (z.catchType ≠ 0 ∧ ∃ nm : String, (Cond.classLink own z.catchType nm).before args s = true ∧ va_Nc E nm s)) (hx : covers x pc = true) (h0 : x.catchType ≠ 0)
    (hlink : (Cond.classLink own x.catchType name).before args s = true) (hcast : (Cond.castable E name).before args s = true) (hcell : H[q]? = some ce) (hv : ce.vm = .none) (hcl : s.vm.findClass E = some ce.cls)
    (kk : W p l e R s m args below meth c H locs cells slots Q (F0 m x.handlerPc ls [.ref q])) : vx_W p l e R s m args below meth c H locs cells slots Q (F0 m pc ls rest) q := by
  intro T hT X
  have hpl : e.platform.magicAccessors = ({} : Platform).magicAccessors := by rw [X.admits.platform]
  obtain ⟨c3, c4, hc3, hc4, hasg⟩ := Cond.castable_spec hcast
  cases Option.some.inj (hc3.symm.trans hcl)
  obtain ⟨c5, hc5, hcl5⟩ := Cond.classLink_spec hown hlink e.platform hpl
  cases Option.some.inj (hc4.symm.trans hc5)
  obtain ⟨vm', X', st⟩ := X.thenCaughtThrough q (g := F0 m pc ls rest) rfl (Steps.refl _) (by rw [hT]; exact hcell) (by rw [hv]; rfl) (by obtain ⟨k9, h9, -⟩ := Vm.findClass_spec hcl; exact ⟨k9, h9⟩) pre x suf hsplit
    (fun z hz => by
      rcases hpass z hz with h | ⟨hz0, nm, hl1, hn1⟩
      · exact Or.inl h
      · obtain ⟨c6, hc6, hcl6⟩ := Cond.classLink_spec hown hl1 e.platform hpl
        obtain ⟨a8, b8, h1, h2, h3⟩ := hn1
        cases Option.some.inj (h1.symm.trans hcl)
        cases Option.some.inj (h2.symm.trans hc6)
        exact Or.inr ⟨hz0, _, hcl6, h3⟩) hx (Or.inr ⟨h0, c4, hcl5, hasg⟩)
  obtain ⟨t, a1, b1⟩ := kk (T.setVm vm') hT X'
  exact ⟨t, st.trans a1, b1⟩
end Rows
section Ends
variable {p : Program} {l : Launch} {e : Env} {R : Room} {s : State} {m : MethodId} {args : Array Value} {below : List Frame} {meth : Method} {c : Code} {H : Heap} {locs : List Loc} {cells slots : Nat} {Q : State → Prop}
variable {mc ms : Nat} {free : Addr → Prop} {A0 A1 : Nat → Prop} {H0 : Heap} {a : Array Value} {ls : Array Slot} {st0 rest : List Value}
variable {Qc : Array Value → State → Outcome → State → Prop} {XC : String → State → State → Prop}
/-- what a body that may throw owes at its end -/
def vx_MQ (below : List Frame) (Qc : Array Value → State → Outcome → State → Prop) (XC : String → State → State → Prop) (a : Array Value) (s : State) (mc ms : Nat) (free : Addr → Prop) : State → Prop := fun t =>
  ∃ o, t.status = .running ∧ Ended t below o ∧ vx_Q Qc XC mc ms free a s o t
theorem vx_ret {g : JFrame} {mc ms : Nat} (k : W p l e R s m args below meth c H locs cells slots (MQ below Qc args s mc ms free) g) : W p l e R s m args below meth c H locs cells slots (vx_MQ below Qc XC args s mc ms free) g := by
  intro T hT X
  obtain ⟨t, a1, o, b1, b2, b3, b4⟩ := k T hT X
  exact ⟨t, a1, o, b1, b2, Or.inl ⟨b3, b4⟩⟩
/-- not caught here: it goes on to the caller -/
theorem vx_widen {g : JFrame} {q : Addr} {k n : Nat} (h1 : cells ≤ k) (h2 : slots ≤ n) (kk : vx_W p l e R s m args below meth c H locs k n Q g q) : vx_W p l e R s m args below meth c H locs cells slots Q g q := fun T hT X => kk T hT (stand_widen X h1 h2)
theorem vx_out {pc : Nat} {E : String} {ce : Cell} {q : Addr} {mc ms : Nat} (hout : ∀ x ∈ c.exceptionTable.toList, covers x pc = false) (hlocks : meth.locks = false) (hcell : H[q]? = some ce) (hv : ce.vm = .none) (hcl : s.vm.findClass E = some ce.cls)
    (hx : ∀ t : State, t.heap = H → s.vm.Alike t.vm → XC E s t) (hf : ∀ z ∈ locs, free z.base) (hc : cells ≤ mc) (hs : slots ≤ ms) :
    vx_W p l e R s m args below meth c H locs cells slots (vx_MQ below Qc XC args s mc ms free) (F0 m pc ls rest) q := by
  intro T hT X
  obtain ⟨st1, hrun, hend, hW, hsm⟩ := X.leaveThrown q (g := F0 m pc ls rest) rfl rfl rfl hout hlocks
  have hcell9 : (T.setFrames (.throwing q :: below)).heap[q]? = some ce := by
    show T.heap[q]? = some ce
    rw [hT]; exact hcell
  exact ⟨_, st1, .threw q, hrun, hend, Or.inr ⟨q, rfl, E, ce, locs, hx _ hT hW.alike, hcell9, hv, hcl, hW, hsm.mono hc hs, hf⟩⟩
theorem vx_frame {U : State} {k n : Nat} (h : s.sameButNew ({ U with vm := s.vm } : State) locs k n) : s.heap.size ≤ U.heap.size ∧ ∀ q : Nat, q < s.heap.size → (∀ z ∈ locs, z.base ≠ q) → U.heap[q]? = s.heap[q]? := by
  obtain ⟨-, h2, -, -, -, h6⟩ := h
  refine ⟨h2, fun q hq hz => ?_⟩
  obtain ⟨c9, e1, e2, e3, e4⟩ := h6 q _ (Array.getElem?_eq_getElem hq)
  have hs : c9.slots = (s.heap[q]).slots := Array.ext_getElem? fun i => e4 i fun hm => hz _ hm rfl
  have h9 : c9 = s.heap[q] := by
    rw [hs] at e2
    exact e2
  have e5 : U.heap[q]? = some c9 := e1
  rw [e5, h9, Array.getElem?_eq_getElem hq]
/-- the words of a throw but the four that speak of the heap -/
def vx_no (w : Cond) : Bool := decide (w ≠ .isRef (.static Bundle.tN "UNASSIGNED_STACK" Bundle.steD)) && decide (w ≠ .isRef (.static Bundle.tN "SUPPRESSED_SENTINEL" Bundle.listD)) && decide (w ≠ .laysStatic Bundle.tN "UNASSIGNED_STACK" Bundle.steD) && decide (w ≠ .laysStatic Bundle.tN "SUPPRESSED_SENTINEL" Bundle.listD)
def vx_at0 (own : String) (ic : Nat) (X : String) (names : List String) : List Cond := (Bundle.ownAtoms0 own ic X names).filter vx_no
def vx_atS (own : String) (ic : Nat) (X : String) (names : List String) : List Cond := (Bundle.ownAtoms own ic X names).filter vx_no
/-- a word that the tables alone decide, or a good one -/
def vx_ot (w : Cond) : Bool := w.onTables || goodWord w
theorem vx_ot_at {args a' : Array Value} {s U : State} {w : Cond} (hW : s.WarmedH U.vm) (hvm : s.vm = U.vm) (hg : vx_ot w = true) (h : w.before args s = true) : w.before a' U = true := by
  simp only [vx_ot, Bool.or_eq_true] at hg
  rcases hg with hg | hg
  · exact va_tabs hg hvm h
  · exact word_at hW (good_of_word hg) h
/-- a list's words: the good ones out of the method's own list, the others by premises of their own -/
theorem vx_hat {args : Array Value} {s : State} {L B : List Cond} (h1 : ∀ w ∈ L.filter goodWord, w.before args s = true) (h2 : ∀ w ∈ L.filter (fun w => !goodWord w), w ∈ B) (h3 : ∀ w ∈ B, w.before args s = true) : ∀ w ∈ L, w.before args s = true := by
  intro w hw
  by_cases g : goodWord w = true
  · exact h1 w (List.mem_filter.mpr ⟨hw, g⟩)
  · refine h3 w (h2 w (List.mem_filter.mpr ⟨hw, ?_⟩))
    show (!goodWord w) = true
    cases hgw : goodWord w
    · rfl
    · exact absurd hgw g
theorem vx_c {args : Array Value} {s : State} {w : Cond} {B : List Cond} (h : w.before args s = true) (t : ∀ w ∈ B, w.before args s = true) : ∀ w' ∈ w :: B, w'.before args s = true := fun w' h' => (List.mem_cons.mp h').elim (fun e => by rw [e]; exact h) (t w')
theorem vx_n {args : Array Value} {s : State} : ∀ w ∈ ([] : List Cond), w.before args s = true := fun _ h => nomatch h
theorem vx_own {args : Array Value} {s : State} {L : List Cond} (h1 : ∀ w ∈ L.filter vx_no, w.before args s = true)
    (hU : (Cond.isRef (.static Bundle.tN "UNASSIGNED_STACK" Bundle.steD)).before args s = true) (hN : (Cond.isRef (.static Bundle.tN "SUPPRESSED_SENTINEL" Bundle.listD)).before args s = true)
    (lU : (Cond.laysStatic Bundle.tN "UNASSIGNED_STACK" Bundle.steD).before args s = true) (lN : (Cond.laysStatic Bundle.tN "SUPPRESSED_SENTINEL" Bundle.listD).before args s = true) : ∀ w ∈ L, w.before args s = true := by
  intro w hw
  by_cases e1 : w = .isRef (.static Bundle.tN "UNASSIGNED_STACK" Bundle.steD)
  · rw [e1]; exact hU
  · by_cases e2 : w = .isRef (.static Bundle.tN "SUPPRESSED_SENTINEL" Bundle.listD)
    · rw [e2]; exact hN
    · by_cases e3 : w = .laysStatic Bundle.tN "UNASSIGNED_STACK" Bundle.steD
      · rw [e3]; exact lU
      · by_cases e4 : w = .laysStatic Bundle.tN "SUPPRESSED_SENTINEL" Bundle.listD
        · rw [e4]; exact lN
        · exact h1 w (List.mem_filter.mpr ⟨hw, by unfold vx_no; rw [decide_eq_true e1, decide_eq_true e2, decide_eq_true e3, decide_eq_true e4]; rfl⟩)
/-- where a static field lies, its class's statics cell in H -/
def vx_L (C n d : String) (A : Nat → Prop) (U : State) (H : Heap) : Prop := ∃ (c : ClassId) (k : Class) (i : Nat) (f : Field) (a : Nat) (cell : Cell), U.vm.findClass C = some c ∧ U.fieldFound? C n d = some (c, k, i, f) ∧ f.isStatic = true ∧ k.statics = some a ∧ H[a]? = some cell ∧ cell.vm.isStatics = true ∧ cell.cls = c ∧ f.slot < cell.slots.size ∧ k.staticTypes[f.slot]? = some f.type ∧ ¬ A a
theorem vx_L.moved {C n d : String} {A : Nat → Prop} {u U : State} {H : Heap} (hvm : u.vm.Alike U.vm) (h : vx_L C n d A u H) : vx_L C n d A U H := by
  obtain ⟨c, k, i, f, a, cell, h1, h2, h3, h4, h5, h6, h7, h8, h9, h10⟩ := h
  obtain ⟨k', hi', he⟩ := State.fieldFound?_setVm hvm h2
  exact ⟨c, k', i, f, a, cell, by rw [hvm.findClass]; exact h1, hi', h3, by rw [he]; exact h4, h5, h6, h7, h8, by rw [he]; exact h9, h10⟩
theorem vx_L.kept {C n d : String} {A : Nat → Prop} {U : State} {H H1 : Heap} (h : vx_L C n d A U H) (hq : ∀ a : Nat, a < H.size → ¬ A a → H1[a]? = H[a]?) : vx_L C n d A U H1 := by
  obtain ⟨c, k, i, f, a, cell, h1, h2, h3, h4, h5, h6, h7, h8, h9, h10⟩ := h
  exact ⟨c, k, i, f, a, cell, h1, h2, h3, h4, by rw [hq a (Array.getElem?_eq_some_iff.mp h5).1 h10]; exact h5, h6, h7, h8, h9, h10⟩
theorem vx_L.narrow {C n d : String} {A B : Nat → Prop} {U : State} {H : Heap} (h : vx_L C n d A U H) (hAB : ∀ q, B q → A q) : vx_L C n d B U H := by
  obtain ⟨c, k, i, f, a, cell, h1, h2, h3, h4, h5, h6, h7, h8, h9, h10⟩ := h
  exact ⟨c, k, i, f, a, cell, h1, h2, h3, h4, h5, h6, h7, h8, h9, fun z => h10 (hAB _ z)⟩
theorem vx_L.word {C n d : String} {A : Nat → Prop} {s : State} {args : Array Value} (h : vx_L C n d A s s.heap) : (Cond.laysStatic C n d).before args s = true := by
  obtain ⟨c, k, i, f, a, cell, h1, h2, h3, h4, h5, h6, h7, h8, h9, -⟩ := h
  show (Cond.laysStatic C n d).holds args s none s [] = true
  exact Cond.laysStatic_of h1 h2 h3 h4 h5 h6 h7 h8 h9
/-- .. and what it holds: null or some reference -/
def vx_Zq (C n d : String) (A : Nat → Prop) (U : State) (H : Heap) : Prop := va_Zq C n d A U H ∧ vx_L C n d A U H
theorem vx_Zq.moved {C n d : String} {A : Nat → Prop} {u U : State} {H : Heap} (hvm : u.vm.Alike U.vm) (h : vx_Zq C n d A u H) : vx_Zq C n d A U H := ⟨va_Zq.moved hvm h.1, vx_L.moved hvm h.2⟩
theorem vx_Zq.kept {C n d : String} {A : Nat → Prop} {U : State} {H H1 : Heap} (h : vx_Zq C n d A U H) (hq : ∀ a : Nat, a < H.size → ¬ A a → H1[a]? = H[a]?) : vx_Zq C n d A U H1 := ⟨va_Zq.kept h.1 hq, vx_L.kept h.2 hq⟩
theorem vx_Zq.narrow {C n d : String} {A B : Nat → Prop} {U : State} {H : Heap} (h : vx_Zq C n d A U H) (hAB : ∀ q, B q → A q) : vx_Zq C n d B U H := ⟨va_Zq.narrow h.1 hAB, vx_L.narrow h.2 hAB⟩
theorem vx_Zqof {args : Array Value} {s : State} {C n d : String} {A : Nat → Prop} (hl : (Cond.laysStatic C n d).before args s = true) (hini : (Cond.initialized C).before args s = true) (h : (Cond.isRef (.static C n d)).before args s = true) (hA : ∀ a : Nat, a < s.heap.size → ¬ A a) : vx_Zq C n d A s s.heap := by
  refine ⟨va_Zqof hl hini h hA, ?_⟩
  obtain ⟨c, k, i, f, a, cell, h1, h2, h3, h4, h5, h6, h7, h8, h9⟩ := Cond.laysStatic_spec hl
  exact ⟨c, k, i, f, a, cell, h1, h2, h3, h4, h5, h6, h7, h8, h9, hA a (Array.getElem?_eq_some_iff.mp h5).1⟩
theorem vx_isRef {C n d : String} {v : Value} {A : Nat → Prop} {s : State} {args : Array Value} (h : va_Z C n d v A s s.heap) (hv : v.isRef = true) : (Cond.isRef (.static C n d)).before args s = true := by
  obtain ⟨cf, kf, fi, f, a, cell, h1, h2, h3, h4, h5, h6, h7, -⟩ := h
  have he : (Term.static C n d).eval args s none [] s = some v := by
    simp [Term.eval, State.fieldNamed?, h1, h2, h4, h5, h6, h7]
  simp only [Cond.before, Cond.holds, Cond.value, he]
  cases v <;> simp_all [Value.isRef]
theorem vx_isRefq {C n d : String} {A : Nat → Prop} {s : State} {args : Array Value} (h : va_Zq C n d A s s.heap) : (Cond.isRef (.static C n d)).before args s = true := by
  rcases h with h | ⟨t, h⟩
  · exact vx_isRef h rfl
  · exact vx_isRef h rfl
/-- the same frame, seen from here: as if the method were called anew in this heap -/
theorem vx_rebase {T : State} (X : Stand p l e R s m args below meth c T locs cells slots) {R' : Room} (hf : R'.frames ≤ R.frames) (hl : R'.locals ≤ R.locals) (hc : cells + R'.cells ≤ R.cells) (hs : slots + R'.slots ≤ R.slots) :
    Stand p l e R' ((T.setVm s.vm).setFrames (.invoking m args :: below)) m args below meth c T [] 0 0 := by
  have htop : (T.setVm s.vm).topJava?.isSome := X.here.top
  have hF : ((T.setVm s.vm).setFrames (.invoking m args :: below)).frames = .invoking m args :: below := State.frames_setFrames _ (State.cur_lt_of_top htop)
  obtain ⟨g₀, hg0⟩ := Option.isSome_iff_exists.mp htop
  obtain ⟨r, hr⟩ := State.topJava?_eq_some.mp hg0
  have hl9 : e.platform.stackLimits (T.setVm s.vm).me = e.platform.stackLimits s.me := X.limits
  have hb9 : (T.setVm s.vm).me.stackBytes = s.me.stackBytes := X.bytes
  refine ⟨X.admits, X.cas, X.clock, hF, ?_, X.hears, X.method, X.code, X.here, X.tail, X.warmed, ?_, ?_, ?_⟩
  · have h := X.room
    have hU : ((T.setVm s.vm).setFrames (.invoking m args :: below)).localsInUse = s.localsInUse := by
      rw [State.localsInUse_invoking hF (meth := meth) (c := c) X.method X.code, State.localsInUse_invoking X.frames X.method X.code]
    simp only [State.hasRoom, Bool.and_eq_true, decide_eq_true_eq] at h ⊢
    obtain ⟨⟨⟨⟨h1, h2, h3, h4, h5, h6⟩, h7⟩, h8⟩, h9⟩ := h
    rw [X.frames, List.length_cons] at h2 h3
    have q1 := X.heapSize
    have q2 := X.used
    simp only [hF, hU, List.length_cons, State.stackLimits_setFrames, State.stackBytes_setFrames, hl9, hb9]
    refine ⟨⟨⟨⟨by omega, by omega, by omega, by omega, by omega, h6⟩, ?_⟩, ?_⟩, X.book⟩
    · show T.heap.size + R'.cells ≤ e.platform.maxCells
      omega
    · show T.slotsUsed + R'.slots ≤ e.platform.maxSlots
      omega
  · rw [State.stackLimits_setFrames]; rfl
  · rw [State.stackBytes_setFrames]; rfl
  · refine ⟨?_, Nat.le_refl _, Nat.le_refl _, ?_, ?_, fun a c9 h9 => ⟨c9, h9, rfl, rfl, fun _ _ => rfl⟩⟩
    · obtain ⟨t, ht, -⟩ := State.frames_cons hr
      show T.setVm s.vm = { ((T.setVm s.vm).setFrames (.invoking m args :: below)).setFrames (T.setVm s.vm).frames with heap := T.heap, slotsUsed := T.slotsUsed }
      rw [State.setFrames_setFrames, State.setFrames_self ht]
      rfl
    · show T.slotsUsed = T.slotsUsed + ((T.heap.toList.drop T.heap.size).map (·.slots.size)).sum
      rw [List.drop_eq_nil_of_le (Nat.le_of_eq Array.length_toList)]
      rfl
    · show ((T.heap.toList.drop T.heap.size).map (·.slots.size)).sum ≤ 0
      rw [List.drop_eq_nil_of_le (Nat.le_of_eq Array.length_toList)]
      exact Nat.le_refl _
/-- 'throw new E()': new; dup; invokespecial; athrow -/
theorem vx_throw0 {cc : ByteArray} {pc : Nat} (hexec : p.tables.exec = Jvm.exec) (hb : c.code = cc) (hl : l.stackTraces = false) {own cls : String} {names : List String} {ik ic mc ms : Nat} {A : Nat → Prop}
    (hown : s.vm.findClass own = some m.cls) (hcls : Bundle.fit cls = true) (hnames : ∀ n ∈ names, Bundle.fit n = true)
    (hk : (Cond.classLink own ik cls).before args s = true) (hini : (Cond.initialized cls).before args s = true) (hat : ∀ w ∈ vx_at0 own ic cls names, w.before args s = true)
    (hgood : ∀ w ∈ Cond.classLink own ik cls :: Cond.initialized cls :: vx_at0 own ic cls names, vx_ot w = true)
    (hU : vx_Zq Bundle.tN "UNASSIGNED_STACK" Bundle.steD A s s.heap) (hN : vx_Zq Bundle.tN "SUPPRESSED_SENTINEL" Bundle.listD A s s.heap) (hS : va_S A s.heap H locs) (hsize : ls.size = c.maxLocals)
    (d0 : decode cc pc = .ok (.new ik, 3)) (d3 : decode cc (pc + 3) = .ok (.dup, 1)) (d4 : decode cc (pc + 4) = .ok (.invokespecial ic, 3)) (d7 : decode cc (pc + 7) = .ok (.athrow, 1))
    (hout : ∀ x ∈ c.exceptionTable.toList, covers x (pc + 7) = false)
    (hRframes : names.length + 3 < R.frames) (hRlocals : (rest.map fun v => v.category).sum + (13 * (names.length + 1) + 42) ≤ R.locals) (hRcells : cells + 1 ≤ R.cells) (hRslots : slots + 6 ≤ R.slots) (hlocks : meth.locks = false)
    (hx : ∀ t : State, s.vm.Alike t.vm → H.size ≤ t.heap.size → (∀ q : Nat, q < H.size → t.heap[q]? = H[q]?) → XC cls s t)
    (hf : ∀ z ∈ locs, free z.base) (hc : cells + 1 ≤ mc) (hs : slots + 6 ≤ ms) :
    W p l e R s m args below meth c H locs cells slots (vx_MQ below Qc XC args s mc ms free) (F0 m pc ls rest) := by
  intro T hT X
  have htr : e.platform.stackTraces = false := (show e.platform.stackTraces = l.stackTraces by rw [X.admits.platform]).trans hl
  have Y := vx_rebase X (R' := { frames := R.frames, locals := R.locals, cells := 1, slots := 6 }) (Nat.le_refl _) (Nat.le_refl _) hRcells hRslots
  obtain ⟨s', hA⟩ : ∃ z, z = (T.setVm s.vm).setFrames (.invoking m args :: below) := ⟨_, rfl⟩
  rw [← hA] at Y
  have hvm : s'.vm = s.vm := by rw [hA]; rfl
  have hhp : s'.heap = H := by rw [hA]; exact hT
  have hW0 : s.WarmedH s'.vm := by rw [hvm]; exact State.WarmedH.refl s
  have hat' : ∀ w ∈ vx_at0 own ic cls names, w.before args s' = true := fun w hw => vx_ot_at hW0 hvm.symm (hgood w (List.mem_cons_of_mem _ (List.mem_cons_of_mem _ hw))) (hat w hw)
  have hk' : (Cond.classLink own ik cls).before args s' = true := vx_ot_at hW0 hvm.symm (hgood _ List.mem_cons_self) hk
  have hini' : (Cond.initialized cls).before args s' = true := vx_ot_at hW0 hvm.symm (hgood _ (List.mem_cons_of_mem _ List.mem_cons_self)) hini
  have hU' : vx_Zq Bundle.tN "UNASSIGNED_STACK" Bundle.steD A s' s'.heap := by rw [hhp]; exact vx_Zq.moved hW0.alike (hU.kept hS.2.1)
  have hN' : vx_Zq Bundle.tN "SUPPRESSED_SENTINEL" Bundle.listD A s' s'.heap := by rw [hhp]; exact vx_Zq.moved hW0.alike (hN.kept hS.2.1)
  have h : ∀ w ∈ Bundle.ownAtoms0 own ic cls names, w.before args s' = true := vx_own hat' (vx_isRefq hU'.1) (vx_isRefq hN'.1) hU'.2.word hN'.2.word
  have hown' : s'.vm.findClass own = some m.cls := by rw [hvm]; exact hown
  have hins : (Cond.instantiable cls 6).before args s' = true := h _ (by simp [Bundle.ownAtoms0])
  obtain ⟨vm₁, cX, kX, hfX, hkX, -, -, X₁, st1⟩ := Y.newCold hexec (own := own) (C := cls) (index := ik) (n := 6) hown' hk' hins hini'
    (g := F0 m pc ls rest) rfl (by rw [hb]; exact d0) (Nat.le_refl _) (Nat.le_refl _)
  generalize hT1 : (T.setVm vm₁).pushCell { cls := cX, slots := kX.instanceTypes.map defaultValue, vm := .none } = T1 at X₁ st1
  have hcat : (Value.ref T.heap.size).category = 1 := rfl
  have hcellA : T1.heap[T.heap.size]? = some (freshCell cX kX) := by rw [← hT1]; exact State.heap_pushCell_size _ _
  have d3' : decode c.code (pc + 3) = .ok (.dup, 1) := by rw [hb]; exact d3
  obtain ⟨U, hsteps, hrun, hend, hW, hsame, ce, hce, hO⟩ := X₁.ctorThrow0 hexec htr (own := own) (cls := cls) (names := names) (ic := ic) hown' hcls hnames h (fun x hx => nomatch hx) hfX hkX hcellA (by rw [hhp, hT]; exact Nat.le_refl _)
    (g := { method := m, pc := pc + 4, locals := ls, stack := .ref T.heap.size :: .ref T.heap.size :: rest, locked := none }) rfl hsize rfl rfl (rest := rest) rfl
    (by rw [hb]; exact d4) (by rw [hb]; exact d7) hout hRframes (by simp only [List.map_cons, List.sum_cons, hcat]; omega) hlocks
  obtain ⟨f1, f2⟩ := vx_frame hsame
  rw [hhp] at f1 f2
  have hWs : s.WarmedH U.vm := State.WarmedH.trans hW0 hW
  have hcl : s.vm.findClass cls = some ce.cls := by
    have h9 := hO.cls
    rw [hvm] at h9
    exact h9
  have hall : s.sameButNew ({ U with vm := s.vm } : State) locs mc ms := by
    subst hA
    obtain ⟨e1, e2⟩ := hsame
    rw [State.setFrames_setFrames] at e1
    have h2 : (T.setVm s.vm).sameButNew ({ U with vm := s.vm } : State) [] (0 + 1) (0 + 6) := ⟨e1, e2⟩
    have h3 := X.same.trans h2
    rw [List.append_nil] at h3
    exact h3.mono hc hs
  refine ⟨U, ?_, .threw T.heap.size, hrun, hend, Or.inr ⟨T.heap.size, rfl, cls, ce, locs, hx U hWs.alike f1 (fun q hq => f2 q hq (fun z hz => nomatch hz)), hce, hO.vm, hcl, hWs, hall, hf⟩⟩
  refine st1 _ ?_
  show Steps p.tables e below (T1.setTop { method := m, pc := pc + 3, locals := ls, stack := .ref T.heap.size :: rest, locked := none }) _
  jvm_step X₁.here [X₁.here.top, hexec, d3', Value.category]
  exact hsteps
/-- 'throw new E("text")': new; dup; ldc; invokespecial; athrow -/
theorem vx_throwS {cc : ByteArray} {pc : Nat} (hexec : p.tables.exec = Jvm.exec) (hb : c.code = cc) (hl : l.stackTraces = false) {own cls text : String} {names : List String} {ik is ic mc ms sa : Nat} {A : Nat → Prop}
    (hown : s.vm.findClass own = some m.cls) (hcls : Bundle.fit cls = true) (hnames : ∀ n ∈ names, Bundle.fit n = true)
    (hk : (Cond.classLink own ik cls).before args s = true) (hini : (Cond.initialized cls).before args s = true) (hstr : vk_R own is text sa s) (hat : ∀ w ∈ vx_atS own ic cls names, w.before args s = true)
    (hgood : ∀ w ∈ Cond.classLink own ik cls :: Cond.initialized cls :: vx_atS own ic cls names, vx_ot w = true)
    (hU : vx_Zq Bundle.tN "UNASSIGNED_STACK" Bundle.steD A s s.heap) (hN : vx_Zq Bundle.tN "SUPPRESSED_SENTINEL" Bundle.listD A s s.heap) (hS : va_S A s.heap H locs) (hsize : ls.size = c.maxLocals)
    (d0 : decode cc pc = .ok (.new ik, 3)) (d3 : decode cc (pc + 3) = .ok (.dup, 1)) (d4 : decode cc (pc + 4) = .ok (.ldc is, 2)) (d6 : decode cc (pc + 6) = .ok (.invokespecial ic, 3)) (d9 : decode cc (pc + 9) = .ok (.athrow, 1))
    (hout : ∀ x ∈ c.exceptionTable.toList, covers x (pc + 9) = false)
    (hRframes : names.length + 3 < R.frames) (hRlocals : (rest.map fun v => v.category).sum + (13 * (names.length + 1) + 43) ≤ R.locals) (hRcells : cells + 1 ≤ R.cells) (hRslots : slots + 6 ≤ R.slots) (hlocks : meth.locks = false)
    (hx : ∀ t : State, s.vm.Alike t.vm → H.size ≤ t.heap.size → (∀ q : Nat, q < H.size → t.heap[q]? = H[q]?) → XC cls s t)
    (hf : ∀ z ∈ locs, free z.base) (hc : cells + 1 ≤ mc) (hs : slots + 6 ≤ ms) :
    W p l e R s m args below meth c H locs cells slots (vx_MQ below Qc XC args s mc ms free) (F0 m pc ls rest) := by
  intro T hT X
  have htr : e.platform.stackTraces = false := (show e.platform.stackTraces = l.stackTraces by rw [X.admits.platform]).trans hl
  have Y := vx_rebase X (R' := { frames := R.frames, locals := R.locals, cells := 1, slots := 6 }) (Nat.le_refl _) (Nat.le_refl _) hRcells hRslots
  obtain ⟨s', hA⟩ : ∃ z, z = (T.setVm s.vm).setFrames (.invoking m args :: below) := ⟨_, rfl⟩
  rw [← hA] at Y
  have hvm : s'.vm = s.vm := by rw [hA]; rfl
  have hhp : s'.heap = H := by rw [hA]; exact hT
  have hW0 : s.WarmedH s'.vm := by rw [hvm]; exact State.WarmedH.refl s
  have hat' : ∀ w ∈ vx_atS own ic cls names, w.before args s' = true := fun w hw => vx_ot_at hW0 hvm.symm (hgood w (List.mem_cons_of_mem _ (List.mem_cons_of_mem _ hw))) (hat w hw)
  have hk' : (Cond.classLink own ik cls).before args s' = true := vx_ot_at hW0 hvm.symm (hgood _ List.mem_cons_self) hk
  have hini' : (Cond.initialized cls).before args s' = true := vx_ot_at hW0 hvm.symm (hgood _ (List.mem_cons_of_mem _ List.mem_cons_self)) hini
  have hU' : vx_Zq Bundle.tN "UNASSIGNED_STACK" Bundle.steD A s' s'.heap := by rw [hhp]; exact vx_Zq.moved hW0.alike (hU.kept hS.2.1)
  have hN' : vx_Zq Bundle.tN "SUPPRESSED_SENTINEL" Bundle.listD A s' s'.heap := by rw [hhp]; exact vx_Zq.moved hW0.alike (hN.kept hS.2.1)
  have h : ∀ w ∈ Bundle.ownAtoms own ic cls names, w.before args s' = true := vx_own hat' (vx_isRefq hU'.1) (vx_isRefq hN'.1) hU'.2.word hN'.2.word
  have hown' : s'.vm.findClass own = some m.cls := by rw [hvm]; exact hown
  have hins : (Cond.instantiable cls 6).before args s' = true := h _ (by simp [Bundle.ownAtoms])
  obtain ⟨vm₁, cX, kX, hfX, hkX, -, -, X₁, st1⟩ := Y.newCold hexec (own := own) (C := cls) (index := ik) (n := 6) hown' hk' hins hini'
    (g := F0 m pc ls rest) rfl (by rw [hb]; exact d0) (Nat.le_refl _) (Nat.le_refl _)
  generalize hT1 : (T.setVm vm₁).pushCell { cls := cX, slots := kX.instanceTypes.map defaultValue, vm := .none } = T1 at X₁ st1
  have hcat : (Value.ref T.heap.size).category = 1 := rfl
  have hcellA : T1.heap[T.heap.size]? = some (freshCell cX kX) := by rw [← hT1]; exact State.heap_pushCell_size _ _
  have d3' : decode c.code (pc + 3) = .ok (.dup, 1) := by rw [hb]; exact d3
  have d4' : decode c.code (pc + 4) = .ok (.ldc is, 2) := by rw [hb]; exact d4
  have hstr' : vk_R own is text sa s' := vk_R.warm hW0 hstr
  obtain ⟨U, hsteps, hrun, hend, hW, hsame, ce, hce, hO⟩ := X₁.ctorThrowS hexec htr (own := own) (cls := cls) (names := names) (ic := ic) hown' hcls hnames h (fun x hx => nomatch hx) hfX hkX hcellA (by rw [hhp, hT]; exact Nat.le_refl _) (msg := .ref sa) rfl
    (g := { method := m, pc := pc + 6, locals := ls, stack := .ref sa :: .ref T.heap.size :: .ref T.heap.size :: rest, locked := none }) rfl hsize rfl rfl (rest := rest) rfl
    (by rw [hb]; exact d6) (by rw [hb]; exact d9) hout hRframes (by simp only [List.map_cons, List.sum_cons, hcat]; omega) hlocks
  obtain ⟨f1, f2⟩ := vx_frame hsame
  rw [hhp] at f1 f2
  have hWs : s.WarmedH U.vm := State.WarmedH.trans hW0 hW
  have hcl : s.vm.findClass cls = some ce.cls := by
    have h9 := hO.cls
    rw [hvm] at h9
    exact h9
  have hall : s.sameButNew ({ U with vm := s.vm } : State) locs mc ms := by
    subst hA
    obtain ⟨e1, e2⟩ := hsame
    rw [State.setFrames_setFrames] at e1
    have h2 : (T.setVm s.vm).sameButNew ({ U with vm := s.vm } : State) [] (0 + 1) (0 + 6) := ⟨e1, e2⟩
    have h3 := X.same.trans h2
    rw [List.append_nil] at h3
    exact h3.mono hc hs
  refine ⟨U, ?_, .threw T.heap.size, hrun, hend, Or.inr ⟨T.heap.size, rfl, cls, ce, locs, hx U hWs.alike f1 (fun q hq => f2 q hq (fun z hz => nomatch hz)), hce, hO.vm, hcl, hWs, hall, hf⟩⟩
  refine st1 _ ?_
  show Steps p.tables e below (T1.setTop { method := m, pc := pc + 3, locals := ls, stack := .ref T.heap.size :: rest, locked := none }) _
  jvm_step X₁.here [X₁.here.top, hexec, d3', Value.category]
  exact X₁.ldcString hexec (own := own) (text := text) (index := is) (a := sa) hown' hstr'.1 hstr'.2
    (g := { method := m, pc := pc + 4, locals := ls, stack := .ref T.heap.size :: .ref T.heap.size :: rest, locked := none }) rfl d4' _ hsteps
/-- 'throw new E("text")', the text by a wide index -/
theorem vx_throwSW {cc : ByteArray} {pc : Nat} (hexec : p.tables.exec = Jvm.exec) (hb : c.code = cc) (hl : l.stackTraces = false) {own cls text : String} {names : List String} {ik is ic mc ms sa : Nat} {A : Nat → Prop}
    (hown : s.vm.findClass own = some m.cls) (hcls : Bundle.fit cls = true) (hnames : ∀ n ∈ names, Bundle.fit n = true)
    (hk : (Cond.classLink own ik cls).before args s = true) (hini : (Cond.initialized cls).before args s = true) (hstr : vk_R own is text sa s) (hat : ∀ w ∈ vx_atS own ic cls names, w.before args s = true)
    (hgood : ∀ w ∈ Cond.classLink own ik cls :: Cond.initialized cls :: vx_atS own ic cls names, vx_ot w = true)
    (hU : vx_Zq Bundle.tN "UNASSIGNED_STACK" Bundle.steD A s s.heap) (hN : vx_Zq Bundle.tN "SUPPRESSED_SENTINEL" Bundle.listD A s s.heap) (hS : va_S A s.heap H locs) (hsize : ls.size = c.maxLocals)
    (d0 : decode cc pc = .ok (.new ik, 3)) (d3 : decode cc (pc + 3) = .ok (.dup, 1)) (d4 : decode cc (pc + 4) = .ok (.ldc_w is, 3)) (d7 : decode cc (pc + 7) = .ok (.invokespecial ic, 3)) (d10 : decode cc (pc + 10) = .ok (.athrow, 1))
    (hout : ∀ x ∈ c.exceptionTable.toList, covers x (pc + 10) = false)
    (hRframes : names.length + 3 < R.frames) (hRlocals : (rest.map fun v => v.category).sum + (13 * (names.length + 1) + 43) ≤ R.locals) (hRcells : cells + 1 ≤ R.cells) (hRslots : slots + 6 ≤ R.slots) (hlocks : meth.locks = false)
    (hx : ∀ t : State, s.vm.Alike t.vm → H.size ≤ t.heap.size → (∀ q : Nat, q < H.size → t.heap[q]? = H[q]?) → XC cls s t)
    (hf : ∀ z ∈ locs, free z.base) (hc : cells + 1 ≤ mc) (hs : slots + 6 ≤ ms) :
    W p l e R s m args below meth c H locs cells slots (vx_MQ below Qc XC args s mc ms free) (F0 m pc ls rest) := by
  intro T hT X
  have htr : e.platform.stackTraces = false := (show e.platform.stackTraces = l.stackTraces by rw [X.admits.platform]).trans hl
  have Y := vx_rebase X (R' := { frames := R.frames, locals := R.locals, cells := 1, slots := 6 }) (Nat.le_refl _) (Nat.le_refl _) hRcells hRslots
  obtain ⟨s', hA⟩ : ∃ z, z = (T.setVm s.vm).setFrames (.invoking m args :: below) := ⟨_, rfl⟩
  rw [← hA] at Y
  have hvm : s'.vm = s.vm := by rw [hA]; rfl
  have hhp : s'.heap = H := by rw [hA]; exact hT
  have hW0 : s.WarmedH s'.vm := by rw [hvm]; exact State.WarmedH.refl s
  have hat' : ∀ w ∈ vx_atS own ic cls names, w.before args s' = true := fun w hw => vx_ot_at hW0 hvm.symm (hgood w (List.mem_cons_of_mem _ (List.mem_cons_of_mem _ hw))) (hat w hw)
  have hk' : (Cond.classLink own ik cls).before args s' = true := vx_ot_at hW0 hvm.symm (hgood _ List.mem_cons_self) hk
  have hini' : (Cond.initialized cls).before args s' = true := vx_ot_at hW0 hvm.symm (hgood _ (List.mem_cons_of_mem _ List.mem_cons_self)) hini
  have hU' : vx_Zq Bundle.tN "UNASSIGNED_STACK" Bundle.steD A s' s'.heap := by rw [hhp]; exact vx_Zq.moved hW0.alike (hU.kept hS.2.1)
  have hN' : vx_Zq Bundle.tN "SUPPRESSED_SENTINEL" Bundle.listD A s' s'.heap := by rw [hhp]; exact vx_Zq.moved hW0.alike (hN.kept hS.2.1)
  have h : ∀ w ∈ Bundle.ownAtoms own ic cls names, w.before args s' = true := vx_own hat' (vx_isRefq hU'.1) (vx_isRefq hN'.1) hU'.2.word hN'.2.word
  have hown' : s'.vm.findClass own = some m.cls := by rw [hvm]; exact hown
  have hins : (Cond.instantiable cls 6).before args s' = true := h _ (by simp [Bundle.ownAtoms])
  obtain ⟨vm₁, cX, kX, hfX, hkX, -, -, X₁, st1⟩ := Y.newCold hexec (own := own) (C := cls) (index := ik) (n := 6) hown' hk' hins hini'
    (g := F0 m pc ls rest) rfl (by rw [hb]; exact d0) (Nat.le_refl _) (Nat.le_refl _)
  generalize hT1 : (T.setVm vm₁).pushCell { cls := cX, slots := kX.instanceTypes.map defaultValue, vm := .none } = T1 at X₁ st1
  have hcat : (Value.ref T.heap.size).category = 1 := rfl
  have hcellA : T1.heap[T.heap.size]? = some (freshCell cX kX) := by rw [← hT1]; exact State.heap_pushCell_size _ _
  have d3' : decode c.code (pc + 3) = .ok (.dup, 1) := by rw [hb]; exact d3
  have d4' : decode c.code (pc + 4) = .ok (.ldc_w is, 3) := by rw [hb]; exact d4
  have hstr' : vk_R own is text sa s' := vk_R.warm hW0 hstr
  obtain ⟨U, hsteps, hrun, hend, hW, hsame, ce, hce, hO⟩ := X₁.ctorThrowS hexec htr (own := own) (cls := cls) (names := names) (ic := ic) hown' hcls hnames h (fun x hx => nomatch hx) hfX hkX hcellA (by rw [hhp, hT]; exact Nat.le_refl _) (msg := .ref sa) rfl
    (g := { method := m, pc := pc + 7, locals := ls, stack := .ref sa :: .ref T.heap.size :: .ref T.heap.size :: rest, locked := none }) rfl hsize rfl rfl (rest := rest) rfl
    (by rw [hb]; exact d7) (by rw [hb]; exact d10) hout hRframes (by simp only [List.map_cons, List.sum_cons, hcat]; omega) hlocks
  obtain ⟨f1, f2⟩ := vx_frame hsame
  rw [hhp] at f1 f2
  have hWs : s.WarmedH U.vm := State.WarmedH.trans hW0 hW
  have hcl : s.vm.findClass cls = some ce.cls := by
    have h9 := hO.cls
    rw [hvm] at h9
    exact h9
  have hall : s.sameButNew ({ U with vm := s.vm } : State) locs mc ms := by
    subst hA
    obtain ⟨e1, e2⟩ := hsame
    rw [State.setFrames_setFrames] at e1
    have h2 : (T.setVm s.vm).sameButNew ({ U with vm := s.vm } : State) [] (0 + 1) (0 + 6) := ⟨e1, e2⟩
    have h3 := X.same.trans h2
    rw [List.append_nil] at h3
    exact h3.mono hc hs
  refine ⟨U, ?_, .threw T.heap.size, hrun, hend, Or.inr ⟨T.heap.size, rfl, cls, ce, locs, hx U hWs.alike f1 (fun q hq => f2 q hq (fun z hz => nomatch hz)), hce, hO.vm, hcl, hWs, hall, hf⟩⟩
  refine st1 _ ?_
  show Steps p.tables e below (T1.setTop { method := m, pc := pc + 3, locals := ls, stack := .ref T.heap.size :: rest, locked := none }) _
  jvm_step X₁.here [X₁.here.top, hexec, d3', Value.category]
  exact X₁.ldcStringW hexec (own := own) (text := text) (index := is) (a := sa) hown' hstr'.1 hstr'.2
    (g := { method := m, pc := pc + 4, locals := ls, stack := .ref T.heap.size :: .ref T.heap.size :: rest, locked := none }) rfl d4' _ hsteps
end Ends
section Bodies
variable {l : Launch}
theorem vx_ofW {y : MethodName} {ws ws' : List Cond} {rm : Room} {Pc : Array Value → State → Prop} {Qc : Array Value → State → Outcome → State → Prop} {XC : String → State → State → Prop} {mc ms : Nat} {free : Addr → Prop} {cc : ByteArray} {maxL : Nat} {ret : Option FieldType}
    (hy : plainName y.cls = true) (hw : ws = Cond.code y cc maxL ret :: ws')
    (body : ∀ p e s m args below meth c s₁, BodyLoose p l y (headSpec ws rm) cc maxL ret e s m args below meth c s₁ → c.maxLocals = maxL → (∀ x ∈ c.exceptionTable.toList, False) → Pc args s →
      W p l e (headSpec ws rm).room s m args below meth c s.heap [] 0 0 (vx_MQ below Qc XC args s mc ms free) (entryFrame m args maxL)) : vx_Met l y ws rm Pc Qc XC mc ms free := by
  refine MetFree.of_bodyS (code := cc) (maxLocals := maxL) (ret := ret) hy ?_ ?_
  · intro args s m h hn
    obtain ⟨meth, c, h1, h2, h3, h4, h5, h6, -, -⟩ := Cond.code_spec hn (atoms_spec (ws := ws) h _ (by rw [hw]; exact List.mem_cons_self))
    exact ⟨meth, c, h1, h2, h3, h4, h5, h6⟩
  · intro p e s m args below meth c s₁ B hml hP _
    have hh0 : s₁.heap = s.heap := by rw [B.state]; rfl
    have ht : ∀ x ∈ c.exceptionTable.toList, False := by
      obtain ⟨meth9, c9, h1, h2, -, -, -, -, h7, -⟩ := Cond.code_spec B.named (atoms_spec (ws := ws) B.pre _ (by rw [hw]; exact List.mem_cons_self))
      cases Option.some.inj (h1.symm.trans B.method)
      cases Option.some.inj (h2.symm.trans (Stand.of_body B).code)
      intro x hx
      rw [Array.isEmpty_iff.mp h7] at hx
      cases hx
    obtain ⟨t, a1, o, b1, b2, b3⟩ := body p e s m args below meth c s₁ B hml ht hP s₁ hh0 (Stand.of_body B)
    exact ⟨t, o, a1, b1, b2, b3⟩
/-- the table of a body with handlers -/
theorem vx_table {p : Program} {x y : MethodName} {S : Spec} {cc bytes : ByteArray} {maxL maxL' : Nat} {ret ret' : Option FieldType} {e : Env} {s s₁ : State} {m : MethodId} {args : Array Value} {below : List Frame} {meth : Method} {c : Code} {hh : List (Nat × Nat × Nat × Nat)}
    (B : BodyLoose p l y S cc maxL ret e s m args below meth c s₁) (h : (Cond.codeWith y bytes maxL' ret' hh).before args s = true) : c.exceptionTable.toList = tableOf hh := by
  obtain ⟨m9, meth9, c9, hn9, h1, h2, -, -, h6, -⟩ := Cond.codeWith_spec h
  cases Option.some.inj (hn9.symm.trans B.named)
  cases Option.some.inj (h1.symm.trans B.method)
  cases Option.some.inj (h2.symm.trans (Stand.of_body B).code)
  rw [← h6, table_eq]
end Bodies
end VXA
/-! ===== END ===== -/
/-! ===== BEGIN a static call of a method with an exception table ===== -/
section VXS
variable {p : Program} {l : Launch} {e : Env} {R : Room} {s : State} {m : MethodId} {args : Array Value} {below : List Frame} {meth : Method} {c : Code} {T : State} {H : Heap} {locs : List Loc} {cells slots : Nat}
abbrev vx_CSW (R : Room) (s : State) (args : Array Value) (own : String) (index : Nat) (y : MethodName) (bytes : ByteArray) (maxL : Nat) (ret : Option FieldType) (hh : List (Nat × Nat × Nat × Nat)) (ws : List Cond) (rm : Room) (mc ms n : Nat) : Prop :=
  (rm.cells = mc ∧ rm.slots = ms ∧ rm.frames + 1 ≤ R.frames ∧ 8 + (maxL + 11) + rm.locals ≤ R.locals ∧ (∀ w ∈ ws, ∀ (a' : Array Value) (U : State), s.WarmedH U.vm → w.before a' U = true) ∧ Cond.codeWith y bytes maxL ret hh ∈ ws) ∧
  (Cond.codeWith y bytes maxL ret hh).before args s = true ∧ (Cond.initialized y.cls).before args s = true ∧ (y.cls ≠ "java/lang/invoke/MethodHandle" ∧ y.cls ≠ "java/lang/invoke/VarHandle") ∧
  (∀ sig, parseMethodDescriptor y.desc = some sig → n = sig.parameters.length) ∧ (Cond.methodLink own index y).before args s = true ∧ (Cond.static y).before args s = true
theorem vx_cwSW {own : String} {index maxL mc ms : Nat} {y : MethodName} {bytes : ByteArray} {ret : Option FieldType} {hh : List (Nat × Nat × Nat × Nat)} {Ts ws ws' : List Cond} {rm : Room} (n : Nat) (ht : ∀ w ∈ Ts, w.before args s = true) (hT : GoodIn Ts (va_wsS own index y ws)) (hw : ws = Cond.codeWith y bytes maxL ret hh :: ws') (hrc : rm.cells = mc) (hrs : rm.slots = ms)
    (hd : y.cls ≠ "java/lang/invoke/MethodHandle" ∧ y.cls ≠ "java/lang/invoke/VarHandle" ∧ (parseMethodDescriptor y.desc).map (fun d => d.parameters.length) = some n) (hR : rm.frames + 1 ≤ R.frames ∧ 8 + (maxL + 11) + rm.locals ≤ R.locals) :
    vx_CSW R s args own index y bytes maxL ret hh ws rm mc ms n := by
  have ok : ∀ w ∈ va_wsS own index y ws, w.before args s = true := fun w h => ht w (hT w h).1
  have hG : GoodIn Ts ws := fun w h => hT w (by unfold va_wsS; exact List.mem_append_right _ h)
  have hc : Cond.codeWith y bytes maxL ret hh ∈ ws := by rw [hw]; exact List.mem_cons_self
  refine ⟨⟨hrc, hrs, hR.1, hR.2, pay_in ht hG, hc⟩, ht _ (hG _ hc).1, ok _ (by simp [va_wsS]), ⟨hd.1, hd.2.1⟩, fun sig h => ?_, ok _ (by simp [va_wsS]), ok _ (by simp [va_wsS])⟩
  have h2 := hd.2.2
  rw [h] at h2
  exact (Option.some.inj h2).symm
theorem vx_callSW (X : Stand p l e R s m args below meth c T locs cells slots) (hexec : p.tables.exec = Jvm.exec) {own : String} {index : Nat} {y : MethodName} {bytes : ByteArray} {maxL : Nat} {ret : Option FieldType} {hh : List (Nat × Nat × Nat × Nat)}
    (hown : s.vm.findClass own = some m.cls) (hlink : (Cond.methodLink own index y).before args s = true) (hstat : (Cond.static y).before args s = true) (hinit : (Cond.initialized y.cls).before args s = true)
    (hcode : (Cond.codeWith y bytes maxL ret hh).before args s = true) (hy : y.cls ≠ "java/lang/invoke/MethodHandle" ∧ y.cls ≠ "java/lang/invoke/VarHandle")
    {W9 : Nat} {Pre : Pt → Array Value → Prop} {Post : Pt → Array Value → Option Value → Pt → Prop} (hK : Back l R p e below s args y 3 W9 Pre Post)
    {g : JFrame} (hg : g.method = m) (hsize : g.locals.size = c.maxLocals) {argsL rest : List Value} (hlen : ∀ sig, parseMethodDescriptor y.desc = some sig → argsL.length = sig.parameters.length)
    (hstack : g.stack = argsL.reverse ++ rest) (hW : 2 * g.monitorRoom + (rest.map fun v => v.category).sum ≤ W9) (hdg : decode c.code g.pc = .ok (.invokestatic index, 3))
    (hpre : ∀ vm₁, s.WarmedH vm₁ → Pre ⟨T.setVm vm₁, locs, cells, slots⟩ argsL.toArray) :
    ∃ (v : Option Value) (vm₁ : Vm) (B : Pt), s.WarmedH vm₁ ∧ Stand p l e R s m args below meth c B.U B.locs B.cells B.slots ∧ Post ⟨T.setVm vm₁, locs, cells, slots⟩ argsL.toArray v B ∧
      ∀ target, Steps p.tables e below (B.U.setTop { g with pc := g.pc + 3, stack := v.toList ++ rest }) target → Steps p.tables e below (T.setTop g) target := by
  obtain ⟨mk, methM, cM, hnamed, hmethM, -, -, -, -, -, -, hsigM⟩ := Cond.codeWith_spec hcode
  have hstatic : methM.isStatic = true := Cond.static_spec hnamed hmethM hstat
  obtain ⟨kP, hkP, -⟩ := className_of_methodNamed hnamed
  have hinitP : kP.init = .initialized := Cond.initialized_spec (findClass_of_methodNamed hnamed) hkP hinit
  obtain ⟨vm₁, X₁, hstep₁⟩ := X.invokestatic hexec hown hlink hnamed hmethM hstatic hkP hinitP hy (g := g) hg (argsL := argsL) (rest := rest) (hlen _ hsigM) hstack hdg
  obtain ⟨v, B, X', hpost, hsteps⟩ := hK m meth c ⟨T.setVm vm₁, locs, cells, slots⟩ { g with stack := rest } (.invokestatic index) mk argsL.toArray X₁ hg hsize hdg hW (X₁.named hnamed) (hpre vm₁ X₁.warmed)
  exact ⟨v, vm₁, B, X₁.warmed, X', hpost, fun target h => hstep₁ _ fun acts => by rw [doInvoke_state]; exact hsteps.trans h⟩
theorem vx_runSW {y : MethodName} {bytes cc : ByteArray} {maxL nL mc ms n index : Nat} {ret : Option FieldType} {hh : List (Nat × Nat × Nat × Nat)} {ws : List Cond} {rm : Room} {Pc : Array Value → State → Prop} {Qc : Array Value → State → Outcome → State → Prop} {free : Addr → Prop} {Ts : List Cond} {own : String} {As rest : List Value} {g : JFrame}
    (S : CallFix p m c cc nL s args Ts own) (hM : Met l y ws rm Pc Qc mc ms free) (cw : vx_CSW R s args own index y bytes maxL ret hh ws rm mc ms n) (hp : PreS s H Pc As)
    (hg : g.method = m) (hn : As.length = n) (hsize : g.locals.size = nL) (hstack : g.stack = As.reverse ++ rest) (hW : 2 * g.monitorRoom + (rest.map fun v => v.category).sum ≤ 8) (hdg : decode cc g.pc = .ok (.invokestatic index, 3)) (hf : cells + mc ≤ R.cells ∧ slots + ms ≤ R.slots) :
    va_Run p l e R s m args below meth c H locs cells slots mc ms g rest (Qc As.toArray) (free) := by
  obtain ⟨⟨hrc, hrs, hfr, hlo, hws, hcw⟩, hcode, hini, hy, hlen, hl, hstt⟩ := cw
  have hK : Back l R p e below s args y 3 8 (PreOf R mc ms Pc) (PostOf Qc mc ms free) := va_backW (hh := hh) (bytes := bytes) (maxL := maxL) (ret := ret) hM hp.1 hrc hrs hfr hlo hws hcw (fun a' U hW => word_at hW (Or.inl (by first | rfl | simp [Cond.onTables, Cond.keeps, Cond.steady])) hini)
  obtain ⟨hx, hb, hml, ho, -⟩ := S
  intro T hT X
  obtain ⟨v, vm₁, ⟨U', l2, c2, s2⟩, hW₁, X', ⟨g', mk, t, L, e1, e2, hq, h1, hL, h2, h3⟩, st⟩ := vx_callSW X hx (hh := hh) (bytes := bytes) (maxL := maxL) (ret := ret) ho hl hstt hini hcode hy hK hg (hsize.trans hml.symm) (argsL := As) (rest := rest) (fun sig h => hn.trans (hlen sig h)) hstack hW (by rw [hb]; exact hdg)
    (fun vm₁ hW₁ => ⟨hf.1, hf.2, hp.2 (T.setVm vm₁) hT hW₁⟩)
  dsimp only [Pt.U, Pt.locs, Pt.cells, Pt.slots] at X' e1 e2 h1 h2 h3 st
  subst h1; subst h2; subst h3
  exact ⟨v, (T.setVm vm₁).calling g' mk As.toArray, t, U', L, hT, X', hL, e1, e2, hq, st⟩
/-- not caught here, past rows that name other classes: it goes on to the caller -/
theorem vx_outP {p : Program} {l : Launch} {e : Env} {R : Room} {s : State} {m : MethodId} {args : Array Value} {below : List Frame} {meth : Method} {c : Code} {H : Heap} {locs : List Loc} {cells slots : Nat} {free : Addr → Prop} {ls : Array Slot} {rest : List Value} {Qc : Array Value → State → Outcome → State → Prop} {XC : String → State → State → Prop}
    {pc : Nat} {own E : String} {ce : Cell} {q : Addr} {mc ms : Nat} (hown : s.vm.findClass own = some m.cls) (hlocks : meth.locks = false)
    (hpass : ∀ z ∈ c.exceptionTable.toList, covers z pc = false ∨ (z.catchType ≠ 0 ∧ ∃ nm : String, (Cond.classLink own z.catchType nm).before args s = true ∧ va_Nc E nm s)) (hcell : H[q]? = some ce) (hv : ce.vm = .none) (hcl : s.vm.findClass E = some ce.cls)
    (hx : ∀ t : State, t.heap = H → s.vm.Alike t.vm → XC E s t) (hf : ∀ z ∈ locs, free z.base) (hc : cells ≤ mc) (hs : slots ≤ ms) :
    vx_W p l e R s m args below meth c H locs cells slots (vx_MQ below Qc XC args s mc ms free) (F0 m pc ls rest) q := by
  intro T hT X
  have hpl : e.platform.magicAccessors = ({} : Platform).magicAccessors := by rw [X.admits.platform]
  obtain ⟨vm', hW', X', st⟩ := X.outThrough hlocks q (g := F0 m pc ls rest) rfl rfl rfl (cell := ce) (by rw [hT]; exact hcell) (by rw [hv]; rfl)
    (by obtain ⟨k9, h9, -⟩ := Vm.findClass_spec hcl; exact ⟨k9, h9⟩) (fun z hz => by
      rcases hpass z hz with h | ⟨hz0, nm, hl1, hn1⟩
      · exact Or.inl h
      · obtain ⟨c6, hc6, hcl6⟩ := Cond.classLink_spec hown hl1 e.platform hpl
        obtain ⟨a8, b8, h1, h2, h3⟩ := hn1
        cases Option.some.inj (h1.symm.trans hcl)
        cases Option.some.inj (h2.symm.trans hc6)
        exact Or.inr ⟨hz0, _, hcl6, h3⟩)
  obtain ⟨g₀, hfr⟩ := X'.frames_eq
  have hcell9 : ((T.setVm vm').setFrames (.throwing q :: below)).heap[q]? = some ce := by
    show T.heap[q]? = some ce
    rw [hT]; exact hcell
  have hend : Ended ((T.setVm vm').setFrames (.throwing q :: below)) below (.threw q) := State.frames_setFrames _ (State.cur_lt_of_frames hfr)
  refine ⟨(T.setVm vm').setFrames (.throwing q :: below), ?_, .threw q, X'.here.running, hend, Or.inr ⟨q, rfl, E, ce, locs, hx _ hT (X'.ends _).1.alike, hcell9, hv, hcl, (X'.ends _).1, (X'.ends _).2.mono hc hs, hf⟩⟩
  rw [X.pushThrowing_eq]
  exact st
/-- a thing of a world lies in the heap -/
theorem vx_lt {D : va_G} {cl : List vw_C} {ws : va_W} {H1 : Heap} (h : va_P D cl ws H1) {k : Nat} {q : Nat × va_E} (hk : ws[k]? = some q) : q.1 < H1.size := (h k q hk).lt
end VXS
/-! ===== END ===== -/
/-! ===== BEGIN methods with a table of their own: called by a name, returning or throwing ===== -/
section VXH
/-! vx_backW, vx_callVX, vx_callSX, vx_callVW, vx_runVW, vx_runVX, vx_runSX, vx_ofWH follow the same proofs as their sisters above (Free/Laws.lean, Shelf42/LK1.lean); vx_outP calls Shelf42/NT130.lean (outThrough). -/
section
variable {l : Launch} {R : Room} {p : Program} {e : Env} {below : List Frame} {s : State} {sargs : Array Value} {y : MethodName} {len W9 : Nat}
theorem vx_backW {ws : List Cond} {rm : Room} {Pc : Array Value → State → Prop} {Qc : Array Value → State → Outcome → State → Prop} {XC : String → State → State → Prop} {mc ms : Nat} {free : Addr → Prop} {bytes : ByteArray} {maxL : Nat} {ret : Option FieldType} {hh : List (Nat × Nat × Nat × Nat)}
    (hM : vx_Met l y ws rm Pc Qc XC mc ms free) (hblind : FrameBlind Pc) (hrc : rm.cells = mc) (hrs : rm.slots = ms)
    (hframes : rm.frames + 1 ≤ R.frames) (hlocals : W9 + (maxL + 11) + rm.locals ≤ R.locals)
    (hws : ∀ w ∈ ws, ∀ a' U, s.WarmedH U.vm → w.before a' U = true) (hcode : Cond.codeWith y bytes maxL ret hh ∈ ws) (hinit : ∀ a' U, s.WarmedH U.vm → (Cond.initialized y.cls).before a' U = true) :
    vx_Back l R p e below s sargs y len W9 (PreOf R mc ms Pc) (PostOf Qc mc ms free) (vx_Post XC mc ms free) := by
  intro m meth c A g ig mk a X hg hsize hdg hW hn hp
  have h1 : (headSpec ws rm).pre.before a A.U = true := atoms_intro fun w hw => hws w hw _ _ X.warmed
  have h2 : (Cond.codeWith y bytes maxL ret hh).before a A.U = true := hws _ hcode _ _ X.warmed
  have h3 : (Cond.initialized y.cls).before a A.U = true := hinit _ _ X.warmed
  have h4 : A.cells + (headSpec ws rm).room.cells ≤ R.cells := by rw [show (headSpec ws rm).room.cells = mc from hrc]; exact hp.1
  have h5 : A.slots + (headSpec ws rm).room.slots ≤ R.slots := by rw [show (headSpec ws rm).room.slots = ms from hrs]; exact hp.2.1
  have hPc : Pc a (A.U.calling g mk a) := hblind _ _ _ _ hp.2.2
  obtain ⟨U, Ls, c0, s0⟩ := A
  dsimp only [Pt.U, Pt.locs, Pt.cells, Pt.slots] at h1 h2 h3 h4 h5 X hn hPc ⊢
  obtain ⟨m9, methY, cY, hn9, hmY, hcY, -, hlY, -⟩ := Cond.codeWith_spec h2
  cases Option.some.inj (hn9.symm.trans hn)
  obtain ⟨kY, hkY, -⟩ := className_of_methodNamed hn
  have hinitY : kY.init = .initialized := Cond.initialized_spec (findClass_of_methodNamed hn) hkY h3
  have h : At U g.method c below := by rw [hg]; exact X.here
  have hlocals9 : W9 + (maxL + 11) + (headSpec ws rm).room.locals ≤ R.locals := hlocals
  have happ : (headSpec ws rm).appliesLoose y e.platform (U.calling g mk a) = true :=
    Spec.appliesLoose_calling (g := g) h hdg hn hkY hinitY
      (X.room_calling (g := g) (R' := (headSpec ws rm).room) hsize hmY hcY hframes (by rw [hlY]; omega) h4 h5) h1
  obtain ⟨mid, hmid⟩ := h.above
  have hfr : (U.setTop g).frames = (.java g :: mid) ++ below := by rw [State.frames_setTop' g h.top, hmid]; rfl
  obtain ⟨o, s₂, hsteps, -, hend, hq⟩ := Steps.callFree hM p X.admits X.cas X.clock (acts := []) hfr happ hPc trivial
  have hq' : vx_Q Qc XC mc ms free a (U.calling g mk a) o s₂ := hq
  rw [State.frames_setTop' g h.top] at hend
  obtain ⟨g₀, hg0⟩ := Option.isSome_iff_exists.mp h.top
  obtain ⟨r, hr⟩ := State.topJava?_eq_some.mp hg0
  have hr' : (({ U with heap := s₂.heap, slotsUsed := s₂.slotsUsed } : State).setVm s₂.vm).frames = .java g₀ :: r := hr
  rcases hq' with ⟨hqc, L, hfe, hL⟩ | ⟨q, rfl, E, ce, L, hx, hce, hcv, hcl, hW₂, hsm, hL⟩
  · obtain ⟨⟨v, rfl⟩, hW₂, e2, q2, q3, q4, q5, q6⟩ := id hfe
    have e3 : s₂ = ({ (U.calling g mk a).setFrames s₂.frames with heap := s₂.heap, slotsUsed := s₂.slotsUsed } : State).setVm s₂.vm := by
      have : s₂ = ({ s₂ with vm := (U.calling g mk a).vm } : State).setVm s₂.vm := rfl
      rw [e2] at this
      exact this
    obtain ⟨c₂, i₂, len₂, hc₂, hd₂, hf₂⟩ := hend
    have hW' : U.WarmedH s₂.vm := hW₂
    have hcc : c₂ = c := by
      have h1 : s₂.code? g.method = U.code? g.method := by
        rw [State.code?_eq, State.code?_eq, hW'.alike.method?]
      exact Option.some.inj (hc₂.symm.trans (h1.trans h.code))
    subst hcc
    have hlen : len₂ = len := by rw [hdg] at hd₂; cases hd₂; rfl
    subst hlen
    have hs₂ : s₂ = (({ U with heap := s₂.heap, slotsUsed := s₂.slotsUsed } : State).setVm s₂.vm).setTop { g with pc := g.pc + len₂, stack := v.toList ++ g.stack } := by
      refine e3.trans ?_
      rw [hf₂, State.calling_eq h.top, State.setFrames_setFrames, State.setTop_of_frames _ hr', hr]
      rfl
    have hsame : U.sameButNew ({ U with heap := s₂.heap, slotsUsed := s₂.slotsUsed } : State) L mc ms := by
      refine ⟨?_, q2, q3, q4, q5, q6⟩
      obtain ⟨t, ht, -⟩ := State.frames_cons hr
      show ({ U with heap := s₂.heap, slotsUsed := s₂.slotsUsed } : State) = { U.setFrames U.frames with heap := s₂.heap, slotsUsed := s₂.slotsUsed }
      rw [State.setFrames_self ht]
    subst hg
    refine Or.inl ⟨v, ⟨(({ U with heap := s₂.heap, slotsUsed := s₂.slotsUsed } : State).setVm s₂.vm), Ls ++ L, c0 + mc, s0 + ms⟩,
      ⟨X.admits, X.cas, X.clock, X.frames, X.room, X.hears, X.method, X.code, (X.here.setHeapUsed s₂.heap s₂.slotsUsed).setVm hW'.alike, X.tail, State.WarmedH.trans X.warmed hW', X.limits, X.bytes, X.same.trans (hsame.setVm s.vm)⟩,
      ⟨g, mk, s₂, L, rfl, rfl, hqc, rfl, hL, rfl, rfl⟩, ?_⟩
    show Steps p.tables e below _ ((({ U with heap := s₂.heap, slotsUsed := s₂.slotsUsed } : State).setVm s₂.vm).setTop { g with pc := g.pc + len₂, stack := v.toList ++ g.stack })
    rw [← hs₂]
    exact hsteps
  · obtain ⟨e2, q2, q3, q4, q5, q6⟩ := id hsm
    have e3 : s₂ = ({ (U.calling g mk a).setFrames s₂.frames with heap := s₂.heap, slotsUsed := s₂.slotsUsed } : State).setVm s₂.vm := by
      have : s₂ = ({ s₂ with vm := (U.calling g mk a).vm } : State).setVm s₂.vm := rfl
      rw [e2] at this
      exact this
    have hf₂ : s₂.frames = .throwing q :: .java g :: U.frames.tail := hend
    have hW' : U.WarmedH s₂.vm := hW₂
    have hs₂ : s₂ = ((({ U with heap := s₂.heap, slotsUsed := s₂.slotsUsed } : State).setVm s₂.vm).setTop g).pushFrame (.throwing q) := by
      refine e3.trans ?_
      rw [hf₂, State.calling_eq h.top, State.setFrames_setFrames, State.pushFrame, State.frames_setTop _ hr', State.setTop_of_frames _ hr', State.setFrames_setFrames, hr]
      rfl
    have hsame : U.sameButNew ({ U with heap := s₂.heap, slotsUsed := s₂.slotsUsed } : State) L mc ms := by
      refine ⟨?_, q2, q3, q4, q5, q6⟩
      obtain ⟨t, ht, -⟩ := State.frames_cons hr
      show ({ U with heap := s₂.heap, slotsUsed := s₂.slotsUsed } : State) = { U.setFrames U.frames with heap := s₂.heap, slotsUsed := s₂.slotsUsed }
      rw [State.setFrames_self ht]
    subst hg
    refine Or.inr ⟨q, ⟨(({ U with heap := s₂.heap, slotsUsed := s₂.slotsUsed } : State).setVm s₂.vm), Ls ++ L, c0 + mc, s0 + ms⟩,
      ⟨X.admits, X.cas, X.clock, X.frames, X.room, X.hears, X.method, X.code, (X.here.setHeapUsed s₂.heap s₂.slotsUsed).setVm hW'.alike, X.tail, State.WarmedH.trans X.warmed hW', X.limits, X.bytes, X.same.trans (hsame.setVm s.vm)⟩,
      ⟨g, mk, s₂, L, E, ce, rfl, rfl, hx, hce, hcv, hcl, rfl, hL, rfl, rfl⟩, ?_⟩
    show Steps p.tables e below _ (((({ U with heap := s₂.heap, slotsUsed := s₂.slotsUsed } : State).setVm s₂.vm).setTop g).pushFrame (.throwing q))
    rw [← hs₂]
    exact hsteps
end
variable {p : Program} {l : Launch} {e : Env} {R : Room} {s : State} {m : MethodId} {args : Array Value} {below : List Frame} {meth : Method} {c : Code} {T : State} {H : Heap} {locs : List Loc} {cells slots : Nat}
theorem vx_callVX (X : Stand p l e R s m args below meth c T locs cells slots) (hexec : p.tables.exec = Jvm.exec) {own C : String} {index : Nat} {y : MethodName} {bytes : ByteArray} {maxL : Nat} {ret : Option FieldType} {hh : List (Nat × Nat × Nat × Nat)}
    (hown : s.vm.findClass own = some m.cls) (hlink : (Cond.methodLink own index y).before args s = true) (hinst : (Cond.instanceMethod y).before args s = true) (hsel : (Cond.selects C y y).before args s = true)
    (hcode : (Cond.codeWith y bytes maxL ret hh).before args s = true) (hy : y.cls ≠ "java/lang/invoke/MethodHandle" ∧ y.cls ≠ "java/lang/invoke/VarHandle")
    {W9 : Nat} {Pre : Pt → Array Value → Prop} {Post : Pt → Array Value → Option Value → Pt → Prop} {PostX : Pt → Array Value → Addr → Pt → Prop} (hK : vx_Back l R p e below s args y 3 W9 Pre Post PostX)
    {b : Addr} {cellB : Cell} (hcell : T.heap[b]? = some cellB) (hobj : cellB.vm.isStatics = false) (hcls : s.vm.findClass C = some cellB.cls)
    {g : JFrame} (hg : g.method = m) (hsize : g.locals.size = c.maxLocals) {argsL rest : List Value} (hlen : ∀ sig, parseMethodDescriptor y.desc = some sig → argsL.length = sig.parameters.length)
    (hstack : g.stack = argsL.reverse ++ .ref b :: rest) (hW : 2 * g.monitorRoom + (rest.map fun v => v.category).sum ≤ W9) (hdg : decode c.code g.pc = .ok (.invokevirtual index, 3))
    (hpre : ∀ vm₁, s.WarmedH vm₁ → Pre ⟨T.setVm vm₁, locs, cells, slots⟩ (Value.ref b :: argsL).toArray) :
    (∃ (v : Option Value) (vm₁ : Vm) (B : Pt), s.WarmedH vm₁ ∧ Stand p l e R s m args below meth c B.U B.locs B.cells B.slots ∧ Post ⟨T.setVm vm₁, locs, cells, slots⟩ (Value.ref b :: argsL).toArray v B ∧
      ∀ target, Steps p.tables e below (B.U.setTop { g with pc := g.pc + 3, stack := v.toList ++ rest }) target → Steps p.tables e below (T.setTop g) target) ∨
    (∃ (q : Addr) (vm₁ : Vm) (B : Pt), s.WarmedH vm₁ ∧ Stand p l e R s m args below meth c B.U B.locs B.cells B.slots ∧ PostX ⟨T.setVm vm₁, locs, cells, slots⟩ (Value.ref b :: argsL).toArray q B ∧
      Steps p.tables e below (T.setTop g) ((B.U.setTop { g with stack := rest }).pushFrame (.throwing q))) := by
  obtain ⟨mk, methM, hnamed, hmethM, hstM, habM⟩ := Cond.instanceMethod_spec hinst
  obtain ⟨m8, methM', cM, hn8, hmethM', -, -, -, -, -, -, hsigM⟩ := Cond.codeWith_spec hcode
  cases Option.some.inj (hn8.symm.trans hnamed)
  cases hmethM.symm.trans hmethM'
  obtain ⟨c2, r2, m2, q1, q2, q3, q4, kP, hkP, hkPi⟩ := Cond.selects_spec hsel
  cases hcls.symm.trans q1
  cases (State.methodFound?_of_named hnamed hy).symm.trans q2
  cases hnamed.symm.trans q3
  have hselP : selectMethod e.platform s.vm cellB.cls mk = .method mk := by rw [Launch.admits_selectMethod X.admits]; exact q4
  obtain ⟨vm₁, X₁, hstep₁⟩ := X.invokevirtual hexec hown hlink hnamed hmethM hstM hkP hkPi hy (a := b) (cell := cellB) hcell
    (fun z h => by rw [h] at hobj; cases hobj) hselP hmethM habM hkP hkPi (g := g) hg (argsL := argsL) (rest := rest) (hlen _ hsigM) hstack hdg
  rcases hK m meth c ⟨T.setVm vm₁, locs, cells, slots⟩ { g with stack := rest } (.invokevirtual index) mk (Value.ref b :: argsL).toArray X₁ hg hsize hdg hW (X₁.named hnamed) (hpre vm₁ X₁.warmed) with ⟨v, B, X', hpost, hsteps⟩ | ⟨q, B, X', hpost, hsteps⟩
  · exact Or.inl ⟨v, vm₁, B, X₁.warmed, X', hpost, fun target h => hstep₁ _ fun acts => by rw [doInvoke_state]; exact hsteps.trans h⟩
  · exact Or.inr ⟨q, vm₁, B, X₁.warmed, X', hpost, hstep₁ _ fun acts => by rw [doInvoke_state]; exact hsteps⟩
theorem vx_callSX (X : Stand p l e R s m args below meth c T locs cells slots) (hexec : p.tables.exec = Jvm.exec) {own : String} {index : Nat} {y : MethodName} {bytes : ByteArray} {maxL : Nat} {ret : Option FieldType} {hh : List (Nat × Nat × Nat × Nat)}
    (hown : s.vm.findClass own = some m.cls) (hlink : (Cond.methodLink own index y).before args s = true) (hstat : (Cond.static y).before args s = true) (hinit : (Cond.initialized y.cls).before args s = true)
    (hcode : (Cond.codeWith y bytes maxL ret hh).before args s = true) (hy : y.cls ≠ "java/lang/invoke/MethodHandle" ∧ y.cls ≠ "java/lang/invoke/VarHandle")
    {W9 : Nat} {Pre : Pt → Array Value → Prop} {Post : Pt → Array Value → Option Value → Pt → Prop} {PostX : Pt → Array Value → Addr → Pt → Prop} (hK : vx_Back l R p e below s args y 3 W9 Pre Post PostX)
    {g : JFrame} (hg : g.method = m) (hsize : g.locals.size = c.maxLocals) {argsL rest : List Value} (hlen : ∀ sig, parseMethodDescriptor y.desc = some sig → argsL.length = sig.parameters.length)
    (hstack : g.stack = argsL.reverse ++ rest) (hW : 2 * g.monitorRoom + (rest.map fun v => v.category).sum ≤ W9) (hdg : decode c.code g.pc = .ok (.invokestatic index, 3))
    (hpre : ∀ vm₁, s.WarmedH vm₁ → Pre ⟨T.setVm vm₁, locs, cells, slots⟩ argsL.toArray) :
    (∃ (v : Option Value) (vm₁ : Vm) (B : Pt), s.WarmedH vm₁ ∧ Stand p l e R s m args below meth c B.U B.locs B.cells B.slots ∧ Post ⟨T.setVm vm₁, locs, cells, slots⟩ argsL.toArray v B ∧
      ∀ target, Steps p.tables e below (B.U.setTop { g with pc := g.pc + 3, stack := v.toList ++ rest }) target → Steps p.tables e below (T.setTop g) target) ∨
    (∃ (q : Addr) (vm₁ : Vm) (B : Pt), s.WarmedH vm₁ ∧ Stand p l e R s m args below meth c B.U B.locs B.cells B.slots ∧ PostX ⟨T.setVm vm₁, locs, cells, slots⟩ argsL.toArray q B ∧
      Steps p.tables e below (T.setTop g) ((B.U.setTop { g with stack := rest }).pushFrame (.throwing q))) := by
  obtain ⟨mk, methM, cM, hnamed, hmethM, -, -, -, -, -, -, hsigM⟩ := Cond.codeWith_spec hcode
  have hstatic : methM.isStatic = true := Cond.static_spec hnamed hmethM hstat
  obtain ⟨kP, hkP, -⟩ := className_of_methodNamed hnamed
  have hinitP : kP.init = .initialized := Cond.initialized_spec (findClass_of_methodNamed hnamed) hkP hinit
  obtain ⟨vm₁, X₁, hstep₁⟩ := X.invokestatic hexec hown hlink hnamed hmethM hstatic hkP hinitP hy (g := g) hg (argsL := argsL) (rest := rest) (hlen _ hsigM) hstack hdg
  rcases hK m meth c ⟨T.setVm vm₁, locs, cells, slots⟩ { g with stack := rest } (.invokestatic index) mk argsL.toArray X₁ hg hsize hdg hW (X₁.named hnamed) (hpre vm₁ X₁.warmed) with ⟨v, B, X', hpost, hsteps⟩ | ⟨q, B, X', hpost, hsteps⟩
  · exact Or.inl ⟨v, vm₁, B, X₁.warmed, X', hpost, fun target h => hstep₁ _ fun acts => by rw [doInvoke_state]; exact hsteps.trans h⟩
  · exact Or.inr ⟨q, vm₁, B, X₁.warmed, X', hpost, hstep₁ _ fun acts => by rw [doInvoke_state]; exact hsteps⟩
theorem vx_callVW (X : Stand p l e R s m args below meth c T locs cells slots) (hexec : p.tables.exec = Jvm.exec) {own C : String} {index : Nat} {y : MethodName} {bytes : ByteArray} {maxL : Nat} {ret : Option FieldType} {hh : List (Nat × Nat × Nat × Nat)}
    (hown : s.vm.findClass own = some m.cls) (hlink : (Cond.methodLink own index y).before args s = true) (hinst : (Cond.instanceMethod y).before args s = true) (hsel : (Cond.selects C y y).before args s = true)
    (hcode : (Cond.codeWith y bytes maxL ret hh).before args s = true) (hy : y.cls ≠ "java/lang/invoke/MethodHandle" ∧ y.cls ≠ "java/lang/invoke/VarHandle")
    {W9 : Nat} {Pre : Pt → Array Value → Prop} {Post : Pt → Array Value → Option Value → Pt → Prop} (hK : Back l R p e below s args y 3 W9 Pre Post)
    {b : Addr} {cellB : Cell} (hcell : T.heap[b]? = some cellB) (hobj : cellB.vm.isStatics = false) (hcls : s.vm.findClass C = some cellB.cls)
    {g : JFrame} (hg : g.method = m) (hsize : g.locals.size = c.maxLocals) {argsL rest : List Value} (hlen : ∀ sig, parseMethodDescriptor y.desc = some sig → argsL.length = sig.parameters.length)
    (hstack : g.stack = argsL.reverse ++ .ref b :: rest) (hW : 2 * g.monitorRoom + (rest.map fun v => v.category).sum ≤ W9) (hdg : decode c.code g.pc = .ok (.invokevirtual index, 3))
    (hpre : ∀ vm₁, s.WarmedH vm₁ → Pre ⟨T.setVm vm₁, locs, cells, slots⟩ (Value.ref b :: argsL).toArray) :
    ∃ (v : Option Value) (vm₁ : Vm) (B : Pt), s.WarmedH vm₁ ∧ Stand p l e R s m args below meth c B.U B.locs B.cells B.slots ∧ Post ⟨T.setVm vm₁, locs, cells, slots⟩ (Value.ref b :: argsL).toArray v B ∧
      ∀ target, Steps p.tables e below (B.U.setTop { g with pc := g.pc + 3, stack := v.toList ++ rest }) target → Steps p.tables e below (T.setTop g) target := by
  obtain ⟨mk, methM, hnamed, hmethM, hstM, habM⟩ := Cond.instanceMethod_spec hinst
  obtain ⟨m8, methM', cM, hn8, hmethM', -, -, -, -, -, -, hsigM⟩ := Cond.codeWith_spec hcode
  cases Option.some.inj (hn8.symm.trans hnamed)
  cases hmethM.symm.trans hmethM'
  obtain ⟨c2, r2, m2, q1, q2, q3, q4, kP, hkP, hkPi⟩ := Cond.selects_spec hsel
  cases hcls.symm.trans q1
  cases (State.methodFound?_of_named hnamed hy).symm.trans q2
  cases hnamed.symm.trans q3
  have hselP : selectMethod e.platform s.vm cellB.cls mk = .method mk := by rw [Launch.admits_selectMethod X.admits]; exact q4
  obtain ⟨vm₁, X₁, hstep₁⟩ := X.invokevirtual hexec hown hlink hnamed hmethM hstM hkP hkPi hy (a := b) (cell := cellB) hcell
    (fun z h => by rw [h] at hobj; cases hobj) hselP hmethM habM hkP hkPi (g := g) hg (argsL := argsL) (rest := rest) (hlen _ hsigM) hstack hdg
  obtain ⟨v, B, X', hpost, hsteps⟩ := hK m meth c ⟨T.setVm vm₁, locs, cells, slots⟩ { g with stack := rest } (.invokevirtual index) mk (Value.ref b :: argsL).toArray X₁ hg hsize hdg hW (X₁.named hnamed) (hpre vm₁ X₁.warmed)
  exact ⟨v, vm₁, B, X₁.warmed, X', hpost, fun target h => hstep₁ _ fun acts => by rw [doInvoke_state]; exact hsteps.trans h⟩
abbrev vx_CVW (R : Room) (s : State) (args : Array Value) (own C : String) (index : Nat) (y : MethodName) (bytes : ByteArray) (maxL : Nat) (ret : Option FieldType) (hh : List (Nat × Nat × Nat × Nat)) (ws : List Cond) (rm : Room) (mc ms n : Nat) : Prop :=
  (rm.cells = mc ∧ rm.slots = ms ∧ rm.frames + 1 ≤ R.frames ∧ 8 + (maxL + 11) + rm.locals ≤ R.locals ∧ (∀ w ∈ ws, ∀ (a' : Array Value) (U : State), s.WarmedH U.vm → w.before a' U = true) ∧ Cond.codeWith y bytes maxL ret hh ∈ ws) ∧
  (Cond.codeWith y bytes maxL ret hh).before args s = true ∧ (Cond.initialized y.cls).before args s = true ∧ (y.cls ≠ "java/lang/invoke/MethodHandle" ∧ y.cls ≠ "java/lang/invoke/VarHandle") ∧
  (∀ sig, parseMethodDescriptor y.desc = some sig → n = sig.parameters.length) ∧ (Cond.methodLink own index y).before args s = true ∧ (Cond.instanceMethod y).before args s = true ∧ (Cond.selects C y y).before args s = true
theorem vx_cwVW {own C : String} {index maxL mc ms : Nat} {y : MethodName} {bytes : ByteArray} {ret : Option FieldType} {hh : List (Nat × Nat × Nat × Nat)} {Ts ws ws' : List Cond} {rm : Room} (n : Nat) (ht : ∀ w ∈ Ts, w.before args s = true) (hT : GoodIn Ts (wsV own index C y ws)) (hw : ws = Cond.codeWith y bytes maxL ret hh :: ws') (hrc : rm.cells = mc) (hrs : rm.slots = ms)
    (hd : y.cls = C ∧ y.cls ≠ "java/lang/invoke/MethodHandle" ∧ y.cls ≠ "java/lang/invoke/VarHandle" ∧ (parseMethodDescriptor y.desc).map (fun d => d.parameters.length) = some n) (hR : rm.frames + 1 ≤ R.frames ∧ 8 + (maxL + 11) + rm.locals ≤ R.locals) :
    vx_CVW R s args own C index y bytes maxL ret hh ws rm mc ms n := by
  obtain ⟨hC, hd⟩ := hd
  subst hC
  have ok : ∀ w ∈ wsV own index y.cls y ws, w.before args s = true := fun w h => ht w (hT w h).1
  have hG : GoodIn Ts ws := fun w h => hT w (by unfold wsV; exact List.mem_append_right _ h)
  have hc : Cond.codeWith y bytes maxL ret hh ∈ ws := by rw [hw]; exact List.mem_cons_self
  refine ⟨⟨hrc, hrs, hR.1, hR.2, pay_in ht hG, hc⟩, ht _ (hG _ hc).1, ok _ (by simp [wsV]), ⟨hd.1, hd.2.1⟩, fun sig h => ?_, ok _ (by simp [wsV]), ok _ (by simp [wsV]), ok _ (by simp [wsV])⟩
  have h2 := hd.2.2
  rw [h] at h2
  exact (Option.some.inj h2).symm
theorem vx_runVW {y : MethodName} {bytes cc : ByteArray} {maxL nL mc ms n index : Nat} {ret : Option FieldType} {hh : List (Nat × Nat × Nat × Nat)} {ws : List Cond} {rm : Room} {Pc : Array Value → State → Prop} {Qc : Array Value → State → Outcome → State → Prop} {free : Addr → Prop} {Ts : List Cond} {own C : String} {b : Addr} {As rest : List Value} {g : JFrame}
    (S : CallFix p m c cc nL s args Ts own) (hM : Met l y ws rm Pc Qc mc ms free) (cw : vx_CVW R s args own C index y bytes maxL ret hh ws rm mc ms n) (hp : PreV s H C b Pc As)
    (hg : g.method = m) (hn : As.length = n) (hsize : g.locals.size = nL) (hstack : g.stack = As.reverse ++ .ref b :: rest) (hW : 2 * g.monitorRoom + (rest.map fun v => v.category).sum ≤ 8) (hdg : decode cc g.pc = .ok (.invokevirtual index, 3)) (hf : cells + mc ≤ R.cells ∧ slots + ms ≤ R.slots) :
    va_Run p l e R s m args below meth c H locs cells slots mc ms g rest (Qc (Value.ref b :: As).toArray) free := by
  obtain ⟨⟨hrc, hrs, hfr, hlo, hws, hcw⟩, hcode, hini, hy, hlen, hl, hin, hse⟩ := cw
  have hK : Back l R p e below s args y 3 8 (PreOf R mc ms Pc) (PostOf Qc mc ms free) := va_backW (hh := hh) (bytes := bytes) (maxL := maxL) (ret := ret) hM hp.1 hrc hrs hfr hlo hws hcw (fun a' U hW => word_at hW (Or.inl (by first | rfl | simp [Cond.onTables, Cond.keeps, Cond.steady])) hini)
  obtain ⟨hx, hb, hml, ho, -⟩ := S
  obtain ⟨-, ⟨cellB, hcB, hoB, hclB⟩, hPc⟩ := hp
  intro T hT X
  obtain ⟨v, vm₁, ⟨U', l2, c2, s2⟩, hW₁, X', ⟨g', mk, t, L, e1, e2, hq, h1, hL, h2, h3⟩, st⟩ := vx_callVW X hx (C := C) (hh := hh) (bytes := bytes) (maxL := maxL) (ret := ret) ho hl hin hse hcode hy hK (by rw [hT]; exact hcB) hoB hclB hg (hsize.trans hml.symm) (argsL := As) (rest := rest) (fun sig h => hn.trans (hlen sig h)) hstack hW (by rw [hb]; exact hdg)
    (fun vm₁ hW₁ => ⟨hf.1, hf.2, hPc (T.setVm vm₁) hT hW₁⟩)
  dsimp only [Pt.U, Pt.locs, Pt.cells, Pt.slots] at X' e1 e2 h1 h2 h3 st
  subst h1; subst h2; subst h3
  exact ⟨v, (T.setVm vm₁).calling g' mk (Value.ref b :: As).toArray, t, U', L, hT, X', hL, e1, e2, hq, st⟩
section
variable {y : MethodName} {bytes cc : ByteArray} {maxL nL mc ms n index : Nat} {ret : Option FieldType} {ws : List Cond} {rm : Room} {Pc : Array Value → State → Prop} {Qc : Array Value → State → Outcome → State → Prop} {XC : String → State → State → Prop} {free : Addr → Prop} {Ts : List Cond} {own C : String} {b : Addr} {As rest : List Value} {g : JFrame}
theorem vx_runVX {hh : List (Nat × Nat × Nat × Nat)} (S : CallFix p m c cc nL s args Ts own) (hM : vx_Met l y ws rm Pc Qc XC mc ms free) (cw : vx_CVW R s args own C index y bytes maxL ret hh ws rm mc ms n) (hp : PreV s H C b Pc As)
    (hg : g.method = m) (hn : As.length = n) (hsize : g.locals.size = nL) (hstack : g.stack = As.reverse ++ .ref b :: rest) (hW : 2 * g.monitorRoom + (rest.map fun v => v.category).sum ≤ 8) (hdg : decode cc g.pc = .ok (.invokevirtual index, 3)) (hf : cells + mc ≤ R.cells ∧ slots + ms ≤ R.slots) :
    vx_Run p l e R s m args below meth c H locs cells slots mc ms g rest (Qc (Value.ref b :: As).toArray) XC free := by
  obtain ⟨⟨hrc, hrs, hfr, hlo, hws, hcw⟩, hcode, hini, hy, hlen, hl, hin, hse⟩ := cw
  have hK : vx_Back l R p e below s args y 3 8 (PreOf R mc ms Pc) (PostOf Qc mc ms free) (vx_Post XC mc ms free) := vx_backW (hh := hh) (bytes := bytes) (maxL := maxL) (ret := ret) hM hp.1 hrc hrs hfr hlo hws hcw (fun a' U hW => word_at hW (Or.inl (by first | rfl | simp [Cond.onTables, Cond.keeps, Cond.steady])) hini)
  obtain ⟨hx, hb, hml, ho, -⟩ := S
  obtain ⟨-, ⟨cellB, hcB, hoB, hclB⟩, hPc⟩ := hp
  intro T hT X
  rcases vx_callVX X hx (C := C) (hh := hh) (bytes := bytes) (maxL := maxL) (ret := ret) ho hl hin hse hcode hy hK (by rw [hT]; exact hcB) hoB hclB hg (hsize.trans hml.symm) (argsL := As) (rest := rest) (fun sig h => hn.trans (hlen sig h)) hstack hW (by rw [hb]; exact hdg)
    (fun vm₁ hW₁ => ⟨hf.1, hf.2, hPc (T.setVm vm₁) hT hW₁⟩) with ⟨v, vm₁, ⟨U', l2, c2, s2⟩, hW₁, X', ⟨g', mk, t, L, e1, e2, hq, h1, hL, h2, h3⟩, st⟩ | ⟨q, vm₁, ⟨U', l2, c2, s2⟩, hW₁, X', ⟨g', mk, t, L, E, ce, e1, e2, hq, hce, hcv, hcl, h1, hL, h2, h3⟩, st⟩
  · dsimp only [Pt.U, Pt.locs, Pt.cells, Pt.slots] at X' e1 e2 h1 h2 h3 st
    subst h1; subst h2; subst h3
    exact Or.inl ⟨v, (T.setVm vm₁).calling g' mk (Value.ref b :: As).toArray, t, U', L, hT, X', hL, e1, e2, hq, st⟩
  · dsimp only [Pt.U, Pt.locs, Pt.cells, Pt.slots] at X' e1 e2 h1 h2 h3 st hcl
    subst h1; subst h2; subst h3
    exact Or.inr ⟨q, (T.setVm vm₁).calling g' mk (Value.ref b :: As).toArray, t, U', L, E, ce, hT, X', hL, e1, e2, hq, hce, hcv, vx_cls hW₁ hcl, st⟩
theorem vx_runSX {hh : List (Nat × Nat × Nat × Nat)} (S : CallFix p m c cc nL s args Ts own) (hM : vx_Met l y ws rm Pc Qc XC mc ms free) (cw : vx_CSW R s args own index y bytes maxL ret hh ws rm mc ms n) (hp : PreS s H Pc As)
    (hg : g.method = m) (hn : As.length = n) (hsize : g.locals.size = nL) (hstack : g.stack = As.reverse ++ rest) (hW : 2 * g.monitorRoom + (rest.map fun v => v.category).sum ≤ 8) (hdg : decode cc g.pc = .ok (.invokestatic index, 3)) (hf : cells + mc ≤ R.cells ∧ slots + ms ≤ R.slots) :
    vx_Run p l e R s m args below meth c H locs cells slots mc ms g rest (Qc As.toArray) XC free := by
  obtain ⟨⟨hrc, hrs, hfr, hlo, hws, hcw⟩, hcode, hini, hy, hlen, hl, hstt⟩ := cw
  have hK : vx_Back l R p e below s args y 3 8 (PreOf R mc ms Pc) (PostOf Qc mc ms free) (vx_Post XC mc ms free) := vx_backW (hh := hh) (bytes := bytes) (maxL := maxL) (ret := ret) hM hp.1 hrc hrs hfr hlo hws hcw (fun a' U hW => word_at hW (Or.inl (by first | rfl | simp [Cond.onTables, Cond.keeps, Cond.steady])) hini)
  obtain ⟨hx, hb, hml, ho, -⟩ := S
  intro T hT X
  rcases vx_callSX X hx (hh := hh) (bytes := bytes) (maxL := maxL) (ret := ret) ho hl hstt hini hcode hy hK hg (hsize.trans hml.symm) (argsL := As) (rest := rest) (fun sig h => hn.trans (hlen sig h)) hstack hW (by rw [hb]; exact hdg)
    (fun vm₁ hW₁ => ⟨hf.1, hf.2, hp.2 (T.setVm vm₁) hT hW₁⟩) with ⟨v, vm₁, ⟨U', l2, c2, s2⟩, hW₁, X', ⟨g', mk, t, L, e1, e2, hq, h1, hL, h2, h3⟩, st⟩ | ⟨q, vm₁, ⟨U', l2, c2, s2⟩, hW₁, X', ⟨g', mk, t, L, E, ce, e1, e2, hq, hce, hcv, hcl, h1, hL, h2, h3⟩, st⟩
  · dsimp only [Pt.U, Pt.locs, Pt.cells, Pt.slots] at X' e1 e2 h1 h2 h3 st
    subst h1; subst h2; subst h3
    exact Or.inl ⟨v, (T.setVm vm₁).calling g' mk As.toArray, t, U', L, hT, X', hL, e1, e2, hq, st⟩
  · dsimp only [Pt.U, Pt.locs, Pt.cells, Pt.slots] at X' e1 e2 h1 h2 h3 st hcl
    subst h1; subst h2; subst h3
    exact Or.inr ⟨q, (T.setVm vm₁).calling g' mk As.toArray, t, U', L, E, ce, hT, X', hL, e1, e2, hq, hce, hcv, vx_cls hW₁ hcl, st⟩
end
end VXH
theorem vx_ofWH {l : Launch} {y : MethodName} {ws ws' : List Cond} {rm : Room} {Pc : Array Value → State → Prop} {Qc : Array Value → State → Outcome → State → Prop} {XC : String → State → State → Prop} {mc ms : Nat} {free : Addr → Prop} {cc : ByteArray} {maxL : Nat} {ret : Option FieldType} {hh : List (Nat × Nat × Nat × Nat)}
    (hy : plainName y.cls = true) (hw : ws = Cond.codeWith y cc maxL ret hh :: ws')
    (body : ∀ p e s m args below meth c s₁, BodyLoose p l y (headSpec ws rm) cc maxL ret e s m args below meth c s₁ → c.maxLocals = maxL → Pc args s →
      W p l e (headSpec ws rm).room s m args below meth c s.heap [] 0 0 (vx_MQ below Qc XC args s mc ms free) (entryFrame m args maxL)) : vx_Met l y ws rm Pc Qc XC mc ms free := by
  refine MetFree.of_bodyS (code := cc) (maxLocals := maxL) (ret := ret) hy ?_ ?_
  · intro args s m h hn
    obtain ⟨m9, meth, c, hn9, h1, h2, h3, h4, -, h5, h6, -⟩ := Cond.codeWith_spec (atoms_spec (ws := ws) h _ (by rw [hw]; exact List.mem_cons_self))
    cases hn.symm.trans hn9
    exact ⟨meth, c, h1, h2, h3, h4, h5, h6⟩
  · intro p e s m args below meth c s₁ B hml hP _
    have hh0 : s₁.heap = s.heap := by rw [B.state]; rfl
    obtain ⟨t, a1, o, b1, b2, b3⟩ := body p e s m args below meth c s₁ B hml hP s₁ hh0 (Stand.of_body B)
    exact ⟨t, o, a1, b1, b2, b3⟩
/-! ===== END ===== -/
end
section
section GXC
variable {p : Program} {l : Launch} {e : Env} {R : Room} {s : State} {m₀ : MethodId} {args : Array Value} {below : List Frame} {meth : Method} {c : Code} {W : State} {locs : List Loc} {cells slots : Nat}
set_option maxHeartbeats 1000000 in
theorem gx_ctor (X : Stand p l e R s m₀ args below meth c W locs cells slots) (hexec : p.tables.exec = Jvm.exec) (htr : e.platform.stackTraces = false) {own cls : String} {names : List String} {ic ix : Nat} {rx : ByteArray}
    (x0 : decode rx 0 = .ok (.aload_n 0, 1)) (x1 : decode rx 1 = .ok (.aload_n 1, 1)) (x2 : decode rx 2 = .ok (.invokespecial ix, 3)) (x5 : decode rx 5 = .ok (.return_, 1))
    (hown : s.vm.findClass own = some m₀.cls) (hcls : Bundle.fit cls = true) (hnames : ∀ n ∈ names, Bundle.fit n = true)
    (h : ∀ a ∈ Bundle.ownAtomsX own ic cls ix rx names, a.before args s = true)
    (hlocs : ∀ x ∈ locs, ∀ cell, s.heap[x.base]? = some cell → cell.vm.isStatics = false)
    {a : Addr} {cX : ClassId} {kX : Class} (hfoundX : s.vm.findClass cls = some cX) (hkX : s.vm.classes[cX]? = some kX) (hcell : W.heap[a]? = some (freshCell cX kX)) (hnew : s.heap.size ≤ a)
    {msg : Value} (hmsg : msg.isRef = true)
    {g : JFrame} (hg : g.method = m₀) (hsize : g.locals.size = c.maxLocals) (hlocked : g.locked = none) (hentered : g.entered = []) {rest : List Value} (hstack : g.stack = msg :: .ref a :: .ref a :: rest)
    (hd6 : decode c.code g.pc = .ok (.invokespecial ic, 3)) (hd9 : decode c.code (g.pc + 3) = .ok (.athrow, 1)) (hout : ∀ x ∈ c.exceptionTable.toList, covers x (g.pc + 3) = false)
    (hRframes : names.length + 3 < R.frames) (hRlocals : 2 * g.monitorRoom + ((Value.ref a :: rest).map fun v => v.category).sum + (13 * (names.length + 1) + 42) ≤ R.locals) (hlocks : meth.locks = false := by first | assumption | exact BodyLoose.notSynchronized (by assumption) | exact Body.notSynchronized (by assumption)) :
    ∃ U : State, Steps p.tables e below (W.setTop g) U ∧ U.status = .running ∧ Ended U below (.threw a) ∧ s.WarmedH U.vm ∧ s.sameButNew ({ U with vm := s.vm } : State) locs cells slots ∧
      ∃ ce, U.heap[a]? = some ce ∧ ce.vm = .none ∧ s.vm.findClass cls = some ce.cls := by
  have howns : e.platform.frameOwnsMonitors = true := by rw [X.admits.platform]
  have hfin : e.platform.finalization = false := by rw [X.admits.platform]
  have hpl : e.platform.magicAccessors = ({} : Platform).magicAccessors := by rw [X.admits.platform]
  have a' : ∀ x, x ∈ Bundle.ownAtomsX own ic cls ix rx names → x.holds args s none s [] = true := fun x hx => h x hx
  obtain ⟨T, Z0, L, -, Y⟩ := ThrowableC.of_atoms (args := args) howns hfin hpl (fun x hx => h x (by simp [Bundle.ownAtomsX, hx]))
  obtain ⟨Z, M, LZ, LM, hnZ⟩ := Init0T.ofS_atoms (args := args) hpl L Y (fun x hx => h x (by simp [Bundle.ownAtomsX, hx]))
  obtain ⟨P1, Ps, hlen, L1, hL, hP1m, hlink1, hlink⟩ := Bundle.chainSX (args := args) hpl hnZ x0 x1 x2 x5 names cls hcls hnames (fun x hx => h x (by simp [Bundle.ownAtomsX, hx]))
  have hfound : s.vm.findClass cls = some P1.m.cls := findClass_of_methodNamed hP1m
  cases Option.some.inj (hfoundX.symm.trans hfound)
  obtain ⟨c1, kX', hc1, hk, hord, -, -, hn6⟩ := Cond.instantiable_spec (a' (.instantiable cls 6) (by simp [Bundle.ownAtomsX]))
  cases Option.some.inj (hc1.symm.trans hfound)
  cases Option.some.inj (hkX.symm.trans hk)
  have hsel0 : selectMethod e.platform s.vm P1.m.cls T.fill0 = .method T.fill0 := by
    obtain ⟨c2, r2, m2, q1, q2, q3, q4, -⟩ := Cond.selects_spec (a' (.selects cls Bundle.tFill0 Bundle.tFill0) (by simp [Bundle.ownAtomsX]))
    cases Option.some.inj (q1.symm.trans hfound)
    cases Option.some.inj (q2.symm.trans (State.methodFound?_of_named Y.fill0 (by decide)))
    cases Option.some.inj (q3.symm.trans Y.fill0)
    rw [Launch.admits_selectMethod X.admits]; exact q4
  have hselF : selectMethod e.platform s.vm P1.m.cls T.fill = .method T.fill := by
    obtain ⟨c2, r2, m2, q1, q2, q3, q4, -⟩ := Cond.selects_spec (a' (.selects cls Bundle.tFill Bundle.tFill) (by simp [Bundle.ownAtomsX]))
    cases Option.some.inj (q1.symm.trans hfound)
    cases Option.some.inj (q2.symm.trans (State.methodFound?_of_named Y.fill (by decide)))
    cases Option.some.inj (q3.symm.trans Y.fill)
    rw [Launch.admits_selectMethod X.admits]; exact q4
  obtain ⟨cellS0, hcS0, hiss⟩ := Y.statics
  obtain ⟨u0, hu0⟩ := Cond.staticRefV Y.unassigned L.unassignedStatic L.statics hcS0 hiss (a' (.isRef (.static Bundle.tN "UNASSIGNED_STACK" Bundle.steD)) (by simp [Bundle.ownAtomsX]))
  obtain ⟨sen, hsen⟩ := Cond.staticRefV Y.sentinel L.sentinelStatic L.statics hcS0 hiss (a' (.isRef (.static Bundle.tN "SUPPRESSED_SENTINEL" Bundle.listD)) (by simp [Bundle.ownAtomsX]))
  obtain ⟨ci198, i198, fB, hk198, hg198, ha198, hsB, -, hnB, htB, hffB⟩ := Cond.ownField (t := .object "java/lang/Object") Y.found L.cls (by decide +kernel) (a' (.fieldLink Bundle.tN 198 Bundle.tN "backtrace" "Ljava/lang/Object;") (by simp [Bundle.ownAtomsX])) (a' (.lays Bundle.tN Bundle.tN "backtrace" "Ljava/lang/Object;") (by simp [Bundle.ownAtomsX])) e.platform hpl
  obtain ⟨cellS, hcS', heS, -, hkeep⟩ := X.same.2.2.2.2.2 T.aS cellS0 hcS0
  have hcellS : W.heap[T.aS]? = some cellS := hcS'
  have hout' : ∀ i, (⟨T.aS, i⟩ : Loc) ∉ locs := fun i hmem => by
    have := hlocs _ hmem cellS0 hcS0
    rw [hiss] at this; cases this
  have hknownS : cellS.vm ≠ .unknown := by
    rw [heS]; intro hu
    rw [show cellS0.vm = .unknown from hu] at hiss
    cases hiss
  have hneS : T.aS ≠ a := Nat.ne_of_lt (Nat.lt_of_lt_of_le (Array.getElem?_eq_some_iff.mp hcS0).1 hnew)
  obtain ⟨iM, hffM⟩ := Y.msg
  obtain ⟨tyC, dC, hdC, hdnC⟩ := Cond.laysAt hfound hk Y.cause (a' (.lays cls Bundle.tN "cause" "Ljava/lang/Throwable;") (by simp [Bundle.ownAtomsX]))
  obtain ⟨tyS, dS, hdS, hdnS⟩ := Cond.laysAt hfound hk Y.stack (a' (.lays cls Bundle.tN "stackTrace" Bundle.steD) (by simp [Bundle.ownAtomsX]))
  obtain ⟨tyP, dP, hdP, hdnP⟩ := Cond.laysAt hfound hk Y.supp (a' (.lays cls Bundle.tN "suppressedExceptions" Bundle.listD) (by simp [Bundle.ownAtomsX]))
  obtain ⟨tyM, dM, hdM, hdnM⟩ := Cond.laysAt hfound hk hffM (a' (.lays cls Bundle.tN "detailMessage" "Ljava/lang/String;") (by simp [Bundle.ownAtomsX]))
  obtain ⟨tyB, dB, hdB, hdnB⟩ := Cond.laysAt hfound hk hffB (a' (.lays cls Bundle.tN "backtrace" "Ljava/lang/Object;") (by simp [Bundle.ownAtomsX]))
  have bC := Cond.laysApart hdB hdC hdnB hdnC (by rw [hnB, Y.causeName]; decide)
  have bS := Cond.laysApart hdB hdS hdnB hdnS (by rw [hnB, Y.stackName]; decide)
  have bP := Cond.laysApart hdB hdP hdnB hdnP (by rw [hnB, Y.suppName]; decide)
  have hskip : SkipFacts T e.platform s (fun u => u) u0 ((preparedCellV T.toThrowableT (freshCell P1.m.cls kX) a u0 sen).withEntry W.cur) :=
    ⟨{ ci198 := ci198, i198 := i198, fBack := fB }, ⟨hk198, hg198, ha198, hsB⟩, by
      have := fresh_default (c := P1.m.cls) tyB
      rw [htB] at this
      simpa [preparedCellV, Cell.setSlot, Cell.withEntry, Array.getElem?_setIfInBounds, bC, bS, bP, bC.symm, bS.symm, bP.symm, defaultValue] using this, fun _ _ => rfl⟩
  obtain ⟨tm, methC, cdC, kC, vm₁, hnC, -, -, -, -, -, -, -, hW₁, st1⟩ := Steps.initColdS (tb := p.tables) (e := e) (below := below) (s := s) (U := W) X.here hexec X.warmed hpl hown (t := Bundle.initS cls) rfl rfl (Bundle.fit_spec hcls).2
    (a' (.methodLink own ic (Bundle.initS cls)) (by simp [Bundle.ownAtomsX])) (h (.instanceMethod (Bundle.initS cls)) (by cases names <;> simp [Bundle.ownAtomsX, Bundle.chainSAtomsX, Bundle.passSAtoms])) (bytes := rx) (maxL := 2) (h (.code (Bundle.initS cls) rx 2 none) (by cases names <;> simp [Bundle.ownAtomsX, Bundle.chainSAtomsX, Bundle.passSAtoms]))
    (f := g) hg (a := a) (msg := msg) (rest := .ref a :: rest) hstack hd6
  cases Option.some.inj (hnC.symm.trans hP1m)
  have X₁ := X.noted hW₁
  obtain ⟨vm₂, X₂, st2⟩ := X₁.ctorMessageOffV hexec (g := { g with stack := .ref a :: rest }) hg hsize T L Z LZ M LM (P1 :: Ps)
    (fun P hP => by rcases List.mem_cons.mp hP with rfl | hP; exact L1; exact hL P hP) ⟨hlink1, hlink⟩ (u0 := u0) (sen := sen) (self := a) hmsg (cell := freshCell P1.m.cls kX) (cellS := cellS)
    hcell (fun _ => by simp) (by simp) rfl rfl hsel0 hselF hcellS hneS hknownS (by rw [hkeep _ (hout' _)]; exact hu0) (by rw [hkeep _ (hout' _)]; exact hsen)
    (Takes.of_laid hk hord tyC (by rw [Y.causeType]; rfl)) (Takes.of_laid hk hord tyS (by rw [Y.stackType]; exact fits_refV_array _ u0)) (Takes.of_laid hk hord tyP (by rw [Y.suppType]; exact fits_refV_object _ sen))
    (Takes.of_laid hk hord tyM (by rw [Y.msgType]; exact fits_refV_object _ ⟨msg, hmsg⟩)) Y.objLocals hskip htr [] hd6
    (by simp only [List.length_cons, hlen]; omega) (by simp only [List.length_cons, hlen]; exact hRlocals)
  obtain ⟨hwalk, hrun, hended, hWU, hsame⟩ := X₂.athrowLeaves hexec (g := { g with stack := .ref a :: rest, pc := g.pc + 3 }) hg hlocked hentered hout (a := a) (rest := rest) rfl hd9
  obtain ⟨c3, c4, hc3, hc4, hasg⟩ := Cond.castable_spec (a' (.castable cls cls) (by simp [Bundle.ownAtomsX]))
  cases Option.some.inj (hc3.symm.trans hfound)
  cases Option.some.inj (hc4.symm.trans hfound)
  have hlt : a < ((W.setVm vm₁).setVm vm₂).heap.size := (Array.getElem?_eq_some_iff.mp hcell).1
  have hU := heapAt_setCell_self (s := (W.setVm vm₁).setVm vm₂) (plainBareV T.toThrowableT (freshCell P1.m.cls kX) a u0 sen msg) hlt
  refine ⟨_, st1 _ (fun acts => ?_), hrun, hended, hWU, hsame.weaken (fun y hy hlt' => ?_) (Nat.le_refl _) (Nat.le_refl _), _, hU, ?_⟩
  · rw [doInvoke_state]
    exact st2 _ hwalk
  · rcases List.mem_append.mp hy with h1 | h1
    · exact h1
    · exfalso
      have hb : y.base = a := by
        simp only [List.mem_cons, List.not_mem_nil, or_false] at h1
        rcases h1 with rfl | rfl | rfl | rfl | rfl <;> rfl
      rw [hb] at hlt'
      exact Nat.not_lt.mpr hnew hlt'
  · exact ⟨rfl, hfound⟩
end GXC
def gx_at (own : String) (ic : Nat) (X : String) (ix : Nat) (rx : ByteArray) (names : List String) : List Cond := (Bundle.ownAtomsX own ic X ix rx names).filter vx_no
section GXT
variable {p : Program} {l : Launch} {e : Env} {R : Room} {s : State} {m : MethodId} {args : Array Value} {below : List Frame} {meth : Method} {c : Code} {H : Heap} {locs : List Loc} {cells slots : Nat} {Q : State → Prop}
variable {mc ms : Nat} {free : Addr → Prop} {A0 A1 : Nat → Prop} {H0 : Heap} {a : Array Value} {ls : Array Slot} {st0 rest : List Value}
variable {Qc : Array Value → State → Outcome → State → Prop} {XC : String → State → State → Prop}
theorem gx_throwS {cc : ByteArray} {pc : Nat} (hexec : p.tables.exec = Jvm.exec) (hb : c.code = cc) (hl : l.stackTraces = false) {own cls text : String} {names : List String} {ik is ic ix mc ms sa : Nat} {rx : ByteArray} {A : Nat → Prop}
    (x0 : decode rx 0 = .ok (.aload_n 0, 1)) (x1 : decode rx 1 = .ok (.aload_n 1, 1)) (x2 : decode rx 2 = .ok (.invokespecial ix, 3)) (x5 : decode rx 5 = .ok (.return_, 1))
    (hown : s.vm.findClass own = some m.cls) (hcls : Bundle.fit cls = true) (hnames : ∀ n ∈ names, Bundle.fit n = true)
    (hk : (Cond.classLink own ik cls).before args s = true) (hini : (Cond.initialized cls).before args s = true) (hstr : vk_R own is text sa s) (hat : ∀ w ∈ gx_at own ic cls ix rx names, w.before args s = true)
    (hgood : ∀ w ∈ Cond.classLink own ik cls :: Cond.initialized cls :: gx_at own ic cls ix rx names, vx_ot w = true)
    (hU : vx_Zq Bundle.tN "UNASSIGNED_STACK" Bundle.steD A s s.heap) (hN : vx_Zq Bundle.tN "SUPPRESSED_SENTINEL" Bundle.listD A s s.heap) (hS : va_S A s.heap H locs) (hsize : ls.size = c.maxLocals)
    (d0 : decode cc pc = .ok (.new ik, 3)) (d3 : decode cc (pc + 3) = .ok (.dup, 1)) (d4 : decode cc (pc + 4) = .ok (.ldc is, 2)) (d6 : decode cc (pc + 6) = .ok (.invokespecial ic, 3)) (d9 : decode cc (pc + 9) = .ok (.athrow, 1))
    (hout : ∀ x ∈ c.exceptionTable.toList, covers x (pc + 9) = false)
    (hRframes : names.length + 3 < R.frames) (hRlocals : (rest.map fun v => v.category).sum + (13 * (names.length + 1) + 43) ≤ R.locals) (hRcells : cells + 1 ≤ R.cells) (hRslots : slots + 6 ≤ R.slots) (hlocks : meth.locks = false)
    (hx : ∀ t : State, s.vm.Alike t.vm → H.size ≤ t.heap.size → (∀ q : Nat, q < H.size → t.heap[q]? = H[q]?) → XC cls s t)
    (hf : ∀ z ∈ locs, free z.base) (hc : cells + 1 ≤ mc) (hs : slots + 6 ≤ ms) :
    W p l e R s m args below meth c H locs cells slots (vx_MQ below Qc XC args s mc ms free) (F0 m pc ls rest) := by
  intro T hT X
  have htr : e.platform.stackTraces = false := (show e.platform.stackTraces = l.stackTraces by rw [X.admits.platform]).trans hl
  have Y := vx_rebase X (R' := { frames := R.frames, locals := R.locals, cells := 1, slots := 6 }) (Nat.le_refl _) (Nat.le_refl _) hRcells hRslots
  obtain ⟨s', hA⟩ : ∃ z, z = (T.setVm s.vm).setFrames (.invoking m args :: below) := ⟨_, rfl⟩
  rw [← hA] at Y
  have hvm : s'.vm = s.vm := by rw [hA]; rfl
  have hhp : s'.heap = H := by rw [hA]; exact hT
  have hW0 : s.WarmedH s'.vm := by rw [hvm]; exact State.WarmedH.refl s
  have hat' : ∀ w ∈ gx_at own ic cls ix rx names, w.before args s' = true := fun w hw => vx_ot_at hW0 hvm.symm (hgood w (List.mem_cons_of_mem _ (List.mem_cons_of_mem _ hw))) (hat w hw)
  have hk' : (Cond.classLink own ik cls).before args s' = true := vx_ot_at hW0 hvm.symm (hgood _ List.mem_cons_self) hk
  have hini' : (Cond.initialized cls).before args s' = true := vx_ot_at hW0 hvm.symm (hgood _ (List.mem_cons_of_mem _ List.mem_cons_self)) hini
  have hU' : vx_Zq Bundle.tN "UNASSIGNED_STACK" Bundle.steD A s' s'.heap := by rw [hhp]; exact vx_Zq.moved hW0.alike (hU.kept hS.2.1)
  have hN' : vx_Zq Bundle.tN "SUPPRESSED_SENTINEL" Bundle.listD A s' s'.heap := by rw [hhp]; exact vx_Zq.moved hW0.alike (hN.kept hS.2.1)
  have h : ∀ w ∈ Bundle.ownAtomsX own ic cls ix rx names, w.before args s' = true := vx_own hat' (vx_isRefq hU'.1) (vx_isRefq hN'.1) hU'.2.word hN'.2.word
  have hown' : s'.vm.findClass own = some m.cls := by rw [hvm]; exact hown
  have hins : (Cond.instantiable cls 6).before args s' = true := h _ (by simp [Bundle.ownAtomsX])
  obtain ⟨vm₁, cX, kX, hfX, hkX, -, -, X₁, st1⟩ := Y.newCold hexec (own := own) (C := cls) (index := ik) (n := 6) hown' hk' hins hini'
    (g := F0 m pc ls rest) rfl (by rw [hb]; exact d0) (Nat.le_refl _) (Nat.le_refl _)
  generalize hT1 : (T.setVm vm₁).pushCell { cls := cX, slots := kX.instanceTypes.map defaultValue, vm := .none } = T1 at X₁ st1
  have hcat : (Value.ref T.heap.size).category = 1 := rfl
  have hcellA : T1.heap[T.heap.size]? = some (freshCell cX kX) := by rw [← hT1]; exact State.heap_pushCell_size _ _
  have d3' : decode c.code (pc + 3) = .ok (.dup, 1) := by rw [hb]; exact d3
  have d4' : decode c.code (pc + 4) = .ok (.ldc is, 2) := by rw [hb]; exact d4
  have hstr' : vk_R own is text sa s' := vk_R.warm hW0 hstr
  obtain ⟨U, hsteps, hrun, hend, hW, hsame, ce, hce, hOv, hOc⟩ := gx_ctor X₁ hexec htr (own := own) (cls := cls) (names := names) (ic := ic) x0 x1 x2 x5 hown' hcls hnames h (fun x hx => nomatch hx) hfX hkX hcellA (by rw [hhp, hT]; exact Nat.le_refl _) (msg := .ref sa) rfl
    (g := { method := m, pc := pc + 6, locals := ls, stack := .ref sa :: .ref T.heap.size :: .ref T.heap.size :: rest, locked := none }) rfl hsize rfl rfl (rest := rest) rfl
    (by rw [hb]; exact d6) (by rw [hb]; exact d9) hout hRframes (by simp only [List.map_cons, List.sum_cons, hcat]; omega) hlocks
  obtain ⟨f1, f2⟩ := vx_frame hsame
  rw [hhp] at f1 f2
  have hWs : s.WarmedH U.vm := State.WarmedH.trans hW0 hW
  have hcl : s.vm.findClass cls = some ce.cls := by
    have h9 := hOc
    rw [hvm] at h9
    exact h9
  have hall : s.sameButNew ({ U with vm := s.vm } : State) locs mc ms := by
    subst hA
    obtain ⟨e1, e2⟩ := hsame
    rw [State.setFrames_setFrames] at e1
    have h2 : (T.setVm s.vm).sameButNew ({ U with vm := s.vm } : State) [] (0 + 1) (0 + 6) := ⟨e1, e2⟩
    have h3 := X.same.trans h2
    rw [List.append_nil] at h3
    exact h3.mono hc hs
  refine ⟨U, ?_, .threw T.heap.size, hrun, hend, Or.inr ⟨T.heap.size, rfl, cls, ce, locs, hx U hWs.alike f1 (fun q hq => f2 q hq (fun z hz => nomatch hz)), hce, hOv, hcl, hWs, hall, hf⟩⟩
  refine st1 _ ?_
  show Steps p.tables e below (T1.setTop { method := m, pc := pc + 3, locals := ls, stack := .ref T.heap.size :: rest, locked := none }) _
  jvm_step X₁.here [X₁.here.top, hexec, d3', Value.category]
  exact X₁.ldcString hexec (own := own) (text := text) (index := is) (a := sa) hown' hstr'.1 hstr'.2
    (g := { method := m, pc := pc + 4, locals := ls, stack := .ref T.heap.size :: .ref T.heap.size :: rest, locked := none }) rfl d4' _ hsteps

end GXT
end
section
/-! MEMORY. Numbers by owner, slot and place. An object's owner number is its address and one more; 0 is null. A field of an object is at place -1; an array that a field holds is at the places from 0 on. -/
abbrev gM : Type := Int → Nat → Int → Int
abbrev gKd : Type := Int → Nat
abbrev gLn : Type := Int → Nat → Int
abbrev gRh : Type := Int → Nat → Nat
def gI (x : Int) : Int32 := Int32.ofInt x
def gL (b : BitVec 64) : Int64 := Int64.ofBitVec b
def gad (o : Int) : Nat := (o - 1).toNat
def gR (x : Int) : Value := if x = 0 then .null else .ref (gad x)
abbrev rng (x : Int) : Prop := -2147483648 ≤ x ∧ x < 2147483648
/-- a field: 0 a number, 1 an object, 2 an array of its own, 3 + j the array of slot j of another object -/
def gft (c k : Nat) : Nat := match c, k with
  | 0, 0 => 0
  | 0, 1 => 0
  | 0, 2 => 2
  | 0, 3 => 2
  | 0, 4 => 2
  | 0, 5 => 2
  | 0, 6 => 2
  | 0, 7 => 2
  | 0, 8 => 2
  | 0, 9 => 1
  | 0, 10 => 1
  | 1, 1 => 2
  | 2, 1 => 2
  | 2, 2 => 2
  | 2, 4 => 7
  | 2, 5 => 2
  | 2, 6 => 2
  | 2, 7 => 2
  | 3, 0 => 1
  | 3, 1 => 1
  | 3, 2 => 1
  | 3, 3 => 4
  | 3, 5 => 2
  | 3, 7 => 2
  | 3, 8 => 2
  | 3, 9 => 2
  | 5, 1 => 2
  | 5, 2 => 1
  | 5, 3 => 2
  | 5, 4 => 2
  | 5, 5 => 2
  | 5, 6 => 2
  | 5, 8 => 1
  | 5, 9 => 2
  | 5, 10 => 2
  | 6, 0 => 2
  | 6, 1 => 1
  | 6, 2 => 2
  | 6, 3 => 1
  | 6, 4 => 1
  | 6, 5 => 1
  | 6, 6 => 1
  | 6, 7 => 2
  | 6, 9 => 2
  | 6, 11 => 2
  | 7, 3 => 2
  | 7, 4 => 2
  | 7, 5 => 2
  | 7, 6 => 2
  | 7, 7 => 2
  | 7, 8 => 2
  | 7, 10 => 2
  | 7, 13 => 2
  | 7, 14 => 2
  | 7, 15 => 2
  | 7, 16 => 2
  | 7, 17 => 2
  | 7, 18 => 2
  | 7, 19 => 2
  | 7, 22 => 2
  | 7, 23 => 2
  | 7, 24 => 2
  | 7, 25 => 2
  | 7, 27 => 2
  | 0, _ => 2
  | 200, _ => 2
  | _, _ => 0
/-- the kind of an array: 8 int, 9 byte, 10 boolean, 11 long, 12 and 13 objects, 14 rows of longs -/
def gak (c k : Nat) : Nat := match c, k with
  | 0, 2 => 8
  | 0, 3 => 8
  | 0, 4 => 8
  | 0, 5 => 13
  | 0, 6 => 11
  | 0, 7 => 14
  | 0, 8 => 11
  | 1, 1 => 8
  | 2, 1 => 8
  | 2, 2 => 8
  | 2, 5 => 8
  | 2, 6 => 8
  | 2, 7 => 8
  | 3, 5 => 8
  | 3, 7 => 8
  | 3, 8 => 8
  | 3, 9 => 8
  | 5, 1 => 9
  | 5, 3 => 8
  | 5, 4 => 8
  | 5, 5 => 8
  | 5, 6 => 8
  | 5, 9 => 8
  | 5, 10 => 8
  | 6, 0 => 12
  | 6, 2 => 10
  | 6, 7 => 8
  | 6, 9 => 8
  | 6, 11 => 8
  | 7, 3 => 10
  | 7, 4 => 9
  | 7, 5 => 8
  | 7, 6 => 8
  | 7, 7 => 8
  | 7, 8 => 9
  | 7, 10 => 9
  | 7, 13 => 8
  | 7, 14 => 8
  | 7, 15 => 8
  | 7, 16 => 8
  | 7, 17 => 8
  | 7, 18 => 8
  | 7, 19 => 8
  | 7, 22 => 8
  | 7, 23 => 8
  | 7, 24 => 8
  | 7, 25 => 8
  | 7, 27 => 8
  | 0, _ => 11
  | 200, _ => 11
  | _, _ => 0
def gnf (c : Nat) : Nat := match c with
  | 0 => 11
  | 1 => 2
  | 2 => 8
  | 3 => 11
  | 4 => 5
  | 5 => 11
  | 6 => 13
  | 7 => 28
  | _ => 0
def gfv (c : Nat) (ln : gLn) (rh : gRh) (M : gM) (o : Int) (k : Nat) : Value := match gft c k with
  | 0 => .int (gI (M o k (-1)))
  | 1 => gR (M o k (-1))
  | 2 => if ln o k < 0 then .null else .ref (rh o k)
  | j + 3 => if M o k (-1) = 0 then .null else .ref (rh (M o k (-1)) j)
def gav (rh : gRh) (o : Int) (t : Nat) (x : Int) (j : Nat) : Value := match t with
  | 11 => .long (gL (BitVec.ofInt 64 x))
  | 12 => gR x
  | 13 => gR x
  | 14 => .ref (rh o (100 + j))
  | _ => .int (gI x)
def gRg (c k : Nat) (x : Int) : Prop := match gft c k with
  | 0 => rng x
  | 2 => match gak c k with
    | 11 => 0 ≤ x ∧ x < 18446744073709551616
    | 12 => 0 ≤ x
    | 13 => 0 ≤ x
    | _ => rng x
  | _ => 0 ≤ x
def gtys (cy : Nat → ClassId) : List (ClassId × FieldType) := [(cy 8, .int), (cy 9, .byte), (cy 10, .boolean), (cy 11, .long), (cy 12, .object RX0), (cy 13, .object RX5), (cy 14, .array .long)]
def gu (M : gM) (o : Int) (k : Nat) (i x : Int) : gM := fun o' k' i' => if o' = o ∧ k' = k ∧ i' = i then x else M o' k' i'
def gAt (D : va_G) (cy : Nat → ClassId) (kd : gKd) (ln : gLn) (rh : gRh) (M : gM) (H : Heap) : Prop :=
  (∀ o : Int, kd o < 8 → 0 < o ∧ t_OB (gad o) (D.1 (kd o)) (gnf (kd o)) (D.2 (kd o)) H (fun k => gfv (kd o) ln rh M o k)) ∧
  (∀ (o : Int) (k : Nat), 0 ≤ ln o k → ln o k < 2147483648 ∧ o ≤ (H.size : Int) ∧ H[rh o k]? = some (arrV (cy (gak (kd o) k)) (ln o k).toNat (fun j => gav rh o (gak (kd o) k) (M o k j) j))) ∧
  (∀ (o o' : Int) (k k' : Nat), 0 ≤ ln o k → 0 ≤ ln o' k' → rh o k = rh o' k' → o = o' ∧ k = k') ∧
  (∀ (o o' : Int) (k' : Nat), kd o < 8 → 0 ≤ ln o' k' → gad o ≠ rh o' k') ∧
  (∀ (o : Int) (k : Nat) (i : Int), gRg (kd o) k (M o k i)) ∧
  (∀ (o : Int) (k j : Nat), kd o < 8 → gft (kd o) k = j + 3 → M o k (-1) ≠ 0 → 0 ≤ ln (M o k (-1)) j)
def gS (D : va_G) (cy : Nat → ClassId) (A : Nat → Prop) (H0 : Heap) (kd : gKd) (ln : gLn) (rh : gRh) (M : gM) (H : Heap) (locs : List Loc) : Prop :=
  gAt D cy kd ln rh M H ∧ (∀ o, kd o < 8 → A (gad o)) ∧ (∀ o k, 0 ≤ ln o k → A (rh o k)) ∧ (∀ q, H0.size ≤ q → A q) ∧ va_S A H0 H locs
/-- links to private methods of nest mates -/
def gNest : List (String × Nat × MethodName × String) := [(RX0, 62, yX6_bit, RX6), (RX0, 70, yX6_has, RX6), (RX3, 160, yX6_lowest, RX6), (RX3, 180, yX6_has, RX6), (RX6, 21, yX1_init, RX6), (RX6, 28, yX4_init, RX6)]
def gNS : String := "java/util/NoSuchElementException"
def gNm : List String := ["java/lang/RuntimeException", "java/lang/Exception"]
abbrev gXa : List Cond := gx_at RX6 198 gNS 13 prog_17_method_4_code gNm
/-- words of an exception's making that a call does not carry by itself -/
def gOt : List Cond := [.castable gNS gNS, .declares ⟨"java/lang/RuntimeException", "<init>", "(Ljava/lang/String;)V"⟩, .declares ⟨"java/lang/Exception", "<init>", "(Ljava/lang/String;)V"⟩, .declares ⟨"java/lang/Throwable", "<init>", "(Ljava/lang/String;)V"⟩]
theorem gOt_warm {s U : State} (hW : s.WarmedH U.vm) {w : Cond} (hw : w ∈ gOt) (h : va_Nw w s) : va_Nw w U := by
  simp only [gOt, List.mem_cons, List.not_mem_nil, or_false] at hw
  rcases hw with rfl | rfl | rfl | rfl
  · exact va_Nw.warmC hW h
  · exact va_tabs rfl (rfl : (s.setVm U.vm).vm = U.vm) (by rw [Cond.declares_setVm hW.alike]; exact h)
  · exact va_tabs rfl (rfl : (s.setVm U.vm).vm = U.vm) (by rw [Cond.declares_setVm hW.alike]; exact h)
  · exact va_tabs rfl (rfl : (s.setVm U.vm).vm = U.vm) (by rw [Cond.declares_setVm hW.alike]; exact h)
theorem gOt_tab : ∀ w ∈ gOt, w.onTables = true := by decide +kernel
def gStr : List (Nat × String × Nat) := [(203, "no such position", 22), (196, "no such table", 23), (201, "no such turn", 24)]
def gK (D : va_G) (cy : Nat → ClassId) (U : State) : Prop := va_K D vwCl (gtys cy) U ∧ (∀ q ∈ gNest, va_Nw (.methodLinkNest q.1 q.2.1 q.2.2.1 q.2.2.2) U) ∧ (∀ q ∈ gStr, vk_R RX6 q.1 q.2.1 (cy q.2.2) U) ∧ ∀ w ∈ gOt, va_Nw w U
theorem gK.warm {D : va_G} {cy : Nat → ClassId} {s U : State} (hW : s.WarmedH U.vm) (h : gK D cy s) : gK D cy U := ⟨va_K.moved hW.alike h.1, fun q hq => va_Nw.warmM hW (h.2.1 q hq), fun q hq => vk_R.warm hW (h.2.2.1 q hq), fun w hw => gOt_warm hW hw (h.2.2.2 w hw)⟩
theorem gK.same {D : va_G} {cy : Nat → ClassId} {s U : State} (hW : s.vm = U.vm) (h : gK D cy s) : gK D cy U := ⟨va_K.moved (hW ▸ Vm.Alike.refl s.vm) h.1, fun q hq => va_Nw.same rfl hW (h.2.1 q hq), fun q hq => vk_R.same hW.symm (h.2.2.1 q hq), fun w hw => va_Nw.same (gOt_tab w hw) hW (h.2.2.2 w hw)⟩
/-- the words of the tables that a call carries on -/
def gT : List Cond := lw_tbl.filter goodWord
theorem gT_in {w : Cond} (h : w ∈ lw_tbl) (g : goodWord w = true) : w ∈ gT := List.mem_filter.mpr ⟨h, g⟩
theorem gT_good : ∀ w ∈ gT, goodWord w = true := fun _ h => (List.mem_filter.mp h).2
/-- what lies outside: the letters, and two statics of Throwable -/
def gle (t j : Nat) : Int := match t, j with
  | 0, 0 => 81
  | 0, 1 => 82
  | 0, _ => 80
  | _, 0 => 119
  | _, _ => 98
def gZ (cy : Nat → ClassId) (A : Nat → Prop) (U : State) (H : Heap) : Prop := va_Z RX6 "MAN_LETTERS" "[C" (.ref (cy 20)) A U H ∧ va_T .char (cy 20) 3 (fun j => .int (gI (gle 0 j))) A U H ∧ va_Z RX6 "TURN_LETTERS" "[C" (.ref (cy 21)) A U H ∧ va_T .char (cy 21) 2 (fun j => .int (gI (gle 1 j))) A U H ∧ vx_Zq Bundle.tN "UNASSIGNED_STACK" Bundle.steD A U H ∧ vx_Zq Bundle.tN "SUPPRESSED_SENTINEL" Bundle.listD A U H
theorem gZ.go {cy : Nat → ClassId} {A B : Nat → Prop} {u U : State} {H H1 : Heap} (h : gZ cy A u H) (hvm : u.vm.Alike U.vm) (hq : ∀ a : Nat, a < H.size → ¬ A a → H1[a]? = H[a]?) (hAB : ∀ q, B q → A q) : gZ cy B U H1 := by
  obtain ⟨h1, h2, h3, h4, h5, h6⟩ := h
  exact ⟨((h1.moved hvm).kept hq).narrow hAB, ((h2.moved hvm).kept hq).narrow hAB, ((h3.moved hvm).kept hq).narrow hAB, ((h4.moved hvm).kept hq).narrow hAB, ((h5.moved hvm).kept hq).narrow hAB, ((h6.moved hvm).kept hq).narrow hAB⟩
def gC (p : Program) (s : State) (m : MethodId) (args : Array Value) (c : Code) (cc : ByteArray) (nL : Nat) (own : String) (D : va_G) (cy : Nat → ClassId) (A : Nat → Prop) (H0 : Heap) : Prop :=
  p.tables.exec = Jvm.exec ∧ c.code = cc ∧ c.maxLocals = nL ∧ s.vm.findClass own = some m.cls ∧ (∀ w ∈ gT, w.before args s = true) ∧ gK D cy s ∧ H0 = s.heap ∧ gZ cy A s H0
def gW (p : Program) (l : Launch) (e : Env) (R : Room) (s : State) (m : MethodId) (args : Array Value) (below : List Frame) (meth : Method) (c : Code) (D : va_G) (cy : Nat → ClassId) (A : Nat → Prop) (H0 : Heap) (Q : State → Prop) (nL : Nat)
    (kd : gKd) (ln : gLn) (rh : gRh) (cells slots : Nat) (M : gM) (pc : Nat) (lv : List (Nat × Value)) (st : List Value) : Prop :=
  ∀ (H : Heap) (locs : List Loc) (ls : Array Slot), gS D cy A H0 kd ln rh M H locs → lv_has ls nL lv → W p l e R s m args below meth c H locs cells slots Q (F0 m pc ls st)
theorem gu_s {M : gM} {o : Int} {k : Nat} {i x : Int} : gu M o k i x o k i = x := if_pos ⟨rfl, rfl, rfl⟩
theorem gu_n {M : gM} {o o' : Int} {k k' : Nat} {i i' x : Int} (h : ¬ (o' = o ∧ k' = k ∧ i' = i)) : gu M o k i x o' k' i' = M o' k' i' := if_neg h
theorem gI_add (a b : Int) : gI (a + b) = gI a + gI b := Int32.ofInt_add a b
theorem gI_sub (a b : Int) : gI (a - b) = gI a - gI b := Int32.ofInt_sub a b
theorem gI_mul (a b : Int) : gI (a * b) = gI a * gI b := Int32.ofInt_mul a b
theorem gI_neg (a : Int) : gI (-a) = - gI a := Int32.ofInt_neg a
theorem gI_toInt {a : Int} (h : rng a) : (gI a).toInt = a := Int32.toInt_ofInt_of_le h.1 h.2
theorem gI_of (x : Int32) : gI x.toInt = x := Int32.ofInt_toInt x
theorem rng_of (x : Int32) : rng x.toInt := ⟨Int32.le_toInt x, Int32.toInt_lt x⟩
theorem gI_lt {a b : Int} (ha : rng a) (hb : rng b) : gI a < gI b ↔ a < b := by rw [Int32.lt_iff_toInt_lt, gI_toInt ha, gI_toInt hb]
theorem gI_le {a b : Int} (ha : rng a) (hb : rng b) : gI a ≤ gI b ↔ a ≤ b := by rw [Int32.le_iff_toInt_le, gI_toInt ha, gI_toInt hb]
theorem gI_eq {a b : Int} (ha : rng a) (hb : rng b) : gI a = gI b ↔ a = b := by rw [← Int32.toInt_inj, gI_toInt ha, gI_toInt hb]
theorem gI_cl {a : Int} (h0 : 0 ≤ a) (h : a < 2147483648) : (gI a).toNatClampNeg = a.toNat := by
  have h1 : (gI a).toInt = a := gI_toInt ⟨by omega, h⟩
  rw [← Int32.toNat_toInt, h1]
theorem gI_in {a : Int} {n : Nat} (h0 : 0 ≤ a) (h : a < n) (hn : (n : Int) ≤ 2147483648) : ¬ (gI a < 0 ∨ n ≤ (gI a).toNatClampNeg) := by
  rw [gI_cl h0 (by omega)]
  have h1 : ¬ gI a < 0 := by
    rw [show (0 : Int32) = gI 0 from rfl, gI_lt ⟨by omega, by omega⟩ ⟨by decide, by decide⟩]
    omega
  intro q
  rcases q with q | q
  · exact h1 q
  · omega
theorem gad_inj {o o' : Int} (h : 0 < o) (h' : 0 < o') (e : gad o = gad o') : o = o' := by unfold gad at e; omega
end
section
section GK
variable {p : Program} {l : Launch} {e : Env} {R : Room} {s : State} {m : MethodId} {args : Array Value} {below : List Frame} {meth : Method} {c : Code} {cells slots : Nat} {Q : State → Prop} {cc : ByteArray} {nL : Nat} {own : String} {D : va_G} {cy : Nat → ClassId} {A : Nat → Prop} {H0 : Heap} {kd : gKd} {ln : gLn} {rh : gRh} {M : gM} {pc : Nat} {lv : List (Nat × Value)} {st : List Value}
theorem q_iconst (C : gC p s m args c cc nL own D cy A H0)  {n : Int} (hd : decode cc pc = .ok (.iconst n, 1)) (k : gW p l e R s m args below meth c D cy A H0 Q nL kd ln rh cells slots M (pc + 1) lv (.int (gI n) :: st)) : gW p l e R s m args below meth c D cy A H0 Q nL kd ln rh cells slots M pc lv st := fun H locs ls hS hl => lv_iconst C.1 C.2.1 hd rfl (k H locs ls hS hl)
theorem q_bipush (C : gC p s m args c cc nL own D cy A H0)  {n : Int} (hv : (Int8.ofInt n).toInt32 = gI n) (hd : decode cc pc = .ok (.bipush n, 2)) (k : gW p l e R s m args below meth c D cy A H0 Q nL kd ln rh cells slots M (pc + 2) lv (.int (gI n) :: st)) : gW p l e R s m args below meth c D cy A H0 Q nL kd ln rh cells slots M pc lv st := fun H locs ls hS hl => lv_bipush C.1 C.2.1 hd hv (k H locs ls hS hl)
theorem q_sipush (C : gC p s m args c cc nL own D cy A H0)  {n : Int} (hv : (Int16.ofInt n).toInt32 = gI n) (hd : decode cc pc = .ok (.sipush n, 3)) (k : gW p l e R s m args below meth c D cy A H0 Q nL kd ln rh cells slots M (pc + 3) lv (.int (gI n) :: st)) : gW p l e R s m args below meth c D cy A H0 Q nL kd ln rh cells slots M pc lv st := fun H locs ls hS hl => lv_sipush C.1 C.2.1 hd hv (k H locs ls hS hl)
theorem q_ldc (C : gC p s m args c cc nL own D cy A H0)  {idx : Nat} {n : Int} {v : Int32} (hw : Cond.constant own idx v ∈ gT) (hv : v = gI n) (hd : decode cc pc = .ok (.ldc idx, 2)) (k : gW p l e R s m args below meth c D cy A H0 Q nL kd ln rh cells slots M (pc + 2) lv (.int (gI n) :: st)) : gW p l e R s m args below meth c D cy A H0 Q nL kd ln rh cells slots M pc lv st := fun H locs ls hS hl => lv_ldc C.1 C.2.1 C.2.2.2.1 (C.2.2.2.2.1 _ hw) hd (by rw [hv]; exact k H locs ls hS hl)
theorem q_ldc2 (C : gC p s m args c cc nL own D cy A H0)  {idx : Nat} {b : BitVec 64} {v : Int64} (hw : Cond.constantLong own idx v ∈ gT) (hv : v = gL b) (hd : decode cc pc = .ok (.ldc2_w idx, 3)) (k : gW p l e R s m args below meth c D cy A H0 Q nL kd ln rh cells slots M (pc + 3) lv (.long (gL b) :: st)) : gW p l e R s m args below meth c D cy A H0 Q nL kd ln rh cells slots M pc lv st := fun H locs ls hS hl => lv_ldc2 C.1 C.2.1 C.2.2.2.1 (C.2.2.2.2.1 _ hw) hd (by rw [hv]; exact k H locs ls hS hl)
theorem q_lconst (C : gC p s m args c cc nL own D cy A H0)  {n : Fin 2} {b : BitVec 64} (hv : Int64.ofNat (n : Nat) = gL b) (hd : decode cc pc = .ok (.lconst n, 1)) (k : gW p l e R s m args below meth c D cy A H0 Q nL kd ln rh cells slots M (pc + 1) lv (.long (gL b) :: st)) : gW p l e R s m args below meth c D cy A H0 Q nL kd ln rh cells slots M pc lv st := fun H locs ls hS hl => lv_lconst C.1 C.2.1 hd hv (k H locs ls hS hl)
theorem q_iload_n (C : gC p s m args c cc nL own D cy A H0)  {f : Fin 4} {i : Nat} {x : Int32} (j : Nat) (hi : (f : Nat) = i) (hj : lv[j]? = some (i, .int x)) (hd : decode cc pc = .ok (.iload_n f, 1)) (k : gW p l e R s m args below meth c D cy A H0 Q nL kd ln rh cells slots M (pc + 1) lv (.int x :: st)) : gW p l e R s m args below meth c D cy A H0 Q nL kd ln rh cells slots M pc lv st := fun H locs ls hS hl => lv_iload_n C.1 C.2.1 hd hi (lv_at hl j hj) (k H locs ls hS hl)
theorem q_iload (C : gC p s m args c cc nL own D cy A H0)  {i : Nat} {x : Int32} (j : Nat) (hj : lv[j]? = some (i, .int x)) (hd : decode cc pc = .ok (.iload i, 2)) (k : gW p l e R s m args below meth c D cy A H0 Q nL kd ln rh cells slots M (pc + 2) lv (.int x :: st)) : gW p l e R s m args below meth c D cy A H0 Q nL kd ln rh cells slots M pc lv st := fun H locs ls hS hl => lv_iload C.1 C.2.1 hd (lv_at hl j hj) (k H locs ls hS hl)
theorem q_lload_n (C : gC p s m args c cc nL own D cy A H0)  {f : Fin 4} {i : Nat} {x : Int64} (j : Nat) (hi : (f : Nat) = i) (hj : lv[j]? = some (i, .long x)) (hd : decode cc pc = .ok (.lload_n f, 1)) (k : gW p l e R s m args below meth c D cy A H0 Q nL kd ln rh cells slots M (pc + 1) lv (.long x :: st)) : gW p l e R s m args below meth c D cy A H0 Q nL kd ln rh cells slots M pc lv st := fun H locs ls hS hl => lv_lload_n C.1 C.2.1 hd hi (lv_at hl j hj) (k H locs ls hS hl)
theorem q_lload (C : gC p s m args c cc nL own D cy A H0)  {i : Nat} {x : Int64} (j : Nat) (hj : lv[j]? = some (i, .long x)) (hd : decode cc pc = .ok (.lload i, 2)) (k : gW p l e R s m args below meth c D cy A H0 Q nL kd ln rh cells slots M (pc + 2) lv (.long x :: st)) : gW p l e R s m args below meth c D cy A H0 Q nL kd ln rh cells slots M pc lv st := fun H locs ls hS hl => lv_lload C.1 C.2.1 hd (lv_at hl j hj) (k H locs ls hS hl)
theorem q_aload_n (C : gC p s m args c cc nL own D cy A H0)  {f : Fin 4} {i : Nat} {x : Nat} (j : Nat) (hi : (f : Nat) = i) (hj : lv[j]? = some (i, .ref x)) (hd : decode cc pc = .ok (.aload_n f, 1)) (k : gW p l e R s m args below meth c D cy A H0 Q nL kd ln rh cells slots M (pc + 1) lv (.ref x :: st)) : gW p l e R s m args below meth c D cy A H0 Q nL kd ln rh cells slots M pc lv st := fun H locs ls hS hl => lv_aload_n C.1 C.2.1 hd hi (lv_at hl j hj) (k H locs ls hS hl)
theorem q_aload (C : gC p s m args c cc nL own D cy A H0)  {i : Nat} {x : Nat} (j : Nat) (hj : lv[j]? = some (i, .ref x)) (hd : decode cc pc = .ok (.aload i, 2)) (k : gW p l e R s m args below meth c D cy A H0 Q nL kd ln rh cells slots M (pc + 2) lv (.ref x :: st)) : gW p l e R s m args below meth c D cy A H0 Q nL kd ln rh cells slots M pc lv st := fun H locs ls hS hl => lv_aload C.1 C.2.1 hd (lv_at hl j hj) (k H locs ls hS hl)
theorem q_istore_n (C : gC p s m args c cc nL own D cy A H0) {f : Fin 4} {i : Nat} {x : Int32} {lv' : List (Nat × Value)} (hi : (f : Nat) = i) (hn : i < nL) (hl' : (i, Value.int x) :: lv.filter (fun q => !(q.1 == i) && !(q.1 + 1 == i && q.2.category == 2)) = lv') (hd : decode cc pc = .ok (.istore_n f, 1)) (k : gW p l e R s m args below meth c D cy A H0 Q nL kd ln rh cells slots M (pc + 1) lv' st) : gW p l e R s m args below meth c D cy A H0 Q nL kd ln rh cells slots M pc lv (.int x :: st) := fun H locs ls hS hl => lv_istore_n C.1 C.2.1 hd hi hl hn hl' (fun ls hl => k H locs ls hS hl)
theorem q_istore (C : gC p s m args c cc nL own D cy A H0) {i : Nat} {x : Int32} {lv' : List (Nat × Value)} (hn : i < nL) (hl' : (i, Value.int x) :: lv.filter (fun q => !(q.1 == i) && !(q.1 + 1 == i && q.2.category == 2)) = lv') (hd : decode cc pc = .ok (.istore i, 2)) (k : gW p l e R s m args below meth c D cy A H0 Q nL kd ln rh cells slots M (pc + 2) lv' st) : gW p l e R s m args below meth c D cy A H0 Q nL kd ln rh cells slots M pc lv (.int x :: st) := fun H locs ls hS hl => lv_istore C.1 C.2.1 hd hl hn hl' (fun ls hl => k H locs ls hS hl)
theorem q_lstore_n (C : gC p s m args c cc nL own D cy A H0) {f : Fin 4} {i : Nat} {x : Int64} {lv' : List (Nat × Value)} (hi : (f : Nat) = i) (hn : i + 1 < nL) (hl' : (i, Value.long x) :: lv.filter (fun q => !(q.1 == i) && (!(q.1 == i + 1) && !(q.1 + 1 == i && q.2.category == 2))) = lv') (hd : decode cc pc = .ok (.lstore_n f, 1)) (k : gW p l e R s m args below meth c D cy A H0 Q nL kd ln rh cells slots M (pc + 1) lv' st) : gW p l e R s m args below meth c D cy A H0 Q nL kd ln rh cells slots M pc lv (.long x :: st) := fun H locs ls hS hl => lv_lstore_n C.1 C.2.1 hd hi hl hn hl' (fun ls hl => k H locs ls hS hl)
theorem q_lstore (C : gC p s m args c cc nL own D cy A H0) {i : Nat} {x : Int64} {lv' : List (Nat × Value)} (hn : i + 1 < nL) (hl' : (i, Value.long x) :: lv.filter (fun q => !(q.1 == i) && (!(q.1 == i + 1) && !(q.1 + 1 == i && q.2.category == 2))) = lv') (hd : decode cc pc = .ok (.lstore i, 2)) (k : gW p l e R s m args below meth c D cy A H0 Q nL kd ln rh cells slots M (pc + 2) lv' st) : gW p l e R s m args below meth c D cy A H0 Q nL kd ln rh cells slots M pc lv (.long x :: st) := fun H locs ls hS hl => lv_lstore C.1 C.2.1 hd hl hn hl' (fun ls hl => k H locs ls hS hl)
theorem q_astore_n (C : gC p s m args c cc nL own D cy A H0) {f : Fin 4} {i : Nat} {x : Nat} {lv' : List (Nat × Value)} (hi : (f : Nat) = i) (hn : i < nL) (hl' : (i, Value.ref x) :: lv.filter (fun q => !(q.1 == i) && !(q.1 + 1 == i && q.2.category == 2)) = lv') (hd : decode cc pc = .ok (.astore_n f, 1)) (k : gW p l e R s m args below meth c D cy A H0 Q nL kd ln rh cells slots M (pc + 1) lv' st) : gW p l e R s m args below meth c D cy A H0 Q nL kd ln rh cells slots M pc lv (.ref x :: st) := fun H locs ls hS hl => lv_astore_n C.1 C.2.1 hd hi hl hn hl' (fun ls hl => k H locs ls hS hl)
theorem q_astore (C : gC p s m args c cc nL own D cy A H0) {i : Nat} {x : Nat} {lv' : List (Nat × Value)} (hn : i < nL) (hl' : (i, Value.ref x) :: lv.filter (fun q => !(q.1 == i) && !(q.1 + 1 == i && q.2.category == 2)) = lv') (hd : decode cc pc = .ok (.astore i, 2)) (k : gW p l e R s m args below meth c D cy A H0 Q nL kd ln rh cells slots M (pc + 2) lv' st) : gW p l e R s m args below meth c D cy A H0 Q nL kd ln rh cells slots M pc lv (.ref x :: st) := fun H locs ls hS hl => lv_astore C.1 C.2.1 hd hl hn hl' (fun ls hl => k H locs ls hS hl)
theorem q_iinc (C : gC p s m args c cc nL own D cy A H0) {i : Nat} {n a : Int} {lv' : List (Nat × Value)} (j : Nat) (hj : lv[j]? = some (i, .int (gI a))) (hn : i < nL) (hl' : (i, Value.int (gI (a + n))) :: lv.filter (fun q => !(q.1 == i) && !(q.1 + 1 == i && q.2.category == 2)) = lv') (hd : decode cc pc = .ok (.iinc i n, 3)) (k : gW p l e R s m args below meth c D cy A H0 Q nL kd ln rh cells slots M (pc + 3) lv' st) : gW p l e R s m args below meth c D cy A H0 Q nL kd ln rh cells slots M pc lv st := fun H locs ls hS hl => lv_iinc C.1 C.2.1 hd hl hj (gI_add a n).symm hn hl' (fun ls hl => k H locs ls hS hl)
theorem q_lv {lv' : List (Nat × Value)} (js : List Nat) (h : lv_pick lv js = lv') (k : gW p l e R s m args below meth c D cy A H0 Q nL kd ln rh cells slots M pc lv' st) : gW p l e R s m args below meth c D cy A H0 Q nL kd ln rh cells slots M pc lv st := fun H locs ls hS hl => k H locs ls hS (lv_sub hl js h)
theorem q_iadd (C : gC p s m args c cc nL own D cy A H0)  {a b : Int} (hd : decode cc pc = .ok (.iadd, 1)) (k : gW p l e R s m args below meth c D cy A H0 Q nL kd ln rh cells slots M (pc + 1) lv (.int (gI (a + b)) :: st)) : gW p l e R s m args below meth c D cy A H0 Q nL kd ln rh cells slots M pc lv (.int (gI b) :: .int (gI a) :: st) := fun H locs ls hS hl => lv_iadd C.1 C.2.1 hd (by rw [← gI_add]; exact k H locs ls hS hl)
theorem q_isub (C : gC p s m args c cc nL own D cy A H0)  {a b : Int} (hd : decode cc pc = .ok (.isub, 1)) (k : gW p l e R s m args below meth c D cy A H0 Q nL kd ln rh cells slots M (pc + 1) lv (.int (gI (a - b)) :: st)) : gW p l e R s m args below meth c D cy A H0 Q nL kd ln rh cells slots M pc lv (.int (gI b) :: .int (gI a) :: st) := fun H locs ls hS hl => lv_isub C.1 C.2.1 hd (by rw [← gI_sub]; exact k H locs ls hS hl)
theorem q_imul (C : gC p s m args c cc nL own D cy A H0)  {a b : Int} (hd : decode cc pc = .ok (.imul, 1)) (k : gW p l e R s m args below meth c D cy A H0 Q nL kd ln rh cells slots M (pc + 1) lv (.int (gI (a * b)) :: st)) : gW p l e R s m args below meth c D cy A H0 Q nL kd ln rh cells slots M pc lv (.int (gI b) :: .int (gI a) :: st) := fun H locs ls hS hl => lv_imul C.1 C.2.1 hd (by rw [← gI_mul]; exact k H locs ls hS hl)
theorem gI_div {a b : Int} (ha : 0 ≤ a) (ha2 : a < 2147483648) (hb : 0 < b) (hb2 : b < 2147483648) : gI a / gI b = gI (a / b) := by
  rw [← Int32.toInt_inj, Int32.toInt_div_of_ne_right _ _ (by rw [Ne, show (-1 : Int32) = gI (-1) from rfl, gI_eq ⟨by omega, hb2⟩ ⟨by decide, by decide⟩]; omega), gI_toInt ⟨by omega, ha2⟩, gI_toInt ⟨by omega, hb2⟩, Int.tdiv_eq_ediv_of_nonneg ha, gI_toInt]
  have h1 := Int.ediv_nonneg ha (Int.le_of_lt hb)
  have h2 := Int.ediv_le_self b ha
  exact ⟨by omega, by omega⟩
theorem gI_mod {a b : Int} (ha : 0 ≤ a) (ha2 : a < 2147483648) (hb : 0 < b) (hb2 : b < 2147483648) : gI a - gI a / gI b * gI b = gI (a % b) := by
  rw [gI_div ha ha2 hb hb2, ← gI_mul, ← gI_sub, Int.emod_def, Int.mul_comm b]
theorem q_idiv (C : gC p s m args c cc nL own D cy A H0)  {a b : Int} (h : 0 ≤ a ∧ a < 2147483648 ∧ 0 < b ∧ b < 2147483648) (hd : decode cc pc = .ok (.idiv, 1)) (k : gW p l e R s m args below meth c D cy A H0 Q nL kd ln rh cells slots M (pc + 1) lv (.int (gI (a / b)) :: st)) : gW p l e R s m args below meth c D cy A H0 Q nL kd ln rh cells slots M pc lv (.int (gI b) :: .int (gI a) :: st) := fun H locs ls hS hl => lv_idiv C.1 C.2.1 hd (by rw [show (0 : Int32) = gI 0 from rfl, gI_eq ⟨by omega, h.2.2.2⟩ ⟨by decide, by decide⟩]; omega) (by rw [gI_div h.1 h.2.1 h.2.2.1 h.2.2.2]; exact k H locs ls hS hl)
theorem q_irem (C : gC p s m args c cc nL own D cy A H0)  {a b : Int} (h : 0 ≤ a ∧ a < 2147483648 ∧ 0 < b ∧ b < 2147483648) (hd : decode cc pc = .ok (.irem, 1)) (k : gW p l e R s m args below meth c D cy A H0 Q nL kd ln rh cells slots M (pc + 1) lv (.int (gI (a % b)) :: st)) : gW p l e R s m args below meth c D cy A H0 Q nL kd ln rh cells slots M pc lv (.int (gI b) :: .int (gI a) :: st) := fun H locs ls hS hl => lv_irem C.1 C.2.1 hd (by rw [show (0 : Int32) = gI 0 from rfl, gI_eq ⟨by omega, h.2.2.2⟩ ⟨by decide, by decide⟩]; omega) (by rw [gI_mod h.1 h.2.1 h.2.2.1 h.2.2.2]; exact k H locs ls hS hl)
theorem q_ineg (C : gC p s m args c cc nL own D cy A H0)  {a : Int} (hd : decode cc pc = .ok (.ineg, 1)) (k : gW p l e R s m args below meth c D cy A H0 Q nL kd ln rh cells slots M (pc + 1) lv (.int (gI (-a)) :: st)) : gW p l e R s m args below meth c D cy A H0 Q nL kd ln rh cells slots M pc lv (.int (gI a) :: st) := fun H locs ls hS hl => lv_ineg C.1 C.2.1 hd (by rw [← gI_neg]; exact k H locs ls hS hl)
def giand (a b : Int) : Int := (gI a &&& gI b).toInt
theorem q_iand (C : gC p s m args c cc nL own D cy A H0)  {a b : Int} (hd : decode cc pc = .ok (.iand, 1)) (k : gW p l e R s m args below meth c D cy A H0 Q nL kd ln rh cells slots M (pc + 1) lv (.int (gI (giand a b)) :: st)) : gW p l e R s m args below meth c D cy A H0 Q nL kd ln rh cells slots M pc lv (.int (gI b) :: .int (gI a) :: st) := fun H locs ls hS hl => lv_iand C.1 C.2.1 hd (by have h := k H locs ls hS hl; rw [giand, gI_of] at h; exact h)
def gior (a b : Int) : Int := (gI a ||| gI b).toInt
theorem q_ior (C : gC p s m args c cc nL own D cy A H0)  {a b : Int} (hd : decode cc pc = .ok (.ior, 1)) (k : gW p l e R s m args below meth c D cy A H0 Q nL kd ln rh cells slots M (pc + 1) lv (.int (gI (gior a b)) :: st)) : gW p l e R s m args below meth c D cy A H0 Q nL kd ln rh cells slots M pc lv (.int (gI b) :: .int (gI a) :: st) := fun H locs ls hS hl => lv_ior C.1 C.2.1 hd (by have h := k H locs ls hS hl; rw [gior, gI_of] at h; exact h)
def gixor (a b : Int) : Int := (gI a ^^^ gI b).toInt
theorem q_ixor (C : gC p s m args c cc nL own D cy A H0)  {a b : Int} (hd : decode cc pc = .ok (.ixor, 1)) (k : gW p l e R s m args below meth c D cy A H0 Q nL kd ln rh cells slots M (pc + 1) lv (.int (gI (gixor a b)) :: st)) : gW p l e R s m args below meth c D cy A H0 Q nL kd ln rh cells slots M pc lv (.int (gI b) :: .int (gI a) :: st) := fun H locs ls hS hl => lv_ixor C.1 C.2.1 hd (by have h := k H locs ls hS hl; rw [gixor, gI_of] at h; exact h)
def gishl (a b : Int) : Int := (gI a <<< (gI b &&& 31)).toInt
theorem q_ishl (C : gC p s m args c cc nL own D cy A H0)  {a b : Int} (hd : decode cc pc = .ok (.ishl, 1)) (k : gW p l e R s m args below meth c D cy A H0 Q nL kd ln rh cells slots M (pc + 1) lv (.int (gI (gishl a b)) :: st)) : gW p l e R s m args below meth c D cy A H0 Q nL kd ln rh cells slots M pc lv (.int (gI b) :: .int (gI a) :: st) := fun H locs ls hS hl => lv_ishl C.1 C.2.1 hd (by have h := k H locs ls hS hl; rw [gishl, gI_of] at h; exact h)
def gishr (a b : Int) : Int := (gI a >>> (gI b &&& 31)).toInt
theorem q_ishr (C : gC p s m args c cc nL own D cy A H0)  {a b : Int} (hd : decode cc pc = .ok (.ishr, 1)) (k : gW p l e R s m args below meth c D cy A H0 Q nL kd ln rh cells slots M (pc + 1) lv (.int (gI (gishr a b)) :: st)) : gW p l e R s m args below meth c D cy A H0 Q nL kd ln rh cells slots M pc lv (.int (gI b) :: .int (gI a) :: st) := fun H locs ls hS hl => lv_ishr C.1 C.2.1 hd (by have h := k H locs ls hS hl; rw [gishr, gI_of] at h; exact h)
def giushr (a b : Int) : Int := ((gI a).toUInt32 >>> ((gI b).toUInt32 &&& Int32.toUInt32 31)).toInt32.toInt
theorem q_iushr (C : gC p s m args c cc nL own D cy A H0)  {a b : Int} (hd : decode cc pc = .ok (.iushr, 1)) (k : gW p l e R s m args below meth c D cy A H0 Q nL kd ln rh cells slots M (pc + 1) lv (.int (gI (giushr a b)) :: st)) : gW p l e R s m args below meth c D cy A H0 Q nL kd ln rh cells slots M pc lv (.int (gI b) :: .int (gI a) :: st) := fun H locs ls hS hl => lv_iushr C.1 C.2.1 hd rfl (by have h := k H locs ls hS hl; rw [giushr, gI_of] at h; exact h)
def gi2b (a : Int) : Int := (gI a).toInt8.toInt32.toInt
theorem q_i2b (C : gC p s m args c cc nL own D cy A H0)  {a : Int} (hd : decode cc pc = .ok (.i2b, 1)) (k : gW p l e R s m args below meth c D cy A H0 Q nL kd ln rh cells slots M (pc + 1) lv (.int (gI (gi2b a)) :: st)) : gW p l e R s m args below meth c D cy A H0 Q nL kd ln rh cells slots M pc lv (.int (gI a) :: st) := fun H locs ls hS hl => lv_i2b C.1 C.2.1 hd rfl (by have h := k H locs ls hS hl; rw [gi2b, gI_of] at h; exact h)
theorem q_ladd (C : gC p s m args c cc nL own D cy A H0)  {a b : BitVec 64} (hd : decode cc pc = .ok (.ladd, 1)) (k : gW p l e R s m args below meth c D cy A H0 Q nL kd ln rh cells slots M (pc + 1) lv (.long (gL (a + b)) :: st)) : gW p l e R s m args below meth c D cy A H0 Q nL kd ln rh cells slots M pc lv (.long (gL b) :: .long (gL a) :: st) := fun H locs ls hS hl => lv_ladd C.1 C.2.1 hd (k H locs ls hS hl)
theorem q_lsub (C : gC p s m args c cc nL own D cy A H0)  {a b : BitVec 64} (hd : decode cc pc = .ok (.lsub, 1)) (k : gW p l e R s m args below meth c D cy A H0 Q nL kd ln rh cells slots M (pc + 1) lv (.long (gL (a - b)) :: st)) : gW p l e R s m args below meth c D cy A H0 Q nL kd ln rh cells slots M pc lv (.long (gL b) :: .long (gL a) :: st) := fun H locs ls hS hl => lv_lsub C.1 C.2.1 hd (k H locs ls hS hl)
theorem q_land (C : gC p s m args c cc nL own D cy A H0)  {a b : BitVec 64} (hd : decode cc pc = .ok (.land, 1)) (k : gW p l e R s m args below meth c D cy A H0 Q nL kd ln rh cells slots M (pc + 1) lv (.long (gL (a &&& b)) :: st)) : gW p l e R s m args below meth c D cy A H0 Q nL kd ln rh cells slots M pc lv (.long (gL b) :: .long (gL a) :: st) := fun H locs ls hS hl => lv_land C.1 C.2.1 hd (k H locs ls hS hl)
theorem q_lor (C : gC p s m args c cc nL own D cy A H0)  {a b : BitVec 64} (hd : decode cc pc = .ok (.lor, 1)) (k : gW p l e R s m args below meth c D cy A H0 Q nL kd ln rh cells slots M (pc + 1) lv (.long (gL (a ||| b)) :: st)) : gW p l e R s m args below meth c D cy A H0 Q nL kd ln rh cells slots M pc lv (.long (gL b) :: .long (gL a) :: st) := fun H locs ls hS hl => lv_lor C.1 C.2.1 hd (k H locs ls hS hl)
theorem q_lxor (C : gC p s m args c cc nL own D cy A H0)  {a b : BitVec 64} (hd : decode cc pc = .ok (.lxor, 1)) (k : gW p l e R s m args below meth c D cy A H0 Q nL kd ln rh cells slots M (pc + 1) lv (.long (gL (a ^^^ b)) :: st)) : gW p l e R s m args below meth c D cy A H0 Q nL kd ln rh cells slots M pc lv (.long (gL b) :: .long (gL a) :: st) := fun H locs ls hS hl => lv_lxor C.1 C.2.1 hd (k H locs ls hS hl)
theorem q_lneg (C : gC p s m args c cc nL own D cy A H0)  {a : BitVec 64} (hd : decode cc pc = .ok (.lneg, 1)) (k : gW p l e R s m args below meth c D cy A H0 Q nL kd ln rh cells slots M (pc + 1) lv (.long (gL (-a)) :: st)) : gW p l e R s m args below meth c D cy A H0 Q nL kd ln rh cells slots M pc lv (.long (gL a) :: st) := fun H locs ls hS hl => lv_lneg C.1 C.2.1 hd (k H locs ls hS hl)
def glshl (a : BitVec 64) (b : Int) : BitVec 64 := (gL a <<< ((gI b).toInt64 &&& 63)).toBitVec
def glushr (a : BitVec 64) (b : Int) : BitVec 64 := ((gL a).toUInt64 >>> ((gI b).toInt64.toUInt64 &&& Int64.toUInt64 63)).toInt64.toBitVec
theorem q_lshl (C : gC p s m args c cc nL own D cy A H0)  {a : BitVec 64} {b : Int} (hd : decode cc pc = .ok (.lshl, 1)) (k : gW p l e R s m args below meth c D cy A H0 Q nL kd ln rh cells slots M (pc + 1) lv (.long (gL (glshl a b)) :: st)) : gW p l e R s m args below meth c D cy A H0 Q nL kd ln rh cells slots M pc lv (.int (gI b) :: .long (gL a) :: st) := fun H locs ls hS hl => lv_lshl C.1 C.2.1 hd rfl (k H locs ls hS hl)
theorem q_lushr (C : gC p s m args c cc nL own D cy A H0)  {a : BitVec 64} {b : Int} (hd : decode cc pc = .ok (.lushr, 1)) (k : gW p l e R s m args below meth c D cy A H0 Q nL kd ln rh cells slots M (pc + 1) lv (.long (gL (glushr a b)) :: st)) : gW p l e R s m args below meth c D cy A H0 Q nL kd ln rh cells slots M pc lv (.int (gI b) :: .long (gL a) :: st) := fun H locs ls hS hl => lv_lushr C.1 C.2.1 hd rfl (k H locs ls hS hl)
def gcmp (a b : BitVec 64) : Int := (lg_cmp (gL a) (gL b)).toInt
theorem q_lcmp (C : gC p s m args c cc nL own D cy A H0)  {a b : BitVec 64} (hd : decode cc pc = .ok (.lcmp, 1)) (k : gW p l e R s m args below meth c D cy A H0 Q nL kd ln rh cells slots M (pc + 1) lv (.int (gI (gcmp a b)) :: st)) : gW p l e R s m args below meth c D cy A H0 Q nL kd ln rh cells slots M pc lv (.long (gL b) :: .long (gL a) :: st) := fun H locs ls hS hl => W.lcmp C.1 C.2.1 hd (by have h := k H locs ls hS hl; rw [gcmp, gI_of] at h; exact h)
theorem gI_i2l {a : Int} (h : rng a) : (gI a).toInt64 = gL (BitVec.ofInt 64 a) := by
  have h1 : (gI a).toInt64 = Int64.ofInt a := by
    rw [← Int64.toInt_inj, Int32.toInt_toInt64, gI_toInt h, Int64.toInt_ofInt_of_le (by omega) (by omega)]
  rw [h1]; rfl
theorem q_i2l (C : gC p s m args c cc nL own D cy A H0)  {a : Int} (h : rng a) (hd : decode cc pc = .ok (.i2l, 1)) (k : gW p l e R s m args below meth c D cy A H0 Q nL kd ln rh cells slots M (pc + 1) lv (.long (gL (BitVec.ofInt 64 a)) :: st)) : gW p l e R s m args below meth c D cy A H0 Q nL kd ln rh cells slots M pc lv (.int (gI a) :: st) := fun H locs ls hS hl => lv_i2l C.1 C.2.1 hd (gI_i2l h) (k H locs ls hS hl)
def gl2i (a : BitVec 64) : Int := (gL a).toInt32.toInt
theorem q_l2i (C : gC p s m args c cc nL own D cy A H0)  {a : BitVec 64} (hd : decode cc pc = .ok (.l2i, 1)) (k : gW p l e R s m args below meth c D cy A H0 Q nL kd ln rh cells slots M (pc + 1) lv (.int (gI (gl2i a)) :: st)) : gW p l e R s m args below meth c D cy A H0 Q nL kd ln rh cells slots M pc lv (.long (gL a) :: st) := fun H locs ls hS hl => lv_l2i C.1 C.2.1 hd rfl (by have h := k H locs ls hS hl; rw [gl2i, gI_of] at h; exact h)
theorem q_dup (C : gC p s m args c cc nL own D cy A H0)  {va : Value} (hc : va.category = 1) (hd : decode cc pc = .ok (.dup, 1)) (k : gW p l e R s m args below meth c D cy A H0 Q nL kd ln rh cells slots M (pc + 1) lv (va :: va :: st)) : gW p l e R s m args below meth c D cy A H0 Q nL kd ln rh cells slots M pc lv (va :: st) := fun H locs ls hS hl => lv_dup C.1 C.2.1 hd hc (k H locs ls hS hl)
theorem q_dup2 (C : gC p s m args c cc nL own D cy A H0)  {va vb : Value} (hc : va.category = 1) (hc2 : vb.category = 1) (hd : decode cc pc = .ok (.dup2, 1)) (k : gW p l e R s m args below meth c D cy A H0 Q nL kd ln rh cells slots M (pc + 1) lv (va :: vb :: va :: vb :: st)) : gW p l e R s m args below meth c D cy A H0 Q nL kd ln rh cells slots M pc lv (va :: vb :: st) := fun H locs ls hS hl => lv_dup2_11 C.1 C.2.1 hd hc hc2 (k H locs ls hS hl)
theorem q_pop (C : gC p s m args c cc nL own D cy A H0)  {va : Value} (hc : va.category = 1) (hd : decode cc pc = .ok (.pop, 1)) (k : gW p l e R s m args below meth c D cy A H0 Q nL kd ln rh cells slots M (pc + 1) lv st) : gW p l e R s m args below meth c D cy A H0 Q nL kd ln rh cells slots M pc lv (va :: st) := fun H locs ls hS hl => lv_pop C.1 C.2.1 hd hc (k H locs ls hS hl)
theorem q_goto (C : gC p s m args c cc nL own D cy A H0) {off : Int} {tgt : Nat} (ht : (pc : Int) + off = (tgt : Int)) (hd : decode cc pc = .ok (.goto off, 3)) (k : gW p l e R s m args below meth c D cy A H0 Q nL kd ln rh cells slots M tgt lv st) : gW p l e R s m args below meth c D cy A H0 Q nL kd ln rh cells slots M pc lv st := fun H locs ls hS hl => lv_goto C.1 C.2.1 hd ht (k H locs ls hS hl)
theorem q_icmp_eq (C : gC p s m args c cc nL own D cy A H0) {a b off : Int} {tgt : Nat} (ha : rng a) (hb : rng b) (ht : (pc : Int) + off = (tgt : Int)) (hd : decode cc pc = .ok (.if_icmp .eq off, 3)) (kt : a = b → gW p l e R s m args below meth c D cy A H0 Q nL kd ln rh cells slots M tgt lv st) (kf : ¬ (a = b) → gW p l e R s m args below meth c D cy A H0 Q nL kd ln rh cells slots M (pc + 3) lv st) : gW p l e R s m args below meth c D cy A H0 Q nL kd ln rh cells slots M pc lv (.int (gI b) :: .int (gI a) :: st) := fun H locs ls hS hl => lv_icmp_eq C.1 C.2.1 hd ht (fun h => kt ((gI_eq ha hb).mp h) H locs ls hS hl) (fun h => kf (fun q => h ((gI_eq ha hb).mpr q)) H locs ls hS hl)
theorem q_if_eq (C : gC p s m args c cc nL own D cy A H0) {a off : Int} {tgt : Nat} (ha : rng a) (ht : (pc : Int) + off = (tgt : Int)) (hd : decode cc pc = .ok (.ifCond .eq off, 3)) (kt : a = 0 → gW p l e R s m args below meth c D cy A H0 Q nL kd ln rh cells slots M tgt lv st) (kf : ¬ (a = 0) → gW p l e R s m args below meth c D cy A H0 Q nL kd ln rh cells slots M (pc + 3) lv st) : gW p l e R s m args below meth c D cy A H0 Q nL kd ln rh cells slots M pc lv (.int (gI a) :: st) := fun H locs ls hS hl => lv_if_eq C.1 C.2.1 hd ht (fun h => kt ((gI_eq ha (⟨by decide, by decide⟩ : rng 0)).mp h) H locs ls hS hl) (fun h => kf (fun q => h ((gI_eq ha (⟨by decide, by decide⟩ : rng 0)).mpr q)) H locs ls hS hl)
theorem q_icmp_ne (C : gC p s m args c cc nL own D cy A H0) {a b off : Int} {tgt : Nat} (ha : rng a) (hb : rng b) (ht : (pc : Int) + off = (tgt : Int)) (hd : decode cc pc = .ok (.if_icmp .ne off, 3)) (kt : a ≠ b → gW p l e R s m args below meth c D cy A H0 Q nL kd ln rh cells slots M tgt lv st) (kf : a = b → gW p l e R s m args below meth c D cy A H0 Q nL kd ln rh cells slots M (pc + 3) lv st) : gW p l e R s m args below meth c D cy A H0 Q nL kd ln rh cells slots M pc lv (.int (gI b) :: .int (gI a) :: st) := fun H locs ls hS hl => lv_icmp_ne C.1 C.2.1 hd ht (fun h => kt (fun q => h ((gI_eq ha hb).mpr q)) H locs ls hS hl) (fun h => kf ((gI_eq ha hb).mp h) H locs ls hS hl)
theorem q_if_ne (C : gC p s m args c cc nL own D cy A H0) {a off : Int} {tgt : Nat} (ha : rng a) (ht : (pc : Int) + off = (tgt : Int)) (hd : decode cc pc = .ok (.ifCond .ne off, 3)) (kt : a ≠ 0 → gW p l e R s m args below meth c D cy A H0 Q nL kd ln rh cells slots M tgt lv st) (kf : a = 0 → gW p l e R s m args below meth c D cy A H0 Q nL kd ln rh cells slots M (pc + 3) lv st) : gW p l e R s m args below meth c D cy A H0 Q nL kd ln rh cells slots M pc lv (.int (gI a) :: st) := fun H locs ls hS hl => lv_if_ne C.1 C.2.1 hd ht (fun h => kt (fun q => h ((gI_eq ha (⟨by decide, by decide⟩ : rng 0)).mpr q)) H locs ls hS hl) (fun h => kf ((gI_eq ha (⟨by decide, by decide⟩ : rng 0)).mp h) H locs ls hS hl)
theorem q_icmp_lt (C : gC p s m args c cc nL own D cy A H0) {a b off : Int} {tgt : Nat} (ha : rng a) (hb : rng b) (ht : (pc : Int) + off = (tgt : Int)) (hd : decode cc pc = .ok (.if_icmp .lt off, 3)) (kt : a < b → gW p l e R s m args below meth c D cy A H0 Q nL kd ln rh cells slots M tgt lv st) (kf : ¬ (a < b) → gW p l e R s m args below meth c D cy A H0 Q nL kd ln rh cells slots M (pc + 3) lv st) : gW p l e R s m args below meth c D cy A H0 Q nL kd ln rh cells slots M pc lv (.int (gI b) :: .int (gI a) :: st) := fun H locs ls hS hl => lv_icmp_lt C.1 C.2.1 hd ht (fun h => kt ((gI_lt ha hb).mp h) H locs ls hS hl) (fun h => kf (fun q => h ((gI_lt ha hb).mpr q)) H locs ls hS hl)
theorem q_if_lt (C : gC p s m args c cc nL own D cy A H0) {a off : Int} {tgt : Nat} (ha : rng a) (ht : (pc : Int) + off = (tgt : Int)) (hd : decode cc pc = .ok (.ifCond .lt off, 3)) (kt : a < 0 → gW p l e R s m args below meth c D cy A H0 Q nL kd ln rh cells slots M tgt lv st) (kf : ¬ (a < 0) → gW p l e R s m args below meth c D cy A H0 Q nL kd ln rh cells slots M (pc + 3) lv st) : gW p l e R s m args below meth c D cy A H0 Q nL kd ln rh cells slots M pc lv (.int (gI a) :: st) := fun H locs ls hS hl => lv_if_lt C.1 C.2.1 hd ht (fun h => kt ((gI_lt ha (⟨by decide, by decide⟩ : rng 0)).mp h) H locs ls hS hl) (fun h => kf (fun q => h ((gI_lt ha (⟨by decide, by decide⟩ : rng 0)).mpr q)) H locs ls hS hl)
theorem q_icmp_ge (C : gC p s m args c cc nL own D cy A H0) {a b off : Int} {tgt : Nat} (ha : rng a) (hb : rng b) (ht : (pc : Int) + off = (tgt : Int)) (hd : decode cc pc = .ok (.if_icmp .ge off, 3)) (kt : b ≤ a → gW p l e R s m args below meth c D cy A H0 Q nL kd ln rh cells slots M tgt lv st) (kf : ¬ (b ≤ a) → gW p l e R s m args below meth c D cy A H0 Q nL kd ln rh cells slots M (pc + 3) lv st) : gW p l e R s m args below meth c D cy A H0 Q nL kd ln rh cells slots M pc lv (.int (gI b) :: .int (gI a) :: st) := fun H locs ls hS hl => lv_icmp_ge C.1 C.2.1 hd ht (fun h => kt ((gI_le hb ha).mp h) H locs ls hS hl) (fun h => kf (fun q => h ((gI_le hb ha).mpr q)) H locs ls hS hl)
theorem q_if_ge (C : gC p s m args c cc nL own D cy A H0) {a off : Int} {tgt : Nat} (ha : rng a) (ht : (pc : Int) + off = (tgt : Int)) (hd : decode cc pc = .ok (.ifCond .ge off, 3)) (kt : 0 ≤ a → gW p l e R s m args below meth c D cy A H0 Q nL kd ln rh cells slots M tgt lv st) (kf : ¬ (0 ≤ a) → gW p l e R s m args below meth c D cy A H0 Q nL kd ln rh cells slots M (pc + 3) lv st) : gW p l e R s m args below meth c D cy A H0 Q nL kd ln rh cells slots M pc lv (.int (gI a) :: st) := fun H locs ls hS hl => lv_if_ge C.1 C.2.1 hd ht (fun h => kt ((gI_le (⟨by decide, by decide⟩ : rng 0) ha).mp h) H locs ls hS hl) (fun h => kf (fun q => h ((gI_le (⟨by decide, by decide⟩ : rng 0) ha).mpr q)) H locs ls hS hl)
theorem q_icmp_gt (C : gC p s m args c cc nL own D cy A H0) {a b off : Int} {tgt : Nat} (ha : rng a) (hb : rng b) (ht : (pc : Int) + off = (tgt : Int)) (hd : decode cc pc = .ok (.if_icmp .gt off, 3)) (kt : b < a → gW p l e R s m args below meth c D cy A H0 Q nL kd ln rh cells slots M tgt lv st) (kf : ¬ (b < a) → gW p l e R s m args below meth c D cy A H0 Q nL kd ln rh cells slots M (pc + 3) lv st) : gW p l e R s m args below meth c D cy A H0 Q nL kd ln rh cells slots M pc lv (.int (gI b) :: .int (gI a) :: st) := fun H locs ls hS hl => lv_icmp_gt C.1 C.2.1 hd ht (fun h => kt ((gI_lt hb ha).mp h) H locs ls hS hl) (fun h => kf (fun q => h ((gI_lt hb ha).mpr q)) H locs ls hS hl)
theorem q_if_gt (C : gC p s m args c cc nL own D cy A H0) {a off : Int} {tgt : Nat} (ha : rng a) (ht : (pc : Int) + off = (tgt : Int)) (hd : decode cc pc = .ok (.ifCond .gt off, 3)) (kt : 0 < a → gW p l e R s m args below meth c D cy A H0 Q nL kd ln rh cells slots M tgt lv st) (kf : ¬ (0 < a) → gW p l e R s m args below meth c D cy A H0 Q nL kd ln rh cells slots M (pc + 3) lv st) : gW p l e R s m args below meth c D cy A H0 Q nL kd ln rh cells slots M pc lv (.int (gI a) :: st) := fun H locs ls hS hl => lv_if_gt C.1 C.2.1 hd ht (fun h => kt ((gI_lt (⟨by decide, by decide⟩ : rng 0) ha).mp h) H locs ls hS hl) (fun h => kf (fun q => h ((gI_lt (⟨by decide, by decide⟩ : rng 0) ha).mpr q)) H locs ls hS hl)
theorem q_icmp_le (C : gC p s m args c cc nL own D cy A H0) {a b off : Int} {tgt : Nat} (ha : rng a) (hb : rng b) (ht : (pc : Int) + off = (tgt : Int)) (hd : decode cc pc = .ok (.if_icmp .le off, 3)) (kt : a ≤ b → gW p l e R s m args below meth c D cy A H0 Q nL kd ln rh cells slots M tgt lv st) (kf : ¬ (a ≤ b) → gW p l e R s m args below meth c D cy A H0 Q nL kd ln rh cells slots M (pc + 3) lv st) : gW p l e R s m args below meth c D cy A H0 Q nL kd ln rh cells slots M pc lv (.int (gI b) :: .int (gI a) :: st) := fun H locs ls hS hl => lv_icmp_le C.1 C.2.1 hd ht (fun h => kt ((gI_le ha hb).mp h) H locs ls hS hl) (fun h => kf (fun q => h ((gI_le ha hb).mpr q)) H locs ls hS hl)
theorem q_if_le (C : gC p s m args c cc nL own D cy A H0) {a off : Int} {tgt : Nat} (ha : rng a) (ht : (pc : Int) + off = (tgt : Int)) (hd : decode cc pc = .ok (.ifCond .le off, 3)) (kt : a ≤ 0 → gW p l e R s m args below meth c D cy A H0 Q nL kd ln rh cells slots M tgt lv st) (kf : ¬ (a ≤ 0) → gW p l e R s m args below meth c D cy A H0 Q nL kd ln rh cells slots M (pc + 3) lv st) : gW p l e R s m args below meth c D cy A H0 Q nL kd ln rh cells slots M pc lv (.int (gI a) :: st) := fun H locs ls hS hl => lv_if_le C.1 C.2.1 hd ht (fun h => kt ((gI_le ha (⟨by decide, by decide⟩ : rng 0)).mp h) H locs ls hS hl) (fun h => kf (fun q => h ((gI_le ha (⟨by decide, by decide⟩ : rng 0)).mpr q)) H locs ls hS hl)
end GK
end
section
/-- a field by its class's row in the pool of 'own': class ci, slot k -/
def gFd (own : String) (idx ci k : Nat) (fin : Bool) : Prop := ci < 8 ∧ ∃ (Cn : String) (T : u_T) (N : Nat) (ty : Nat → FieldType), vwCl[ci]? = some (Cn, T, N) ∧ gnf ci = N ∧ (∀ w ∈ u_ws Cn T N, w ∈ gT) ∧ k < N ∧ Cond.fieldLink own idx (T k).1 (T k).2.1 (T k).2.2.1 ∈ gT ∧ (∀ k, k < N → parseFieldDescriptor (T k).2.2.1 = some (ty k)) ∧ (∀ a, a < N → ∀ b, b < N → a ≠ b → (T a).2.1 ≠ (T b).2.1) ∧ (T k).2.2.2 = fin
/-- a number is laid into a field -/
theorem gAt_put {D : va_G} {cy : Nat → ClassId} {kd : gKd} {ln : gLn} {rh : gRh} {M : gM} {H H' : Heap} {o x : Int} {k : Nat} {cell : Cell} {v : Value} (h : gAt D cy kd ln rh M H) (ho : kd o < 8) (hk : k < gnf (kd o))
    (hc : H[gad o]? = some cell) (e1 : H'[gad o]? = some (cell.setSlot (D.2 (kd o) k) v)) (e2 : H'.size = H.size) (e3 : ∀ q, q ≠ gad o → H'[q]? = H[q]?) (hap : ∀ a b, a < gnf (kd o) → b < gnf (kd o) → a ≠ b → D.2 (kd o) a ≠ D.2 (kd o) b)
    (hv : gfv (kd o) ln rh (gu M o k (-1) x) o k = v) (hr : gRg (kd o) k x) (ha : ∀ j, gft (kd o) k = j + 3 → x ≠ 0 → 0 ≤ ln x j) : gAt D cy kd ln rh (gu M o k (-1) x) H' := by
  obtain ⟨h1, h2, h3, h4, h5, h6⟩ := h
  refine ⟨fun o' ho' => ?_, fun o' k' hk' => ?_, h3, h4, fun o' k' i' => ?_, fun o' k' j' ho' hf' hm' => ?_⟩
  · obtain ⟨hp', hob⟩ := h1 o' ho'
    obtain ⟨hp, -⟩ := h1 o ho
    refine ⟨hp', ?_⟩
    by_cases e : o' = o
    · subst e
      obtain ⟨cell', q1, q2, q3, q4⟩ := hob
      cases q1.symm.trans hc
      refine ⟨_, e1, q2, q3, fun j hj => ?_⟩
      rw [t_set q4 hap hk v j hj]
      unfold updV
      split
      · rename_i hjk
        rw [hjk]
        exact congrArg some hv.symm
      · rename_i hjk
        congr 1
        show gfv _ _ _ _ _ _ = gfv _ _ _ _ _ _
        unfold gfv
        rw [gu_n (fun q => hjk q.2.1)]
    · have hne : gad o' ≠ gad o := fun q => e (gad_inj hp' hp q)
      refine (hob.kept (e3 _ hne)).to (fun j _ => ?_)
      show gfv _ _ _ _ _ _ = gfv _ _ _ _ _ _
      unfold gfv
      rw [gu_n (fun q => e q.1)]
  · obtain ⟨a1, a0, a2⟩ := h2 o' k' hk'
    refine ⟨a1, by rw [e2]; exact a0, ?_⟩
    rw [e3 _ (fun q => h4 o o' k' ho hk' q.symm), a2]
    congr 2
    funext j
    rw [gu_n (fun q => by have := q.2.2; omega)]
  · by_cases e : o' = o ∧ k' = k ∧ i' = -1
    · obtain ⟨rfl, rfl, rfl⟩ := e
      rw [gu_s]
      exact hr
    · rw [gu_n e]
      exact h5 o' k' i'
  · by_cases e : o' = o ∧ k' = k
    · obtain ⟨rfl, rfl⟩ := e
      rw [gu_s] at hm' ⊢
      exact ha j' hf' hm'
    · have e2 : gu M o k (-1) x o' k' (-1) = M o' k' (-1) := gu_n (fun q => e ⟨q.1, q.2.1⟩)
      rw [e2] at hm' ⊢
      exact h6 o' k' j' ho' hf' hm'
/-- a number is laid into an array -/
theorem gAt_ast {D : va_G} {cy : Nat → ClassId} {kd : gKd} {ln : gLn} {rh : gRh} {M : gM} {H H' : Heap} {o x i : Int} {k : Nat} {v : Value} (h : gAt D cy kd ln rh M H) (hi : 0 ≤ i) (hi2 : i < ln o k)
    (e1 : H'[rh o k]? = some ((arrV (cy (gak (kd o) k)) (ln o k).toNat (fun j => gav rh o (gak (kd o) k) (M o k j) j)).setSlot i.toNat v)) (e2 : H'.size = H.size) (e3 : ∀ q, q ≠ rh o k → H'[q]? = H[q]?)
    (hv : gav rh o (gak (kd o) k) x i.toNat = v) (hr : gRg (kd o) k x) : gAt D cy kd ln rh (gu M o k i x) H' := by
  obtain ⟨h1, h2, h3, h4, h5, h6⟩ := h
  refine ⟨fun o' ho' => ?_, fun o' k' hk' => ?_, h3, h4, fun o' k' i' => ?_, fun o' k' j' ho' hf' hm' => ?_⟩
  · obtain ⟨hp', hob⟩ := h1 o' ho'
    refine ⟨hp', (hob.kept (e3 _ (h4 o' o k ho' (by omega)))).to (fun j _ => ?_)⟩
    show gfv _ _ _ _ _ _ = gfv _ _ _ _ _ _
    unfold gfv
    rw [gu_n (fun q => by have := q.2.2; omega)]
  · obtain ⟨a1, a0, a2⟩ := h2 o' k' hk'
    refine ⟨a1, by rw [e2]; exact a0, ?_⟩
    by_cases e : o' = o ∧ k' = k
    · obtain ⟨rfl, rfl⟩ := e
      rw [e1, arrV_store]
      congr 2
      funext j
      unfold updV
      split
      · rename_i hj
        have hji : (j : Int) = i := by omega
        rw [hji, gu_s, hj, hv]
      · rename_i hj
        rw [gu_n (fun q => by have := q.2.2; omega)]
    · rw [e3 _ (fun q => e (h3 o' o k' k hk' (by omega) q)), a2]
      congr 2
      funext j
      rw [gu_n (fun q => e ⟨q.1, q.2.1⟩)]
  · by_cases e : o' = o ∧ k' = k ∧ i' = i
    · obtain ⟨rfl, rfl, rfl⟩ := e
      rw [gu_s]
      exact hr
    · rw [gu_n e]
      exact h5 o' k' i'
  · have e2 : gu M o k i x o' k' (-1) = M o' k' (-1) := gu_n (fun q => by have := q.2.2; omega)
    rw [e2] at hm' ⊢
    exact h6 o' k' j' ho' hf' hm'
section GH
variable {p : Program} {l : Launch} {e : Env} {R : Room} {s : State} {m : MethodId} {args : Array Value} {below : List Frame} {meth : Method} {c : Code} {cells slots : Nat} {Q : State → Prop} {cc : ByteArray} {nL : Nat} {own : String} {D : va_G} {cy : Nat → ClassId} {A : Nat → Prop} {H0 : Heap} {kd : gKd} {ln : gLn} {rh : gRh} {M : gM} {pc : Nat} {lv : List (Nat × Value)} {st : List Value}
theorem q_get (C : gC p s m args c cc nL own D cy A H0) {idx ci k : Nat} {fin : Bool} {o : Int} {v : Value} (F : gFd own idx ci k fin) (ho : kd o = ci) (hv : gfv ci ln rh M o k = v) (hd : decode cc pc = .ok (.getfield idx, 3)) (kk : gRg ci k (M o k (-1)) → gW p l e R s m args below meth c D cy A H0 Q nL kd ln rh cells slots M (pc + 3) lv (v :: st)) : gW p l e R s m args below meth c D cy A H0 Q nL kd ln rh cells slots M pc lv (.ref (gad o) :: st) := by
  intro H locs ls hS hl
  obtain ⟨hx, hb, hml, hown, hts, ⟨hK, -⟩, -⟩ := C
  obtain ⟨h8, Cn, T, N, ty, hcl, hN, hin, hkN, hlink, hty, hnm, -⟩ := F
  have hat := hS.1
  obtain ⟨hO, -, -, -, hRg, -⟩ := hat
  subst ho
  obtain ⟨hpos, cell, q1, q2, q3, q4⟩ := hO o h8
  obtain ⟨hSl, hfc, kC, hkC, hkind⟩ := hK.1 _ _ hcl
  obtain ⟨cf, kf, fi, f, hi, hsl⟩ := hSl k hkN
  refine W.getf hx hb hown (hts _ hlink) hi (u_facts hfc hkC (u_lays hts hin hkN) hi).1 q1 (by rw [q3]; exact fun h => by cases h) (v := v) ?_ rfl rfl hd (kk (hRg o k (-1)) H locs ls hS hl)
  rw [hsl, q4 k (by rw [hN]; exact hkN)]
  exact congrArg some hv
theorem q_put (C : gC p s m args c cc nL own D cy A H0) {idx ci k : Nat} {o x : Int} {v : Value} {ty : FieldType} (F : gFd own idx ci k false) (ho : kd o = ci) (hty : ∀ (Cn : String) (T : u_T) (N : Nat), vwCl[ci]? = some (Cn, T, N) → parseFieldDescriptor (T k).2.2.1 = some ty) (hv : gfv ci ln rh (gu M o k (-1) x) o k = v) (hn : narrow ty v = v) (hf : fits ty v = true) (hr : gRg ci k x) (ha : ∀ j, gft ci k = j + 3 → x ≠ 0 → 0 ≤ ln x j) (hd : decode cc pc = .ok (.putfield idx, 3)) (kk : gW p l e R s m args below meth c D cy A H0 Q nL kd ln rh cells slots (gu M o k (-1) x) (pc + 3) lv st) : gW p l e R s m args below meth c D cy A H0 Q nL kd ln rh cells slots M pc lv (v :: .ref (gad o) :: st) := by
  intro H locs ls hS hl
  obtain ⟨hx, hb, hml, hown, hts, ⟨hK, -⟩, -⟩ := C
  obtain ⟨h8, Cn, T, N, ty0, hcl, hN, hin, hkN, hlink, hty0, hnm, hfin⟩ := F
  obtain ⟨hat, hA1, hA2, hA3, hVS⟩ := hS
  subst ho
  obtain ⟨hpos, cell, q1, q2, q3, q4⟩ := hat.1 o h8
  have hap := va_apart (own := own) hts hin ty0 hty0 hnm hK hcl
  obtain ⟨hSl, hfc, kC, hkC, hkind⟩ := hK.1 _ _ hcl
  obtain ⟨cf, kf, fi, f, hi, hsl⟩ := hSl k hkN
  have hlay := hts _ (hin _ (u_in_lay hkN))
  unfold u_lay at hlay
  rw [if_neg (by rw [hfin]; decide)] at hlay
  have hst := (u_facts hfc hkC (u_lays hts hin hkN) hi).1
  have h6 := u_store hfc hkC hkind hlay hi (hty _ _ _ hcl) hn hf
  refine W.putK hx hb (f := f) ⟨hown, hts _ hlink, ⟨_, _, _, hi⟩, hst⟩ (by rw [q2]; exact h6) q1 q3 (by rw [hsl]; exact k2_hasslot (q4 k (by rw [hN]; exact hkN))) rfl rfl hd fun H' e1 e2 e3 => ?_
  rw [hsl] at e1 ⊢
  exact kk H' _ ls ⟨gAt_put hat h8 (by rw [hN]; exact hkN) q1 e1 e2 e3 (fun a b ha hb' => hap a b (by rw [← hN]; exact ha) (by rw [← hN]; exact hb')) hv hr ha, hA1, hA2, hA3, hVS.put e2 e3 (hA1 o h8)⟩ hl
theorem q_iald (C : gC p s m args c cc nL own D cy A H0) {ci k : Nat} {o i : Int} (ho : kd o = ci) (ht : gak ci k = 8) (hg : ∀ x, gRg ci k x → rng x) (hi : 0 ≤ i ∧ i < ln o k) (hd : decode cc pc = .ok (.iaload, 1)) (kk : rng (M o k i) → gW p l e R s m args below meth c D cy A H0 Q nL kd ln rh cells slots M (pc + 1) lv (.int (gI (M o k i)) :: st)) : gW p l e R s m args below meth c D cy A H0 Q nL kd ln rh cells slots M pc lv (.int (gI i) :: .ref (rh o k) :: st) := by
  intro H locs ls hS hl
  obtain ⟨hx, hb, hml, hown, hts, ⟨hK, -⟩, -⟩ := C
  subst ho
  obtain ⟨a1, -, a2⟩ := hS.1.2.1 o k (by omega)
  have hz : i < ((ln o k).toNat : Int) := by omega
  refine W.iald (v := .int (gI (M o k i))) hx hb a2 (by rw [ht]; exact (hK.2 0 _ rfl).1 _ _) (fun q => by cases q) (by rw [arrV_size]; exact gI_in hi.1 hz (by omega)) ?_ rfl rfl hd (kk (hg _ (hS.1.2.2.2.2.1 o k i)) H locs ls hS hl)
  rw [gI_cl hi.1 (by omega), arrV_read _ _ (by omega), ht]
  show some (Value.int (gI (M o k (i.toNat : Int)))) = _
  rw [Int.toNat_of_nonneg hi.1]
theorem q_bald (C : gC p s m args c cc nL own D cy A H0) {ci k : Nat} {o i : Int} (ho : kd o = ci) (ht : gak ci k = 9) (hg : ∀ x, gRg ci k x → rng x) (hi : 0 ≤ i ∧ i < ln o k) (hd : decode cc pc = .ok (.baload, 1)) (kk : rng (M o k i) → gW p l e R s m args below meth c D cy A H0 Q nL kd ln rh cells slots M (pc + 1) lv (.int (gI (M o k i)) :: st)) : gW p l e R s m args below meth c D cy A H0 Q nL kd ln rh cells slots M pc lv (.int (gI i) :: .ref (rh o k) :: st) := by
  intro H locs ls hS hl
  obtain ⟨hx, hb, hml, hown, hts, ⟨hK, -⟩, -⟩ := C
  subst ho
  obtain ⟨a1, -, a2⟩ := hS.1.2.1 o k (by omega)
  have hz : i < ((ln o k).toNat : Int) := by omega
  refine W.bald (v := .int (gI (M o k i))) hx hb a2 (by rw [ht]; exact (hK.2 1 _ rfl).1 _ _) (fun q => by cases q) (by rw [arrV_size]; exact gI_in hi.1 hz (by omega)) ?_ rfl rfl hd (kk (hg _ (hS.1.2.2.2.2.1 o k i)) H locs ls hS hl)
  rw [gI_cl hi.1 (by omega), arrV_read _ _ (by omega), ht]
  show some (Value.int (gI (M o k (i.toNat : Int)))) = _
  rw [Int.toNat_of_nonneg hi.1]
theorem q_zald (C : gC p s m args c cc nL own D cy A H0) {ci k : Nat} {o i : Int} (ho : kd o = ci) (ht : gak ci k = 10) (hg : ∀ x, gRg ci k x → rng x) (hi : 0 ≤ i ∧ i < ln o k) (hd : decode cc pc = .ok (.baload, 1)) (kk : rng (M o k i) → gW p l e R s m args below meth c D cy A H0 Q nL kd ln rh cells slots M (pc + 1) lv (.int (gI (M o k i)) :: st)) : gW p l e R s m args below meth c D cy A H0 Q nL kd ln rh cells slots M pc lv (.int (gI i) :: .ref (rh o k) :: st) := by
  intro H locs ls hS hl
  obtain ⟨hx, hb, hml, hown, hts, ⟨hK, -⟩, -⟩ := C
  subst ho
  obtain ⟨a1, -, a2⟩ := hS.1.2.1 o k (by omega)
  have hz : i < ((ln o k).toNat : Int) := by omega
  refine W.zald (v := .int (gI (M o k i))) hx hb a2 (by rw [ht]; exact (hK.2 2 _ rfl).1 _ _) (fun q => by cases q) (by rw [arrV_size]; exact gI_in hi.1 hz (by omega)) ?_ rfl rfl hd (kk (hg _ (hS.1.2.2.2.2.1 o k i)) H locs ls hS hl)
  rw [gI_cl hi.1 (by omega), arrV_read _ _ (by omega), ht]
  show some (Value.int (gI (M o k (i.toNat : Int)))) = _
  rw [Int.toNat_of_nonneg hi.1]
theorem q_lald (C : gC p s m args c cc nL own D cy A H0) {ci k : Nat} {o i : Int} (ho : kd o = ci) (ht : gak ci k = 11) (hg : ∀ x, gRg ci k x → 0 ≤ x ∧ x < 18446744073709551616) (hi : 0 ≤ i ∧ i < ln o k) (hd : decode cc pc = .ok (.laload, 1)) (kk : 0 ≤ M o k i ∧ M o k i < 18446744073709551616 → gW p l e R s m args below meth c D cy A H0 Q nL kd ln rh cells slots M (pc + 1) lv (.long (gL (BitVec.ofInt 64 (M o k i))) :: st)) : gW p l e R s m args below meth c D cy A H0 Q nL kd ln rh cells slots M pc lv (.int (gI i) :: .ref (rh o k) :: st) := by
  intro H locs ls hS hl
  obtain ⟨hx, hb, hml, hown, hts, ⟨hK, -⟩, -⟩ := C
  subst ho
  obtain ⟨a1, -, a2⟩ := hS.1.2.1 o k (by omega)
  have hz : i < ((ln o k).toNat : Int) := by omega
  refine W.lald (v := .long (gL (BitVec.ofInt 64 (M o k i)))) hx hb a2 (by rw [ht]; exact (hK.2 3 _ rfl).1 _ _) (fun q => by cases q) (by rw [arrV_size]; exact gI_in hi.1 hz (by omega)) ?_ rfl rfl hd (kk (hg _ (hS.1.2.2.2.2.1 o k i)) H locs ls hS hl)
  rw [gI_cl hi.1 (by omega), arrV_read _ _ (by omega), ht]
  show some (Value.long (gL (BitVec.ofInt 64 (M o k (i.toNat : Int))))) = _
  rw [Int.toNat_of_nonneg hi.1]
theorem q_iast (C : gC p s m args c cc nL own D cy A H0) {ci k : Nat} {o i x : Int} (ho : kd o = ci) (ht : gak ci k = 8) (hr : gRg ci k x) (hi : 0 ≤ i ∧ i < ln o k) (hd : decode cc pc = .ok (.iastore, 1)) (kk : gW p l e R s m args below meth c D cy A H0 Q nL kd ln rh cells slots (gu M o k i x) (pc + 1) lv st) : gW p l e R s m args below meth c D cy A H0 Q nL kd ln rh cells slots M pc lv (.int (gI x) :: .int (gI i) :: .ref (rh o k) :: st) := by
  intro H locs ls hS hl
  obtain ⟨hx, hb, hml, hown, hts, ⟨hK, -⟩, -⟩ := C
  obtain ⟨hat, hA1, hA2, hA3, hVS⟩ := hS
  subst ho
  obtain ⟨a1, -, a2⟩ := hat.2.1 o k (by omega)
  have hz : i < ((ln o k).toNat : Int) := by omega
  refine W.iast hx hb a2 (by rw [ht]; exact (hK.2 0 _ rfl).1 _ _) (fun q => by cases q) (by rw [arrV_size]; exact gI_in hi.1 hz (by omega)) rfl rfl hd fun H' e1 e2 e3 => ?_
  rw [gI_cl hi.1 (by omega)] at e1
  exact kk H' _ ls ⟨gAt_ast hat hi.1 hi.2 e1 e2 e3 (by rw [ht]; rfl) hr, hA1, hA2, hA3, hVS.put e2 e3 (hA2 o k (by omega))⟩ hl
theorem gI_byte {x : Int} (h : -128 ≤ x ∧ x < 128) : narrow .byte (.int (gI x)) = .int (gI x) := by
  have h1 : (gI x).toInt8.toInt32 = gI x := by
    rw [← Int32.toInt_inj, Int8.toInt_toInt32, Int32.toInt_toInt8, gI_toInt ⟨by omega, by omega⟩]
    exact Int.bmod_eq_of_le (by omega) (by omega)
  show Value.int (vp_nar .byte (gI x)) = _
  rw [vp_nar_byte, h1]
theorem q_bast (C : gC p s m args c cc nL own D cy A H0) {ci k : Nat} {o i x : Int} (ho : kd o = ci) (ht : gak ci k = 9) (hr : gRg ci k x) (hx8 : -128 ≤ x ∧ x < 128) (hi : 0 ≤ i ∧ i < ln o k) (hd : decode cc pc = .ok (.bastore, 1)) (kk : gW p l e R s m args below meth c D cy A H0 Q nL kd ln rh cells slots (gu M o k i x) (pc + 1) lv st) : gW p l e R s m args below meth c D cy A H0 Q nL kd ln rh cells slots M pc lv (.int (gI x) :: .int (gI i) :: .ref (rh o k) :: st) := by
  intro H locs ls hS hl
  obtain ⟨hx, hb, hml, hown, hts, ⟨hK, -⟩, -⟩ := C
  obtain ⟨hat, hA1, hA2, hA3, hVS⟩ := hS
  subst ho
  obtain ⟨a1, -, a2⟩ := hat.2.1 o k (by omega)
  have hz : i < ((ln o k).toNat : Int) := by omega
  refine W.bast hx hb a2 (by rw [ht]; exact (hK.2 1 _ rfl).1 _ _) (fun q => by cases q) (by rw [arrV_size]; exact gI_in hi.1 hz (by omega)) rfl rfl hd fun H' e1 e2 e3 => ?_
  rw [gI_cl hi.1 (by omega)] at e1
  exact kk H' _ ls ⟨gAt_ast hat hi.1 hi.2 e1 e2 e3 (by rw [ht]; exact (gI_byte hx8).symm) hr, hA1, hA2, hA3, hVS.put e2 e3 (hA2 o k (by omega))⟩ hl
theorem gI_bool {x : Int} (h : x = 0 ∨ x = 1) : narrow .boolean (.int (gI x)) = .int (gI x) := by rcases h with rfl | rfl <;> rfl
theorem q_zast (C : gC p s m args c cc nL own D cy A H0) {ci k : Nat} {o i x : Int} (ho : kd o = ci) (ht : gak ci k = 10) (hr : gRg ci k x) (hx1 : x = 0 ∨ x = 1) (hi : 0 ≤ i ∧ i < ln o k) (hd : decode cc pc = .ok (.bastore, 1)) (kk : gW p l e R s m args below meth c D cy A H0 Q nL kd ln rh cells slots (gu M o k i x) (pc + 1) lv st) : gW p l e R s m args below meth c D cy A H0 Q nL kd ln rh cells slots M pc lv (.int (gI x) :: .int (gI i) :: .ref (rh o k) :: st) := by
  intro H locs ls hS hl
  obtain ⟨hx, hb, hml, hown, hts, ⟨hK, -⟩, -⟩ := C
  obtain ⟨hat, hA1, hA2, hA3, hVS⟩ := hS
  subst ho
  obtain ⟨a1, -, a2⟩ := hat.2.1 o k (by omega)
  have hz : i < ((ln o k).toNat : Int) := by omega
  refine W.zast hx hb a2 (by rw [ht]; exact (hK.2 2 _ rfl).1 _ _) (fun q => by cases q) (by rw [arrV_size]; exact gI_in hi.1 hz (by omega)) rfl rfl hd fun H' e1 e2 e3 => ?_
  rw [gI_cl hi.1 (by omega)] at e1
  exact kk H' _ ls ⟨gAt_ast hat hi.1 hi.2 e1 e2 e3 (by rw [ht]; exact (gI_bool hx1).symm) hr, hA1, hA2, hA3, hVS.put e2 e3 (hA2 o k (by omega))⟩ hl
theorem q_last (C : gC p s m args c cc nL own D cy A H0) {ci k : Nat} {o i : Int} {x : BitVec 64} (ho : kd o = ci) (ht : gak ci k = 11) (hr : gRg ci k x.toNat) (hi : 0 ≤ i ∧ i < ln o k) (hd : decode cc pc = .ok (.lastore, 1)) (kk : gW p l e R s m args below meth c D cy A H0 Q nL kd ln rh cells slots (gu M o k i x.toNat) (pc + 1) lv st) : gW p l e R s m args below meth c D cy A H0 Q nL kd ln rh cells slots M pc lv (.long (gL x) :: .int (gI i) :: .ref (rh o k) :: st) := by
  intro H locs ls hS hl
  obtain ⟨hx, hb, hml, hown, hts, ⟨hK, -⟩, -⟩ := C
  obtain ⟨hat, hA1, hA2, hA3, hVS⟩ := hS
  subst ho
  obtain ⟨a1, -, a2⟩ := hat.2.1 o k (by omega)
  have hz : i < ((ln o k).toNat : Int) := by omega
  refine W.last hx hb a2 (by rw [ht]; exact (hK.2 3 _ rfl).1 _ _) (fun q => by cases q) (by rw [arrV_size]; exact gI_in hi.1 hz (by omega)) rfl rfl hd fun H' e1 e2 e3 => ?_
  rw [gI_cl hi.1 (by omega)] at e1
  exact kk H' _ ls ⟨gAt_ast hat hi.1 hi.2 e1 e2 e3 (by rw [ht]; show Value.long (gL (BitVec.ofInt 64 (x.toNat : Int))) = _; rw [BitVec.ofInt_natCast, BitVec.ofNat_toNat, BitVec.setWidth_eq]) hr, hA1, hA2, hA3, hVS.put e2 e3 (hA2 o k (by omega))⟩ hl
theorem q_alen (C : gC p s m args c cc nL own D cy A H0) {ci k t0 : Nat} {ty : FieldType} {o : Int} (ho : kd o = ci) (ht : (gtys cy)[t0]? = some (cy (gak ci k), ty)) (hi : 0 ≤ ln o k) (hd : decode cc pc = .ok (.arraylength, 1)) (kk : ln o k < 2147483648 → gW p l e R s m args below meth c D cy A H0 Q nL kd ln rh cells slots M (pc + 1) lv (.int (gI (ln o k)) :: st)) : gW p l e R s m args below meth c D cy A H0 Q nL kd ln rh cells slots M pc lv (.ref (rh o k) :: st) := by
  intro H locs ls hS hl
  obtain ⟨hx, hb, hml, hown, hts, ⟨hK, -⟩, -⟩ := C
  subst ho
  obtain ⟨a1, -, a2⟩ := hS.1.2.1 o k hi
  refine W.alen hx hb a2 ((hK.2 t0 _ ht).1 _ _) ?_ rfl rfl hd (kk a1 H locs ls hS hl)
  rw [arrV_size]
  show Int32.ofNat _ = Int32.ofInt _
  rw [← Int32.ofInt_eq_ofNat, Int.toNat_of_nonneg hi]
end GH
end
section
/-! CONTRACTS of methods that make no cells: from the memory M, with the numbers vs, they end with 'post' -/
def gAdr (kd : gKd) (ln : gLn) (rh : gRh) (sz : Nat) (q : Nat) : Prop := (∃ o, kd o < 8 ∧ gad o = q) ∨ (∃ o k, 0 ≤ ln o k ∧ rh o k = q) ∨ sz ≤ q
def gPre (D : va_G) (cy : Nat → ClassId) (kd : gKd) (ln : gLn) (rh : gRh) (M : gM) (sz : Nat) (U : State) : Prop := U.heap.size = sz ∧ gAt D cy kd ln rh M U.heap ∧ gK D cy U ∧ gZ cy (gAdr kd ln rh sz) U U.heap
def gEnd (D : va_G) (cy : Nat → ClassId) (kd : gKd) (ln : gLn) (rh : gRh) (u : gM) (t : State) : Prop := gAt D cy kd ln rh u t.heap
def gws (y : MethodName) (b : ByteArray) (n : Nat) (r : Option FieldType) : List Cond := Cond.code y b n r :: gT
abbrev gRm (fr lo : Nat) : Room := { frames := fr, cells := 0, slots := 0, locals := lo }
theorem gws_in {y : MethodName} {b : ByteArray} {n : Nat} {r : Option FieldType} (h : Cond.code y b n r ∈ gT) : GoodIn gT (gws y b n r) := by
  intro w hw
  have h1 : w ∈ gT := by
    rcases List.mem_cons.mp hw with q | q
    · rw [q]; exact h
    · exact q
  exact ⟨h1, good_of_word (gT_good w h1)⟩
theorem gPre_blind {D : va_G} {cy : Nat → ClassId} {kd : gKd} {ln : gLn} {rh : gRh} {M : gM} {sz : Nat} {vs : List Value} : FrameBlind (va_Pc vs (gPre D cy kd ln rh M sz)) := by
  intro a U g mk q
  obtain ⟨q0, q1, q2, q3, q4⟩ := q
  exact ⟨q0, q1, q2, gK.same (s := U) (U := U.calling g mk a) rfl q3, gZ.go (u := U) (U := U.calling g mk a) q4 (Vm.Alike.refl U.vm) (fun _ _ _ => rfl) (fun _ h => h)⟩
theorem gS_adr {D : va_G} {cy : Nat → ClassId} {A : Nat → Prop} {H0 : Heap} {kd : gKd} {ln : gLn} {rh : gRh} {M : gM} {H : Heap} {locs : List Loc} (h : gS D cy A H0 kd ln rh M H locs) : ∀ q, gAdr kd ln rh H.size q → A q := by
  intro q hq
  rcases hq with ⟨o, h1, rfl⟩ | ⟨o, k, h1, rfl⟩ | h1
  · exact h.2.1 o h1
  · exact h.2.2.1 o k h1
  · exact h.2.2.2.1 q (Nat.le_trans h.2.2.2.2.1 h1)
def gMI (l : Launch) (D : va_G) (cy : Nat → ClassId) (y : MethodName) (b : ByteArray) (n : Nat) (rt : FieldType) (fr lo : Nat) (vs : List Value) (kd : gKd) (ln : gLn) (rh : gRh) (M : gM) (post : Int → gM → Prop) : Prop :=
  ∀ sz : Nat, Met l y (gws y b n (some rt)) (gRm fr lo) (va_Pc vs (gPre D cy kd ln rh M sz)) (va_Qi (fun r (u : gM) => ∃ x, r = gI x ∧ rng x ∧ post x u) (gEnd D cy kd ln rh) (gAdr kd ln rh sz)) 0 0 (gAdr kd ln rh sz)
def gMV (l : Launch) (D : va_G) (cy : Nat → ClassId) (y : MethodName) (b : ByteArray) (n : Nat) (fr lo : Nat) (vs : List Value) (kd : gKd) (ln : gLn) (rh : gRh) (M : gM) (post : gM → Prop) : Prop :=
  ∀ sz : Nat, Met l y (gws y b n none) (gRm fr lo) (va_Pc vs (gPre D cy kd ln rh M sz)) (va_Qv (fun (u : gM) => post u) (gEnd D cy kd ln rh) (gAdr kd ln rh sz)) 0 0 (gAdr kd ln rh sz)
def gML (l : Launch) (D : va_G) (cy : Nat → ClassId) (y : MethodName) (b : ByteArray) (n : Nat) (fr lo : Nat) (vs : List Value) (kd : gKd) (ln : gLn) (rh : gRh) (M : gM) (post : BitVec 64 → gM → Prop) : Prop :=
  ∀ sz : Nat, Met l y (gws y b n (some .long)) (gRm fr lo) (va_Pc vs (gPre D cy kd ln rh M sz)) (va_Ql (fun r (u : gM) => ∃ x, r = gL x ∧ post x u) (gEnd D cy kd ln rh) (gAdr kd ln rh sz)) 0 0 (gAdr kd ln rh sz)
theorem gMI_of {l : Launch} {D : va_G} {cy : Nat → ClassId} {y : MethodName} {b : ByteArray} {n : Nat} {fr lo : Nat} {vs : List Value} {kd : gKd} {ln : gLn} {rh : gRh} {M : gM} {own : String} (hy : plainName y.cls = true) (ho : y.cls = own) (hnl : (lg_sl vs).length ≤ n) {post : Int → gM → Prop} (body : ∀ (p : Program) (e : Env) (s : State) (m : MethodId) (args : Array Value) (below : List Frame) (meth : Method) (c : Code) (A : Nat → Prop) (H0 : Heap) (Q : State → Prop), gC p s m args c b n own D cy A H0 → (∀ (x : Int) (M' : gM) (pc' : Nat) (lv' : List (Nat × Value)), decode b pc' = .ok (.ireturn, 1) → rng x → post x M' → gW p l e (gRm fr lo) s m args below meth c D cy A H0 Q n kd ln rh 0 0 M' pc' lv' [.int (gI x)]) → gW p l e (gRm fr lo) s m args below meth c D cy A H0 Q n kd ln rh 0 0 M 0 (lv_args 0 vs) []) : gMI l D cy y b n .int fr lo vs kd ln rh M post := by
  intro sz
  refine Met.ofW (cc := b) (maxL := n) (ret := (some .int)) hy rfl ?_
  intro p e s m args below meth c s₁ B hml hv
  obtain ⟨rfl, hsz, hat, hK, hZ⟩ := hv
  have hx := B.exec
  have hb := B.bytes
  have hr := B.returns
  have hts0 := atoms_spec (ws := gws y b n (some .int)) B.pre
  have hts : ∀ w ∈ gT, w.before vs.toArray s = true := fun w hw => hts0 w (List.mem_cons_of_mem _ hw)
  have hown : s.vm.findClass y.cls = some m.cls := findClass_of_methodNamed B.named
  have hlocks := B.notSynchronized
  rw [ho] at hown
  have hl := lv_entry vs (n := n) hnl
  rw [lg_entry_eq]
  generalize (lg_sl vs ++ List.replicate (n - (lg_sl vs).length) Slot.unset).toArray = ls at hl ⊢
  refine body p e s m vs.toArray below meth c (gAdr kd ln rh sz) s.heap _ ⟨hx, hb, hml, hown, hts, hK, rfl, hZ⟩ ?_ s.heap [] ls ⟨hat, fun o h => Or.inl ⟨o, h, rfl⟩, fun o k h => Or.inr (Or.inl ⟨o, k, h, rfl⟩), fun q h => Or.inr (Or.inr (by rw [← hsz]; exact h)), va_S.rf⟩ hl
  intro x M' pc' lv' hd hc hp H locs ls' hS hl'
  exact W.iret (v := gI x) hx hb hr (fun t ht hW => ⟨⟨gI x, M', rfl, ⟨x, rfl, hc, hp⟩, by unfold gEnd; rw [ht]; exact hS.1⟩, hS.2.2.2.2.F ht⟩) hS.2.2.2.2.2.2 hd
theorem gMI_ofZ {l : Launch} {D : va_G} {cy : Nat → ClassId} {y : MethodName} {b : ByteArray} {n : Nat} {fr lo : Nat} {vs : List Value} {kd : gKd} {ln : gLn} {rh : gRh} {M : gM} {own : String} (hy : plainName y.cls = true) (ho : y.cls = own) (hnl : (lg_sl vs).length ≤ n) {post : Int → gM → Prop} (body : ∀ (p : Program) (e : Env) (s : State) (m : MethodId) (args : Array Value) (below : List Frame) (meth : Method) (c : Code) (A : Nat → Prop) (H0 : Heap) (Q : State → Prop), gC p s m args c b n own D cy A H0 → (∀ (x : Int) (M' : gM) (pc' : Nat) (lv' : List (Nat × Value)), decode b pc' = .ok (.ireturn, 1) → (x = 0 ∨ x = 1) → post x M' → gW p l e (gRm fr lo) s m args below meth c D cy A H0 Q n kd ln rh 0 0 M' pc' lv' [.int (gI x)]) → gW p l e (gRm fr lo) s m args below meth c D cy A H0 Q n kd ln rh 0 0 M 0 (lv_args 0 vs) []) : gMI l D cy y b n .boolean fr lo vs kd ln rh M post := by
  intro sz
  refine Met.ofW (cc := b) (maxL := n) (ret := (some .boolean)) hy rfl ?_
  intro p e s m args below meth c s₁ B hml hv
  obtain ⟨rfl, hsz, hat, hK, hZ⟩ := hv
  have hx := B.exec
  have hb := B.bytes
  have hr := B.returns
  have hts0 := atoms_spec (ws := gws y b n (some .boolean)) B.pre
  have hts : ∀ w ∈ gT, w.before vs.toArray s = true := fun w hw => hts0 w (List.mem_cons_of_mem _ hw)
  have hown : s.vm.findClass y.cls = some m.cls := findClass_of_methodNamed B.named
  have hlocks := B.notSynchronized
  rw [ho] at hown
  have hl := lv_entry vs (n := n) hnl
  rw [lg_entry_eq]
  generalize (lg_sl vs ++ List.replicate (n - (lg_sl vs).length) Slot.unset).toArray = ls at hl ⊢
  refine body p e s m vs.toArray below meth c (gAdr kd ln rh sz) s.heap _ ⟨hx, hb, hml, hown, hts, hK, rfl, hZ⟩ ?_ s.heap [] ls ⟨hat, fun o h => Or.inl ⟨o, h, rfl⟩, fun o k h => Or.inr (Or.inl ⟨o, k, h, rfl⟩), fun q h => Or.inr (Or.inr (by rw [← hsz]; exact h)), va_S.rf⟩ hl
  intro x M' pc' lv' hd hc hp H locs ls' hS hl'
  have hc2 : rng x := by rcases hc with rfl | rfl <;> decide
  exact W.zret (v := gI x) (ty := .boolean) hx hb hr (gI_bool hc) (fun t ht hW => ⟨⟨gI x, M', rfl, ⟨x, rfl, hc2, hp⟩, by unfold gEnd; rw [ht]; exact hS.1⟩, hS.2.2.2.2.F ht⟩) hS.2.2.2.2.2.2 hd
theorem gMV_of {l : Launch} {D : va_G} {cy : Nat → ClassId} {y : MethodName} {b : ByteArray} {n : Nat} {fr lo : Nat} {vs : List Value} {kd : gKd} {ln : gLn} {rh : gRh} {M : gM} {own : String} (hy : plainName y.cls = true) (ho : y.cls = own) (hnl : (lg_sl vs).length ≤ n) {post : gM → Prop} (body : ∀ (p : Program) (e : Env) (s : State) (m : MethodId) (args : Array Value) (below : List Frame) (meth : Method) (c : Code) (A : Nat → Prop) (H0 : Heap) (Q : State → Prop), gC p s m args c b n own D cy A H0 → (∀ (M' : gM) (pc' : Nat) (lv' : List (Nat × Value)), decode b pc' = .ok (.return_, 1) → post M' → gW p l e (gRm fr lo) s m args below meth c D cy A H0 Q n kd ln rh 0 0 M' pc' lv' []) → gW p l e (gRm fr lo) s m args below meth c D cy A H0 Q n kd ln rh 0 0 M 0 (lv_args 0 vs) []) : gMV l D cy y b n fr lo vs kd ln rh M post := by
  intro sz
  refine Met.ofW (cc := b) (maxL := n) (ret := none) hy rfl ?_
  intro p e s m args below meth c s₁ B hml hv
  obtain ⟨rfl, hsz, hat, hK, hZ⟩ := hv
  have hx := B.exec
  have hb := B.bytes
  have hr := B.returns
  have hts0 := atoms_spec (ws := gws y b n none) B.pre
  have hts : ∀ w ∈ gT, w.before vs.toArray s = true := fun w hw => hts0 w (List.mem_cons_of_mem _ hw)
  have hown : s.vm.findClass y.cls = some m.cls := findClass_of_methodNamed B.named
  have hlocks := B.notSynchronized
  rw [ho] at hown
  have hl := lv_entry vs (n := n) hnl
  rw [lg_entry_eq]
  generalize (lg_sl vs ++ List.replicate (n - (lg_sl vs).length) Slot.unset).toArray = ls at hl ⊢
  refine body p e s m vs.toArray below meth c (gAdr kd ln rh sz) s.heap _ ⟨hx, hb, hml, hown, hts, hK, rfl, hZ⟩ ?_ s.heap [] ls ⟨hat, fun o h => Or.inl ⟨o, h, rfl⟩, fun o k h => Or.inr (Or.inl ⟨o, k, h, rfl⟩), fun q h => Or.inr (Or.inr (by rw [← hsz]; exact h)), va_S.rf⟩ hl
  intro M' pc' lv' hd hp H locs ls' hS hl'
  exact W.vret hx hb hr (fun t ht hW => ⟨⟨M', rfl, hp, by unfold gEnd; rw [ht]; exact hS.1⟩, hS.2.2.2.2.F ht⟩) hS.2.2.2.2.2.2 hd
theorem gML_of {l : Launch} {D : va_G} {cy : Nat → ClassId} {y : MethodName} {b : ByteArray} {n : Nat} {fr lo : Nat} {vs : List Value} {kd : gKd} {ln : gLn} {rh : gRh} {M : gM} {own : String} (hy : plainName y.cls = true) (ho : y.cls = own) (hnl : (lg_sl vs).length ≤ n) {post : BitVec 64 → gM → Prop} (body : ∀ (p : Program) (e : Env) (s : State) (m : MethodId) (args : Array Value) (below : List Frame) (meth : Method) (c : Code) (A : Nat → Prop) (H0 : Heap) (Q : State → Prop), gC p s m args c b n own D cy A H0 → (∀ (x : BitVec 64) (M' : gM) (pc' : Nat) (lv' : List (Nat × Value)), decode b pc' = .ok (.lreturn, 1) → post x M' → gW p l e (gRm fr lo) s m args below meth c D cy A H0 Q n kd ln rh 0 0 M' pc' lv' [.long (gL x)]) → gW p l e (gRm fr lo) s m args below meth c D cy A H0 Q n kd ln rh 0 0 M 0 (lv_args 0 vs) []) : gML l D cy y b n fr lo vs kd ln rh M post := by
  intro sz
  refine Met.ofW (cc := b) (maxL := n) (ret := (some .long)) hy rfl ?_
  intro p e s m args below meth c s₁ B hml hv
  obtain ⟨rfl, hsz, hat, hK, hZ⟩ := hv
  have hx := B.exec
  have hb := B.bytes
  have hr := B.returns
  have hts0 := atoms_spec (ws := gws y b n (some .long)) B.pre
  have hts : ∀ w ∈ gT, w.before vs.toArray s = true := fun w hw => hts0 w (List.mem_cons_of_mem _ hw)
  have hown : s.vm.findClass y.cls = some m.cls := findClass_of_methodNamed B.named
  have hlocks := B.notSynchronized
  rw [ho] at hown
  have hl := lv_entry vs (n := n) hnl
  rw [lg_entry_eq]
  generalize (lg_sl vs ++ List.replicate (n - (lg_sl vs).length) Slot.unset).toArray = ls at hl ⊢
  refine body p e s m vs.toArray below meth c (gAdr kd ln rh sz) s.heap _ ⟨hx, hb, hml, hown, hts, hK, rfl, hZ⟩ ?_ s.heap [] ls ⟨hat, fun o h => Or.inl ⟨o, h, rfl⟩, fun o k h => Or.inr (Or.inl ⟨o, k, h, rfl⟩), fun q h => Or.inr (Or.inr (by rw [← hsz]; exact h)), va_S.rf⟩ hl
  intro x M' pc' lv' hd hp H locs ls' hS hl'
  exact W.lret (v := gL x) hx hb hr (fun t ht hW => ⟨⟨gL x, M', rfl, ⟨x, rfl, hp⟩, by unfold gEnd; rw [ht]; exact hS.1⟩, hS.2.2.2.2.F ht⟩) hS.2.2.2.2.2.2 hd
/-! CALLS -/
def gCV (own : String) (idx : Nat) (y : MethodName) (na : Nat) : Prop := Cond.methodLink own idx y ∈ gT ∧ Cond.instanceMethod y ∈ gT ∧ Cond.selects y.cls y y ∈ gT ∧ Cond.initialized y.cls ∈ gT ∧ y.cls ≠ "java/lang/invoke/MethodHandle" ∧ y.cls ≠ "java/lang/invoke/VarHandle" ∧ (parseMethodDescriptor y.desc).map (fun d => d.parameters.length) = some na
def gCS (own : String) (idx : Nat) (y : MethodName) (na : Nat) : Prop := Cond.methodLink own idx y ∈ gT ∧ Cond.static y ∈ gT ∧ Cond.initialized y.cls ∈ gT ∧ y.cls ≠ "java/lang/invoke/MethodHandle" ∧ y.cls ≠ "java/lang/invoke/VarHandle" ∧ (parseMethodDescriptor y.desc).map (fun d => d.parameters.length) = some na
def gCN (own : String) (idx : Nat) (y : MethodName) (na : Nat) : Prop := (∃ host, (own, idx, y, host) ∈ gNest) ∧ Cond.static y ∈ gT ∧ Cond.initialized y.cls ∈ gT ∧ y.cls ≠ "java/lang/invoke/MethodHandle" ∧ y.cls ≠ "java/lang/invoke/VarHandle" ∧ (parseMethodDescriptor y.desc).map (fun d => d.parameters.length) = some na
section GCall
variable {p : Program} {l : Launch} {e : Env} {R : Room} {s : State} {m : MethodId} {args : Array Value} {below : List Frame} {meth : Method} {c : Code} {cells slots : Nat} {Q : State → Prop} {cc : ByteArray} {nL : Nat} {own : String} {D : va_G} {cy : Nat → ClassId} {A : Nat → Prop} {H0 : Heap} {kd : gKd} {ln : gLn} {rh : gRh} {M : gM} {pc : Nat} {lv : List (Nat × Value)} {st : List Value}
variable {y : MethodName} {b : ByteArray} {n fr lo idx na : Nat} {As st0 : List Value}
theorem q_callVI (C : gC p s m args c cc nL own D cy A H0) {rt : FieldType} {post : Int → gM → Prop} {o : Int} {ci : Nat} (G : gCV own idx y na) (hcode : Cond.code y b n (some rt) ∈ gT) (hcs : cells ≤ R.cells ∧ slots ≤ R.slots) (hR : fr + 1 ≤ R.frames ∧ 8 + (n + 11) + lo ≤ R.locals) (hna : As.length = na) (ho : kd o = ci) (hci : ∃ T N, vwCl[ci]? = some (y.cls, T, N)) (h8 : ci < 8) (hst : st0 = As.reverse ++ .ref (gad o) :: st) (hrm : (st.map fun v => v.category).sum ≤ 8) (hM : gMI l D cy y b n rt fr lo (.ref (gad o) :: As) kd ln rh M post) (hd : decode cc pc = .ok (.invokevirtual idx, 3)) (kk : ∀ (x : Int) (M' : gM), rng x → post x M' → gW p l e R s m args below meth c D cy A H0 Q nL kd ln rh cells slots M' (pc + 3) lv (.int (gI x) :: st)) : gW p l e R s m args below meth c D cy A H0 Q nL kd ln rh cells slots M pc lv st0 := by
  intro H locs ls hS hl
  obtain ⟨hx, hb, hml, hown, hts, hK, -, hZ⟩ := C
  have hS2 := hS
  obtain ⟨hat, hA1, hA2, hA3, hVS0⟩ := hS2
  obtain ⟨T, N, hcl⟩ := hci
  have hre : ∃ cell : Cell, H[gad o]? = some cell ∧ cell.vm.isStatics = false ∧ s.vm.findClass y.cls = some cell.cls := by
    obtain ⟨-, cell, q1, q2, q3, -⟩ := hat.1 o (by rw [ho]; exact h8)
    exact ⟨cell, q1, by rw [q3]; rfl, by rw [q2, ho]; exact (hK.1.1 _ _ hcl).2.1⟩
  refine va_calli (va_runV (As := As) (rest := st) ⟨hx, hb, hml, hown, hts⟩ (hM H.size) ⟨callB_of na hts (gws_in hcode) rfl rfl rfl (hts _ G.2.2.2.1) (hts _ G.1) ⟨G.2.2.2.2.1, G.2.2.2.2.2.1, G.2.2.2.2.2.2⟩ hR, hts _ G.2.1, hts _ G.2.2.1⟩ ⟨gPre_blind, hre, fun U hU hW => ⟨rfl, by rw [hU], by rw [hU]; exact hat, gK.warm hW hK, by rw [hU]; exact gZ.go hZ hW.alike hVS0.2.1 (gS_adr hS)⟩⟩ rfl hna hl.1 hst (lv_room hrm) hd hcs) hVS0 (fun q _ h => gS_adr hS q h) (gS_adr hS) (fun r u t H1 locs1 ht hvm hw hB hz1 hk1 hVS => ?_)
  obtain ⟨x, rfl, hrx, hpx⟩ := hw
  have hB : gAt D cy kd ln rh u t.heap := hB
  rw [ht] at hB
  exact kk x u hrx hpx H1 locs1 ls ⟨hB, hA1, hA2, hA3, hVS⟩ hl
theorem q_callSI (C : gC p s m args c cc nL own D cy A H0) {rt : FieldType} {post : Int → gM → Prop} (G : gCS own idx y na) (hcode : Cond.code y b n (some rt) ∈ gT) (hcs : cells ≤ R.cells ∧ slots ≤ R.slots) (hR : fr + 1 ≤ R.frames ∧ 8 + (n + 11) + lo ≤ R.locals) (hna : As.length = na) (hst : st0 = As.reverse ++ st) (hrm : (st.map fun v => v.category).sum ≤ 8) (hM : gMI l D cy y b n rt fr lo As kd ln rh M post) (hd : decode cc pc = .ok (.invokestatic idx, 3)) (kk : ∀ (x : Int) (M' : gM), rng x → post x M' → gW p l e R s m args below meth c D cy A H0 Q nL kd ln rh cells slots M' (pc + 3) lv (.int (gI x) :: st)) : gW p l e R s m args below meth c D cy A H0 Q nL kd ln rh cells slots M pc lv st0 := by
  intro H locs ls hS hl
  obtain ⟨hx, hb, hml, hown, hts, hK, -, hZ⟩ := C
  have hS2 := hS
  obtain ⟨hat, hA1, hA2, hA3, hVS0⟩ := hS2
  refine va_calli (va_runS (As := As) (rest := st) ⟨hx, hb, hml, hown, hts⟩ (hM H.size) ⟨callB_of na hts (gws_in hcode) rfl rfl rfl (hts _ G.2.2.1) (hts _ G.1) ⟨G.2.2.2.1, G.2.2.2.2.1, G.2.2.2.2.2⟩ hR, hts _ G.2.1⟩ ⟨gPre_blind, fun U hU hW => ⟨rfl, by rw [hU], by rw [hU]; exact hat, gK.warm hW hK, by rw [hU]; exact gZ.go hZ hW.alike hVS0.2.1 (gS_adr hS)⟩⟩ rfl hna hl.1 hst (lv_room hrm) hd hcs) hVS0 (fun q _ h => gS_adr hS q h) (gS_adr hS) (fun r u t H1 locs1 ht hvm hw hB hz1 hk1 hVS => ?_)
  obtain ⟨x, rfl, hrx, hpx⟩ := hw
  have hB : gAt D cy kd ln rh u t.heap := hB
  rw [ht] at hB
  exact kk x u hrx hpx H1 locs1 ls ⟨hB, hA1, hA2, hA3, hVS⟩ hl
theorem q_callNI (C : gC p s m args c cc nL own D cy A H0) {rt : FieldType} {post : Int → gM → Prop} (G : gCN own idx y na) (hcode : Cond.code y b n (some rt) ∈ gT) (hcs : cells ≤ R.cells ∧ slots ≤ R.slots) (hR : fr + 1 ≤ R.frames ∧ 8 + (n + 11) + lo ≤ R.locals) (hna : As.length = na) (hst : st0 = As.reverse ++ st) (hrm : (st.map fun v => v.category).sum ≤ 8) (hM : gMI l D cy y b n rt fr lo As kd ln rh M post) (hd : decode cc pc = .ok (.invokestatic idx, 3)) (kk : ∀ (x : Int) (M' : gM), rng x → post x M' → gW p l e R s m args below meth c D cy A H0 Q nL kd ln rh cells slots M' (pc + 3) lv (.int (gI x) :: st)) : gW p l e R s m args below meth c D cy A H0 Q nL kd ln rh cells slots M pc lv st0 := by
  intro H locs ls hS hl
  obtain ⟨hx, hb, hml, hown, hts, hK, -, hZ⟩ := C
  have hS2 := hS
  obtain ⟨hat, hA1, hA2, hA3, hVS0⟩ := hS2
  obtain ⟨⟨host, hnest⟩, G⟩ := G
  refine va_calli (va_runSN (As := As) (rest := st) ⟨hx, hb, hml, hown, hts⟩ (hM H.size) ⟨va_cnB na hts (gws_in hcode) rfl rfl rfl (hK.2.1 _ hnest) (hts _ G.2.1) ⟨G.2.2.1, G.2.2.2.1, G.2.2.2.2⟩ hR, hts _ G.1, trivial⟩ ⟨gPre_blind, fun U hU hW => ⟨rfl, by rw [hU], by rw [hU]; exact hat, gK.warm hW hK, by rw [hU]; exact gZ.go hZ hW.alike hVS0.2.1 (gS_adr hS)⟩⟩ rfl hna hl.1 hst (lv_room hrm) hd hcs) hVS0 (fun q _ h => gS_adr hS q h) (gS_adr hS) (fun r u t H1 locs1 ht hvm hw hB hz1 hk1 hVS => ?_)
  obtain ⟨x, rfl, hrx, hpx⟩ := hw
  have hB : gAt D cy kd ln rh u t.heap := hB
  rw [ht] at hB
  exact kk x u hrx hpx H1 locs1 ls ⟨hB, hA1, hA2, hA3, hVS⟩ hl
theorem q_callVV (C : gC p s m args c cc nL own D cy A H0) {post : gM → Prop} {o : Int} {ci : Nat} (G : gCV own idx y na) (hcode : Cond.code y b n none ∈ gT) (hcs : cells ≤ R.cells ∧ slots ≤ R.slots) (hR : fr + 1 ≤ R.frames ∧ 8 + (n + 11) + lo ≤ R.locals) (hna : As.length = na) (ho : kd o = ci) (hci : ∃ T N, vwCl[ci]? = some (y.cls, T, N)) (h8 : ci < 8) (hst : st0 = As.reverse ++ .ref (gad o) :: st) (hrm : (st.map fun v => v.category).sum ≤ 8) (hM : gMV l D cy y b n fr lo (.ref (gad o) :: As) kd ln rh M post) (hd : decode cc pc = .ok (.invokevirtual idx, 3)) (kk : ∀ (M' : gM), post M' → gW p l e R s m args below meth c D cy A H0 Q nL kd ln rh cells slots M' (pc + 3) lv st) : gW p l e R s m args below meth c D cy A H0 Q nL kd ln rh cells slots M pc lv st0 := by
  intro H locs ls hS hl
  obtain ⟨hx, hb, hml, hown, hts, hK, -, hZ⟩ := C
  have hS2 := hS
  obtain ⟨hat, hA1, hA2, hA3, hVS0⟩ := hS2
  obtain ⟨T, N, hcl⟩ := hci
  have hre : ∃ cell : Cell, H[gad o]? = some cell ∧ cell.vm.isStatics = false ∧ s.vm.findClass y.cls = some cell.cls := by
    obtain ⟨-, cell, q1, q2, q3, -⟩ := hat.1 o (by rw [ho]; exact h8)
    exact ⟨cell, q1, by rw [q3]; rfl, by rw [q2, ho]; exact (hK.1.1 _ _ hcl).2.1⟩
  refine va_callv (va_runV (As := As) (rest := st) ⟨hx, hb, hml, hown, hts⟩ (hM H.size) ⟨callB_of na hts (gws_in hcode) rfl rfl rfl (hts _ G.2.2.2.1) (hts _ G.1) ⟨G.2.2.2.2.1, G.2.2.2.2.2.1, G.2.2.2.2.2.2⟩ hR, hts _ G.2.1, hts _ G.2.2.1⟩ ⟨gPre_blind, hre, fun U hU hW => ⟨rfl, by rw [hU], by rw [hU]; exact hat, gK.warm hW hK, by rw [hU]; exact gZ.go hZ hW.alike hVS0.2.1 (gS_adr hS)⟩⟩ rfl hna hl.1 hst (lv_room hrm) hd hcs) hVS0 (fun q _ h => gS_adr hS q h) (gS_adr hS) (fun u t H1 locs1 ht hvm hw hB hz1 hk1 hVS => ?_)
  skip
  have hB : gAt D cy kd ln rh u t.heap := hB
  rw [ht] at hB
  exact kk u hw H1 locs1 ls ⟨hB, hA1, hA2, hA3, hVS⟩ hl
theorem q_callSV (C : gC p s m args c cc nL own D cy A H0) {post : gM → Prop} (G : gCS own idx y na) (hcode : Cond.code y b n none ∈ gT) (hcs : cells ≤ R.cells ∧ slots ≤ R.slots) (hR : fr + 1 ≤ R.frames ∧ 8 + (n + 11) + lo ≤ R.locals) (hna : As.length = na) (hst : st0 = As.reverse ++ st) (hrm : (st.map fun v => v.category).sum ≤ 8) (hM : gMV l D cy y b n fr lo As kd ln rh M post) (hd : decode cc pc = .ok (.invokestatic idx, 3)) (kk : ∀ (M' : gM), post M' → gW p l e R s m args below meth c D cy A H0 Q nL kd ln rh cells slots M' (pc + 3) lv st) : gW p l e R s m args below meth c D cy A H0 Q nL kd ln rh cells slots M pc lv st0 := by
  intro H locs ls hS hl
  obtain ⟨hx, hb, hml, hown, hts, hK, -, hZ⟩ := C
  have hS2 := hS
  obtain ⟨hat, hA1, hA2, hA3, hVS0⟩ := hS2
  refine va_callv (va_runS (As := As) (rest := st) ⟨hx, hb, hml, hown, hts⟩ (hM H.size) ⟨callB_of na hts (gws_in hcode) rfl rfl rfl (hts _ G.2.2.1) (hts _ G.1) ⟨G.2.2.2.1, G.2.2.2.2.1, G.2.2.2.2.2⟩ hR, hts _ G.2.1⟩ ⟨gPre_blind, fun U hU hW => ⟨rfl, by rw [hU], by rw [hU]; exact hat, gK.warm hW hK, by rw [hU]; exact gZ.go hZ hW.alike hVS0.2.1 (gS_adr hS)⟩⟩ rfl hna hl.1 hst (lv_room hrm) hd hcs) hVS0 (fun q _ h => gS_adr hS q h) (gS_adr hS) (fun u t H1 locs1 ht hvm hw hB hz1 hk1 hVS => ?_)
  skip
  have hB : gAt D cy kd ln rh u t.heap := hB
  rw [ht] at hB
  exact kk u hw H1 locs1 ls ⟨hB, hA1, hA2, hA3, hVS⟩ hl
theorem q_callNV (C : gC p s m args c cc nL own D cy A H0) {post : gM → Prop} (G : gCN own idx y na) (hcode : Cond.code y b n none ∈ gT) (hcs : cells ≤ R.cells ∧ slots ≤ R.slots) (hR : fr + 1 ≤ R.frames ∧ 8 + (n + 11) + lo ≤ R.locals) (hna : As.length = na) (hst : st0 = As.reverse ++ st) (hrm : (st.map fun v => v.category).sum ≤ 8) (hM : gMV l D cy y b n fr lo As kd ln rh M post) (hd : decode cc pc = .ok (.invokestatic idx, 3)) (kk : ∀ (M' : gM), post M' → gW p l e R s m args below meth c D cy A H0 Q nL kd ln rh cells slots M' (pc + 3) lv st) : gW p l e R s m args below meth c D cy A H0 Q nL kd ln rh cells slots M pc lv st0 := by
  intro H locs ls hS hl
  obtain ⟨hx, hb, hml, hown, hts, hK, -, hZ⟩ := C
  have hS2 := hS
  obtain ⟨hat, hA1, hA2, hA3, hVS0⟩ := hS2
  obtain ⟨⟨host, hnest⟩, G⟩ := G
  refine va_callv (va_runSN (As := As) (rest := st) ⟨hx, hb, hml, hown, hts⟩ (hM H.size) ⟨va_cnB na hts (gws_in hcode) rfl rfl rfl (hK.2.1 _ hnest) (hts _ G.2.1) ⟨G.2.2.1, G.2.2.2.1, G.2.2.2.2⟩ hR, hts _ G.1, trivial⟩ ⟨gPre_blind, fun U hU hW => ⟨rfl, by rw [hU], by rw [hU]; exact hat, gK.warm hW hK, by rw [hU]; exact gZ.go hZ hW.alike hVS0.2.1 (gS_adr hS)⟩⟩ rfl hna hl.1 hst (lv_room hrm) hd hcs) hVS0 (fun q _ h => gS_adr hS q h) (gS_adr hS) (fun u t H1 locs1 ht hvm hw hB hz1 hk1 hVS => ?_)
  skip
  have hB : gAt D cy kd ln rh u t.heap := hB
  rw [ht] at hB
  exact kk u hw H1 locs1 ls ⟨hB, hA1, hA2, hA3, hVS⟩ hl
theorem q_callVL (C : gC p s m args c cc nL own D cy A H0) {post : BitVec 64 → gM → Prop} {o : Int} {ci : Nat} (G : gCV own idx y na) (hcode : Cond.code y b n (some .long) ∈ gT) (hcs : cells ≤ R.cells ∧ slots ≤ R.slots) (hR : fr + 1 ≤ R.frames ∧ 8 + (n + 11) + lo ≤ R.locals) (hna : As.length = na) (ho : kd o = ci) (hci : ∃ T N, vwCl[ci]? = some (y.cls, T, N)) (h8 : ci < 8) (hst : st0 = As.reverse ++ .ref (gad o) :: st) (hrm : (st.map fun v => v.category).sum ≤ 8) (hM : gML l D cy y b n fr lo (.ref (gad o) :: As) kd ln rh M post) (hd : decode cc pc = .ok (.invokevirtual idx, 3)) (kk : ∀ (x : BitVec 64) (M' : gM), post x M' → gW p l e R s m args below meth c D cy A H0 Q nL kd ln rh cells slots M' (pc + 3) lv (.long (gL x) :: st)) : gW p l e R s m args below meth c D cy A H0 Q nL kd ln rh cells slots M pc lv st0 := by
  intro H locs ls hS hl
  obtain ⟨hx, hb, hml, hown, hts, hK, -, hZ⟩ := C
  have hS2 := hS
  obtain ⟨hat, hA1, hA2, hA3, hVS0⟩ := hS2
  obtain ⟨T, N, hcl⟩ := hci
  have hre : ∃ cell : Cell, H[gad o]? = some cell ∧ cell.vm.isStatics = false ∧ s.vm.findClass y.cls = some cell.cls := by
    obtain ⟨-, cell, q1, q2, q3, -⟩ := hat.1 o (by rw [ho]; exact h8)
    exact ⟨cell, q1, by rw [q3]; rfl, by rw [q2, ho]; exact (hK.1.1 _ _ hcl).2.1⟩
  refine va_calll (va_runV (As := As) (rest := st) ⟨hx, hb, hml, hown, hts⟩ (hM H.size) ⟨callB_of na hts (gws_in hcode) rfl rfl rfl (hts _ G.2.2.2.1) (hts _ G.1) ⟨G.2.2.2.2.1, G.2.2.2.2.2.1, G.2.2.2.2.2.2⟩ hR, hts _ G.2.1, hts _ G.2.2.1⟩ ⟨gPre_blind, hre, fun U hU hW => ⟨rfl, by rw [hU], by rw [hU]; exact hat, gK.warm hW hK, by rw [hU]; exact gZ.go hZ hW.alike hVS0.2.1 (gS_adr hS)⟩⟩ rfl hna hl.1 hst (lv_room hrm) hd hcs) hVS0 (fun q _ h => gS_adr hS q h) (gS_adr hS) (fun r u t H1 locs1 ht hvm hw hB hz1 hk1 hVS => ?_)
  obtain ⟨x, rfl, hpx⟩ := hw
  have hB : gAt D cy kd ln rh u t.heap := hB
  rw [ht] at hB
  exact kk x u hpx H1 locs1 ls ⟨hB, hA1, hA2, hA3, hVS⟩ hl
theorem q_callSL (C : gC p s m args c cc nL own D cy A H0) {post : BitVec 64 → gM → Prop} (G : gCS own idx y na) (hcode : Cond.code y b n (some .long) ∈ gT) (hcs : cells ≤ R.cells ∧ slots ≤ R.slots) (hR : fr + 1 ≤ R.frames ∧ 8 + (n + 11) + lo ≤ R.locals) (hna : As.length = na) (hst : st0 = As.reverse ++ st) (hrm : (st.map fun v => v.category).sum ≤ 8) (hM : gML l D cy y b n fr lo As kd ln rh M post) (hd : decode cc pc = .ok (.invokestatic idx, 3)) (kk : ∀ (x : BitVec 64) (M' : gM), post x M' → gW p l e R s m args below meth c D cy A H0 Q nL kd ln rh cells slots M' (pc + 3) lv (.long (gL x) :: st)) : gW p l e R s m args below meth c D cy A H0 Q nL kd ln rh cells slots M pc lv st0 := by
  intro H locs ls hS hl
  obtain ⟨hx, hb, hml, hown, hts, hK, -, hZ⟩ := C
  have hS2 := hS
  obtain ⟨hat, hA1, hA2, hA3, hVS0⟩ := hS2
  refine va_calll (va_runS (As := As) (rest := st) ⟨hx, hb, hml, hown, hts⟩ (hM H.size) ⟨callB_of na hts (gws_in hcode) rfl rfl rfl (hts _ G.2.2.1) (hts _ G.1) ⟨G.2.2.2.1, G.2.2.2.2.1, G.2.2.2.2.2⟩ hR, hts _ G.2.1⟩ ⟨gPre_blind, fun U hU hW => ⟨rfl, by rw [hU], by rw [hU]; exact hat, gK.warm hW hK, by rw [hU]; exact gZ.go hZ hW.alike hVS0.2.1 (gS_adr hS)⟩⟩ rfl hna hl.1 hst (lv_room hrm) hd hcs) hVS0 (fun q _ h => gS_adr hS q h) (gS_adr hS) (fun r u t H1 locs1 ht hvm hw hB hz1 hk1 hVS => ?_)
  obtain ⟨x, rfl, hpx⟩ := hw
  have hB : gAt D cy kd ln rh u t.heap := hB
  rw [ht] at hB
  exact kk x u hpx H1 locs1 ls ⟨hB, hA1, hA2, hA3, hVS⟩ hl
theorem q_callNL (C : gC p s m args c cc nL own D cy A H0) {post : BitVec 64 → gM → Prop} (G : gCN own idx y na) (hcode : Cond.code y b n (some .long) ∈ gT) (hcs : cells ≤ R.cells ∧ slots ≤ R.slots) (hR : fr + 1 ≤ R.frames ∧ 8 + (n + 11) + lo ≤ R.locals) (hna : As.length = na) (hst : st0 = As.reverse ++ st) (hrm : (st.map fun v => v.category).sum ≤ 8) (hM : gML l D cy y b n fr lo As kd ln rh M post) (hd : decode cc pc = .ok (.invokestatic idx, 3)) (kk : ∀ (x : BitVec 64) (M' : gM), post x M' → gW p l e R s m args below meth c D cy A H0 Q nL kd ln rh cells slots M' (pc + 3) lv (.long (gL x) :: st)) : gW p l e R s m args below meth c D cy A H0 Q nL kd ln rh cells slots M pc lv st0 := by
  intro H locs ls hS hl
  obtain ⟨hx, hb, hml, hown, hts, hK, -, hZ⟩ := C
  have hS2 := hS
  obtain ⟨hat, hA1, hA2, hA3, hVS0⟩ := hS2
  obtain ⟨⟨host, hnest⟩, G⟩ := G
  refine va_calll (va_runSN (As := As) (rest := st) ⟨hx, hb, hml, hown, hts⟩ (hM H.size) ⟨va_cnB na hts (gws_in hcode) rfl rfl rfl (hK.2.1 _ hnest) (hts _ G.2.1) ⟨G.2.2.1, G.2.2.2.1, G.2.2.2.2⟩ hR, hts _ G.1, trivial⟩ ⟨gPre_blind, fun U hU hW => ⟨rfl, by rw [hU], by rw [hU]; exact hat, gK.warm hW hK, by rw [hU]; exact gZ.go hZ hW.alike hVS0.2.1 (gS_adr hS)⟩⟩ rfl hna hl.1 hst (lv_room hrm) hd hcs) hVS0 (fun q _ h => gS_adr hS q h) (gS_adr hS) (fun r u t H1 locs1 ht hvm hw hB hz1 hk1 hVS => ?_)
  obtain ⟨x, rfl, hpx⟩ := hw
  have hB : gAt D cy kd ln rh u t.heap := hB
  rw [ht] at hB
  exact kk x u hpx H1 locs1 ls ⟨hB, hA1, hA2, hA3, hVS⟩ hl
end GCall
end
section
section GN
variable {p : Program} {l : Launch} {e : Env} {R : Room} {s : State} {m : MethodId} {args : Array Value} {below : List Frame} {meth : Method} {c : Code} {cells slots : Nat} {Q : State → Prop} {cc : ByteArray} {nL : Nat} {own : String} {D : va_G} {cy : Nat → ClassId} {A : Nat → Prop} {H0 : Heap} {kd : gKd} {ln : gLn} {rh : gRh} {M : gM} {pc : Nat} {lv : List (Nat × Value)} {st : List Value}
theorem q_topi {a : Int} (k : ∀ v : Int, v = a → gW p l e R s m args below meth c D cy A H0 Q nL kd ln rh cells slots M pc lv (.int (gI v) :: st)) : gW p l e R s m args below meth c D cy A H0 Q nL kd ln rh cells slots M pc lv (.int (gI a) :: st) := k a rfl
theorem q_topl {a : BitVec 64} (k : ∀ v : BitVec 64, v = a → gW p l e R s m args below meth c D cy A H0 Q nL kd ln rh cells slots M pc lv (.long (gL v) :: st)) : gW p l e R s m args below meth c D cy A H0 Q nL kd ln rh cells slots M pc lv (.long (gL a) :: st) := k a rfl
end GN
theorem gak_row (n : Nat) : gak 0 (100 + n) = 11 := by
  unfold gak
  split <;> first | omega | rfl | simp_all
theorem gft_row (n : Nat) : gft 0 (100 + n) = 2 := by
  unfold gft
  split <;> first | omega | rfl | simp_all
theorem gRg_row {n : Nat} {x : Int} (h : gRg 0 (100 + n) x) : 0 ≤ x ∧ x < 18446744073709551616 := by
  unfold gRg at h
  rw [gft_row, gak_row] at h
  exact h
theorem gRg_row_of {n : Nat} {x : Int} (h : 0 ≤ x ∧ x < 18446744073709551616) : gRg 0 (100 + n) x := by
  unfold gRg
  rw [gft_row, gak_row]
  exact h
theorem rng8 {x : Int} (h : -128 ≤ x ∧ x < 128) : rng x := ⟨by omega, by omega⟩
theorem rng1 {x : Int} (h : x = 0 ∨ x = 1) : rng x := ⟨by omega, by omega⟩
theorem rngL (b : BitVec 64) : 0 ≤ (b.toNat : Int) ∧ (b.toNat : Int) < 18446744073709551616 := ⟨by omega, by have := b.isLt; omega⟩
theorem mt0 {w : Cond} (h : w ∈ k2_sels lw_privs) : w ∈ lw_tbl := List.mem_append_left _ h
theorem mt1 {w : Cond} (h : w ∈ tables_1_1) : w ∈ lw_tbl := List.mem_append_right _ (show w ∈ tables_1 from List.mem_append_left _ h)
theorem mt2 {w : Cond} (h : w ∈ tables_1_2) : w ∈ lw_tbl := List.mem_append_right _ (show w ∈ tables_1 from List.mem_append_right _ (List.mem_append_left _ h))
theorem mt3 {w : Cond} (h : w ∈ tables_1_3) : w ∈ lw_tbl := List.mem_append_right _ (show w ∈ tables_1 from List.mem_append_right _ (List.mem_append_right _ (List.mem_append_left _ h)))
theorem mt4 {w : Cond} (h : w ∈ tables_1_4) : w ∈ lw_tbl := List.mem_append_right _ (show w ∈ tables_1 from List.mem_append_right _ (List.mem_append_right _ (List.mem_append_right _ (List.mem_append_left _ h))))
theorem mt5 {w : Cond} (h : w ∈ tables_1_5) : w ∈ lw_tbl := List.mem_append_right _ (show w ∈ tables_1 from List.mem_append_right _ (List.mem_append_right _ (List.mem_append_right _ (List.mem_append_right _ (h)))))
theorem gX0 : ∀ w ∈ u_ws RX0 TX0 (gnf 0), w ∈ gT := by decide +kernel
theorem gX1 : ∀ w ∈ u_ws RX1 TX1 (gnf 1), w ∈ gT := by decide +kernel
theorem gX2 : ∀ w ∈ u_ws RX2 TX2 (gnf 2), w ∈ gT := by decide +kernel
theorem gX3 : ∀ w ∈ u_ws RX3 TX3 (gnf 3), w ∈ gT := by decide +kernel
theorem gX4 : ∀ w ∈ u_ws RX4 TX4 (gnf 4), w ∈ gT := by decide +kernel
theorem gX5 : ∀ w ∈ u_ws RX5 TX5 (gnf 5), w ∈ gT := by decide +kernel
theorem gX6 : ∀ w ∈ u_ws RX6 TX6 (gnf 6), w ∈ gT := by decide +kernel
theorem gX7 : ∀ w ∈ u_ws RX7 TX7 (gnf 7), w ∈ gT := by decide +kernel
end
section
section GO
variable {p : Program} {l : Launch} {e : Env} {R : Room} {s : State} {m : MethodId} {args : Array Value} {below : List Frame} {meth : Method} {c : Code} {cells slots : Nat} {Q : State → Prop} {cc : ByteArray} {nL : Nat} {own : String} {D : va_G} {cy : Nat → ClassId} {A : Nat → Prop} {H0 : Heap} {kd : gKd} {ln : gLn} {rh : gRh} {M : gM} {pc : Nat} {lv : List (Nat × Value)} {st : List Value}
theorem q_lvE {lv' : List (Nat × Value)} (h : lv = lv') (k : gW p l e R s m args below meth c D cy A H0 Q nL kd ln rh cells slots M pc lv' st) : gW p l e R s m args below meth c D cy A H0 Q nL kd ln rh cells slots M pc lv st := h ▸ k
theorem q_nn {x : Int} {ci : Nat} (hx : kd x = ci) (h8 : ci < 8) (k : gW p l e R s m args below meth c D cy A H0 Q nL kd ln rh cells slots M pc lv (.ref (gad x) :: st)) : gW p l e R s m args below meth c D cy A H0 Q nL kd ln rh cells slots M pc lv (gR x :: st) := by
  intro H locs ls hS hl
  have h := (hS.1.1 x (by rw [hx]; exact h8)).1
  rw [show gR x = Value.ref (gad x) from if_neg (by omega)]
  exact k H locs ls hS hl
theorem q_aald (C : gC p s m args c cc nL own D cy A H0) {ci k t0 t : Nat} {Cn : String} {o i : Int} (ho : kd o = ci) (ht : gak ci k = t) (hgt : ∀ x j, gav rh o t x j = gR x) (hty : (gtys cy)[t0]? = some (cy t, .object Cn)) (hi : 0 ≤ i ∧ i < ln o k) (hd : decode cc pc = .ok (.aaload, 1)) (kk : gW p l e R s m args below meth c D cy A H0 Q nL kd ln rh cells slots M (pc + 1) lv (gR (M o k i) :: st)) : gW p l e R s m args below meth c D cy A H0 Q nL kd ln rh cells slots M pc lv (.int (gI i) :: .ref (rh o k) :: st) := by
  intro H locs ls hS hl
  obtain ⟨hx, hb, hml, hown, hts, ⟨hK, -⟩, -⟩ := C
  subst ho
  obtain ⟨a1, -, a2⟩ := hS.1.2.1 o k (by omega)
  have hz : i < ((ln o k).toNat : Int) := by omega
  refine W.aald (v := gR (M o k i)) (ty := .object Cn) hx hb a2 (by rw [ht]; exact (hK.2 t0 _ hty).1 _ _) rfl (fun q => by cases q) (by rw [arrV_size]; exact gI_in hi.1 hz (by omega)) ?_ rfl rfl hd (kk H locs ls hS hl)
  rw [gI_cl hi.1 (by omega), arrV_read _ _ (by omega), ht]
  show some (gav rh o t (M o k (i.toNat : Int)) i.toNat) = _
  rw [Int.toNat_of_nonneg hi.1, hgt]
theorem q_aaldR (C : gC p s m args c cc nL own D cy A H0) {ci k : Nat} {o i : Int} (ho : kd o = ci) (ht : gak ci k = 14) (hi : 0 ≤ i ∧ i < ln o k) (hd : decode cc pc = .ok (.aaload, 1)) (kk : gW p l e R s m args below meth c D cy A H0 Q nL kd ln rh cells slots M (pc + 1) lv (.ref (rh o (100 + i.toNat)) :: st)) : gW p l e R s m args below meth c D cy A H0 Q nL kd ln rh cells slots M pc lv (.int (gI i) :: .ref (rh o k) :: st) := by
  intro H locs ls hS hl
  obtain ⟨hx, hb, hml, hown, hts, ⟨hK, -⟩, -⟩ := C
  subst ho
  obtain ⟨a1, -, a2⟩ := hS.1.2.1 o k (by omega)
  have hz : i < ((ln o k).toNat : Int) := by omega
  refine W.aald (v := .ref (rh o (100 + i.toNat))) (ty := .array .long) hx hb a2 (by rw [ht]; exact (hK.2 6 _ rfl).1 _ _) rfl (fun q => by cases q) (by rw [arrV_size]; exact gI_in hi.1 hz (by omega)) ?_ rfl rfl hd (kk H locs ls hS hl)
  rw [gI_cl hi.1 (by omega), arrV_read _ _ (by omega), ht]
  rfl
theorem q_ifnull (C : gC p s m args c cc nL own D cy A H0) {x off : Int} {tgt : Nat} (ht : (pc : Int) + off = (tgt : Int)) (hd : decode cc pc = .ok (.ifnull off, 3)) (kt : x = 0 → gW p l e R s m args below meth c D cy A H0 Q nL kd ln rh cells slots M tgt lv st) (kf : x ≠ 0 → gW p l e R s m args below meth c D cy A H0 Q nL kd ln rh cells slots M (pc + 3) lv st) : gW p l e R s m args below meth c D cy A H0 Q nL kd ln rh cells slots M pc lv (gR x :: st) := by
  intro H locs ls hS hl
  by_cases h : x = 0
  · rw [show gR x = Value.null from if_pos h]
    exact lv_ifnullN C.1 C.2.1 hd ht (kt h H locs ls hS hl)
  · rw [show gR x = Value.ref (gad x) from if_neg h]
    exact lv_ifnull C.1 C.2.1 hd (kf h H locs ls hS hl)
theorem q_ifnonnull (C : gC p s m args c cc nL own D cy A H0) {x off : Int} {tgt : Nat} (ht : (pc : Int) + off = (tgt : Int)) (hd : decode cc pc = .ok (.ifnonnull off, 3)) (kt : x ≠ 0 → gW p l e R s m args below meth c D cy A H0 Q nL kd ln rh cells slots M tgt lv st) (kf : x = 0 → gW p l e R s m args below meth c D cy A H0 Q nL kd ln rh cells slots M (pc + 3) lv st) : gW p l e R s m args below meth c D cy A H0 Q nL kd ln rh cells slots M pc lv (gR x :: st) := by
  intro H locs ls hS hl
  by_cases h : x = 0
  · rw [show gR x = Value.null from if_pos h]
    exact lv_ifnonnullN C.1 C.2.1 hd (kf h H locs ls hS hl)
  · rw [show gR x = Value.ref (gad x) from if_neg h]
    exact lv_ifnonnull C.1 C.2.1 hd ht (kt h H locs ls hS hl)
theorem q_null (C : gC p s m args c cc nL own D cy A H0) (hd : decode cc pc = .ok (.aconst_null, 1)) (k : gW p l e R s m args below meth c D cy A H0 Q nL kd ln rh cells slots M (pc + 1) lv (gR 0 :: st)) : gW p l e R s m args below meth c D cy A H0 Q nL kd ln rh cells slots M pc lv st := fun H locs ls hS hl => lv_null C.1 C.2.1 hd (k H locs ls hS hl)
theorem q_aloadR_n (C : gC p s m args c cc nL own D cy A H0) {f : Fin 4} {i : Nat} {x : Int} (j : Nat) (hi : (f : Nat) = i) (hj : lv[j]? = some (i, gR x)) (hd : decode cc pc = .ok (.aload_n f, 1)) (k : gW p l e R s m args below meth c D cy A H0 Q nL kd ln rh cells slots M (pc + 1) lv (gR x :: st)) : gW p l e R s m args below meth c D cy A H0 Q nL kd ln rh cells slots M pc lv st := by
  intro H locs ls hS hl
  have hk := k H locs ls hS hl
  by_cases h : x = 0
  · rw [show gR x = Value.null from if_pos h] at hj hk
    exact lv_aload_nN C.1 C.2.1 hd hi (lv_at hl j hj) hk
  · rw [show gR x = Value.ref (gad x) from if_neg h] at hj hk
    exact lv_aload_n C.1 C.2.1 hd hi (lv_at hl j hj) hk
theorem q_aloadR (C : gC p s m args c cc nL own D cy A H0) {i : Nat} {x : Int} (j : Nat)  (hj : lv[j]? = some (i, gR x)) (hd : decode cc pc = .ok (.aload i, 2)) (k : gW p l e R s m args below meth c D cy A H0 Q nL kd ln rh cells slots M (pc + 2) lv (gR x :: st)) : gW p l e R s m args below meth c D cy A H0 Q nL kd ln rh cells slots M pc lv st := by
  intro H locs ls hS hl
  have hk := k H locs ls hS hl
  by_cases h : x = 0
  · rw [show gR x = Value.null from if_pos h] at hj hk
    exact lv_aloadN C.1 C.2.1 hd (lv_at hl j hj) hk
  · rw [show gR x = Value.ref (gad x) from if_neg h] at hj hk
    exact lv_aload C.1 C.2.1 hd (lv_at hl j hj) hk
theorem q_astoreR_n (C : gC p s m args c cc nL own D cy A H0) {f : Fin 4} {i : Nat} {x : Int} {lv' : List (Nat × Value)} (hi : (f : Nat) = i) (hn : i < nL) (hl' : (i, gR x) :: lv.filter (fun q => !(q.1 == i) && !(q.1 + 1 == i && q.2.category == 2)) = lv') (hd : decode cc pc = .ok (.astore_n f, 1)) (k : gW p l e R s m args below meth c D cy A H0 Q nL kd ln rh cells slots M (pc + 1) lv' st) : gW p l e R s m args below meth c D cy A H0 Q nL kd ln rh cells slots M pc lv (gR x :: st) := by
  intro H locs ls hS hl
  by_cases h : x = 0
  · have e : gR x = Value.null := if_pos h
    rw [e] at hl' ⊢
    exact lv_astore_nN C.1 C.2.1 hd hi hl hn hl' (fun ls hl => k H locs ls hS hl)
  · have e : gR x = Value.ref (gad x) := if_neg h
    rw [e] at hl' ⊢
    exact lv_astore_n C.1 C.2.1 hd hi hl hn hl' (fun ls hl => k H locs ls hS hl)
theorem q_astoreR (C : gC p s m args c cc nL own D cy A H0) {i : Nat} {x : Int} {lv' : List (Nat × Value)}  (hn : i < nL) (hl' : (i, gR x) :: lv.filter (fun q => !(q.1 == i) && !(q.1 + 1 == i && q.2.category == 2)) = lv') (hd : decode cc pc = .ok (.astore i, 2)) (k : gW p l e R s m args below meth c D cy A H0 Q nL kd ln rh cells slots M (pc + 2) lv' st) : gW p l e R s m args below meth c D cy A H0 Q nL kd ln rh cells slots M pc lv (gR x :: st) := by
  intro H locs ls hS hl
  by_cases h : x = 0
  · have e : gR x = Value.null := if_pos h
    rw [e] at hl' ⊢
    exact lv_astoreN C.1 C.2.1 hd hl hn hl' (fun ls hl => k H locs ls hS hl)
  · have e : gR x = Value.ref (gad x) := if_neg h
    rw [e] at hl' ⊢
    exact lv_astore C.1 C.2.1 hd hl hn hl' (fun ls hl => k H locs ls hS hl)
theorem q_tswOut (C : gC p s m args c cc nL own D cy A H0) {a dflt lo hi : Int} {offs : Array Int} {len tgt : Nat} (ha : rng a) (h : a < lo ∨ hi < a) (ht : (pc : Int) + dflt = (tgt : Int)) (hd : decode cc pc = .ok (.tableswitch dflt lo hi offs, len)) (k : gW p l e R s m args below meth c D cy A H0 Q nL kd ln rh cells slots M tgt lv st) : gW p l e R s m args below meth c D cy A H0 Q nL kd ln rh cells slots M pc lv (.int (gI a) :: st) := fun H locs ls hS hl => lv_tableOut C.1 C.2.1 hd (by rw [gI_toInt ha]; exact h) ht (k H locs ls hS hl)
theorem q_tswIn (C : gC p s m args c cc nL own D cy A H0) {a dflt lo hi off : Int} {offs : Array Int} {len tgt : Nat} (ha : rng a) (h1 : ¬ a < lo) (h2 : ¬ hi < a) (ho : offs[(a - lo).toNat]? = some off) (ht : (pc : Int) + off = (tgt : Int)) (hd : decode cc pc = .ok (.tableswitch dflt lo hi offs, len)) (k : gW p l e R s m args below meth c D cy A H0 Q nL kd ln rh cells slots M tgt lv st) : gW p l e R s m args below meth c D cy A H0 Q nL kd ln rh cells slots M pc lv (.int (gI a) :: st) := fun H locs ls hS hl => lv_tableIn C.1 C.2.1 hd (by rw [gI_toInt ha]; exact h1) (by rw [gI_toInt ha]; exact h2) (by rw [gI_toInt ha]; exact ho) ht (k H locs ls hS hl)
def gll (t : Nat) : Int := match t with
  | 0 => 3
  | _ => 2
theorem gZ_T {cy : Nat → ClassId} {A : Nat → Prop} {U : State} {H : Heap} (h : gZ cy A U H) {t : Nat} (ht : t < 2) : va_T .char (cy (20 + t)) (gll t).toNat (fun j => .int (gI (gle t j))) A U H := by
  rcases (show t = 0 ∨ t = 1 by omega) with rfl | rfl
  · exact h.2.1
  · exact h.2.2.2.1
theorem q_gets (C : gC p s m args c cc nL own D cy A H0) {t idx : Nat} {nm : String} (hn : (t = 0 ∧ nm = "MAN_LETTERS") ∨ (t = 1 ∧ nm = "TURN_LETTERS")) (hw : Cond.fieldLink own idx RX6 nm "[C" ∈ gT) (hd : decode cc pc = .ok (.getstatic idx, 3)) (k : gW p l e R s m args below meth c D cy A H0 Q nL kd ln rh cells slots M (pc + 3) lv (.ref (cy (20 + t)) :: st)) : gW p l e R s m args below meth c D cy A H0 Q nL kd ln rh cells slots M pc lv st := by
  intro H locs ls hS hl
  obtain ⟨hx, hb, hml, hown, hts, hK, h0, hZ⟩ := C
  subst h0
  rcases hn with ⟨rfl, rfl⟩ | ⟨rfl, rfl⟩
  · exact va_gets hx hb hZ.1 hS.2.2.2.2 hown (hts _ hw) (fun _ h => h) hd (k H locs ls hS hl)
  · exact va_gets hx hb hZ.2.2.1 hS.2.2.2.2 hown (hts _ hw) (fun _ h => h) hd (k H locs ls hS hl)
theorem q_cald (C : gC p s m args c cc nL own D cy A H0) {t : Nat} {i : Int} (ht : t < 2) (hi : 0 ≤ i ∧ i < gll t) (hd : decode cc pc = .ok (.caload, 1)) (k : rng (gle t i.toNat) → gW p l e R s m args below meth c D cy A H0 Q nL kd ln rh cells slots M (pc + 1) lv (.int (gI (gle t i.toNat)) :: st)) : gW p l e R s m args below meth c D cy A H0 Q nL kd ln rh cells slots M pc lv (.int (gI i) :: .ref (cy (20 + t)) :: st) := by
  intro H locs ls hS hl
  obtain ⟨hx, hb, hml, hown, hts, hK, h0, hZ⟩ := C
  subst h0
  have h3 : gll t ≤ 3 := by rcases (show t = 0 ∨ t = 1 by omega) with rfl | rfl <;> decide
  refine va_tc hx hb (gZ_T hZ ht) hS.2.2.2.2 (gI_in hi.1 (by omega) (by omega)) (by rw [gI_cl hi.1 (by omega)]) hd (k ?_ H locs ls hS hl)
  unfold gle; split <;> decide
theorem q_clen (C : gC p s m args c cc nL own D cy A H0) {t : Nat} (ht : t < 2) (hd : decode cc pc = .ok (.arraylength, 1)) (k : gW p l e R s m args below meth c D cy A H0 Q nL kd ln rh cells slots M (pc + 1) lv (.int (gI (gll t)) :: st)) : gW p l e R s m args below meth c D cy A H0 Q nL kd ln rh cells slots M pc lv (.ref (cy (20 + t)) :: st) := by
  intro H locs ls hS hl
  obtain ⟨hx, hb, hml, hown, hts, hK, h0, hZ⟩ := C
  subst h0
  refine va_tlen hx hb (gZ_T hZ ht) hS.2.2.2.2 ?_ hd (k H locs ls hS hl)
  rcases (show t = 0 ∨ t = 1 by omega) with rfl | rfl <;> rfl
theorem q_putO (C : gC p s m args c cc nL own D cy A H0) {idx ci k : Nat} {o x : Int} {Cn : String} (F : gFd own idx ci k false) (ho : kd o = ci) (hty : ∀ (C9 : String) (T : u_T) (N : Nat), vwCl[ci]? = some (C9, T, N) → parseFieldDescriptor (T k).2.2.1 = some (.object Cn)) (hf1 : gft ci k = 1) (h0 : 0 < x) (hr : gRg ci k x) (hd : decode cc pc = .ok (.putfield idx, 3)) (kk : gW p l e R s m args below meth c D cy A H0 Q nL kd ln rh cells slots (gu M o k (-1) x) (pc + 3) lv st) : gW p l e R s m args below meth c D cy A H0 Q nL kd ln rh cells slots M pc lv (.ref (gad x) :: .ref (gad o) :: st) := by
  refine q_put (ty := .object Cn) C F ho hty ?_ rfl rfl hr (fun j q => by rw [hf1] at q; omega) hd kk
  unfold gfv
  rw [hf1]
  show gR (gu M o k (-1) x o k (-1)) = _
  rw [gu_s]
  exact if_neg (by omega)
theorem q_mmax (C : gC p s m args c cc nL own D cy A H0) {a b : Int} {idx : Nat} (ha : rng a) (hb : rng b) (hw : Cond.methodLink own idx Lib.Math.max.name ∈ gT ∧ Cond.static Lib.Math.max.name ∈ gT ∧ Cond.initialized "java/lang/Math" ∈ gT ∧ Cond.code Lib.Math.max.name Lib.Math.max.code 2 (some .int) ∈ gT) (hfr : 1 ≤ R.frames) (hlo : (st.map fun v => v.category).sum + 13 ≤ R.locals) (hcs : cells ≤ R.cells ∧ slots ≤ R.slots) (hd : decode cc pc = .ok (.invokestatic idx, 3)) (k : gW p l e R s m args below meth c D cy A H0 Q nL kd ln rh cells slots M (pc + 3) lv (.int (gI (if a < b then b else a)) :: st)) : gW p l e R s m args below meth c D cy A H0 Q nL kd ln rh cells slots M pc lv (.int (gI b) :: .int (gI a) :: st) := by
  intro H locs ls hS hl
  obtain ⟨hx, hb', hml, hown, hts, hK, -⟩ := C
  refine va_mmax hx hb' (hml.trans hl.1.symm) hown (hts _ hw.1) (hts _ hw.2.1) (hts _ hw.2.2.1) (hts _ hw.2.2.2) hfr hlo hcs.1 hcs.2 hd ?_
  have hk := k H locs ls hS hl
  rw [show gI (if a < b then b else a) = if gI a < gI b then gI b else gI a by
    by_cases h : a < b
    · rw [if_pos h, if_pos ((gI_lt ha hb).mpr h)]
    · rw [if_neg h, if_neg (fun q => h ((gI_lt ha hb).mp q))]] at hk
  exact hk
theorem q_mmin (C : gC p s m args c cc nL own D cy A H0) {a b : Int} {idx : Nat} (ha : rng a) (hb : rng b) (hw : Cond.methodLink own idx Lib.Math.min.name ∈ gT ∧ Cond.static Lib.Math.min.name ∈ gT ∧ Cond.initialized "java/lang/Math" ∈ gT ∧ Cond.code Lib.Math.min.name Lib.Math.min.code 2 (some .int) ∈ gT) (hfr : 1 ≤ R.frames) (hlo : (st.map fun v => v.category).sum + 13 ≤ R.locals) (hcs : cells ≤ R.cells ∧ slots ≤ R.slots) (hd : decode cc pc = .ok (.invokestatic idx, 3)) (k : gW p l e R s m args below meth c D cy A H0 Q nL kd ln rh cells slots M (pc + 3) lv (.int (gI (if b < a then b else a)) :: st)) : gW p l e R s m args below meth c D cy A H0 Q nL kd ln rh cells slots M pc lv (.int (gI b) :: .int (gI a) :: st) := by
  intro H locs ls hS hl
  obtain ⟨hx, hb', hml, hown, hts, hK, -⟩ := C
  refine va_mmin hx hb' (hml.trans hl.1.symm) hown (hts _ hw.1) (hts _ hw.2.1) (hts _ hw.2.2.1) (hts _ hw.2.2.2) hfr hlo hcs.1 hcs.2 hd ?_
  have hk := k H locs ls hS hl
  rw [show gI (if b < a then b else a) = if gI b < gI a then gI b else gI a by
    by_cases h : b < a
    · rw [if_pos h, if_pos ((gI_lt hb ha).mpr h)]
    · rw [if_neg h, if_neg (fun q => h ((gI_lt hb ha).mp q))]] at hk
  exact hk
end GO
end
section
/-! METHODS THAT MAY THROW. One class of exception; the memory is told by 'px' -/
theorem gXa_in : ∀ w ∈ gXa.filter goodWord, w ∈ lw_tbl := by decide +kernel
theorem gXa_ot : ∀ w ∈ Cond.classLink RX6 194 gNS :: Cond.initialized gNS :: gXa, vx_ot w = true := by decide +kernel
theorem gXa_b : ∀ w ∈ gXa.filter (fun w => !goodWord w), w ∈ gOt := by decide +kernel
theorem gXa_k : Cond.classLink RX6 194 gNS ∈ gT ∧ Cond.initialized gNS ∈ gT := ⟨gT_in (by decide +kernel) rfl, gT_in (by decide +kernel) rfl⟩
theorem gXa_x0 : decode prog_17_method_4_code 0 = .ok (.aload_n 0, 1) := by decide +kernel
theorem gXa_x1 : decode prog_17_method_4_code 1 = .ok (.aload_n 1, 1) := by decide +kernel
theorem gXa_x2 : decode prog_17_method_4_code 2 = .ok (.invokespecial 13, 3) := by decide +kernel
theorem gXa_x5 : decode prog_17_method_4_code 5 = .ok (.return_, 1) := by decide +kernel
theorem gXa_at {args : Array Value} {s : State} (hts : ∀ w ∈ gT, w.before args s = true) (hO : ∀ w ∈ gOt, va_Nw w s) : ∀ w ∈ gXa, w.before args s = true :=
  vx_hat (B := gOt) (fun w hw => hts w (gT_in (gXa_in w hw) (List.mem_filter.mp hw).2)) gXa_b (fun w hw => va_Nw.use (gOt_tab w hw) (hO w hw))
abbrev gRt (fr lo : Nat) : Room := { frames := fr, cells := 1, slots := 6, locals := lo }
def gWX (p : Program) (l : Launch) (e : Env) (R : Room) (s : State) (m : MethodId) (args : Array Value) (below : List Frame) (meth : Method) (c : Code) (D : va_G) (cy : Nat → ClassId) (A : Nat → Prop) (H0 : Heap) (Q : State → Prop) (nL : Nat)
    (kd : gKd) (ln : gLn) (rh : gRh) (cells slots : Nat) (M : gM) (pc : Nat) (lv : List (Nat × Value)) (st : List Value) : Prop :=
  ∀ (H : Heap) (locs : List Loc) (ls : Array Slot), gS D cy A H0 kd ln rh M H locs → lv_has ls nL lv → ∀ (ce : Cell) (q9 : Addr), H[q9]? = some ce → ce.vm = .none → s.vm.findClass gNS = some ce.cls → vx_W p l e R s m args below meth c H locs cells slots Q (F0 m pc ls st) q9
def gXC (D : va_G) (cy : Nat → ClassId) (kd : gKd) (ln : gLn) (rh : gRh) (px : gM → Prop) (sz : Nat) : String → State → State → Prop := vx_X px (fun E (u : gM) t => E = gNS ∧ gAt D cy kd ln rh u t.heap) (gAdr kd ln rh sz)
def gTI (l : Launch) (D : va_G) (cy : Nat → ClassId) (y : MethodName) (b : ByteArray) (n : Nat) (rt : FieldType) (fr lo : Nat) (vs : List Value) (kd : gKd) (ln : gLn) (rh : gRh) (M : gM) (post : Int → gM → Prop) (px : gM → Prop) : Prop :=
  ∀ sz : Nat, vx_Met l y (gws y b n (some rt)) (gRt fr lo) (va_Pc vs (gPre D cy kd ln rh M sz)) (va_Qi (fun r (u : gM) => ∃ x, r = gI x ∧ rng x ∧ post x u) (gEnd D cy kd ln rh) (gAdr kd ln rh sz)) (gXC D cy kd ln rh px sz) 1 6 (gAdr kd ln rh sz)
def gTR (l : Launch) (D : va_G) (cy : Nat → ClassId) (y : MethodName) (b : ByteArray) (n : Nat) (rc : String) (fr lo : Nat) (vs : List Value) (kd : gKd) (ln : gLn) (rh : gRh) (M : gM) (post : Int → gM → Prop) (px : gM → Prop) : Prop :=
  ∀ sz : Nat, vx_Met l y (gws y b n (some (.object rc))) (gRt fr lo) (va_Pc vs (gPre D cy kd ln rh M sz)) (va_Qr (fun (u : Int × gM) => post u.1 u.2) (fun u a t => a = gad u.1 ∧ gAt D cy kd ln rh u.2 t.heap) (gAdr kd ln rh sz)) (gXC D cy kd ln rh px sz) 1 6 (gAdr kd ln rh sz)
theorem gAt_more {D : va_G} {cy : Nat → ClassId} {kd : gKd} {ln : gLn} {rh : gRh} {M : gM} {H H' : Heap} (h : gAt D cy kd ln rh M H) (h1 : H.size ≤ H'.size) (h2 : ∀ q : Nat, q < H.size → H'[q]? = H[q]?) : gAt D cy kd ln rh M H' := by
  obtain ⟨a1, a2, a3, a4, a5⟩ := h
  refine ⟨fun o ho => ?_, fun o k hk => ?_, a3, a4, a5⟩
  · obtain ⟨b1, b2⟩ := a1 o ho
    refine ⟨b1, b2.kept (h2 _ ?_)⟩
    obtain ⟨cell, q1, -⟩ := b2
    exact (Array.getElem?_eq_some_iff.mp q1).1
  · obtain ⟨b1, b2, b3⟩ := a2 o k hk
    exact ⟨b1, Int.le_trans b2 (by omega), (h2 _ (Array.getElem?_eq_some_iff.mp b3).1).trans b3⟩
theorem gTI_of {l : Launch} {D : va_G} {cy : Nat → ClassId} {y : MethodName} {b : ByteArray} {n : Nat} {fr lo : Nat} {vs : List Value} {kd : gKd} {ln : gLn} {rh : gRh} {M : gM} {own : String} (hy : plainName y.cls = true) (ho : y.cls = own) (hnl : (lg_sl vs).length ≤ n) (hst : l.stackTraces = false) (hox : own = RX6) {post : Int → gM → Prop} {px : gM → Prop} (body : ∀ (p : Program) (e : Env) (s : State) (m : MethodId) (args : Array Value) (below : List Frame) (meth : Method) (c : Code) (A : Nat → Prop) (H0 : Heap) (Q : State → Prop), gC p s m args c b n own D cy A H0 → (∀ (x : Int) (M' : gM) (pc' : Nat) (lv' : List (Nat × Value)) (ce sl : Nat), ce ≤ 1 → sl ≤ 6 → decode b pc' = .ok (.ireturn, 1) → rng x → post x M' → gW p l e (gRt fr lo) s m args below meth c D cy A H0 Q n kd ln rh ce sl M' pc' lv' [.int (gI x)]) → (∀ (q : Nat × String × Nat) (M' : gM) (pc' : Nat) (lv' : List (Nat × Value)) (st' : List Value), q ∈ gStr → decode b pc' = .ok (.new 194, 3) → decode b (pc' + 3) = .ok (.dup, 1) → decode b (pc' + 4) = .ok (.ldc q.1, 2) → decode b (pc' + 6) = .ok (.invokespecial 198, 3) → decode b (pc' + 9) = .ok (.athrow, 1) → 5 < fr → (st'.map fun v => v.category).sum + 82 ≤ lo → px M' → gW p l e (gRt fr lo) s m args below meth c D cy A H0 Q n kd ln rh 0 0 M' pc' lv' st') → (∀ (M' : gM) (pc' : Nat) (lv' : List (Nat × Value)) (st' : List Value) (ce sl : Nat), ce ≤ 1 → sl ≤ 6 → px M' → gWX p l e (gRt fr lo) s m args below meth c D cy A H0 Q n kd ln rh ce sl M' pc' lv' st') → gW p l e (gRt fr lo) s m args below meth c D cy A H0 Q n kd ln rh 0 0 M 0 (lv_args 0 vs) []) : gTI l D cy y b n .int fr lo vs kd ln rh M post px := by
  subst hox
  intro sz
  refine vx_ofW (cc := b) (maxL := n) (ret := (some .int)) hy rfl ?_
  intro p e s m args below meth c s₁ B hml hxt hv
  obtain ⟨rfl, hsz, hat, hK, hZ⟩ := hv
  have hx := B.exec
  have hb := B.bytes
  have hr := B.returns
  have hts0 := atoms_spec (ws := gws y b n (some .int)) B.pre
  have hts : ∀ w ∈ gT, w.before vs.toArray s = true := fun w hw => hts0 w (List.mem_cons_of_mem _ hw)
  have hown : s.vm.findClass y.cls = some m.cls := findClass_of_methodNamed B.named
  have hlocks := B.notSynchronized
  rw [ho] at hown
  have hl := lv_entry vs (n := n) hnl
  rw [lg_entry_eq]
  generalize (lg_sl vs ++ List.replicate (n - (lg_sl vs).length) Slot.unset).toArray = ls at hl ⊢
  refine body p e s m vs.toArray below meth c (gAdr kd ln rh sz) s.heap _ ⟨hx, hb, hml, hown, hts, hK, rfl, hZ⟩ ?_ ?_ ?_ s.heap [] ls ⟨hat, fun o h => Or.inl ⟨o, h, rfl⟩, fun o k h => Or.inr (Or.inl ⟨o, k, h, rfl⟩), fun q h => Or.inr (Or.inr (by rw [← hsz]; exact h)), va_S.rf⟩ hl
  · intro x M' pc' lv' ce sl hce hsl hd hc hp H locs ls' hS hl'
    refine W.widen (k := 1) (n := 6) hce hsl ?_
    exact vx_ret (W.iret (v := gI x) hx hb hr (fun t ht hW => ⟨⟨gI x, M', rfl, ⟨x, rfl, hc, hp⟩, by unfold gEnd; rw [ht]; exact hS.1⟩, hS.2.2.2.2.F ht⟩) hS.2.2.2.2.2.2 hd)
  · intro q M' pc' lv' st' hq d0 d3 d4 d6 d9 hfr hlo hp H locs ls' hS hl'
    refine gx_throwS (own := RX6) (cls := gNS) (text := q.2.1) (names := gNm) (ik := 194) (is := q.1) (ic := 198) (sa := cy q.2.2) hx hb hst gXa_x0 gXa_x1 gXa_x2 gXa_x5 hown (by decide) (by decide) (hts _ gXa_k.1) (hts _ gXa_k.2) (hK.2.2.1 q hq) (gXa_at hts hK.2.2.2) gXa_ot hZ.2.2.2.2.1 hZ.2.2.2.2.2 hS.2.2.2.2 (hl'.1.trans hml.symm) d0 d3 d4 d6 d9 (fun x hx9 => (hxt x hx9).elim) hfr hlo (Nat.le_refl _) (Nat.le_refl _) hlocks (fun t hvm h1 h2 => ⟨M', hp, ⟨rfl, ?_⟩, ?_⟩) hS.2.2.2.2.2.2 (Nat.le_refl _) (Nat.le_refl _)
    · exact gAt_more hS.1 h1 h2
    · exact ⟨Nat.le_trans hS.2.2.2.2.1 h1, fun z hz hn => by rw [h2 z (Nat.lt_of_lt_of_le hz hS.2.2.2.2.1)]; exact hS.2.2.2.2.2.1 z hz hn⟩
  · intro M' pc' lv' st' ce sl hce hsl hp H locs ls' hS hl' cel q9 h1 h2 h3
    exact vx_out (E := gNS) (fun x hx9 => (hxt x hx9).elim) hlocks h1 h2 h3 (fun t ht hvm => ⟨M', hp, ⟨rfl, by rw [ht]; exact hS.1⟩, hS.2.2.2.2.F ht⟩) hS.2.2.2.2.2.2 hce hsl
theorem gTR_of {l : Launch} {D : va_G} {cy : Nat → ClassId} {y : MethodName} {b : ByteArray} {n : Nat} {fr lo : Nat} {vs : List Value} {kd : gKd} {ln : gLn} {rh : gRh} {M : gM} {own : String} (hy : plainName y.cls = true) (ho : y.cls = own) (hnl : (lg_sl vs).length ≤ n) (hst : l.stackTraces = false) (hox : own = RX6) {rc : String} {post : Int → gM → Prop} {px : gM → Prop} (body : ∀ (p : Program) (e : Env) (s : State) (m : MethodId) (args : Array Value) (below : List Frame) (meth : Method) (c : Code) (A : Nat → Prop) (H0 : Heap) (Q : State → Prop), gC p s m args c b n own D cy A H0 → (∀ (x : Int) (M' : gM) (pc' : Nat) (lv' : List (Nat × Value)) (ce sl : Nat), ce ≤ 1 → sl ≤ 6 → decode b pc' = .ok (.areturn, 1) → post x M' → gW p l e (gRt fr lo) s m args below meth c D cy A H0 Q n kd ln rh ce sl M' pc' lv' [.ref (gad x)]) → (∀ (q : Nat × String × Nat) (M' : gM) (pc' : Nat) (lv' : List (Nat × Value)) (st' : List Value), q ∈ gStr → decode b pc' = .ok (.new 194, 3) → decode b (pc' + 3) = .ok (.dup, 1) → decode b (pc' + 4) = .ok (.ldc q.1, 2) → decode b (pc' + 6) = .ok (.invokespecial 198, 3) → decode b (pc' + 9) = .ok (.athrow, 1) → 5 < fr → (st'.map fun v => v.category).sum + 82 ≤ lo → px M' → gW p l e (gRt fr lo) s m args below meth c D cy A H0 Q n kd ln rh 0 0 M' pc' lv' st') → (∀ (M' : gM) (pc' : Nat) (lv' : List (Nat × Value)) (st' : List Value) (ce sl : Nat), ce ≤ 1 → sl ≤ 6 → px M' → gWX p l e (gRt fr lo) s m args below meth c D cy A H0 Q n kd ln rh ce sl M' pc' lv' st') → gW p l e (gRt fr lo) s m args below meth c D cy A H0 Q n kd ln rh 0 0 M 0 (lv_args 0 vs) []) : gTR l D cy y b n rc fr lo vs kd ln rh M post px := by
  subst hox
  intro sz
  refine vx_ofW (cc := b) (maxL := n) (ret := (some (.object rc))) hy rfl ?_
  intro p e s m args below meth c s₁ B hml hxt hv
  obtain ⟨rfl, hsz, hat, hK, hZ⟩ := hv
  have hx := B.exec
  have hb := B.bytes
  have hr := B.returns
  have hts0 := atoms_spec (ws := gws y b n (some (.object rc))) B.pre
  have hts : ∀ w ∈ gT, w.before vs.toArray s = true := fun w hw => hts0 w (List.mem_cons_of_mem _ hw)
  have hown : s.vm.findClass y.cls = some m.cls := findClass_of_methodNamed B.named
  have hlocks := B.notSynchronized
  rw [ho] at hown
  have hl := lv_entry vs (n := n) hnl
  rw [lg_entry_eq]
  generalize (lg_sl vs ++ List.replicate (n - (lg_sl vs).length) Slot.unset).toArray = ls at hl ⊢
  refine body p e s m vs.toArray below meth c (gAdr kd ln rh sz) s.heap _ ⟨hx, hb, hml, hown, hts, hK, rfl, hZ⟩ ?_ ?_ ?_ s.heap [] ls ⟨hat, fun o h => Or.inl ⟨o, h, rfl⟩, fun o k h => Or.inr (Or.inl ⟨o, k, h, rfl⟩), fun q h => Or.inr (Or.inr (by rw [← hsz]; exact h)), va_S.rf⟩ hl
  · intro x M' pc' lv' ce sl hce hsl hd hp H locs ls' hS hl'
    refine W.widen (k := 1) (n := 6) hce hsl ?_
    exact vx_ret (W.aret (v := .ref (gad x)) (rt := .object rc) hx hb hr (Or.inl ⟨_, rfl⟩) (Or.inr ⟨_, rfl⟩) (fun t ht hW => ⟨⟨(x, M'), gad x, rfl, hp, rfl, by rw [ht]; exact hS.1⟩, hS.2.2.2.2.F ht⟩) hS.2.2.2.2.2.2 hd)
  · intro q M' pc' lv' st' hq d0 d3 d4 d6 d9 hfr hlo hp H locs ls' hS hl'
    refine gx_throwS (own := RX6) (cls := gNS) (text := q.2.1) (names := gNm) (ik := 194) (is := q.1) (ic := 198) (sa := cy q.2.2) hx hb hst gXa_x0 gXa_x1 gXa_x2 gXa_x5 hown (by decide) (by decide) (hts _ gXa_k.1) (hts _ gXa_k.2) (hK.2.2.1 q hq) (gXa_at hts hK.2.2.2) gXa_ot hZ.2.2.2.2.1 hZ.2.2.2.2.2 hS.2.2.2.2 (hl'.1.trans hml.symm) d0 d3 d4 d6 d9 (fun x hx9 => (hxt x hx9).elim) hfr hlo (Nat.le_refl _) (Nat.le_refl _) hlocks (fun t hvm h1 h2 => ⟨M', hp, ⟨rfl, ?_⟩, ?_⟩) hS.2.2.2.2.2.2 (Nat.le_refl _) (Nat.le_refl _)
    · exact gAt_more hS.1 h1 h2
    · exact ⟨Nat.le_trans hS.2.2.2.2.1 h1, fun z hz hn => by rw [h2 z (Nat.lt_of_lt_of_le hz hS.2.2.2.2.1)]; exact hS.2.2.2.2.2.1 z hz hn⟩
  · intro M' pc' lv' st' ce sl hce hsl hp H locs ls' hS hl' cel q9 h1 h2 h3
    exact vx_out (E := gNS) (fun x hx9 => (hxt x hx9).elim) hlocks h1 h2 h3 (fun t ht hvm => ⟨M', hp, ⟨rfl, by rw [ht]; exact hS.1⟩, hS.2.2.2.2.F ht⟩) hS.2.2.2.2.2.2 hce hsl
section GTC
variable {p : Program} {l : Launch} {e : Env} {R : Room} {s : State} {m : MethodId} {args : Array Value} {below : List Frame} {meth : Method} {c : Code} {cells slots : Nat} {Q : State → Prop} {cc : ByteArray} {nL : Nat} {own : String} {D : va_G} {cy : Nat → ClassId} {A : Nat → Prop} {H0 : Heap} {kd : gKd} {ln : gLn} {rh : gRh} {M : gM} {pc : Nat} {lv : List (Nat × Value)} {st : List Value}
variable {y : MethodName} {b : ByteArray} {n fr lo idx na : Nat} {As st0 : List Value}
theorem gx_callr {S SX : Type} {post : S → Prop} {px : SX → Prop} {B : S → Nat → State → Prop} {BX : String → SX → State → Prop} {A1 AX : Nat → Prop} {H : Heap} {locs : List Loc} {mc ms : Nat} {ls : Array Slot} {a : Array Value} {free : Addr → Prop} (hr : vx_Run p l e R s m args below meth c H locs cells slots mc ms (F0 m pc ls st0) st (va_Qr post B A1 a) (vx_X px BX AX) free) (hS : va_S A H0 H locs) (hA : ∀ q, q < H.size → A1 q → A q) (hf : ∀ q, free q → A q) (hAX : ∀ q, q < H.size → AX q → A q)
    (kx : ∀ (E : String) (ce : Cell) (q9 : Addr) (u : SX) (t : State) (H1 : Heap) (locs1 : List Loc), t.heap = H1 → s.vm.Alike t.vm → px u → BX E u t → H.size ≤ H1.size → (∀ q : Nat, q < H.size → ¬ AX q → H1[q]? = H[q]?) → va_S A H0 H1 locs1 → H1[q9]? = some ce → ce.vm = .none → s.vm.findClass E = some ce.cls → vx_W p l e R s m args below meth c H1 locs1 (cells + mc) (slots + ms) Q (F0 m pc ls st) q9)
    (kk : ∀ (u : S) (ra : Nat) (t : State) (H1 : Heap) (locs1 : List Loc), t.heap = H1 → s.vm.Alike t.vm → post u → B u ra t → H.size ≤ H1.size → (∀ q : Nat, q < H.size → ¬ A1 q → H1[q]? = H[q]?) → va_S A H0 H1 locs1 → W p l e R s m args below meth c H1 locs1 (cells + mc) (slots + ms) Q (F0 m (pc + 3) ls (.ref ra :: st))) : W p l e R s m args below meth c H locs cells slots Q (F0 m pc ls st0) := by
  intro T hT X
  rcases hr T hT X with ⟨v, st₀, t, T', L, h0, X', hL, e1, e2, ⟨⟨u, ra, hv, hp, hb⟩, hF⟩, st⟩ | ⟨q, st₀, t, T', L, E, ce, h0, X', hL, e1, e2, ⟨u, hp, hb, hF⟩, hce, hcv, hcl, st⟩
  · cases hv
    obtain ⟨k1, k2, k3⟩ := vx_keep h0 e1 hS hA hf hL hF
    obtain ⟨t2, a1, b1⟩ := kk u ra t T'.heap (locs ++ L) e1.symm (by rw [← e2]; exact X'.warmed.alike) hp hb k1 k2 k3 T' rfl X'
    exact ⟨t2, st t2 a1, b1⟩
  · obtain ⟨k1, k2, k3⟩ := vx_keep h0 e1 hS hAX hf hL hF
    obtain ⟨t2, a1, b1⟩ := kx E ce q u t T'.heap (locs ++ L) e1.symm (by rw [← e2]; exact X'.warmed.alike) hp hb k1 k2 k3 (by rw [e1]; exact hce) hcv hcl T' rfl X'
    exact ⟨t2, st.trans a1, b1⟩
theorem q_callTR (C : gC p s m args c cc nL own D cy A H0) {rc : String} {post : Int → gM → Prop} {px : gM → Prop} {o : Int} {ci : Nat} (G : gCV own idx y na) (hcode : Cond.code y b n (some (.object rc)) ∈ gT) (hcs : cells + 1 ≤ R.cells ∧ slots + 6 ≤ R.slots) (hR : fr + 1 ≤ R.frames ∧ 8 + (n + 11) + lo ≤ R.locals) (hna : As.length = na) (ho : kd o = ci) (hci : ∃ T N, vwCl[ci]? = some (y.cls, T, N)) (h8 : ci < 8) (hst : st0 = As.reverse ++ .ref (gad o) :: st) (hrm : (st.map fun v => v.category).sum ≤ 8) (hM : gTR l D cy y b n rc fr lo (.ref (gad o) :: As) kd ln rh M post px) (hd : decode cc pc = .ok (.invokevirtual idx, 3)) (kx : ∀ (M' : gM), px M' → gWX p l e R s m args below meth c D cy A H0 Q nL kd ln rh (cells + 1) (slots + 6) M' pc lv st) (kk : ∀ (x : Int) (M' : gM), post x M' → gW p l e R s m args below meth c D cy A H0 Q nL kd ln rh (cells + 1) (slots + 6) M' (pc + 3) lv (.ref (gad x) :: st)) : gW p l e R s m args below meth c D cy A H0 Q nL kd ln rh cells slots M pc lv st0 := by
  intro H locs ls hS hl
  obtain ⟨hx, hb, hml, hown, hts, hK, -, hZ⟩ := C
  have hS2 := hS
  obtain ⟨hat, hA1, hA2, hA3, hVS0⟩ := hS2
  obtain ⟨T, N, hcl⟩ := hci
  have hre : ∃ cell : Cell, H[gad o]? = some cell ∧ cell.vm.isStatics = false ∧ s.vm.findClass y.cls = some cell.cls := by
    obtain ⟨-, cell, q1, q2, q3, -⟩ := hat.1 o (by rw [ho]; exact h8)
    exact ⟨cell, q1, by rw [q3]; rfl, by rw [q2, ho]; exact (hK.1.1 _ _ hcl).2.1⟩
  refine gx_callr (vx_runV (As := As) (rest := st) ⟨hx, hb, hml, hown, hts⟩ (hM H.size) ⟨callB_of na hts (gws_in hcode) rfl rfl rfl (hts _ G.2.2.2.1) (hts _ G.1) ⟨G.2.2.2.2.1, G.2.2.2.2.2.1, G.2.2.2.2.2.2⟩ hR, hts _ G.2.1, hts _ G.2.2.1⟩ ⟨gPre_blind, hre, fun U hU hW => ⟨rfl, by rw [hU], by rw [hU]; exact hat, gK.warm hW hK, by rw [hU]; exact gZ.go hZ hW.alike hVS0.2.1 (gS_adr hS)⟩⟩ rfl hna hl.1 hst (lv_room hrm) hd hcs) hVS0 (fun q _ h => gS_adr hS q h) (gS_adr hS) (fun q _ h => gS_adr hS q h) (fun E ce q9 u t H1 locs1 ht hvm hw hB hz1 hk1 hVS g1 g2 g3 => ?_) (fun u ra t H1 locs1 ht hvm hw hB hz1 hk1 hVS => ?_)
  · obtain ⟨rfl, hB⟩ := hB
    rw [ht] at hB
    exact kx u hw H1 locs1 ls ⟨hB, hA1, hA2, hA3, hVS⟩ hl ce q9 g1 g2 g3
  · obtain ⟨rfl, hB⟩ := hB
    rw [ht] at hB
    exact kk u.1 u.2 hw H1 locs1 ls ⟨hB, hA1, hA2, hA3, hVS⟩ hl
theorem q_callTI (C : gC p s m args c cc nL own D cy A H0) {rt : FieldType} {post : Int → gM → Prop} {px : gM → Prop} {o : Int} {ci : Nat} (G : gCV own idx y na) (hcode : Cond.code y b n (some rt) ∈ gT) (hcs : cells + 1 ≤ R.cells ∧ slots + 6 ≤ R.slots) (hR : fr + 1 ≤ R.frames ∧ 8 + (n + 11) + lo ≤ R.locals) (hna : As.length = na) (ho : kd o = ci) (hci : ∃ T N, vwCl[ci]? = some (y.cls, T, N)) (h8 : ci < 8) (hst : st0 = As.reverse ++ .ref (gad o) :: st) (hrm : (st.map fun v => v.category).sum ≤ 8) (hM : gTI l D cy y b n rt fr lo (.ref (gad o) :: As) kd ln rh M post px) (hd : decode cc pc = .ok (.invokevirtual idx, 3)) (kx : ∀ (M' : gM), px M' → gWX p l e R s m args below meth c D cy A H0 Q nL kd ln rh (cells + 1) (slots + 6) M' pc lv st) (kk : ∀ (x : Int) (M' : gM), rng x → post x M' → gW p l e R s m args below meth c D cy A H0 Q nL kd ln rh (cells + 1) (slots + 6) M' (pc + 3) lv (.int (gI x) :: st)) : gW p l e R s m args below meth c D cy A H0 Q nL kd ln rh cells slots M pc lv st0 := by
  intro H locs ls hS hl
  obtain ⟨hx, hb, hml, hown, hts, hK, -, hZ⟩ := C
  have hS2 := hS
  obtain ⟨hat, hA1, hA2, hA3, hVS0⟩ := hS2
  obtain ⟨T, N, hcl⟩ := hci
  have hre : ∃ cell : Cell, H[gad o]? = some cell ∧ cell.vm.isStatics = false ∧ s.vm.findClass y.cls = some cell.cls := by
    obtain ⟨-, cell, q1, q2, q3, -⟩ := hat.1 o (by rw [ho]; exact h8)
    exact ⟨cell, q1, by rw [q3]; rfl, by rw [q2, ho]; exact (hK.1.1 _ _ hcl).2.1⟩
  refine vx_calli (vx_runV (As := As) (rest := st) ⟨hx, hb, hml, hown, hts⟩ (hM H.size) ⟨callB_of na hts (gws_in hcode) rfl rfl rfl (hts _ G.2.2.2.1) (hts _ G.1) ⟨G.2.2.2.2.1, G.2.2.2.2.2.1, G.2.2.2.2.2.2⟩ hR, hts _ G.2.1, hts _ G.2.2.1⟩ ⟨gPre_blind, hre, fun U hU hW => ⟨rfl, by rw [hU], by rw [hU]; exact hat, gK.warm hW hK, by rw [hU]; exact gZ.go hZ hW.alike hVS0.2.1 (gS_adr hS)⟩⟩ rfl hna hl.1 hst (lv_room hrm) hd hcs) hVS0 (fun q _ h => gS_adr hS q h) (gS_adr hS) (fun q _ h => gS_adr hS q h) (fun E ce q9 u t H1 locs1 ht hvm hw hB hz1 hk1 hVS g1 g2 g3 => ?_) (fun r u t H1 locs1 ht hvm hw hB hz1 hk1 hVS => ?_)
  · obtain ⟨rfl, hB⟩ := hB
    rw [ht] at hB
    exact kx u hw H1 locs1 ls ⟨hB, hA1, hA2, hA3, hVS⟩ hl ce q9 g1 g2 g3
  · obtain ⟨x, rfl, hrx, hpx⟩ := hw
    have hB : gAt D cy kd ln rh u t.heap := hB
    rw [ht] at hB
    exact kk x u hrx hpx H1 locs1 ls ⟨hB, hA1, hA2, hA3, hVS⟩ hl
end GTC
end
section
/-! CELLS ARE MADE: the layout grows -/
def gkn (kd : gKd) (o : Int) (ci : Nat) : gKd := fun z => if z = o then ci else kd z
def gzr (M : gM) (o : Int) : gM := fun z k i => if z = o then 0 else M z k i
def gla (ln : gLn) (o : Int) (k : Nat) (n : Int) : gLn := fun z j => if z = o ∧ j = k then n else ln z j
def gra (rh : gRh) (o : Int) (k : Nat) (q : Nat) : gRh := fun z j => if z = o ∧ j = k then q else rh z j
def gza (M : gM) (o : Int) (k : Nat) : gM := fun z j i => if z = o ∧ j = k ∧ 0 ≤ i then 0 else M z j i
theorem gRg_0 (c k : Nat) : gRg c k 0 := by
  unfold gRg
  split
  · exact ⟨by decide, by decide⟩
  · split
    · exact ⟨by decide, by decide⟩
    · exact Int.le_refl 0
    · exact Int.le_refl 0
    · exact ⟨by decide, by decide⟩
  · exact Int.le_refl 0
theorem gkn_s {kd : gKd} {o : Int} {ci : Nat} : gkn kd o ci o = ci := if_pos rfl
theorem gkn_n {kd : gKd} {o x : Int} {ci : Nat} (h : x ≠ o) : gkn kd o ci x = kd x := if_neg h
theorem gkn_old {kd kd1 : gKd} {o x : Int} {ci c : Nat} (e : kd1 = gkn kd o ci) (h : kd x = c) (h8 : c < 8) (ho : 8 ≤ kd o) : kd1 x = c := by
  rw [e, gkn_n (fun q => by rw [q] at h; omega)]
  exact h
theorem gla_old {ln ln1 : gLn} {o x : Int} {k j : Nat} {n : Int} (e : ln1 = gla ln o k n) (h : 0 ≤ ln x j) (hn : ln o k < 0) : 0 ≤ ln1 x j := by
  rw [e]
  unfold gla
  rw [if_neg (fun q => by rw [q.1, q.2] at h; omega)]
  exact h
/-- a new object, all its fields as they are born -/
theorem gAt_new {D : va_G} {cy : Nat → ClassId} {kd : gKd} {ln : gLn} {rh : gRh} {M : gM} {H H1 : Heap} {ci : Nat} (h : gAt D cy kd ln rh M H) (z1 : H1.size = H.size + 1) (o1 : ∀ q, q < H.size → H1[q]? = H[q]?) (h8 : ci < 8)
    (hb : t_OB H.size (D.1 ci) (gnf ci) (D.2 ci) H1 (fun k => if gft ci k = 0 then .int 0 else .null)) :
    8 ≤ kd ((H.size : Int) + 1) ∧ (∀ k, ln ((H.size : Int) + 1) k < 0) ∧ gAt D cy (gkn kd ((H.size : Int) + 1) ci) ln rh (gzr M ((H.size : Int) + 1)) H1 := by
  obtain ⟨h1, h2, h3, h4, h5, h6⟩ := h
  have hgad : gad ((H.size : Int) + 1) = H.size := by unfold gad; omega
  have hk8 : 8 ≤ kd ((H.size : Int) + 1) := by
    rcases Nat.lt_or_ge (kd ((H.size : Int) + 1)) 8 with q | q
    · obtain ⟨-, cell, e1, -⟩ := h1 _ q
      rw [hgad] at e1
      have := (Array.getElem?_eq_some_iff.mp e1).1
      omega
    · exact q
  have hln : ∀ k, ln ((H.size : Int) + 1) k < 0 := fun k => by
    rcases Int.lt_or_le (ln ((H.size : Int) + 1) k) 0 with q | q
    · exact q
    · have := (h2 _ k q).2.1
      omega
  refine ⟨hk8, hln, fun o ho => ?_, fun o k hk => ?_, h3, fun o o' k' ho hk' => ?_, fun o k i => ?_, fun o k j ho hf hm => ?_⟩
  · by_cases e : o = (H.size : Int) + 1
    · subst e
      rw [gkn_s] at ho ⊢
      refine ⟨by omega, ?_⟩
      rw [hgad]
      refine hb.to (fun k _ => ?_)
      show _ = gfv ci ln rh (gzr M ((H.size : Int) + 1)) ((H.size : Int) + 1) k
      unfold gfv
      have e0 : gzr M ((H.size : Int) + 1) ((H.size : Int) + 1) k (-1) = 0 := if_pos rfl
      rw [e0]
      generalize gft ci k = f
      match f with
      | 0 => rfl
      | 1 => rfl
      | 2 => show Value.null = if ln ((H.size : Int) + 1) k < 0 then Value.null else _; rw [if_pos (hln k)]
      | j + 3 => show (if j + 3 = 0 then Value.int 0 else Value.null) = if (0 : Int) = 0 then Value.null else _; rw [if_neg (Nat.succ_ne_zero _), if_pos rfl]
    · rw [gkn_n e] at ho ⊢
      obtain ⟨b1, b2⟩ := h1 o ho
      refine ⟨b1, (b2.kept (o1 _ ?_)).to (fun k _ => ?_)⟩
      · obtain ⟨cell, q1, -⟩ := b2
        exact (Array.getElem?_eq_some_iff.mp q1).1
      · show gfv _ _ _ _ _ _ = gfv _ _ _ _ _ _
        unfold gfv
        rw [show gzr M ((H.size : Int) + 1) o k (-1) = M o k (-1) from if_neg e]
  · obtain ⟨b1, b2, b3⟩ := h2 o k hk
    have e : o ≠ (H.size : Int) + 1 := fun q => by have := hln k; rw [← q] at this; omega
    rw [gkn_n e]
    refine ⟨b1, by omega, (o1 _ (Array.getElem?_eq_some_iff.mp b3).1).trans (b3.trans ?_)⟩
    congr 2
    funext j
    rw [show gzr M ((H.size : Int) + 1) o k j = M o k j from if_neg e]
  · by_cases e : o = (H.size : Int) + 1
    · subst e
      rw [hgad]
      have := (Array.getElem?_eq_some_iff.mp (h2 o' k' hk').2.2).1
      omega
    · rw [gkn_n e] at ho
      exact h4 o o' k' ho hk'
  · by_cases e : o = (H.size : Int) + 1
    · subst e
      rw [show gzr M ((H.size : Int) + 1) ((H.size : Int) + 1) k i = 0 from if_pos rfl]
      exact gRg_0 _ _
    · rw [gkn_n e, show gzr M ((H.size : Int) + 1) o k i = M o k i from if_neg e]
      exact h5 o k i
  · by_cases e : o = (H.size : Int) + 1
    · subst e
      exact absurd (show gzr M ((H.size : Int) + 1) ((H.size : Int) + 1) k (-1) = 0 from if_pos rfl) hm
    · rw [gkn_n e] at ho hf
      rw [show gzr M ((H.size : Int) + 1) o k (-1) = M o k (-1) from if_neg e] at hm ⊢
      exact h6 o k j ho hf hm
/-- a class by its row in the pool of 'own' -/
def gNw (own : String) (idx ci N : Nat) : Prop := ci < 8 ∧ gnf ci = N ∧ ∃ (Cn : String) (T : u_T) (ty : Nat → FieldType), vwCl[ci]? = some (Cn, T, N) ∧ (∀ w ∈ u_ws Cn T N, w ∈ gT) ∧ (∀ k, k < N → parseFieldDescriptor (T k).2.2.1 = some (ty k)) ∧ (∀ k, k < N → defaultValue (ty k) = if gft ci k = 0 then .int 0 else .null) ∧ Cond.classLink own idx Cn ∈ gT ∧ Cond.instantiable Cn N ∈ gT ∧ Cond.initialized Cn ∈ gT
theorem gnf_le (c : Nat) : gnf c ≤ 28 := by unfold gnf; split <;> decide
theorem gra_n {rh : gRh} {o z : Int} {k j q : Nat} (h : ¬ (z = o ∧ j = k)) : gra rh o k q z j = rh z j := if_neg h
theorem gla_n {ln : gLn} {o z : Int} {k j : Nat} {n : Int} (h : ¬ (z = o ∧ j = k)) : gla ln o k n z j = ln z j := if_neg h
theorem gra_s {rh : gRh} {o : Int} {k q : Nat} : gra rh o k q o k = q := if_pos ⟨rfl, rfl⟩
theorem gla_s {ln : gLn} {o : Int} {k : Nat} {n : Int} : gla ln o k n o k = n := if_pos ⟨rfl, rfl⟩
theorem gza_m {M : gM} {o z : Int} {k j : Nat} : gza M o k z j (-1) = M z j (-1) := if_neg (fun q => by have := q.2.2; omega)
theorem gfv_grow {kd : gKd} {ln : gLn} {rh : gRh} {M : gM} {o o' n : Int} {k j q : Nat} (hneg : ln o k < 0) (ha : ∀ j2, gft (kd o') j = j2 + 3 → M o' j (-1) ≠ 0 → 0 ≤ ln (M o' j (-1)) j2) (hne : ¬ (o' = o ∧ j = k)) : gfv (kd o') ln rh M o' j = gfv (kd o') (gla ln o k n) (gra rh o k q) (gza M o k) o' j := by
  unfold gfv
  rw [gza_m, gla_n hne, gra_n hne]
  generalize hg : gft (kd o') j = f at ha
  match f with
  | 0 => rfl
  | 1 => rfl
  | 2 => rfl
  | j2 + 3 =>
    show (if M o' j (-1) = 0 then Value.null else .ref (rh (M o' j (-1)) j2)) = if M o' j (-1) = 0 then Value.null else .ref (gra rh o k q (M o' j (-1)) j2)
    by_cases h0 : M o' j (-1) = 0
    · rw [if_pos h0, if_pos h0]
    · have h1 := ha j2 rfl h0
      rw [if_neg h0, if_neg h0, gra_n (fun z => by rw [z.1, z.2] at h1; omega)]
/-- a new array in a field of an object -/
theorem gAt_newput {D : va_G} {cy : Nat → ClassId} {kd : gKd} {ln : gLn} {rh : gRh} {M : gM} {H H1 H2 : Heap} {o n : Int} {k : Nat} {cell : Cell} (h : gAt D cy kd ln rh M H) (ho : kd o < 8) (hk : k < gnf (kd o)) (hf : gft (kd o) k = 2) (hneg : ln o k < 0) (hn : 0 ≤ n) (hn2 : n < 2147483648)
    (z1 : H1.size = H.size + 1) (o1 : ∀ q, q < H.size → H1[q]? = H[q]?) (e0 : H1[H.size]? = some (arrV (cy (gak (kd o) k)) n.toNat (fun j => gav (gra rh o k H.size) o (gak (kd o) k) 0 j))) (hc : H[gad o]? = some cell)
    (e1 : H2[gad o]? = some (cell.setSlot (D.2 (kd o) k) (.ref H.size))) (e2 : H2.size = H1.size) (e3 : ∀ q, q ≠ gad o → H2[q]? = H1[q]?) (hap : ∀ a b, a < gnf (kd o) → b < gnf (kd o) → a ≠ b → D.2 (kd o) a ≠ D.2 (kd o) b) :
    gAt D cy kd (gla ln o k n) (gra rh o k H.size) (gza M o k) H2 := by
  obtain ⟨h1, h2, h3, h4, h5, h6⟩ := h
  have hlt : gad o < H.size := (Array.getElem?_eq_some_iff.mp hc).1
  have hk28 := gnf_le (kd o)
  obtain ⟨hpo, -⟩ := h1 o ho
  refine ⟨fun o' ho' => ?_, fun o' k' hk' => ?_, fun a b ka kb ha hb he => ?_, fun a b kb ha hb he => ?_, fun o' k' i' => ?_, fun o' k' j' ho' hf' hm' => ?_⟩
  · obtain ⟨hp', hob⟩ := h1 o' ho'
    refine ⟨hp', ?_⟩
    by_cases e : o' = o
    · subst e
      obtain ⟨cell', q1, q2, q3, q4⟩ := hob
      cases q1.symm.trans hc
      refine ⟨_, e1, q2, q3, fun j hj => ?_⟩
      rw [t_set q4 hap hk _ j hj]
      unfold updV
      split
      · rename_i hjk
        subst hjk
        show some (Value.ref H.size) = some (gfv (kd o') (gla ln o' j n) (gra rh o' j H.size) (gza M o' j) o' j)
        unfold gfv
        rw [hf, gla_s, gra_s]
        show some (Value.ref H.size) = some (if n < 0 then Value.null else Value.ref H.size)
        rw [if_neg (by omega)]
      · rename_i hjk
        exact congrArg some (gfv_grow hneg (fun j2 => h6 o' j j2 ho') (fun q => hjk q.2))
    · have hne : gad o' ≠ gad o := fun q => e (gad_inj hp' hpo q)
      have hlt' : gad o' < H.size := by
        obtain ⟨cell', q1, -⟩ := hob
        exact (Array.getElem?_eq_some_iff.mp q1).1
      exact (hob.kept ((e3 _ hne).trans (o1 _ hlt'))).to (fun j _ => gfv_grow hneg (fun j2 => h6 o' j j2 ho') (fun q => e q.1))
  · by_cases e : o' = o ∧ k' = k
    · obtain ⟨rfl, rfl⟩ := e
      rw [gla_s, gra_s]
      refine ⟨hn2, ?_, ?_⟩
      · rw [e2, z1]; unfold gad at hlt; omega
      · rw [e3 _ (by omega), e0]
        congr 2
        funext j
        rw [show gza M o' k' o' k' (j : Int) = 0 from if_pos ⟨rfl, rfl, by omega⟩]
    · rw [gla_n e] at hk' ⊢
      obtain ⟨b1, b2, b3⟩ := h2 o' k' hk'
      have hlt' := (Array.getElem?_eq_some_iff.mp b3).1
      rw [gra_n e]
      refine ⟨b1, by rw [e2, z1]; omega, ?_⟩
      rw [e3 _ (fun q => h4 o o' k' ho hk' q.symm), o1 _ hlt', b3]
      congr 2
      funext j
      rw [show gza M o k o' k' (j : Int) = M o' k' j from if_neg (fun q => e ⟨q.1, q.2.1⟩)]
      unfold gav
      split <;> first | rfl | skip
      rw [gra_n (fun q => by have := q.2; omega)]
  · by_cases ea : a = o ∧ ka = k <;> by_cases eb : b = o ∧ kb = k
    · exact ⟨ea.1.trans eb.1.symm, ea.2.trans eb.2.symm⟩
    · rw [gla_n eb] at hb
      rw [gra_n eb, ea.1, ea.2, gra_s] at he
      have := (Array.getElem?_eq_some_iff.mp (h2 b kb hb).2.2).1
      omega
    · rw [gla_n ea] at ha
      rw [gra_n ea, eb.1, eb.2, gra_s] at he
      have := (Array.getElem?_eq_some_iff.mp (h2 a ka ha).2.2).1
      omega
    · rw [gla_n ea] at ha
      rw [gla_n eb] at hb
      rw [gra_n ea, gra_n eb] at he
      exact h3 a b ka kb ha hb he
  · by_cases eb : b = o ∧ kb = k
    · rw [eb.1, eb.2, gra_s] at he
      obtain ⟨-, cell', q1, -⟩ := h1 a ha
      have := (Array.getElem?_eq_some_iff.mp q1).1
      omega
    · rw [gla_n eb] at hb
      rw [gra_n eb] at he
      exact h4 a b kb ha hb he
  · unfold gza
    split
    · exact gRg_0 _ _
    · exact h5 o' k' i'
  · rw [gza_m] at hm' ⊢
    have h9 := h6 o' k' j' ho' hf' hm'
    unfold gla
    split
    · exact hn
    · exact h9
section GA
variable {p : Program} {l : Launch} {e : Env} {R : Room} {s : State} {m : MethodId} {args : Array Value} {below : List Frame} {meth : Method} {c : Code} {cells slots : Nat} {Q : State → Prop} {cc : ByteArray} {nL : Nat} {own : String} {D : va_G} {cy : Nat → ClassId} {A : Nat → Prop} {H0 : Heap} {kd : gKd} {ln : gLn} {rh : gRh} {M : gM} {pc : Nat} {lv : List (Nat × Value)} {st : List Value}
theorem q_new (C : gC p s m args c cc nL own D cy A H0) {idx ci N : Nat} (F : gNw own idx ci N) (hce : cells + 1 ≤ R.cells) (hsl : slots + N ≤ R.slots) (hd : decode cc pc = .ok (.new idx, 3)) (kk : ∀ (o : Int) (kd1 : gKd) (M1 : gM), 0 < o → 8 ≤ kd o → (∀ k, ln o k < 0) → kd1 = gkn kd o ci → M1 = gzr M o → gW p l e R s m args below meth c D cy A H0 Q nL kd1 ln rh (cells + 1) (slots + N) M1 (pc + 3) lv (.ref (gad o) :: st)) : gW p l e R s m args below meth c D cy A H0 Q nL kd ln rh cells slots M pc lv st := by
  intro H locs ls hS hl
  obtain ⟨hx, hb, hml, hown, hts, ⟨hK, -⟩, -⟩ := C
  obtain ⟨h8, hN, Cn, T, ty, hcl, hin, hty, hdef, w1, w2, w3⟩ := F
  obtain ⟨hat, hA1, hA2, hA3, hVS⟩ := hS
  have hKn := hK.1 ci _ hcl
  refine W.newcK hx hb hown (hts _ w1) (hts _ w2) (hts _ w3) rfl hd hce hsl hKn.2.1 rfl fun H1 kC hkC e1 z1 o1 => ?_
  have hbo : t_OB H.size (D.1 ci) (gnf ci) (D.2 ci) H1 (fun k => if gft ci k = 0 then .int 0 else .null) := by
    rw [hN]
    exact (u_born ty hts hin hKn hkC e1 hty).to hdef
  obtain ⟨g1, g2, g3⟩ := gAt_new hat z1 o1 h8 hbo
  have hgad : gad ((H.size : Int) + 1) = H.size := by unfold gad; omega
  have hk := kk ((H.size : Int) + 1) _ _ (by omega) g1 g2 rfl rfl H1 locs ls ⟨g3, fun o ho => ?_, hA2, hA3, ⟨Nat.le_trans hVS.1 (by omega), fun x h1 h2 => (o1 x (Nat.lt_of_lt_of_le h1 hVS.1)).trans (hVS.2.1 x h1 h2), hVS.2.2⟩⟩ hl
  · rw [hgad] at hk
    exact hk
  · by_cases e : o = (H.size : Int) + 1
    · rw [e, hgad]
      exact hA3 _ hVS.1
    · rw [gkn_n e] at ho
      exact hA1 o ho
theorem q_putF (C : gC p s m args c cc nL own D cy A H0) {idx ci k : Nat} {o x : Int} {v : Value} {ty : FieldType} (hin : meth.name = "<init>") (F : gFd own idx ci k true) (hdc : ∀ (Cn : String) (T : u_T) (N : Nat), vwCl[ci]? = some (Cn, T, N) → (T k).1 = own) (ho : kd o = ci) (hty : ∀ (Cn : String) (T : u_T) (N : Nat), vwCl[ci]? = some (Cn, T, N) → parseFieldDescriptor (T k).2.2.1 = some ty) (hv : gfv ci ln rh (gu M o k (-1) x) o k = v) (hn : narrow ty v = v) (hf : fits ty v = true) (hr : gRg ci k x) (ha : ∀ j, gft ci k = j + 3 → x ≠ 0 → 0 ≤ ln x j) (hd : decode cc pc = .ok (.putfield idx, 3)) (kk : gW p l e R s m args below meth c D cy A H0 Q nL kd ln rh cells slots (gu M o k (-1) x) (pc + 3) lv st) : gW p l e R s m args below meth c D cy A H0 Q nL kd ln rh cells slots M pc lv (v :: .ref (gad o) :: st) := by
  intro H locs ls hS hl
  obtain ⟨hx, hb, hml, hown, hts, ⟨hK, -⟩, -⟩ := C
  obtain ⟨h8, Cn, T, N, ty0, hcl, hN, hinw, hkN, hlink, hty0, hnm, hfin⟩ := F
  obtain ⟨hat, hA1, hA2, hA3, hVS⟩ := hS
  subst ho
  obtain ⟨hpos, cell, q1, q2, q3, q4⟩ := hat.1 o h8
  have hap := va_apart (own := own) hts hinw ty0 hty0 hnm hK hcl
  obtain ⟨hSl, hfc, kC, hkC, hkind⟩ := hK.1 _ _ hcl
  obtain ⟨cf, kf, fi, f, hi, hsl⟩ := hSl k hkN
  have hst := (u_facts hfc hkC (u_lays hts hinw hkN) hi).1
  have h6 := u_fits hfc hkC hkind (u_lays hts hinw hkN) hi (hty _ _ _ hcl) hn hf
  have hlay := hts _ (hinw _ (u_in_lay hkN))
  unfold u_lay at hlay
  rw [if_pos hfin] at hlay
  have hcf : m.cls = cf := by
    obtain ⟨_, _, c', _, _, _, -, -, hf', -, -, -, hown2, -⟩ := Cond.laysFinal_spec hlay
    have e1 : c' = cf := by have := hi.symm.trans hf'; simp at this; exact this.1.symm
    rw [hdc _ _ _ hcl] at hown2
    rw [← e1]; exact Option.some.inj (hown.symm.trans hown2)
  refine W.putFinK hx hb hown (hts _ hlink) hi hst hcf hin (by rw [q2]; exact h6) q1 q3 (by rw [hsl]; exact k2_hasslot (q4 k (by rw [hN]; exact hkN))) rfl rfl hd fun H' e1 e2 e3 => ?_
  rw [hsl] at e1 ⊢
  exact kk H' _ ls ⟨gAt_put hat h8 (by rw [hN]; exact hkN) q1 e1 e2 e3 (fun a b ha hb' => hap a b (by rw [← hN]; exact ha) (by rw [← hN]; exact hb')) hv hr ha, hA1, hA2, hA3, hVS.put e2 e3 (hA1 o h8)⟩ hl
theorem q_newput (C : gC p s m args c cc nL own D cy A H0) {idx ci k t0 : Nat} {o n : Int} {atype : ArrayType} {ty : FieldType} (hin : meth.name = "<init>") (F : gFd own idx ci k true) (hdc : ∀ (Cn : String) (T : u_T) (N : Nat), vwCl[ci]? = some (Cn, T, N) → (T k).1 = own) (ho : kd o = ci) (hf2 : gft ci k = 2) (hat0 : newarray.typeOf atype = ty) (hac : Cond.arrayClass ty ∈ gT) (htt : (gtys cy)[t0]? = some (cy (gak ci k), ty)) (hra : ∀ cA, va_RA s cA ty = (s.vm.findClass ("[" ++ ty.toString) = some cA)) (hdv : ∀ rh9 o9 j, gav rh9 o9 (gak ci k) 0 j = defaultValue ty) (hty : ∀ (Cn : String) (T : u_T) (N : Nat), vwCl[ci]? = some (Cn, T, N) → parseFieldDescriptor (T k).2.2.1 = some (.array ty)) (hneg : ln o k < 0) (hn : 0 ≤ n ∧ n ≤ 67108864) (hcb : componentBytes ty ≤ 8) (hce : cells + 1 ≤ R.cells) (hsl : slots + n.toNat ≤ R.slots) (hd : decode cc pc = .ok (.newarray atype, 2)) (hd2 : decode cc (pc + 2) = .ok (.putfield idx, 3)) (kk : ∀ (ln1 : gLn) (rh1 : gRh), ln1 = gla ln o k n → gW p l e R s m args below meth c D cy A H0 Q nL kd ln1 rh1 (cells + 1) (slots + n.toNat) (gza M o k) (pc + 5) lv st) : gW p l e R s m args below meth c D cy A H0 Q nL kd ln rh cells slots M pc lv (.int (gI n) :: .ref (gad o) :: st) := by
  intro H locs ls hS hl
  obtain ⟨hx, hb, hml, hown, hts, ⟨hK, -⟩, -⟩ := C
  obtain ⟨h8, Cn, T, N, ty0, hcl, hN, hinw, hkN, hlink, hty0, hnm, hfin⟩ := F
  obtain ⟨hat, hA1, hA2, hA3, hVS⟩ := hS
  subst ho
  subst hat0
  have hn31 : n < 2147483648 := by omega
  have hNn : (gI n).toNatClampNeg = n.toNat := gI_cl hn.1 hn31
  refine va_newaK hx hb (hts _ hac) rfl hd rfl (by rw [show (0 : Int32) = gI 0 from rfl, gI_lt ⟨by omega, hn31⟩ ⟨by decide, by decide⟩]; omega) hNn (Nat.le_trans (Nat.mul_le_mul_left _ hcb) (by omega)) hce hsl rfl fun H1 cA z0 z1 o1 hAr hNm => ?_
  obtain ⟨hpos, cell, q1, q2, q3, q4⟩ := hat.1 o h8
  have hlt : gad o < H.size := (Array.getElem?_eq_some_iff.mp q1).1
  have hcA : cA = cy (gak (kd o) k) := by
    have h9 := (hK.2 t0 _ htt).2
    rw [hra] at h9
    exact Option.some.inj (hNm.symm.trans h9)
  subst hcA
  have hap := va_apart (own := own) hts hinw ty0 hty0 hnm hK hcl
  obtain ⟨hSl, hfc, kC, hkC, hkind⟩ := hK.1 _ _ hcl
  obtain ⟨cf, kf, fi, f, hi, hsl9⟩ := hSl k hkN
  have hst := (u_facts hfc hkC (u_lays hts hinw hkN) hi).1
  have h6 := u_fits hfc hkC hkind (u_lays hts hinw hkN) hi (hty _ _ _ hcl) (v := .ref H.size) rfl rfl
  have hlay := hts _ (hinw _ (u_in_lay hkN))
  unfold u_lay at hlay
  rw [if_pos hfin] at hlay
  have hcf : m.cls = cf := by
    obtain ⟨_, _, c', _, _, _, -, -, hf', -, -, -, hown2, -⟩ := Cond.laysFinal_spec hlay
    have e1 : c' = cf := by have := hi.symm.trans hf'; simp at this; exact this.1.symm
    rw [hdc _ _ _ hcl] at hown2
    rw [← e1]; exact Option.some.inj (hown.symm.trans hown2)
  refine W.putFinK hx hb hown (hts _ hlink) hi hst hcf hin (cell := cell) (by rw [q2]; exact h6) ((o1 _ hlt).trans q1) q3 (by rw [hsl9]; exact k2_hasslot (q4 k (by rw [hN]; exact hkN))) rfl rfl hd2 fun H2 e1 e2 e3 => ?_
  rw [hsl9] at e1 ⊢
  have hap' : ∀ a b, a < gnf (kd o) → b < gnf (kd o) → a ≠ b → D.2 (kd o) a ≠ D.2 (kd o) b := fun a b ha hb' => hap a b (by rw [← hN]; exact ha) (by rw [← hN]; exact hb')
  refine kk _ (gra rh o k H.size) rfl H2 _ ls ⟨gAt_newput hat h8 (by rw [hN]; exact hkN) hf2 hneg hn.1 hn31 z1 o1 ?_ q1 e1 e2 e3 hap', hA1, fun o' k' hk' => ?_, hA3, ?_⟩ hl
  · rw [z0]
    congr 2
    funext j
    exact (hdv _ _ _).symm
  · by_cases e : o' = o ∧ k' = k
    · rw [e.1, e.2, gra_s]
      exact hA3 _ hVS.1
    · rw [gla_n e] at hk'
      rw [gra_n e]
      exact hA2 o' k' hk'
  · have hV1 : va_S A H0 H1 locs := ⟨Nat.le_trans hVS.1 (by omega), fun x h1 h2 => (o1 x (Nat.lt_of_lt_of_le h1 hVS.1)).trans (hVS.2.1 x h1 h2), hVS.2.2⟩
    exact hV1.put e2 e3 (hA1 o h8)
end GA
end
