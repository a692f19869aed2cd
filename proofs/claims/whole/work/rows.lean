section
-- ===== PART A: goes FIRST, ahead of the names: the tables' words, and 'selects' of the private methods out of them =====
/-- a private method of a class that the tables say can be made, by its rows of tables_1 -/
def lw_okq (q : MethodName × Nat) : Prop := (q.1.cls ≠ "java/lang/invoke/MethodHandle" ∧ q.1.cls ≠ "java/lang/invoke/VarHandle") ∧ Cond.instantiable q.1.cls q.2 ∈ tables_1 ∧ Cond.privateMethod q.1 ∈ tables_1 ∧ Cond.instanceMethod q.1 ∈ tables_1
theorem lw_p0 : lw_okq (⟨"PaperDolls", "refuse", "(I)I"⟩, 15) := ⟨⟨by decide +kernel, by decide +kernel⟩, List.mem_of_getElem? (i := 20) (by decide +kernel), List.mem_of_getElem? (i := 235) (by decide +kernel), List.mem_of_getElem? (i := 236) (by decide +kernel)⟩
theorem lw_p1 : lw_okq (⟨"PaperDolls$Reader", "advance", "()V"⟩, 6) := ⟨⟨by decide +kernel, by decide +kernel⟩, List.mem_of_getElem? (i := 124) (by decide +kernel), List.mem_of_getElem? (i := 279) (by decide +kernel), List.mem_of_getElem? (i := 280) (by decide +kernel)⟩
theorem lw_p2 : lw_okq (⟨"PaperDolls$Reader", "advanceOverWord", "()V"⟩, 6) := ⟨⟨by decide +kernel, by decide +kernel⟩, List.mem_of_getElem? (i := 124) (by decide +kernel), List.mem_of_getElem? (i := 284) (by decide +kernel), List.mem_of_getElem? (i := 285) (by decide +kernel)⟩
theorem lw_p3 : lw_okq (⟨"PaperDolls$Reader", "advanceOverNumber", "()V"⟩, 6) := ⟨⟨by decide +kernel, by decide +kernel⟩, List.mem_of_getElem? (i := 124) (by decide +kernel), List.mem_of_getElem? (i := 288) (by decide +kernel), List.mem_of_getElem? (i := 289) (by decide +kernel)⟩
theorem lw_p4 : lw_okq (⟨"PaperDolls$Reader", "readItem", "(LPaperDolls$Doll;Z)Z"⟩, 6) := ⟨⟨by decide +kernel, by decide +kernel⟩, List.mem_of_getElem? (i := 124) (by decide +kernel), List.mem_of_getElem? (i := 292) (by decide +kernel), List.mem_of_getElem? (i := 293) (by decide +kernel)⟩
theorem lw_p5 : lw_okq (⟨"PaperDolls$Reader", "isWord", "(Ljava/lang/String;)Z"⟩, 6) := ⟨⟨by decide +kernel, by decide +kernel⟩, List.mem_of_getElem? (i := 124) (by decide +kernel), List.mem_of_getElem? (i := 297) (by decide +kernel), List.mem_of_getElem? (i := 298) (by decide +kernel)⟩
theorem lw_p6 : lw_okq (⟨"PaperDolls$Reader", "readChild", "(LPaperDolls$Doll;)Z"⟩, 6) := ⟨⟨by decide +kernel, by decide +kernel⟩, List.mem_of_getElem? (i := 124) (by decide +kernel), List.mem_of_getElem? (i := 349) (by decide +kernel), List.mem_of_getElem? (i := 350) (by decide +kernel)⟩
theorem lw_p7 : lw_okq (⟨"PaperDolls$Reader", "readNumber", "(II)Z"⟩, 6) := ⟨⟨by decide +kernel, by decide +kernel⟩, List.mem_of_getElem? (i := 124) (by decide +kernel), List.mem_of_getElem? (i := 353) (by decide +kernel), List.mem_of_getElem? (i := 354) (by decide +kernel)⟩
theorem lw_p8 : lw_okq (⟨"PaperDolls$Reader", "readPiece", "(LPaperDolls$Doll;)Z"⟩, 6) := ⟨⟨by decide +kernel, by decide +kernel⟩, List.mem_of_getElem? (i := 124) (by decide +kernel), List.mem_of_getElem? (i := 358) (by decide +kernel), List.mem_of_getElem? (i := 359) (by decide +kernel)⟩
theorem lw_p9 : lw_okq (⟨"PaperDolls$Reader", "readMove", "(LPaperDolls$Doll;I)Z"⟩, 6) := ⟨⟨by decide +kernel, by decide +kernel⟩, List.mem_of_getElem? (i := 124) (by decide +kernel), List.mem_of_getElem? (i := 364) (by decide +kernel), List.mem_of_getElem? (i := 365) (by decide +kernel)⟩
theorem lw_p10 : lw_okq (⟨"PaperDolls$Doll", "mayPut", "(LPaperDolls$Wear;I)Z"⟩, 12) := ⟨⟨by decide +kernel, by decide +kernel⟩, List.mem_of_getElem? (i := 28) (by decide +kernel), List.mem_of_getElem? (i := 376) (by decide +kernel), List.mem_of_getElem? (i := 377) (by decide +kernel)⟩
theorem lw_p11 : lw_okq (⟨"PaperDolls$Doll", "mayTake", "(LPaperDolls$Wear;I)Z"⟩, 12) := ⟨⟨by decide +kernel, by decide +kernel⟩, List.mem_of_getElem? (i := 28) (by decide +kernel), List.mem_of_getElem? (i := 390) (by decide +kernel), List.mem_of_getElem? (i := 391) (by decide +kernel)⟩
theorem lw_p12 : lw_okq (⟨"PaperDolls", "whyNoMove", "(II)I"⟩, 15) := ⟨⟨by decide +kernel, by decide +kernel⟩, List.mem_of_getElem? (i := 20) (by decide +kernel), List.mem_of_getElem? (i := 432) (by decide +kernel), List.mem_of_getElem? (i := 433) (by decide +kernel)⟩
theorem lw_p13 : lw_okq (⟨"PaperDolls$Doll", "keepPast", "()V"⟩, 12) := ⟨⟨by decide +kernel, by decide +kernel⟩, List.mem_of_getElem? (i := 28) (by decide +kernel), List.mem_of_getElem? (i := 442) (by decide +kernel), List.mem_of_getElem? (i := 443) (by decide +kernel)⟩
theorem lw_p14 : lw_okq (⟨"PaperDolls$Wardrobe", "mostApartFrom", "(III)I"⟩, 2) := ⟨⟨by decide +kernel, by decide +kernel⟩, List.mem_of_getElem? (i := 151) (by decide +kernel), List.mem_of_getElem? (i := 546) (by decide +kernel), List.mem_of_getElem? (i := 547) (by decide +kernel)⟩
theorem lw_p15 : lw_okq (⟨"PaperDolls$MoveSearch", "dresses", "(LPaperDolls$Doll;LPaperDolls$Wear;II)Z"⟩, 2) := ⟨⟨by decide +kernel, by decide +kernel⟩, List.mem_of_getElem? (i := 166) (by decide +kernel), List.mem_of_getElem? (i := 582) (by decide +kernel), List.mem_of_getElem? (i := 583) (by decide +kernel)⟩
def lw_privs_1 : List (MethodName × Nat) := [(⟨"PaperDolls", "refuse", "(I)I"⟩, 15), (⟨"PaperDolls$Reader", "advance", "()V"⟩, 6), (⟨"PaperDolls$Reader", "advanceOverWord", "()V"⟩, 6), (⟨"PaperDolls$Reader", "advanceOverNumber", "()V"⟩, 6), (⟨"PaperDolls$Reader", "readItem", "(LPaperDolls$Doll;Z)Z"⟩, 6), (⟨"PaperDolls$Reader", "isWord", "(Ljava/lang/String;)Z"⟩, 6), (⟨"PaperDolls$Reader", "readChild", "(LPaperDolls$Doll;)Z"⟩, 6), (⟨"PaperDolls$Reader", "readNumber", "(II)Z"⟩, 6), (⟨"PaperDolls$Reader", "readPiece", "(LPaperDolls$Doll;)Z"⟩, 6), (⟨"PaperDolls$Reader", "readMove", "(LPaperDolls$Doll;I)Z"⟩, 6), (⟨"PaperDolls$Doll", "mayPut", "(LPaperDolls$Wear;I)Z"⟩, 12), (⟨"PaperDolls$Doll", "mayTake", "(LPaperDolls$Wear;I)Z"⟩, 12), (⟨"PaperDolls", "whyNoMove", "(II)I"⟩, 15), (⟨"PaperDolls$Doll", "keepPast", "()V"⟩, 12), (⟨"PaperDolls$Wardrobe", "mostApartFrom", "(III)I"⟩, 2), (⟨"PaperDolls$MoveSearch", "dresses", "(LPaperDolls$Doll;LPaperDolls$Wear;II)Z"⟩, 2)]
theorem lw_r1 : ∀ q ∈ lw_privs_1, lw_okq q := List.forall_mem_cons.mpr ⟨lw_p0, List.forall_mem_cons.mpr ⟨lw_p1, List.forall_mem_cons.mpr ⟨lw_p2, List.forall_mem_cons.mpr ⟨lw_p3, List.forall_mem_cons.mpr ⟨lw_p4, List.forall_mem_cons.mpr ⟨lw_p5, List.forall_mem_cons.mpr ⟨lw_p6, List.forall_mem_cons.mpr ⟨lw_p7, List.forall_mem_cons.mpr ⟨lw_p8, List.forall_mem_cons.mpr ⟨lw_p9, List.forall_mem_cons.mpr ⟨lw_p10, List.forall_mem_cons.mpr ⟨lw_p11, List.forall_mem_cons.mpr ⟨lw_p12, List.forall_mem_cons.mpr ⟨lw_p13, List.forall_mem_cons.mpr ⟨lw_p14, List.forall_mem_cons.mpr ⟨lw_p15, fun _ h => absurd h List.not_mem_nil⟩⟩⟩⟩⟩⟩⟩⟩⟩⟩⟩⟩⟩⟩⟩⟩
theorem lw_p16 : lw_okq (⟨"PaperDolls$MoveSearch", "dressesAtLast", "(LPaperDolls$Doll;LPaperDolls$Wear;I)Z"⟩, 2) := ⟨⟨by decide +kernel, by decide +kernel⟩, List.mem_of_getElem? (i := 166) (by decide +kernel), List.mem_of_getElem? (i := 586) (by decide +kernel), List.mem_of_getElem? (i := 587) (by decide +kernel)⟩
theorem lw_p17 : lw_okq (⟨"PaperDolls", "setFraction", "(II)V"⟩, 15) := ⟨⟨by decide +kernel, by decide +kernel⟩, List.mem_of_getElem? (i := 20) (by decide +kernel), List.mem_of_getElem? (i := 686) (by decide +kernel), List.mem_of_getElem? (i := 687) (by decide +kernel)⟩
theorem lw_p18 : lw_okq (⟨"PaperDolls", "countOf", "(I)I"⟩, 15) := ⟨⟨by decide +kernel, by decide +kernel⟩, List.mem_of_getElem? (i := 20) (by decide +kernel), List.mem_of_getElem? (i := 726) (by decide +kernel), List.mem_of_getElem? (i := 727) (by decide +kernel)⟩
theorem lw_p19 : lw_okq (⟨"PaperDollsModel", "bad", "()I"⟩, 19) := ⟨⟨by decide +kernel, by decide +kernel⟩, List.mem_of_getElem? (i := 745) (by decide +kernel), List.mem_of_getElem? (i := 817) (by decide +kernel), List.mem_of_getElem? (i := 818) (by decide +kernel)⟩
theorem lw_p20 : lw_okq (⟨"PaperDollsModel", "begin", "(I)V"⟩, 19) := ⟨⟨by decide +kernel, by decide +kernel⟩, List.mem_of_getElem? (i := 745) (by decide +kernel), List.mem_of_getElem? (i := 821) (by decide +kernel), List.mem_of_getElem? (i := 822) (by decide +kernel)⟩
theorem lw_p21 : lw_okq (⟨"PaperDollsModel", "take", "()V"⟩, 19) := ⟨⟨by decide +kernel, by decide +kernel⟩, List.mem_of_getElem? (i := 745) (by decide +kernel), List.mem_of_getElem? (i := 825) (by decide +kernel), List.mem_of_getElem? (i := 826) (by decide +kernel)⟩
theorem lw_p22 : lw_okq (⟨"PaperDollsModel", "full", "()I"⟩, 19) := ⟨⟨by decide +kernel, by decide +kernel⟩, List.mem_of_getElem? (i := 745) (by decide +kernel), List.mem_of_getElem? (i := 839) (by decide +kernel), List.mem_of_getElem? (i := 840) (by decide +kernel)⟩
theorem lw_p23 : lw_okq (⟨"PaperDollsModel", "aside", "()V"⟩, 19) := ⟨⟨by decide +kernel, by decide +kernel⟩, List.mem_of_getElem? (i := 745) (by decide +kernel), List.mem_of_getElem? (i := 843) (by decide +kernel), List.mem_of_getElem? (i := 844) (by decide +kernel)⟩
theorem lw_p24 : lw_okq (⟨"PaperDollsModel", "addPiece", "(III)V"⟩, 19) := ⟨⟨by decide +kernel, by decide +kernel⟩, List.mem_of_getElem? (i := 745) (by decide +kernel), List.mem_of_getElem? (i := 847) (by decide +kernel), List.mem_of_getElem? (i := 848) (by decide +kernel)⟩
theorem lw_p25 : lw_okq (⟨"PaperDollsModel", "next", "()V"⟩, 19) := ⟨⟨by decide +kernel, by decide +kernel⟩, List.mem_of_getElem? (i := 745) (by decide +kernel), List.mem_of_getElem? (i := 864) (by decide +kernel), List.mem_of_getElem? (i := 865) (by decide +kernel)⟩
theorem lw_p26 : lw_okq (⟨"PaperDollsModel", "item", "(Z)Z"⟩, 19) := ⟨⟨by decide +kernel, by decide +kernel⟩, List.mem_of_getElem? (i := 745) (by decide +kernel), List.mem_of_getElem? (i := 878) (by decide +kernel), List.mem_of_getElem? (i := 879) (by decide +kernel)⟩
theorem lw_p27 : lw_okq (⟨"PaperDollsModel", "isNumber", "(II)Z"⟩, 19) := ⟨⟨by decide +kernel, by decide +kernel⟩, List.mem_of_getElem? (i := 745) (by decide +kernel), List.mem_of_getElem? (i := 883) (by decide +kernel), List.mem_of_getElem? (i := 884) (by decide +kernel)⟩
theorem lw_p28 : lw_okq (⟨"PaperDollsModel", "isEnd", "()Z"⟩, 19) := ⟨⟨by decide +kernel, by decide +kernel⟩, List.mem_of_getElem? (i := 745) (by decide +kernel), List.mem_of_getElem? (i := 887) (by decide +kernel), List.mem_of_getElem? (i := 888) (by decide +kernel)⟩
theorem lw_p29 : lw_okq (⟨"PaperDollsModel", "goMove", "(II)Z"⟩, 19) := ⟨⟨by decide +kernel, by decide +kernel⟩, List.mem_of_getElem? (i := 745) (by decide +kernel), List.mem_of_getElem? (i := 893) (by decide +kernel), List.mem_of_getElem? (i := 894) (by decide +kernel)⟩
theorem lw_p30 : lw_okq (⟨"PaperDollsModel", "canPut", "(I)Z"⟩, 19) := ⟨⟨by decide +kernel, by decide +kernel⟩, List.mem_of_getElem? (i := 745) (by decide +kernel), List.mem_of_getElem? (i := 897) (by decide +kernel), List.mem_of_getElem? (i := 898) (by decide +kernel)⟩
theorem lw_p31 : lw_okq (⟨"PaperDollsModel", "placeOf", "(I)I"⟩, 19) := ⟨⟨by decide +kernel, by decide +kernel⟩, List.mem_of_getElem? (i := 745) (by decide +kernel), List.mem_of_getElem? (i := 901) (by decide +kernel), List.mem_of_getElem? (i := 902) (by decide +kernel)⟩
def lw_privs_2 : List (MethodName × Nat) := [(⟨"PaperDolls$MoveSearch", "dressesAtLast", "(LPaperDolls$Doll;LPaperDolls$Wear;I)Z"⟩, 2), (⟨"PaperDolls", "setFraction", "(II)V"⟩, 15), (⟨"PaperDolls", "countOf", "(I)I"⟩, 15), (⟨"PaperDollsModel", "bad", "()I"⟩, 19), (⟨"PaperDollsModel", "begin", "(I)V"⟩, 19), (⟨"PaperDollsModel", "take", "()V"⟩, 19), (⟨"PaperDollsModel", "full", "()I"⟩, 19), (⟨"PaperDollsModel", "aside", "()V"⟩, 19), (⟨"PaperDollsModel", "addPiece", "(III)V"⟩, 19), (⟨"PaperDollsModel", "next", "()V"⟩, 19), (⟨"PaperDollsModel", "item", "(Z)Z"⟩, 19), (⟨"PaperDollsModel", "isNumber", "(II)Z"⟩, 19), (⟨"PaperDollsModel", "isEnd", "()Z"⟩, 19), (⟨"PaperDollsModel", "goMove", "(II)Z"⟩, 19), (⟨"PaperDollsModel", "canPut", "(I)Z"⟩, 19), (⟨"PaperDollsModel", "placeOf", "(I)I"⟩, 19)]
theorem lw_r2 : ∀ q ∈ lw_privs_2, lw_okq q := List.forall_mem_cons.mpr ⟨lw_p16, List.forall_mem_cons.mpr ⟨lw_p17, List.forall_mem_cons.mpr ⟨lw_p18, List.forall_mem_cons.mpr ⟨lw_p19, List.forall_mem_cons.mpr ⟨lw_p20, List.forall_mem_cons.mpr ⟨lw_p21, List.forall_mem_cons.mpr ⟨lw_p22, List.forall_mem_cons.mpr ⟨lw_p23, List.forall_mem_cons.mpr ⟨lw_p24, List.forall_mem_cons.mpr ⟨lw_p25, List.forall_mem_cons.mpr ⟨lw_p26, List.forall_mem_cons.mpr ⟨lw_p27, List.forall_mem_cons.mpr ⟨lw_p28, List.forall_mem_cons.mpr ⟨lw_p29, List.forall_mem_cons.mpr ⟨lw_p30, List.forall_mem_cons.mpr ⟨lw_p31, fun _ h => absurd h List.not_mem_nil⟩⟩⟩⟩⟩⟩⟩⟩⟩⟩⟩⟩⟩⟩⟩⟩
theorem lw_p32 : lw_okq (⟨"PaperDollsModel", "holdsOf", "(I)I"⟩, 19) := ⟨⟨by decide +kernel, by decide +kernel⟩, List.mem_of_getElem? (i := 745) (by decide +kernel), List.mem_of_getElem? (i := 905) (by decide +kernel), List.mem_of_getElem? (i := 906) (by decide +kernel)⟩
theorem lw_p33 : lw_okq (⟨"PaperDollsModel", "canTake", "(I)Z"⟩, 19) := ⟨⟨by decide +kernel, by decide +kernel⟩, List.mem_of_getElem? (i := 745) (by decide +kernel), List.mem_of_getElem? (i := 915) (by decide +kernel), List.mem_of_getElem? (i := 916) (by decide +kernel)⟩
theorem lw_p34 : lw_okq (⟨"PaperDollsModel", "goPut", "(I)V"⟩, 19) := ⟨⟨by decide +kernel, by decide +kernel⟩, List.mem_of_getElem? (i := 745) (by decide +kernel), List.mem_of_getElem? (i := 922) (by decide +kernel), List.mem_of_getElem? (i := 923) (by decide +kernel)⟩
theorem lw_p35 : lw_okq (⟨"PaperDollsModel", "goTake", "(I)V"⟩, 19) := ⟨⟨by decide +kernel, by decide +kernel⟩, List.mem_of_getElem? (i := 745) (by decide +kernel), List.mem_of_getElem? (i := 926) (by decide +kernel), List.mem_of_getElem? (i := 927) (by decide +kernel)⟩
theorem lw_p36 : lw_okq (⟨"PaperDollsModel", "goMend", "(I)V"⟩, 19) := ⟨⟨by decide +kernel, by decide +kernel⟩, List.mem_of_getElem? (i := 745) (by decide +kernel), List.mem_of_getElem? (i := 930) (by decide +kernel), List.mem_of_getElem? (i := 931) (by decide +kernel)⟩
theorem lw_p37 : lw_okq (⟨"PaperDollsModel", "move", "(II)I"⟩, 19) := ⟨⟨by decide +kernel, by decide +kernel⟩, List.mem_of_getElem? (i := 745) (by decide +kernel), List.mem_of_getElem? (i := 938) (by decide +kernel), List.mem_of_getElem? (i := 939) (by decide +kernel)⟩
theorem lw_p38 : lw_okq (⟨"PaperDollsModel", "isPiece", "(I)Z"⟩, 19) := ⟨⟨by decide +kernel, by decide +kernel⟩, List.mem_of_getElem? (i := 745) (by decide +kernel), List.mem_of_getElem? (i := 942) (by decide +kernel), List.mem_of_getElem? (i := 943) (by decide +kernel)⟩
theorem lw_p39 : lw_okq (⟨"PaperDollsModel", "no", "()I"⟩, 19) := ⟨⟨by decide +kernel, by decide +kernel⟩, List.mem_of_getElem? (i := 745) (by decide +kernel), List.mem_of_getElem? (i := 946) (by decide +kernel), List.mem_of_getElem? (i := 947) (by decide +kernel)⟩
theorem lw_p40 : lw_okq (⟨"PaperDollsModel", "remember", "()V"⟩, 19) := ⟨⟨by decide +kernel, by decide +kernel⟩, List.mem_of_getElem? (i := 745) (by decide +kernel), List.mem_of_getElem? (i := 950) (by decide +kernel), List.mem_of_getElem? (i := 951) (by decide +kernel)⟩
theorem lw_p41 : lw_okq (⟨"PaperDollsModel", "canSet", "()I"⟩, 19) := ⟨⟨by decide +kernel, by decide +kernel⟩, List.mem_of_getElem? (i := 745) (by decide +kernel), List.mem_of_getElem? (i := 982) (by decide +kernel), List.mem_of_getElem? (i := 983) (by decide +kernel)⟩
theorem lw_p42 : lw_okq (⟨"PaperDollsModel", "areGoing", "(II)Z"⟩, 19) := ⟨⟨by decide +kernel, by decide +kernel⟩, List.mem_of_getElem? (i := 745) (by decide +kernel), List.mem_of_getElem? (i := 994) (by decide +kernel), List.mem_of_getElem? (i := 995) (by decide +kernel)⟩
theorem lw_p43 : lw_okq (⟨"PaperDollsModel", "outfitMany", "()I"⟩, 19) := ⟨⟨by decide +kernel, by decide +kernel⟩, List.mem_of_getElem? (i := 745) (by decide +kernel), List.mem_of_getElem? (i := 1002) (by decide +kernel), List.mem_of_getElem? (i := 1003) (by decide +kernel)⟩
theorem lw_p44 : lw_okq (⟨"PaperDollsModel", "outfitAt", "(I)I"⟩, 19) := ⟨⟨by decide +kernel, by decide +kernel⟩, List.mem_of_getElem? (i := 745) (by decide +kernel), List.mem_of_getElem? (i := 1006) (by decide +kernel), List.mem_of_getElem? (i := 1007) (by decide +kernel)⟩
theorem lw_p45 : lw_okq (⟨"PaperDollsModel", "isOutfit", "(I)Z"⟩, 19) := ⟨⟨by decide +kernel, by decide +kernel⟩, List.mem_of_getElem? (i := 745) (by decide +kernel), List.mem_of_getElem? (i := 1010) (by decide +kernel), List.mem_of_getElem? (i := 1011) (by decide +kernel)⟩
theorem lw_p46 : lw_okq (⟨"PaperDollsModel", "coveredBy", "(I)I"⟩, 19) := ⟨⟨by decide +kernel, by decide +kernel⟩, List.mem_of_getElem? (i := 745) (by decide +kernel), List.mem_of_getElem? (i := 1014) (by decide +kernel), List.mem_of_getElem? (i := 1015) (by decide +kernel)⟩
theorem lw_p47 : lw_okq (⟨"PaperDollsModel", "goRow", "(II)Z"⟩, 19) := ⟨⟨by decide +kernel, by decide +kernel⟩, List.mem_of_getElem? (i := 745) (by decide +kernel), List.mem_of_getElem? (i := 1037) (by decide +kernel), List.mem_of_getElem? (i := 1038) (by decide +kernel)⟩
def lw_privs_3 : List (MethodName × Nat) := [(⟨"PaperDollsModel", "holdsOf", "(I)I"⟩, 19), (⟨"PaperDollsModel", "canTake", "(I)Z"⟩, 19), (⟨"PaperDollsModel", "goPut", "(I)V"⟩, 19), (⟨"PaperDollsModel", "goTake", "(I)V"⟩, 19), (⟨"PaperDollsModel", "goMend", "(I)V"⟩, 19), (⟨"PaperDollsModel", "move", "(II)I"⟩, 19), (⟨"PaperDollsModel", "isPiece", "(I)Z"⟩, 19), (⟨"PaperDollsModel", "no", "()I"⟩, 19), (⟨"PaperDollsModel", "remember", "()V"⟩, 19), (⟨"PaperDollsModel", "canSet", "()I"⟩, 19), (⟨"PaperDollsModel", "areGoing", "(II)Z"⟩, 19), (⟨"PaperDollsModel", "outfitMany", "()I"⟩, 19), (⟨"PaperDollsModel", "outfitAt", "(I)I"⟩, 19), (⟨"PaperDollsModel", "isOutfit", "(I)Z"⟩, 19), (⟨"PaperDollsModel", "coveredBy", "(I)I"⟩, 19), (⟨"PaperDollsModel", "goRow", "(II)Z"⟩, 19)]
theorem lw_r3 : ∀ q ∈ lw_privs_3, lw_okq q := List.forall_mem_cons.mpr ⟨lw_p32, List.forall_mem_cons.mpr ⟨lw_p33, List.forall_mem_cons.mpr ⟨lw_p34, List.forall_mem_cons.mpr ⟨lw_p35, List.forall_mem_cons.mpr ⟨lw_p36, List.forall_mem_cons.mpr ⟨lw_p37, List.forall_mem_cons.mpr ⟨lw_p38, List.forall_mem_cons.mpr ⟨lw_p39, List.forall_mem_cons.mpr ⟨lw_p40, List.forall_mem_cons.mpr ⟨lw_p41, List.forall_mem_cons.mpr ⟨lw_p42, List.forall_mem_cons.mpr ⟨lw_p43, List.forall_mem_cons.mpr ⟨lw_p44, List.forall_mem_cons.mpr ⟨lw_p45, List.forall_mem_cons.mpr ⟨lw_p46, List.forall_mem_cons.mpr ⟨lw_p47, fun _ h => absurd h List.not_mem_nil⟩⟩⟩⟩⟩⟩⟩⟩⟩⟩⟩⟩⟩⟩⟩⟩
theorem lw_p48 : lw_okq (⟨"PaperDollsModel", "covered", "()I"⟩, 19) := ⟨⟨by decide +kernel, by decide +kernel⟩, List.mem_of_getElem? (i := 745) (by decide +kernel), List.mem_of_getElem? (i := 1041) (by decide +kernel), List.mem_of_getElem? (i := 1042) (by decide +kernel)⟩
theorem lw_p49 : lw_okq (⟨"PaperDollsModel", "rowAt", "(III)I"⟩, 19) := ⟨⟨by decide +kernel, by decide +kernel⟩, List.mem_of_getElem? (i := 745) (by decide +kernel), List.mem_of_getElem? (i := 1045) (by decide +kernel), List.mem_of_getElem? (i := 1046) (by decide +kernel)⟩
theorem lw_p50 : lw_okq (⟨"PaperDollsModel", "kindSet", "(I)I"⟩, 19) := ⟨⟨by decide +kernel, by decide +kernel⟩, List.mem_of_getElem? (i := 745) (by decide +kernel), List.mem_of_getElem? (i := 1077) (by decide +kernel), List.mem_of_getElem? (i := 1078) (by decide +kernel)⟩
theorem lw_p51 : lw_okq (⟨"PaperDollsModel", "rests", "(IIII)Z"⟩, 19) := ⟨⟨by decide +kernel, by decide +kernel⟩, List.mem_of_getElem? (i := 745) (by decide +kernel), List.mem_of_getElem? (i := 1089) (by decide +kernel), List.mem_of_getElem? (i := 1090) (by decide +kernel)⟩
theorem lw_p52 : lw_okq (⟨"PaperDollsModel", "getsOf", "(III)I"⟩, 19) := ⟨⟨by decide +kernel, by decide +kernel⟩, List.mem_of_getElem? (i := 745) (by decide +kernel), List.mem_of_getElem? (i := 1093) (by decide +kernel), List.mem_of_getElem? (i := 1094) (by decide +kernel)⟩
theorem lw_p53 : lw_okq (⟨"PaperDollsModel", "fraction", "(JJ)V"⟩, 19) := ⟨⟨by decide +kernel, by decide +kernel⟩, List.mem_of_getElem? (i := 745) (by decide +kernel), List.mem_of_getElem? (i := 1102) (by decide +kernel), List.mem_of_getElem? (i := 1103) (by decide +kernel)⟩
theorem lw_p54 : lw_okq (⟨"PaperDollsModel", "countOf", "(I)I"⟩, 19) := ⟨⟨by decide +kernel, by decide +kernel⟩, List.mem_of_getElem? (i := 745) (by decide +kernel), List.mem_of_getElem? (i := 1139) (by decide +kernel), List.mem_of_getElem? (i := 1140) (by decide +kernel)⟩
theorem lw_p55 : lw_okq (⟨"PaperDollsModel", "wornAll", "()I"⟩, 19) := ⟨⟨by decide +kernel, by decide +kernel⟩, List.mem_of_getElem? (i := 745) (by decide +kernel), List.mem_of_getElem? (i := 1143) (by decide +kernel), List.mem_of_getElem? (i := 1144) (by decide +kernel)⟩
def lw_privs_4 : List (MethodName × Nat) := [(⟨"PaperDollsModel", "covered", "()I"⟩, 19), (⟨"PaperDollsModel", "rowAt", "(III)I"⟩, 19), (⟨"PaperDollsModel", "kindSet", "(I)I"⟩, 19), (⟨"PaperDollsModel", "rests", "(IIII)Z"⟩, 19), (⟨"PaperDollsModel", "getsOf", "(III)I"⟩, 19), (⟨"PaperDollsModel", "fraction", "(JJ)V"⟩, 19), (⟨"PaperDollsModel", "countOf", "(I)I"⟩, 19), (⟨"PaperDollsModel", "wornAll", "()I"⟩, 19)]
theorem lw_r4 : ∀ q ∈ lw_privs_4, lw_okq q := List.forall_mem_cons.mpr ⟨lw_p48, List.forall_mem_cons.mpr ⟨lw_p49, List.forall_mem_cons.mpr ⟨lw_p50, List.forall_mem_cons.mpr ⟨lw_p51, List.forall_mem_cons.mpr ⟨lw_p52, List.forall_mem_cons.mpr ⟨lw_p53, List.forall_mem_cons.mpr ⟨lw_p54, List.forall_mem_cons.mpr ⟨lw_p55, fun _ h => absurd h List.not_mem_nil⟩⟩⟩⟩⟩⟩⟩⟩
def lw_privs : List (MethodName × Nat) := lw_privs_1 ++ (lw_privs_2 ++ (lw_privs_3 ++ (lw_privs_4)))
def lw_tbl : List Cond := k2_sels lw_privs ++ tables_1
theorem lw_privs_ok : ∀ q ∈ lw_privs, lw_okq q := by
  show ∀ q ∈ lw_privs_1 ++ (lw_privs_2 ++ (lw_privs_3 ++ (lw_privs_4))), lw_okq q
  exact List.forall_mem_append.mpr ⟨lw_r1, List.forall_mem_append.mpr ⟨lw_r2, List.forall_mem_append.mpr ⟨lw_r3, lw_r4⟩⟩⟩

/-- the words that keep: every method's words -/
def zTb : List Cond := lw_tbl.filter goodWord
theorem zmem {w : Cond} (i : Nat) (h : lw_tbl[i]? = some w) (hg : goodWord w = true) : w ∈ zTb := List.mem_filter.mpr ⟨List.mem_of_getElem? h, hg⟩
theorem zgood {y : Cond} (hy : y ∈ zTb) (z : Cond) : GoodIn (z :: zTb) (y :: zTb) := by
  intro w hw
  have h1 : w ∈ zTb := by
    rcases List.mem_cons.mp hw with h | h
    · rw [h]; exact hy
    · exact h
  exact ⟨List.mem_cons_of_mem _ h1, good_of_word (List.mem_filter.mp h1).2⟩
end
section
def RX0 : String := "PaperDolls$Cloth"
def TX0 : u_T := fun k => match k with
  | _ => ("", "", "", false)
def tyX0 : Nat → FieldType := fun k => match k with
  | _ => .int
theorem nmX0 : ∀ a, a < 0 → ∀ b, b < 0 → a ≠ b → (TX0 a).2.1 ≠ (TX0 b).2.1 := by decide +kernel
theorem tyX0_ok : ∀ k, k < 0 → parseFieldDescriptor (TX0 k).2.2.1 = some (tyX0 k) := by decide +kernel
abbrev cX0_covers : ByteArray := prog_2_method_2_code
def yX0_covers : MethodName := ⟨RX0, "covers", "(I)I"⟩
abbrev cX0_holds : ByteArray := prog_2_method_3_code
def yX0_holds : MethodName := ⟨RX0, "holds", "(III)I"⟩
def RX1 : String := "PaperDolls$Doll"
def TX1 : u_T := fun k => match k with
  | 0 => ("PaperDolls$Doll", "childKind", "I", false)
  | 1 => ("PaperDolls$Doll", "pieces", "I", false)
  | 2 => ("PaperDolls$Doll", "kind", "[I", true)
  | 3 => ("PaperDolls$Doll", "colour", "[I", true)
  | 4 => ("PaperDolls$Doll", "paper", "[I", true)
  | 5 => ("PaperDolls$Doll", "now", "LPaperDolls$Wear;", true)
  | 6 => ("PaperDolls$Doll", "past", "[LPaperDolls$Wear;", true)
  | 7 => ("PaperDolls$Doll", "pastCount", "I", false)
  | 8 => ("PaperDolls$Doll", "notes", "[I", true)
  | 9 => ("PaperDolls$Doll", "noteCount", "I", false)
  | 10 => ("PaperDolls$Doll", "marks", "[I", true)
  | _ => ("PaperDolls$Doll", "markCount", "I", false)
def tyX1 : Nat → FieldType := fun k => match k with
  | 0 => .int
  | 1 => .int
  | 2 => .array .int
  | 3 => .array .int
  | 4 => .array .int
  | 5 => .object "PaperDolls$Wear"
  | 6 => .array (.object "PaperDolls$Wear")
  | 7 => .int
  | 8 => .array .int
  | 9 => .int
  | 10 => .array .int
  | _ => .int
theorem nmX1 : ∀ a, a < 12 → ∀ b, b < 12 → a ≠ b → (TX1 a).2.1 ≠ (TX1 b).2.1 := by decide +kernel
theorem tyX1_ok : ∀ k, k < 12 → parseFieldDescriptor (TX1 k).2.2.1 = some (tyX1 k) := by decide +kernel
abbrev cX1_init : ByteArray := prog_3_method_1_code
def yX1_init : MethodName := ⟨RX1, "<init>", "()V"⟩
abbrev cX1_begin : ByteArray := prog_3_method_2_code
def yX1_begin : MethodName := ⟨RX1, "begin", "(I)V"⟩
abbrev cX1_copyFrom : ByteArray := prog_3_method_3_code
def yX1_copyFrom : MethodName := ⟨RX1, "copyFrom", "(LPaperDolls$Doll;)V"⟩
abbrev cX1_has : ByteArray := prog_3_method_4_code
def yX1_has : MethodName := ⟨RX1, "has", "(I)Z"⟩
abbrev cX1_allPieces : ByteArray := prog_3_method_5_code
def yX1_allPieces : MethodName := ⟨RX1, "allPieces", "()I"⟩
abbrev cX1_addPiece : ByteArray := prog_3_method_6_code
def yX1_addPiece : MethodName := ⟨RX1, "addPiece", "(III)V"⟩
abbrev cX1_addNote : ByteArray := prog_3_method_7_code
def yX1_addNote : MethodName := ⟨RX1, "addNote", "(III)V"⟩
abbrev cX1_addMark : ByteArray := prog_3_method_8_code
def yX1_addMark : MethodName := ⟨RX1, "addMark", "(IIII)V"⟩
abbrev cX1_spotsOf : ByteArray := prog_3_method_9_code
def yX1_spotsOf : MethodName := ⟨RX1, "spotsOf", "(I)I"⟩
abbrev cX1_spotsOfSet : ByteArray := prog_3_method_10_code
def yX1_spotsOfSet : MethodName := ⟨RX1, "spotsOfSet", "(I)I"⟩
abbrev cX1_isDressed : ByteArray := prog_3_method_11_code
def yX1_isDressed : MethodName := ⟨RX1, "isDressed", "(LPaperDolls$Wear;)Z"⟩
abbrev cX1_holdOf : ByteArray := prog_3_method_12_code
def yX1_holdOf : MethodName := ⟨RX1, "holdOf", "(LPaperDolls$Wear;I)I"⟩
abbrev cX1_match : ByteArray := prog_3_method_13_code
def yX1_match : MethodName := ⟨RX1, "match", "(II)Z"⟩
abbrev cX1_matchesOf : ByteArray := prog_3_method_14_code
def yX1_matchesOf : MethodName := ⟨RX1, "matchesOf", "(I)I"⟩
abbrev cX1_allMatch : ByteArray := prog_3_method_15_code
def yX1_allMatch : MethodName := ⟨RX1, "allMatch", "(I)Z"⟩
abbrev cX1_mayMove : ByteArray := prog_3_method_16_code
def yX1_mayMove : MethodName := ⟨RX1, "mayMove", "(LPaperDolls$Wear;II)Z"⟩
abbrev cX1_mayPut : ByteArray := prog_3_method_17_code
def yX1_mayPut : MethodName := ⟨RX1, "mayPut", "(LPaperDolls$Wear;I)Z"⟩
abbrev cX1_mayTake : ByteArray := prog_3_method_18_code
def yX1_mayTake : MethodName := ⟨RX1, "mayTake", "(LPaperDolls$Wear;I)Z"⟩
abbrev cX1_setThatMay : ByteArray := prog_3_method_19_code
def yX1_setThatMay : MethodName := ⟨RX1, "setThatMay", "(LPaperDolls$Wear;I)I"⟩
abbrev cX1_move : ByteArray := prog_3_method_20_code
def yX1_move : MethodName := ⟨RX1, "move", "(LPaperDolls$Wear;II)V"⟩
abbrev cX1_moveForGood : ByteArray := prog_3_method_21_code
def yX1_moveForGood : MethodName := ⟨RX1, "moveForGood", "(II)V"⟩
abbrev cX1_keepPast : ByteArray := prog_3_method_22_code
def yX1_keepPast : MethodName := ⟨RX1, "keepPast", "()V"⟩
abbrev cX1_bringBack : ByteArray := prog_3_method_23_code
def yX1_bringBack : MethodName := ⟨RX1, "bringBack", "()V"⟩
abbrev cX1_playWith : ByteArray := prog_3_method_24_code
def yX1_playWith : MethodName := ⟨RX1, "playWith", "(LPaperDolls$Wear;I)V"⟩
abbrev cX1_digestOn : ByteArray := prog_3_method_25_code
def yX1_digestOn : MethodName := ⟨RX1, "digestOn", "(J)J"⟩
def RX2 : String := "PaperDolls$Game"
def TX2 : u_T := fun k => match k with
  | _ => ("", "", "", false)
def tyX2 : Nat → FieldType := fun k => match k with
  | _ => .int
theorem nmX2 : ∀ a, a < 0 → ∀ b, b < 0 → a ≠ b → (TX2 a).2.1 ≠ (TX2 b).2.1 := by decide +kernel
theorem tyX2_ok : ∀ k, k < 0 → parseFieldDescriptor (TX2 k).2.2.1 = some (tyX2 k) := by decide +kernel
abbrev cX2_rests : ByteArray := prog_4_method_2_code
def yX2_rests : MethodName := ⟨RX2, "rests", "(LPaperDolls$Doll;IIII)Z"⟩
abbrev cX2_noneIsBetter : ByteArray := prog_4_method_3_code
def yX2_noneIsBetter : MethodName := ⟨RX2, "noneIsBetter", "(LPaperDolls$Doll;IIII)Z"⟩
abbrev cX2_gain : ByteArray := prog_4_method_4_code
def yX2_gain : MethodName := ⟨RX2, "gain", "(LPaperDolls$Doll;III)I"⟩
def RX3 : String := "PaperDolls$Guess"
def TX3 : u_T := fun k => match k with
  | _ => ("", "", "", false)
def tyX3 : Nat → FieldType := fun k => match k with
  | _ => .int
theorem nmX3 : ∀ a, a < 0 → ∀ b, b < 0 → a ≠ b → (TX3 a).2.1 ≠ (TX3 b).2.1 := by decide +kernel
theorem tyX3_ok : ∀ k, k < 0 → parseFieldDescriptor (TX3 k).2.2.1 = some (tyX3 k) := by decide +kernel
abbrev cX3_childKinds : ByteArray := prog_5_method_2_code
def yX3_childKinds : MethodName := ⟨RX3, "childKinds", "(LPaperDolls$Doll;)I"⟩
abbrev cX3_fitsNotes : ByteArray := prog_5_method_3_code
def yX3_fitsNotes : MethodName := ⟨RX3, "fitsNotes", "(LPaperDolls$Doll;I)Z"⟩
abbrev cX3_bestPair : ByteArray := prog_5_method_4_code
def yX3_bestPair : MethodName := ⟨RX3, "bestPair", "(I)I"⟩
abbrev cX3_greaterPart : ByteArray := prog_5_method_5_code
def yX3_greaterPart : MethodName := ⟨RX3, "greaterPart", "(III)I"⟩
abbrev cX3_clothKinds : ByteArray := prog_5_method_6_code
def yX3_clothKinds : MethodName := ⟨RX3, "clothKinds", "(LPaperDolls$Doll;I)I"⟩
abbrev cX3_fitsMarks : ByteArray := prog_5_method_7_code
def yX3_fitsMarks : MethodName := ⟨RX3, "fitsMarks", "(LPaperDolls$Doll;II)Z"⟩
abbrev cX3_bestWear : ByteArray := prog_5_method_8_code
def yX3_bestWear : MethodName := ⟨RX3, "bestWear", "(II)I"⟩
abbrev cX3_mostAlike : ByteArray := prog_5_method_9_code
def yX3_mostAlike : MethodName := ⟨RX3, "mostAlike", "(III)I"⟩
abbrev cX3_howManyHold : ByteArray := prog_5_method_10_code
def yX3_howManyHold : MethodName := ⟨RX3, "howManyHold", "(IIII)I"⟩
def RX4 : String := "PaperDolls$MoveSearch"
def TX4 : u_T := fun k => match k with
  | 0 => ("PaperDolls$MoveSearch", "row", "[I", true)
  | _ => ("PaperDolls$MoveSearch", "behind", "[LPaperDolls$Wear;", true)
def tyX4 : Nat → FieldType := fun k => match k with
  | 0 => .array .int
  | _ => .array (.object "PaperDolls$Wear")
theorem nmX4 : ∀ a, a < 2 → ∀ b, b < 2 → a ≠ b → (TX4 a).2.1 ≠ (TX4 b).2.1 := by decide +kernel
theorem tyX4_ok : ∀ k, k < 2 → parseFieldDescriptor (TX4 k).2.2.1 = some (tyX4 k) := by decide +kernel
abbrev cX4_init : ByteArray := prog_6_method_1_code
def yX4_init : MethodName := ⟨RX4, "<init>", "()V"⟩
abbrev cX4_fewest : ByteArray := prog_6_method_2_code
def yX4_fewest : MethodName := ⟨RX4, "fewest", "(LPaperDolls$Doll;)I"⟩
abbrev cX4_dresses : ByteArray := prog_6_method_3_code
def yX4_dresses : MethodName := ⟨RX4, "dresses", "(LPaperDolls$Doll;LPaperDolls$Wear;II)Z"⟩
abbrev cX4_dressesAtLast : ByteArray := prog_6_method_4_code
def yX4_dressesAtLast : MethodName := ⟨RX4, "dressesAtLast", "(LPaperDolls$Doll;LPaperDolls$Wear;I)Z"⟩
def RX5 : String := "PaperDolls$Reader"
def TX5 : u_T := fun k => match k with
  | 0 => ("PaperDolls$Reader", "bytes", "[B", false)
  | 1 => ("PaperDolls$Reader", "length", "I", false)
  | 2 => ("PaperDolls$Reader", "token", "I", false)
  | 3 => ("PaperDolls$Reader", "start", "I", false)
  | 4 => ("PaperDolls$Reader", "stop", "I", false)
  | _ => ("PaperDolls$Reader", "number", "I", false)
def tyX5 : Nat → FieldType := fun k => match k with
  | 0 => .array .byte
  | 1 => .int
  | 2 => .int
  | 3 => .int
  | 4 => .int
  | _ => .int
theorem nmX5 : ∀ a, a < 6 → ∀ b, b < 6 → a ≠ b → (TX5 a).2.1 ≠ (TX5 b).2.1 := by decide +kernel
theorem tyX5_ok : ∀ k, k < 6 → parseFieldDescriptor (TX5 k).2.2.1 = some (tyX5 k) := by decide +kernel
abbrev cX5_init : ByteArray := prog_7_method_1_code
def yX5_init : MethodName := ⟨RX5, "<init>", "()V"⟩
abbrev cX5_readDoll : ByteArray := prog_7_method_2_code
def yX5_readDoll : MethodName := ⟨RX5, "readDoll", "([BILPaperDolls$Doll;)I"⟩
abbrev cX5_readItem : ByteArray := prog_7_method_3_code
def yX5_readItem : MethodName := ⟨RX5, "readItem", "(LPaperDolls$Doll;Z)Z"⟩
abbrev cX5_readChild : ByteArray := prog_7_method_4_code
def yX5_readChild : MethodName := ⟨RX5, "readChild", "(LPaperDolls$Doll;)Z"⟩
abbrev cX5_readPiece : ByteArray := prog_7_method_5_code
def yX5_readPiece : MethodName := ⟨RX5, "readPiece", "(LPaperDolls$Doll;)Z"⟩
abbrev cX5_readMove : ByteArray := prog_7_method_6_code
def yX5_readMove : MethodName := ⟨RX5, "readMove", "(LPaperDolls$Doll;I)Z"⟩
abbrev cX5_readNumber : ByteArray := prog_7_method_7_code
def yX5_readNumber : MethodName := ⟨RX5, "readNumber", "(II)Z"⟩
abbrev cX5_isWord : ByteArray := prog_7_method_8_code
def yX5_isWord : MethodName := ⟨RX5, "isWord", "(Ljava/lang/String;)Z"⟩
abbrev cX5_advance : ByteArray := prog_7_method_9_code
def yX5_advance : MethodName := ⟨RX5, "advance", "()V"⟩
abbrev cX5_advanceOverWord : ByteArray := prog_7_method_10_code
def yX5_advanceOverWord : MethodName := ⟨RX5, "advanceOverWord", "()V"⟩
abbrev cX5_advanceOverNumber : ByteArray := prog_7_method_11_code
def yX5_advanceOverNumber : MethodName := ⟨RX5, "advanceOverNumber", "()V"⟩
def RX6 : String := "PaperDolls$Taste"
def TX6 : u_T := fun k => match k with
  | _ => ("", "", "", false)
def tyX6 : Nat → FieldType := fun k => match k with
  | _ => .int
theorem nmX6 : ∀ a, a < 0 → ∀ b, b < 0 → a ≠ b → (TX6 a).2.1 ≠ (TX6 b).2.1 := by decide +kernel
theorem tyX6_ok : ∀ k, k < 0 → parseFieldDescriptor (TX6 k).2.2.1 = some (tyX6 k) := by decide +kernel
abbrev cX6_allows : ByteArray := prog_8_method_2_code
def yX6_allows : MethodName := ⟨RX6, "allows", "(III)Z"⟩
def RX7 : String := "PaperDolls$Wardrobe"
def TX7 : u_T := fun k => match k with
  | 0 => ("PaperDolls$Wardrobe", "sets", "[I", true)
  | _ => ("PaperDolls$Wardrobe", "found", "I", false)
def tyX7 : Nat → FieldType := fun k => match k with
  | 0 => .array .int
  | _ => .int
theorem nmX7 : ∀ a, a < 2 → ∀ b, b < 2 → a ≠ b → (TX7 a).2.1 ≠ (TX7 b).2.1 := by decide +kernel
theorem tyX7_ok : ∀ k, k < 2 → parseFieldDescriptor (TX7 k).2.2.1 = some (tyX7 k) := by decide +kernel
abbrev cX7_init : ByteArray := prog_9_method_1_code
def yX7_init : MethodName := ⟨RX7, "<init>", "()V"⟩
abbrev cX7_findOutfits : ByteArray := prog_9_method_2_code
def yX7_findOutfits : MethodName := ⟨RX7, "findOutfits", "(LPaperDolls$Doll;)V"⟩
abbrev cX7_isOutfit : ByteArray := prog_9_method_3_code
def yX7_isOutfit : MethodName := ⟨RX7, "isOutfit", "(LPaperDolls$Doll;I)Z"⟩
abbrev cX7_smallest : ByteArray := prog_9_method_4_code
def yX7_smallest : MethodName := ⟨RX7, "smallest", "()I"⟩
abbrev cX7_used : ByteArray := prog_9_method_5_code
def yX7_used : MethodName := ⟨RX7, "used", "()I"⟩
abbrev cX7_mostApart : ByteArray := prog_9_method_6_code
def yX7_mostApart : MethodName := ⟨RX7, "mostApart", "()I"⟩
abbrev cX7_mostApartFrom : ByteArray := prog_9_method_7_code
def yX7_mostApartFrom : MethodName := ⟨RX7, "mostApartFrom", "(III)I"⟩
def RX8 : String := "PaperDolls$Wear"
def TX8 : u_T := fun k => match k with
  | 0 => ("PaperDolls$Wear", "on", "[I", true)
  | 1 => ("PaperDolls$Wear", "worn", "[I", true)
  | 2 => ("PaperDolls$Wear", "onCount", "I", false)
  | _ => ("PaperDolls$Wear", "moves", "I", false)
def tyX8 : Nat → FieldType := fun k => match k with
  | 0 => .array .int
  | 1 => .array .int
  | 2 => .int
  | _ => .int
theorem nmX8 : ∀ a, a < 4 → ∀ b, b < 4 → a ≠ b → (TX8 a).2.1 ≠ (TX8 b).2.1 := by decide +kernel
theorem tyX8_ok : ∀ k, k < 4 → parseFieldDescriptor (TX8 k).2.2.1 = some (tyX8 k) := by decide +kernel
abbrev cX8_init : ByteArray := prog_10_method_1_code
def yX8_init : MethodName := ⟨RX8, "<init>", "()V"⟩
abbrev cX8_begin : ByteArray := prog_10_method_2_code
def yX8_begin : MethodName := ⟨RX8, "begin", "()V"⟩
abbrev cX8_copyFrom : ByteArray := prog_10_method_3_code
def yX8_copyFrom : MethodName := ⟨RX8, "copyFrom", "(LPaperDolls$Wear;)V"⟩
abbrev cX8_placeOf : ByteArray := prog_10_method_4_code
def yX8_placeOf : MethodName := ⟨RX8, "placeOf", "(I)I"⟩
abbrev cX8_onSet : ByteArray := prog_10_method_5_code
def yX8_onSet : MethodName := ⟨RX8, "onSet", "()I"⟩
abbrev cX8_wornTogether : ByteArray := prog_10_method_6_code
def yX8_wornTogether : MethodName := ⟨RX8, "wornTogether", "()I"⟩
abbrev cX8_layOver : ByteArray := prog_10_method_7_code
def yX8_layOver : MethodName := ⟨RX8, "layOver", "(I)V"⟩
abbrev cX8_pullOut : ByteArray := prog_10_method_8_code
def yX8_pullOut : MethodName := ⟨RX8, "pullOut", "(I)V"⟩
def RX9 : String := "PaperDolls"
def TX9 : u_T := fun k => match k with
  | 0 => ("PaperDolls", "doll", "LPaperDolls$Doll;", true)
  | 1 => ("PaperDolls", "draft", "LPaperDolls$Doll;", true)
  | 2 => ("PaperDolls", "images", "[LPaperDolls$Doll;", true)
  | 3 => ("PaperDolls", "imageKept", "[Z", true)
  | 4 => ("PaperDolls", "trial", "LPaperDolls$Wear;", true)
  | 5 => ("PaperDolls", "reader", "LPaperDolls$Reader;", true)
  | 6 => ("PaperDolls", "wardrobe", "LPaperDolls$Wardrobe;", true)
  | 7 => ("PaperDolls", "moveSearch", "LPaperDolls$MoveSearch;", true)
  | 8 => ("PaperDolls", "text", "[B", true)
  | 9 => ("PaperDolls", "textLength", "I", false)
  | 10 => ("PaperDolls", "above", "J", false)
  | 11 => ("PaperDolls", "below", "J", false)
  | 12 => ("PaperDolls", "refusedBad", "I", false)
  | 13 => ("PaperDolls", "refusedNo", "I", false)
  | _ => ("PaperDolls", "refusedFull", "I", false)
def tyX9 : Nat → FieldType := fun k => match k with
  | 0 => .object "PaperDolls$Doll"
  | 1 => .object "PaperDolls$Doll"
  | 2 => .array (.object "PaperDolls$Doll")
  | 3 => .array .boolean
  | 4 => .object "PaperDolls$Wear"
  | 5 => .object "PaperDolls$Reader"
  | 6 => .object "PaperDolls$Wardrobe"
  | 7 => .object "PaperDolls$MoveSearch"
  | 8 => .array .byte
  | 9 => .int
  | 10 => .long
  | 11 => .long
  | 12 => .int
  | 13 => .int
  | _ => .int
theorem nmX9 : ∀ a, a < 15 → ∀ b, b < 15 → a ≠ b → (TX9 a).2.1 ≠ (TX9 b).2.1 := by decide +kernel
theorem tyX9_ok : ∀ k, k < 15 → parseFieldDescriptor (TX9 k).2.2.1 = some (tyX9 k) := by decide +kernel
abbrev cX9_init : ByteArray := prog_1_method_1_code
def yX9_init : MethodName := ⟨RX9, "<init>", "()V"⟩
abbrev cX9_doll : ByteArray := prog_1_method_2_code
def yX9_doll : MethodName := ⟨RX9, "doll", "(I)I"⟩
abbrev cX9_child : ByteArray := prog_1_method_3_code
def yX9_child : MethodName := ⟨RX9, "child", "(I)I"⟩
abbrev cX9_piece : ByteArray := prog_1_method_4_code
def yX9_piece : MethodName := ⟨RX9, "piece", "(III)I"⟩
abbrev cX9_type : ByteArray := prog_1_method_5_code
def yX9_type : MethodName := ⟨RX9, "type", "(I)I"⟩
abbrev cX9_clear : ByteArray := prog_1_method_6_code
def yX9_clear : MethodName := ⟨RX9, "clear", "()I"⟩
abbrev cX9_read : ByteArray := prog_1_method_7_code
def yX9_read : MethodName := ⟨RX9, "read", "()I"⟩
abbrev cX9_puts : ByteArray := prog_1_method_8_code
def yX9_puts : MethodName := ⟨RX9, "puts", "(I)I"⟩
abbrev cX9_takes : ByteArray := prog_1_method_9_code
def yX9_takes : MethodName := ⟨RX9, "takes", "(I)I"⟩
abbrev cX9_mends : ByteArray := prog_1_method_10_code
def yX9_mends : MethodName := ⟨RX9, "mends", "(I)I"⟩
abbrev cX9_undo : ByteArray := prog_1_method_11_code
def yX9_undo : MethodName := ⟨RX9, "undo", "()I"⟩
abbrev cX9_of : ByteArray := prog_1_method_12_code
def yX9_of : MethodName := ⟨RX9, "of", "(II)I"⟩
abbrev cX9_seen : ByteArray := prog_1_method_13_code
def yX9_seen : MethodName := ⟨RX9, "seen", "(I)I"⟩
abbrev cX9_can : ByteArray := prog_1_method_14_code
def yX9_can : MethodName := ⟨RX9, "can", "()I"⟩
abbrev cX9_off : ByteArray := prog_1_method_15_code
def yX9_off : MethodName := ⟨RX9, "off", "()I"⟩
abbrev cX9_going : ByteArray := prog_1_method_16_code
def yX9_going : MethodName := ⟨RX9, "going", "(I)I"⟩
abbrev cX9_outfits : ByteArray := prog_1_method_17_code
def yX9_outfits : MethodName := ⟨RX9, "outfits", "(I)I"⟩
abbrev cX9_lean : ByteArray := prog_1_method_18_code
def yX9_lean : MethodName := ⟨RX9, "lean", "(I)I"⟩
abbrev cX9_days : ByteArray := prog_1_method_19_code
def yX9_days : MethodName := ⟨RX9, "days", "()I"⟩
abbrev cX9_spared : ByteArray := prog_1_method_20_code
def yX9_spared : MethodName := ⟨RX9, "spared", "()I"⟩
abbrev cX9_few : ByteArray := prog_1_method_21_code
def yX9_few : MethodName := ⟨RX9, "few", "(I)I"⟩
abbrev cX9_note : ByteArray := prog_1_method_22_code
def yX9_note : MethodName := ⟨RX9, "note", "(III)I"⟩
abbrev cX9_mark : ByteArray := prog_1_method_23_code
def yX9_mark : MethodName := ⟨RX9, "mark", "(IIII)I"⟩
abbrev cX9_forget : ByteArray := prog_1_method_24_code
def yX9_forget : MethodName := ⟨RX9, "forget", "(I)I"⟩
abbrev cX9_is : ByteArray := prog_1_method_25_code
def yX9_is : MethodName := ⟨RX9, "is", "()I"⟩
abbrev cX9_look : ByteArray := prog_1_method_26_code
def yX9_look : MethodName := ⟨RX9, "look", "()I"⟩
abbrev cX9_kinds : ByteArray := prog_1_method_27_code
def yX9_kinds : MethodName := ⟨RX9, "kinds", "(I)I"⟩
abbrev cX9_ask : ByteArray := prog_1_method_28_code
def yX9_ask : MethodName := ⟨RX9, "ask", "(I)I"⟩
abbrev cX9_two : ByteArray := prog_1_method_29_code
def yX9_two : MethodName := ⟨RX9, "two", "(I)I"⟩
abbrev cX9_luck : ByteArray := prog_1_method_30_code
def yX9_luck : MethodName := ⟨RX9, "luck", "(I)I"⟩
abbrev cX9_evenings : ByteArray := prog_1_method_31_code
def yX9_evenings : MethodName := ⟨RX9, "evenings", "(II)I"⟩
abbrev cX9_part : ByteArray := prog_1_method_32_code
def yX9_part : MethodName := ⟨RX9, "part", "(I)J"⟩
abbrev cX9_image : ByteArray := prog_1_method_33_code
def yX9_image : MethodName := ⟨RX9, "image", "(I)I"⟩
abbrev cX9_from : ByteArray := prog_1_method_34_code
def yX9_from : MethodName := ⟨RX9, "from", "(I)I"⟩
abbrev cX9_status : ByteArray := prog_1_method_35_code
def yX9_status : MethodName := ⟨RX9, "status", "(I)I"⟩
abbrev cX9_count : ByteArray := prog_1_method_36_code
def yX9_count : MethodName := ⟨RX9, "count", "(I)I"⟩
abbrev cX9_digest : ByteArray := prog_1_method_37_code
def yX9_digest : MethodName := ⟨RX9, "digest", "()J"⟩
abbrev cX9_within : ByteArray := prog_1_method_38_code
def yX9_within : MethodName := ⟨RX9, "within", "(III)Z"⟩
abbrev cX9_refuse : ByteArray := prog_1_method_39_code
def yX9_refuse : MethodName := ⟨RX9, "refuse", "(I)I"⟩
abbrev cX9_whyNoMove : ByteArray := prog_1_method_40_code
def yX9_whyNoMove : MethodName := ⟨RX9, "whyNoMove", "(II)I"⟩
abbrev cX9_countOf : ByteArray := prog_1_method_41_code
def yX9_countOf : MethodName := ⟨RX9, "countOf", "(I)I"⟩
abbrev cX9_setFraction : ByteArray := prog_1_method_42_code
def yX9_setFraction : MethodName := ⟨RX9, "setFraction", "(II)V"⟩
def RX10 : String := "PaperDollsModel"
def TX10 : u_T := fun k => match k with
  | 0 => ("PaperDollsModel", "now", "[I", true)
  | 1 => ("PaperDollsModel", "side", "[I", true)
  | 2 => ("PaperDollsModel", "before", "[I", true)
  | 3 => ("PaperDollsModel", "undoMany", "I", false)
  | 4 => ("PaperDollsModel", "images", "[I", true)
  | 5 => ("PaperDollsModel", "imageBefore", "[I", true)
  | 6 => ("PaperDollsModel", "imageUndos", "[I", true)
  | 7 => ("PaperDollsModel", "imaged", "I", false)
  | 8 => ("PaperDollsModel", "length", "I", false)
  | 9 => ("PaperDollsModel", "text", "[I", true)
  | 10 => ("PaperDollsModel", "above", "J", false)
  | 11 => ("PaperDollsModel", "below", "J", false)
  | 12 => ("PaperDollsModel", "refused", "[I", true)
  | 13 => ("PaperDollsModel", "spot", "I", false)
  | 14 => ("PaperDollsModel", "begins", "I", false)
  | 15 => ("PaperDollsModel", "token", "I", false)
  | 16 => ("PaperDollsModel", "value", "I", false)
  | 17 => ("PaperDollsModel", "dayMany", "[I", true)
  | _ => ("PaperDollsModel", "open", "[I", true)
def tyX10 : Nat → FieldType := fun k => match k with
  | 0 => .array .int
  | 1 => .array .int
  | 2 => .array .int
  | 3 => .int
  | 4 => .array .int
  | 5 => .array .int
  | 6 => .array .int
  | 7 => .int
  | 8 => .int
  | 9 => .array .int
  | 10 => .long
  | 11 => .long
  | 12 => .array .int
  | 13 => .int
  | 14 => .int
  | 15 => .int
  | 16 => .int
  | 17 => .array .int
  | _ => .array .int
theorem nmX10 : ∀ a, a < 19 → ∀ b, b < 19 → a ≠ b → (TX10 a).2.1 ≠ (TX10 b).2.1 := by decide +kernel
theorem tyX10_ok : ∀ k, k < 19 → parseFieldDescriptor (TX10 k).2.2.1 = some (tyX10 k) := by decide +kernel
abbrev cX10_init : ByteArray := prog_12_method_1_code
def yX10_init : MethodName := ⟨RX10, "<init>", "()V"⟩
abbrev cX10_in : ByteArray := prog_12_method_2_code
def yX10_in : MethodName := ⟨RX10, "in", "(JJJ)Z"⟩
abbrev cX10_has : ByteArray := prog_12_method_3_code
def yX10_has : MethodName := ⟨RX10, "has", "(II)Z"⟩
abbrev cX10_ones : ByteArray := prog_12_method_4_code
def yX10_ones : MethodName := ⟨RX10, "ones", "(I)I"⟩
abbrev cX10_bad : ByteArray := prog_12_method_5_code
def yX10_bad : MethodName := ⟨RX10, "bad", "()I"⟩
abbrev cX10_no : ByteArray := prog_12_method_6_code
def yX10_no : MethodName := ⟨RX10, "no", "()I"⟩
abbrev cX10_full : ByteArray := prog_12_method_7_code
def yX10_full : MethodName := ⟨RX10, "full", "()I"⟩
abbrev cX10_covers : ByteArray := prog_12_method_8_code
def yX10_covers : MethodName := ⟨RX10, "covers", "(I)I"⟩
abbrev cX10_holds : ByteArray := prog_12_method_9_code
def yX10_holds : MethodName := ⟨RX10, "holds", "(III)I"⟩
abbrev cX10_goes : ByteArray := prog_12_method_10_code
def yX10_goes : MethodName := ⟨RX10, "goes", "(III)Z"⟩
abbrev cX10_areGoing : ByteArray := prog_12_method_11_code
def yX10_areGoing : MethodName := ⟨RX10, "areGoing", "(II)Z"⟩
abbrev cX10_isPiece : ByteArray := prog_12_method_12_code
def yX10_isPiece : MethodName := ⟨RX10, "isPiece", "(I)Z"⟩
abbrev cX10_aside : ByteArray := prog_12_method_13_code
def yX10_aside : MethodName := ⟨RX10, "aside", "()V"⟩
abbrev cX10_take : ByteArray := prog_12_method_14_code
def yX10_take : MethodName := ⟨RX10, "take", "()V"⟩
abbrev cX10_placeOf : ByteArray := prog_12_method_15_code
def yX10_placeOf : MethodName := ⟨RX10, "placeOf", "(I)I"⟩
abbrev cX10_holdsOf : ByteArray := prog_12_method_16_code
def yX10_holdsOf : MethodName := ⟨RX10, "holdsOf", "(I)I"⟩
abbrev cX10_canPut : ByteArray := prog_12_method_17_code
def yX10_canPut : MethodName := ⟨RX10, "canPut", "(I)Z"⟩
abbrev cX10_canTake : ByteArray := prog_12_method_18_code
def yX10_canTake : MethodName := ⟨RX10, "canTake", "(I)Z"⟩
abbrev cX10_goPut : ByteArray := prog_12_method_19_code
def yX10_goPut : MethodName := ⟨RX10, "goPut", "(I)V"⟩
abbrev cX10_goTake : ByteArray := prog_12_method_20_code
def yX10_goTake : MethodName := ⟨RX10, "goTake", "(I)V"⟩
abbrev cX10_goMend : ByteArray := prog_12_method_21_code
def yX10_goMend : MethodName := ⟨RX10, "goMend", "(I)V"⟩
abbrev cX10_goMove : ByteArray := prog_12_method_22_code
def yX10_goMove : MethodName := ⟨RX10, "goMove", "(II)Z"⟩
abbrev cX10_covered : ByteArray := prog_12_method_23_code
def yX10_covered : MethodName := ⟨RX10, "covered", "()I"⟩
abbrev cX10_begin : ByteArray := prog_12_method_24_code
def yX10_begin : MethodName := ⟨RX10, "begin", "(I)V"⟩
abbrev cX10_doll : ByteArray := prog_12_method_25_code
def yX10_doll : MethodName := ⟨RX10, "doll", "(I)I"⟩
abbrev cX10_child : ByteArray := prog_12_method_26_code
def yX10_child : MethodName := ⟨RX10, "child", "(I)I"⟩
abbrev cX10_addPiece : ByteArray := prog_12_method_27_code
def yX10_addPiece : MethodName := ⟨RX10, "addPiece", "(III)V"⟩
abbrev cX10_piece : ByteArray := prog_12_method_28_code
def yX10_piece : MethodName := ⟨RX10, "piece", "(III)I"⟩
abbrev cX10_type : ByteArray := prog_12_method_29_code
def yX10_type : MethodName := ⟨RX10, "type", "(I)I"⟩
abbrev cX10_clear : ByteArray := prog_12_method_30_code
def yX10_clear : MethodName := ⟨RX10, "clear", "()I"⟩
abbrev cX10_isLetter : ByteArray := prog_12_method_31_code
def yX10_isLetter : MethodName := ⟨RX10, "isLetter", "(I)Z"⟩
abbrev cX10_isFigure : ByteArray := prog_12_method_32_code
def yX10_isFigure : MethodName := ⟨RX10, "isFigure", "(I)Z"⟩
abbrev cX10_next : ByteArray := prog_12_method_33_code
def yX10_next : MethodName := ⟨RX10, "next", "()V"⟩
abbrev cX10_isNumber : ByteArray := prog_12_method_34_code
def yX10_isNumber : MethodName := ⟨RX10, "isNumber", "(II)Z"⟩
abbrev cX10_isEnd : ByteArray := prog_12_method_35_code
def yX10_isEnd : MethodName := ⟨RX10, "isEnd", "()Z"⟩
abbrev cX10_item : ByteArray := prog_12_method_36_code
def yX10_item : MethodName := ⟨RX10, "item", "(Z)Z"⟩
abbrev cX10_read : ByteArray := prog_12_method_37_code
def yX10_read : MethodName := ⟨RX10, "read", "()I"⟩
abbrev cX10_remember : ByteArray := prog_12_method_38_code
def yX10_remember : MethodName := ⟨RX10, "remember", "()V"⟩
abbrev cX10_move : ByteArray := prog_12_method_39_code
def yX10_move : MethodName := ⟨RX10, "move", "(II)I"⟩
abbrev cX10_puts : ByteArray := prog_12_method_40_code
def yX10_puts : MethodName := ⟨RX10, "puts", "(I)I"⟩
abbrev cX10_takes : ByteArray := prog_12_method_41_code
def yX10_takes : MethodName := ⟨RX10, "takes", "(I)I"⟩
abbrev cX10_mends : ByteArray := prog_12_method_42_code
def yX10_mends : MethodName := ⟨RX10, "mends", "(I)I"⟩
abbrev cX10_undo : ByteArray := prog_12_method_43_code
def yX10_undo : MethodName := ⟨RX10, "undo", "()I"⟩
abbrev cX10_of : ByteArray := prog_12_method_44_code
def yX10_of : MethodName := ⟨RX10, "of", "(II)I"⟩
abbrev cX10_seen : ByteArray := prog_12_method_45_code
def yX10_seen : MethodName := ⟨RX10, "seen", "(I)I"⟩
abbrev cX10_canSet : ByteArray := prog_12_method_46_code
def yX10_canSet : MethodName := ⟨RX10, "canSet", "()I"⟩
abbrev cX10_can : ByteArray := prog_12_method_47_code
def yX10_can : MethodName := ⟨RX10, "can", "()I"⟩
abbrev cX10_off : ByteArray := prog_12_method_48_code
def yX10_off : MethodName := ⟨RX10, "off", "()I"⟩
abbrev cX10_going : ByteArray := prog_12_method_49_code
def yX10_going : MethodName := ⟨RX10, "going", "(I)I"⟩
abbrev cX10_coveredBy : ByteArray := prog_12_method_50_code
def yX10_coveredBy : MethodName := ⟨RX10, "coveredBy", "(I)I"⟩
abbrev cX10_isOutfit : ByteArray := prog_12_method_51_code
def yX10_isOutfit : MethodName := ⟨RX10, "isOutfit", "(I)Z"⟩
abbrev cX10_outfitAt : ByteArray := prog_12_method_52_code
def yX10_outfitAt : MethodName := ⟨RX10, "outfitAt", "(I)I"⟩
abbrev cX10_outfitMany : ByteArray := prog_12_method_53_code
def yX10_outfitMany : MethodName := ⟨RX10, "outfitMany", "()I"⟩
abbrev cX10_outfits : ByteArray := prog_12_method_54_code
def yX10_outfits : MethodName := ⟨RX10, "outfits", "(I)I"⟩
abbrev cX10_lean : ByteArray := prog_12_method_55_code
def yX10_lean : MethodName := ⟨RX10, "lean", "(I)I"⟩
abbrev cX10_days : ByteArray := prog_12_method_56_code
def yX10_days : MethodName := ⟨RX10, "days", "()I"⟩
abbrev cX10_spared : ByteArray := prog_12_method_57_code
def yX10_spared : MethodName := ⟨RX10, "spared", "()I"⟩
abbrev cX10_goRow : ByteArray := prog_12_method_58_code
def yX10_goRow : MethodName := ⟨RX10, "goRow", "(II)Z"⟩
abbrev cX10_few : ByteArray := prog_12_method_59_code
def yX10_few : MethodName := ⟨RX10, "few", "(I)I"⟩
abbrev cX10_rowAt : ByteArray := prog_12_method_60_code
def yX10_rowAt : MethodName := ⟨RX10, "rowAt", "(III)I"⟩
abbrev cX10_note : ByteArray := prog_12_method_61_code
def yX10_note : MethodName := ⟨RX10, "note", "(III)I"⟩
abbrev cX10_mark : ByteArray := prog_12_method_62_code
def yX10_mark : MethodName := ⟨RX10, "mark", "(IIII)I"⟩
abbrev cX10_forget : ByteArray := prog_12_method_63_code
def yX10_forget : MethodName := ⟨RX10, "forget", "(I)I"⟩
abbrev cX10_is : ByteArray := prog_12_method_64_code
def yX10_is : MethodName := ⟨RX10, "is", "()I"⟩
abbrev cX10_look : ByteArray := prog_12_method_65_code
def yX10_look : MethodName := ⟨RX10, "look", "()I"⟩
abbrev cX10_kindSet : ByteArray := prog_12_method_66_code
def yX10_kindSet : MethodName := ⟨RX10, "kindSet", "(I)I"⟩
abbrev cX10_kinds : ByteArray := prog_12_method_67_code
def yX10_kinds : MethodName := ⟨RX10, "kinds", "(I)I"⟩
abbrev cX10_ask : ByteArray := prog_12_method_68_code
def yX10_ask : MethodName := ⟨RX10, "ask", "(I)I"⟩
abbrev cX10_getsOf : ByteArray := prog_12_method_69_code
def yX10_getsOf : MethodName := ⟨RX10, "getsOf", "(III)I"⟩
abbrev cX10_rests : ByteArray := prog_12_method_70_code
def yX10_rests : MethodName := ⟨RX10, "rests", "(IIII)Z"⟩
abbrev cX10_two : ByteArray := prog_12_method_71_code
def yX10_two : MethodName := ⟨RX10, "two", "(I)I"⟩
abbrev cX10_fraction : ByteArray := prog_12_method_72_code
def yX10_fraction : MethodName := ⟨RX10, "fraction", "(JJ)V"⟩
abbrev cX10_luck : ByteArray := prog_12_method_73_code
def yX10_luck : MethodName := ⟨RX10, "luck", "(I)I"⟩
abbrev cX10_evenings : ByteArray := prog_12_method_74_code
def yX10_evenings : MethodName := ⟨RX10, "evenings", "(II)I"⟩
abbrev cX10_part : ByteArray := prog_12_method_75_code
def yX10_part : MethodName := ⟨RX10, "part", "(I)J"⟩
abbrev cX10_image : ByteArray := prog_12_method_76_code
def yX10_image : MethodName := ⟨RX10, "image", "(I)I"⟩
abbrev cX10_from : ByteArray := prog_12_method_77_code
def yX10_from : MethodName := ⟨RX10, "from", "(I)I"⟩
abbrev cX10_status : ByteArray := prog_12_method_78_code
def yX10_status : MethodName := ⟨RX10, "status", "(I)I"⟩
abbrev cX10_countOf : ByteArray := prog_12_method_79_code
def yX10_countOf : MethodName := ⟨RX10, "countOf", "(I)I"⟩
abbrev cX10_wornAll : ByteArray := prog_12_method_80_code
def yX10_wornAll : MethodName := ⟨RX10, "wornAll", "()I"⟩
abbrev cX10_count : ByteArray := prog_12_method_81_code
def yX10_count : MethodName := ⟨RX10, "count", "(I)I"⟩
abbrev cX10_digest : ByteArray := prog_12_method_82_code
def yX10_digest : MethodName := ⟨RX10, "digest", "()J"⟩
def RJ6 : String := "java/lang/Integer"
abbrev cJ6_bitCount_0f7a4 : ByteArray := prog_13_method_49_code
def yJ6_bitCount_0f7a4 : MethodName := ⟨RJ6, "bitCount", "(I)I"⟩
def RJ9 : String := "java/lang/Math"
abbrev cJ9_max_7cf53 : ByteArray := prog_14_method_65_code
def yJ9_max_7cf53 : MethodName := ⟨RJ9, "max", "(II)I"⟩
abbrev cJ9_min_7cf53 : ByteArray := prog_14_method_69_code
def yJ9_min_7cf53 : MethodName := ⟨RJ9, "min", "(II)I"⟩
def RJ0 : String := "java/lang/String"
abbrev cJ0_length_8abf5 : ByteArray := prog_15_method_54_code
def yJ0_length_8abf5 : MethodName := ⟨RJ0, "length", "()I"⟩
abbrev cJ0_charAt_5068e : ByteArray := prog_15_method_56_code
def yJ0_charAt_5068e : MethodName := ⟨RJ0, "charAt", "(I)C"⟩
abbrev cJ0_coder_7d493 : ByteArray := prog_15_method_152_code
def yJ0_coder_7d493 : MethodName := ⟨RJ0, "coder", "()B"⟩
abbrev cJ0_isLatin1_aae02 : ByteArray := prog_15_method_154_code
def yJ0_isLatin1_aae02 : MethodName := ⟨RJ0, "isLatin1", "()Z"⟩
abbrev cJ0_checkIndex_df160 : ByteArray := prog_15_method_155_code
def yJ0_checkIndex_df160 : MethodName := ⟨RJ0, "checkIndex", "(II)V"⟩
def RJ1 : String := "java/lang/StringLatin1"
abbrev cJ1_charAt_3b067 : ByteArray := prog_16_method_2_code
def yJ1_charAt_3b067 : MethodName := ⟨RJ1, "charAt", "([BI)C"⟩
def RJ2 : String := "java/lang/StringUTF16"
abbrev cJ2_getChar_3b067 : ByteArray := prog_17_method_5_code
def yJ2_getChar_3b067 : MethodName := ⟨RJ2, "getChar", "([BI)C"⟩
abbrev cJ2_length_9d52b : ByteArray := prog_17_method_6_code
def yJ2_length_9d52b : MethodName := ⟨RJ2, "length", "([B)I"⟩
abbrev cJ2_charAt_3b067 : ByteArray := prog_17_method_83_code
def yJ2_charAt_3b067 : MethodName := ⟨RJ2, "charAt", "([BI)C"⟩
abbrev cJ2_checkIndex_2214a : ByteArray := prog_17_method_91_code
def yJ2_checkIndex_2214a : MethodName := ⟨RJ2, "checkIndex", "(I[B)V"⟩
def RJ10 : String := "java/lang/System"
def RJ3 : String := "jdk/internal/util/Preconditions"
abbrev cJ3_checkIndex_8e157 : ByteArray := prog_19_method_11_code
def yJ3_checkIndex_8e157 : MethodName := ⟨RJ3, "checkIndex", "(IILjava/util/function/BiFunction;)I"⟩
def RL : String := "PaperDollsLaw"
abbrev cL_law : ByteArray := code
abbrev vwCl : List vw_C := [(RX1, TX1, 12), (RX4, TX4, 2), (RX5, TX5, 6), (RX7, TX7, 2), (RX8, TX8, 4), (RX9, TX9, 15), (RX10, TX10, 19)]
end
section
/-! MY OWN LAYER. The abstract heap: its size, and what lies at an address; a method's run as a pure function over it. -/
abbrev zD : Type := va_G × (Nat → ClassId) × (Nat → Nat) × (Nat → Nat)
abbrev zE : Type := (Nat × Nat × ((Nat → Int32) ⊕ (Nat → Option Nat))) ⊕ (Nat × List Value)
abbrev zH : Type := Nat × (Nat → Option zE)
abbrev zR : Type := Option (Option Value × zH)
abbrev zX : Type := Program × Launch × Env × Room × State × MethodId × Array Value × List Frame × Method × Code
abbrev zY : Type := zX × zD × (Nat → Prop) × (Option Value → zH → State → Prop)
/-- arrays by tag: 0 int, 1 byte, 2 boolean, 3 Wear, 4 Doll -/
def zTys (D : zD) : List (ClassId × FieldType) := [(D.2.1 0, .int), (D.2.1 1, .byte), (D.2.1 2, .boolean), (D.2.1 3, .object "PaperDolls$Wear"), (D.2.1 4, .object "PaperDolls$Doll")]
def zcell (D : zD) : zE → va_E
  | .inl (t, n, .inl f) => .inl (D.2.1 t, n, .inl f)
  | .inl (t, n, .inr g) => .inl (D.2.1 t, n, .inr (.inr (.inr (.inr g))))
  | .inr o => .inr o
def zRel (D : zD) (A : Nat → Prop) (h : zH) (H : Heap) : Prop := H.size = h.1 ∧ ∃ ws : va_W, va_P D.1 vwCl ws H ∧ va_D A ws ∧ (∀ (a : Nat) (e : zE), h.2 a = some e → ∃ k : Nat, ws[k]? = some (a, zcell D e)) ∧ ∀ (k : Nat) (q : Nat × va_E), ws[k]? = some q → ∃ e, h.2 q.1 = some e ∧ q.2 = zcell D e
def zNest : List (String × Nat × MethodName) := [("PaperDolls$Doll", 23, yX8_init), ("PaperDolls", 29, yX8_init), ("PaperDolls", 36, yX5_init), ("PaperDolls", 43, yX7_init), ("PaperDolls$MoveSearch", 21, yX8_init), ("PaperDolls$Reader", 101, yX9_within)]
def zStrs : List (Nat × String) := [(47, "doll"), (57, "piece"), (65, "on"), (71, "off"), (73, "mend")]
def zLen : List Nat := [4, 5, 2, 3, 4]
def zByt : List (List Int32) := [[100, 111, 108, 108], [112, 105, 101, 99, 101], [111, 110], [111, 102, 102], [109, 101, 110, 100]]
def zK (D : zD) (A : Nat → Prop) (U : State) : Prop := va_K D.1 vwCl (zTys D) U ∧ (∀ w ∈ zNest, va_Nw (.methodLinkNest w.1 w.2.1 w.2.2 "PaperDolls") U) ∧ va_AO "PaperDolls$Wear" U ∧ va_AO "PaperDolls$Doll" U
  ∧ vk_S 5 zLen zByt D.2.2.1 D.2.2.2 A U U.heap ∧ (∀ (i : Nat) (q : Nat × String), zStrs[i]? = some q → vk_R "PaperDolls$Reader" q.1 q.2 (D.2.2.1 i) U)
  ∧ va_Z "java/lang/String" "COMPACT_STRINGS" "Z" (.int 1) A U U.heap ∧ va_Zq "jdk/internal/util/Preconditions" "SIOOBE_FORMATTER" "Ljava/util/function/BiFunction;" A U U.heap
theorem zK.warm {D : zD} {A B : Nat → Prop} {s U : State} (hW : s.WarmedH U.vm) (hAB : ∀ q, B q → A q) (hq : ∀ a : Nat, a < s.heap.size → ¬ A a → U.heap[a]? = s.heap[a]?) (h : zK D A s) : zK D B U := by
  obtain ⟨h1, h2, h3, h4, h5, h6, h7, h8⟩ := h
  have hv := hW.alike
  exact ⟨va_K.moved hv h1, fun w hw => va_Nw.warmM hW (h2 w hw), va_AO.moved hv h3, va_AO.moved hv h4, vk_S.narrow (vk_S.kept (vk_S.moved hv h5) hq) hAB, fun i q hi => vk_R.warm hW (h6 i q hi), va_Z.narrow (va_Z.kept (va_Z.moved hv h7) hq) hAB, va_Zq.narrow (va_Zq.kept (va_Zq.moved hv h8) hq) hAB⟩
theorem zK.calling {D : zD} {A : Nat → Prop} {U : State} {g : JFrame} {mk : MethodId} {a : Array Value} (h : zK D A U) : zK D A (U.calling g mk a) := by
  obtain ⟨h1, h2, h3, h4, h5, h6, h7, h8⟩ := h
  have hv : U.vm.Alike (U.calling g mk a).vm := Vm.Alike.refl U.vm
  exact ⟨va_K.moved hv h1, fun w hw => va_Nw.same rfl rfl (h2 w hw), va_AO.moved hv h3, va_AO.moved hv h4, vk_S.moved hv h5, fun i q hi => vk_R.same rfl (h6 i q hi), va_Z.moved hv h7, va_Zq.moved hv h8⟩
/-- the machine's parts of a context -/
abbrev zW (X : zX) (H : Heap) (locs : List Loc) (cells slots : Nat) (Q : State → Prop) (g : JFrame) : Prop := W X.1 X.2.1 X.2.2.1 X.2.2.2.1 X.2.2.2.2.1 X.2.2.2.2.2.1 X.2.2.2.2.2.2.1 X.2.2.2.2.2.2.2.1 X.2.2.2.2.2.2.2.2.1 X.2.2.2.2.2.2.2.2.2 H locs cells slots Q g
/-- a method's fixed things: code, class, name, locals, answer, level, cells and slots in all -/
abbrev zM : Type := ByteArray × String × String × Nat × Option FieldType × Nat × Nat × Nat
def zOk (p : Program) (R : Room) (s : State) (m : MethodId) (args : Array Value) (meth : Method) (c : Code) (D : zD) (A : Nat → Prop) (M : zM) : Prop :=
  p.tables.exec = Jvm.exec ∧ c.code = M.1 ∧ c.maxLocals = M.2.2.2.1 ∧ s.vm.findClass M.2.1 = some m.cls ∧ meth.name = M.2.2.1 ∧ (∀ w ∈ zTb, w.before args s = true) ∧ (M.2.2.2.2.2.1 + 1 ≤ R.frames ∧ 60 * (M.2.2.2.2.2.1 + 1) ≤ R.locals ∧ M.2.2.2.2.2.2.1 ≤ R.cells ∧ M.2.2.2.2.2.2.2 ≤ R.slots) ∧ zK D A s ∧ ∀ q, s.heap.size ≤ q → A q
/-- what a return gives, by the kind of the answer -/
def zRets (p : Program) (l : Launch) (e : Env) (R : Room) (s : State) (m : MethodId) (args : Array Value) (below : List Frame) (meth : Method) (c : Code) (D : zD) (A : Nat → Prop) (Q : Option Value → zH → State → Prop) (M : zM) : Prop :=
  (∀ (ty : FieldType) (v : Int32) (h : zH) (H : Heap) (locs : List Loc) (ls : Array Slot) (pc : Nat), M.2.2.2.2.1 = some ty → narrow ty (.int v) = .int v → decode M.1 pc = .ok (.ireturn, 1) → h.1 = s.heap.size + M.2.2.2.2.2.2.1 → zRel D A h H → va_S A s.heap H locs → W p l e R s m args below meth c H locs M.2.2.2.2.2.2.1 M.2.2.2.2.2.2.2 (Q (some (.int v)) h) (F0 m pc ls [.int v]))
    ∧ (∀ (v : Int64) (h : zH) (H : Heap) (locs : List Loc) (ls : Array Slot) (pc : Nat), M.2.2.2.2.1 = some .long → decode M.1 pc = .ok (.lreturn, 1) → h.1 = s.heap.size + M.2.2.2.2.2.2.1 → zRel D A h H → va_S A s.heap H locs → W p l e R s m args below meth c H locs M.2.2.2.2.2.2.1 M.2.2.2.2.2.2.2 (Q (some (.long v)) h) (F0 m pc ls [.long v]))
    ∧ (∀ (h : zH) (H : Heap) (locs : List Loc) (ls : Array Slot) (pc : Nat), M.2.2.2.2.1 = none → decode M.1 pc = .ok (.return_, 1) → h.1 = s.heap.size + M.2.2.2.2.2.2.1 → zRel D A h H → va_S A s.heap H locs → W p l e R s m args below meth c H locs M.2.2.2.2.2.2.1 M.2.2.2.2.2.2.2 (Q none h) (F0 m pc ls []))
/-- the machine, at pc with locals lv and stack st over the heap h, comes to the end that r says -/
def Z (Y : zY) (M : zM) (cells slots pc : Nat) (lv : List (Nat × Value)) (st : List Value) (h : zH) (r : zR) : Prop := match Y with
  | ((p, l, e, R, s, m, args, below, meth, c), D, A, Q) => zOk p R s m args meth c D A M → zRets p l e R s m args below meth c D A Q M → ∀ (v : Option Value) (h' : zH), r = some (v, h') → h.1 = s.heap.size + cells → ∀ (H : Heap) (locs : List Loc) (ls : Array Slot), zRel D A h H → va_S A s.heap H locs → lv_has ls M.2.2.2.1 lv → W p l e R s m args below meth c H locs cells slots (Q v h') (F0 m pc ls st)
section ZB
variable {Y : zY} {M : zM} {cells slots pc : Nat} {lv lv' : List (Nat × Value)} {st : List Value} {h : zH} {r r1 r2 : zR}
theorem z_none : Z Y M cells slots pc lv st h none := by
  obtain ⟨⟨p, l, e, R, s, m, args, below, meth, c⟩, D, A, Q⟩ := Y
  intro _ _ v h' hr
  cases hr
theorem z_sub (ks : List Nat) (hl : lv_pick lv ks = lv') (k : Z Y M cells slots pc lv' st h r) : Z Y M cells slots pc lv st h r := by
  obtain ⟨⟨p, l, e, R, s, m, args, below, meth, c⟩, D, A, Q⟩ := Y
  intro o1 o2 v h' hr hz H locs ls hR hS hv
  exact k o1 o2 v h' hr hz H locs ls hR hS (lv_sub hv ks hl)
theorem z_ite {c : Prop} [Decidable c] (k1 : c → Z Y M cells slots pc lv st h r1) (k2 : ¬ c → Z Y M cells slots pc lv st h r2) : Z Y M cells slots pc lv st h (if c then r1 else r2) := by
  split
  · exact k1 ‹_›
  · exact k2 ‹_›
def zlt {α : Type} (x : α) (K : α → zR) : zR := K x
theorem z_let {x : Int32} {K : Int32 → zR} (k : ∀ y, Z Y M cells slots pc lv (.int y :: st) h (K y)) : Z Y M cells slots pc lv (.int x :: st) h (zlt x K) := k x
theorem z_letJ {x : Int64} {K : Int64 → zR} (k : ∀ y, Z Y M cells slots pc lv (.long y :: st) h (K y)) : Z Y M cells slots pc lv (.long x :: st) h (zlt x K) := k x
theorem z_iconst {n : Int} {x : Int32} (hd : decode M.1 pc = .ok (.iconst n, 1)) (hx : Int32.ofInt n = x) (k : Z Y M cells slots (pc + 1) lv (.int x :: st) h r) : Z Y M cells slots pc lv (st) h r := by
  obtain ⟨⟨p, l, e, R, s, m, args, below, meth, c⟩, D, A, Q⟩ := Y
  intro o1 o2 v h' hr hz H locs ls hR hS hv
  exact lv_iconst o1.1 o1.2.1 hd hx (k o1 o2 v h' hr hz H locs ls hR hS hv)
theorem z_bipush {n : Int} {x : Int32} (hd : decode M.1 pc = .ok (.bipush n, 2)) (hx : (Int8.ofInt n).toInt32 = x) (k : Z Y M cells slots (pc + 2) lv (.int x :: st) h r) : Z Y M cells slots pc lv (st) h r := by
  obtain ⟨⟨p, l, e, R, s, m, args, below, meth, c⟩, D, A, Q⟩ := Y
  intro o1 o2 v h' hr hz H locs ls hR hS hv
  exact lv_bipush o1.1 o1.2.1 hd hx (k o1 o2 v h' hr hz H locs ls hR hS hv)
theorem z_sipush {n : Int} {x : Int32} (hd : decode M.1 pc = .ok (.sipush n, 3)) (hx : (Int16.ofInt n).toInt32 = x) (k : Z Y M cells slots (pc + 3) lv (.int x :: st) h r) : Z Y M cells slots pc lv (st) h r := by
  obtain ⟨⟨p, l, e, R, s, m, args, below, meth, c⟩, D, A, Q⟩ := Y
  intro o1 o2 v h' hr hz H locs ls hR hS hv
  exact lv_sipush o1.1 o1.2.1 hd hx (k o1 o2 v h' hr hz H locs ls hR hS hv)
theorem z_lconst {n : Fin 2} {x : Int64} (hd : decode M.1 pc = .ok (.lconst n, 1)) (hx : Int64.ofNat (n : Nat) = x) (k : Z Y M cells slots (pc + 1) lv (.long x :: st) h r) : Z Y M cells slots pc lv (st) h r := by
  obtain ⟨⟨p, l, e, R, s, m, args, below, meth, c⟩, D, A, Q⟩ := Y
  intro o1 o2 v h' hr hz H locs ls hR hS hv
  exact lv_lconst o1.1 o1.2.1 hd hx (k o1 o2 v h' hr hz H locs ls hR hS hv)
theorem z_iload_n {i : Fin 4} {j : Nat} {x : Int32} (q : Nat) (hd : decode M.1 pc = .ok (.iload_n i, 1)) (hj : (i : Nat) = j) (hq : lv[q]? = some (j, .int x)) (k : Z Y M cells slots (pc + 1) lv (.int x :: st) h r) : Z Y M cells slots pc lv (st) h r := by
  obtain ⟨⟨p, l, e, R, s, m, args, below, meth, c⟩, D, A, Q⟩ := Y
  intro o1 o2 v h' hr hz H locs ls hR hS hv
  exact lv_iload_n o1.1 o1.2.1 hd hj (lv_at hv q hq) (k o1 o2 v h' hr hz H locs ls hR hS hv)
theorem z_iload {j : Nat} {x : Int32} (q : Nat) (hd : decode M.1 pc = .ok (.iload j, 2)) (hq : lv[q]? = some (j, .int x)) (k : Z Y M cells slots (pc + 2) lv (.int x :: st) h r) : Z Y M cells slots pc lv (st) h r := by
  obtain ⟨⟨p, l, e, R, s, m, args, below, meth, c⟩, D, A, Q⟩ := Y
  intro o1 o2 v h' hr hz H locs ls hR hS hv
  exact lv_iload o1.1 o1.2.1 hd (lv_at hv q hq) (k o1 o2 v h' hr hz H locs ls hR hS hv)
theorem z_lload_n {i : Fin 4} {j : Nat} {x : Int64} (q : Nat) (hd : decode M.1 pc = .ok (.lload_n i, 1)) (hj : (i : Nat) = j) (hq : lv[q]? = some (j, .long x)) (k : Z Y M cells slots (pc + 1) lv (.long x :: st) h r) : Z Y M cells slots pc lv (st) h r := by
  obtain ⟨⟨p, l, e, R, s, m, args, below, meth, c⟩, D, A, Q⟩ := Y
  intro o1 o2 v h' hr hz H locs ls hR hS hv
  exact lv_lload_n o1.1 o1.2.1 hd hj (lv_at hv q hq) (k o1 o2 v h' hr hz H locs ls hR hS hv)
theorem z_lload {j : Nat} {x : Int64} (q : Nat) (hd : decode M.1 pc = .ok (.lload j, 2)) (hq : lv[q]? = some (j, .long x)) (k : Z Y M cells slots (pc + 2) lv (.long x :: st) h r) : Z Y M cells slots pc lv (st) h r := by
  obtain ⟨⟨p, l, e, R, s, m, args, below, meth, c⟩, D, A, Q⟩ := Y
  intro o1 o2 v h' hr hz H locs ls hR hS hv
  exact lv_lload o1.1 o1.2.1 hd (lv_at hv q hq) (k o1 o2 v h' hr hz H locs ls hR hS hv)
theorem z_aload_n {i : Fin 4} {j : Nat} {x : Nat} (q : Nat) (hd : decode M.1 pc = .ok (.aload_n i, 1)) (hj : (i : Nat) = j) (hq : lv[q]? = some (j, .ref x)) (k : Z Y M cells slots (pc + 1) lv (.ref x :: st) h r) : Z Y M cells slots pc lv (st) h r := by
  obtain ⟨⟨p, l, e, R, s, m, args, below, meth, c⟩, D, A, Q⟩ := Y
  intro o1 o2 v h' hr hz H locs ls hR hS hv
  exact lv_aload_n o1.1 o1.2.1 hd hj (lv_at hv q hq) (k o1 o2 v h' hr hz H locs ls hR hS hv)
theorem z_aload {j : Nat} {x : Nat} (q : Nat) (hd : decode M.1 pc = .ok (.aload j, 2)) (hq : lv[q]? = some (j, .ref x)) (k : Z Y M cells slots (pc + 2) lv (.ref x :: st) h r) : Z Y M cells slots pc lv (st) h r := by
  obtain ⟨⟨p, l, e, R, s, m, args, below, meth, c⟩, D, A, Q⟩ := Y
  intro o1 o2 v h' hr hz H locs ls hR hS hv
  exact lv_aload o1.1 o1.2.1 hd (lv_at hv q hq) (k o1 o2 v h' hr hz H locs ls hR hS hv)
theorem z_istore_n {i : Fin 4} {j : Nat} {x : Int32} (hd : decode M.1 pc = .ok (.istore_n i, 1)) (hj : (i : Nat) = j) (hn : j < M.2.2.2.1) (hl : (j, Value.int x) :: lv.filter (fun q => !(q.1 == j) && !(q.1 + 1 == j && q.2.category == 2)) = lv') (k : Z Y M cells slots (pc + 1) lv' st h r) : Z Y M cells slots pc lv (.int x :: st) h r := by
  obtain ⟨⟨p, l, e, R, s, m, args, below, meth, c⟩, D, A, Q⟩ := Y
  intro o1 o2 v h' hr hz H locs ls hR hS hv
  exact lv_istore_n o1.1 o1.2.1 hd hj hv hn hl (fun ls hv => k o1 o2 v h' hr hz H locs ls hR hS hv)
theorem z_istore {j : Nat} {x : Int32} (hd : decode M.1 pc = .ok (.istore j, 2)) (hn : j < M.2.2.2.1) (hl : (j, Value.int x) :: lv.filter (fun q => !(q.1 == j) && !(q.1 + 1 == j && q.2.category == 2)) = lv') (k : Z Y M cells slots (pc + 2) lv' st h r) : Z Y M cells slots pc lv (.int x :: st) h r := by
  obtain ⟨⟨p, l, e, R, s, m, args, below, meth, c⟩, D, A, Q⟩ := Y
  intro o1 o2 v h' hr hz H locs ls hR hS hv
  exact lv_istore o1.1 o1.2.1 hd hv hn hl (fun ls hv => k o1 o2 v h' hr hz H locs ls hR hS hv)
theorem z_astore_n {i : Fin 4} {j : Nat} {x : Nat} (hd : decode M.1 pc = .ok (.astore_n i, 1)) (hj : (i : Nat) = j) (hn : j < M.2.2.2.1) (hl : (j, Value.ref x) :: lv.filter (fun q => !(q.1 == j) && !(q.1 + 1 == j && q.2.category == 2)) = lv') (k : Z Y M cells slots (pc + 1) lv' st h r) : Z Y M cells slots pc lv (.ref x :: st) h r := by
  obtain ⟨⟨p, l, e, R, s, m, args, below, meth, c⟩, D, A, Q⟩ := Y
  intro o1 o2 v h' hr hz H locs ls hR hS hv
  exact lv_astore_n o1.1 o1.2.1 hd hj hv hn hl (fun ls hv => k o1 o2 v h' hr hz H locs ls hR hS hv)
theorem z_astore {j : Nat} {x : Nat} (hd : decode M.1 pc = .ok (.astore j, 2)) (hn : j < M.2.2.2.1) (hl : (j, Value.ref x) :: lv.filter (fun q => !(q.1 == j) && !(q.1 + 1 == j && q.2.category == 2)) = lv') (k : Z Y M cells slots (pc + 2) lv' st h r) : Z Y M cells slots pc lv (.ref x :: st) h r := by
  obtain ⟨⟨p, l, e, R, s, m, args, below, meth, c⟩, D, A, Q⟩ := Y
  intro o1 o2 v h' hr hz H locs ls hR hS hv
  exact lv_astore o1.1 o1.2.1 hd hv hn hl (fun ls hv => k o1 o2 v h' hr hz H locs ls hR hS hv)
theorem z_lstore_n {i : Fin 4} {j : Nat} {x : Int64} (hd : decode M.1 pc = .ok (.lstore_n i, 1)) (hj : (i : Nat) = j) (hn : j + 1 < M.2.2.2.1) (hl : (j, Value.long x) :: lv.filter (fun q => !(q.1 == j) && (!(q.1 == j + 1) && !(q.1 + 1 == j && q.2.category == 2))) = lv') (k : Z Y M cells slots (pc + 1) lv' st h r) : Z Y M cells slots pc lv (.long x :: st) h r := by
  obtain ⟨⟨p, l, e, R, s, m, args, below, meth, c⟩, D, A, Q⟩ := Y
  intro o1 o2 v h' hr hz H locs ls hR hS hv
  exact lv_lstore_n o1.1 o1.2.1 hd hj hv hn hl (fun ls hv => k o1 o2 v h' hr hz H locs ls hR hS hv)
theorem z_lstore {j : Nat} {x : Int64} (hd : decode M.1 pc = .ok (.lstore j, 2)) (hn : j + 1 < M.2.2.2.1) (hl : (j, Value.long x) :: lv.filter (fun q => !(q.1 == j) && (!(q.1 == j + 1) && !(q.1 + 1 == j && q.2.category == 2))) = lv') (k : Z Y M cells slots (pc + 2) lv' st h r) : Z Y M cells slots pc lv (.long x :: st) h r := by
  obtain ⟨⟨p, l, e, R, s, m, args, below, meth, c⟩, D, A, Q⟩ := Y
  intro o1 o2 v h' hr hz H locs ls hR hS hv
  exact lv_lstore o1.1 o1.2.1 hd hv hn hl (fun ls hv => k o1 o2 v h' hr hz H locs ls hR hS hv)
theorem z_iinc {j : Nat} {n : Int} {x y : Int32} (q : Nat) (hd : decode M.1 pc = .ok (.iinc j n, 3)) (hq : lv[q]? = some (j, .int x)) (hy : x + Int32.ofInt n = y) (hn : j < M.2.2.2.1) (hl : (j, Value.int y) :: lv.filter (fun q => !(q.1 == j) && !(q.1 + 1 == j && q.2.category == 2)) = lv') (k : Z Y M cells slots (pc + 3) lv' st h r) : Z Y M cells slots pc lv st h r := by
  obtain ⟨⟨p, l, e, R, s, m, args, below, meth, c⟩, D, A, Q⟩ := Y
  intro o1 o2 v h' hr hz H locs ls hR hS hv
  exact lv_iinc o1.1 o1.2.1 hd hv hq hy hn hl (fun ls hv => k o1 o2 v h' hr hz H locs ls hR hS hv)
theorem z_iadd {x y : Int32} (hd : decode M.1 pc = .ok (.iadd, 1)) (k : Z Y M cells slots (pc + 1) lv (.int (x + y) :: st) h r) : Z Y M cells slots pc lv (.int y :: .int x :: st) h r := by
  obtain ⟨⟨p, l, e, R, s, m, args, below, meth, c⟩, D, A, Q⟩ := Y
  intro o1 o2 v h' hr hz H locs ls hR hS hv
  exact lv_iadd o1.1 o1.2.1 hd (k o1 o2 v h' hr hz H locs ls hR hS hv)
theorem z_isub {x y : Int32} (hd : decode M.1 pc = .ok (.isub, 1)) (k : Z Y M cells slots (pc + 1) lv (.int (x - y) :: st) h r) : Z Y M cells slots pc lv (.int y :: .int x :: st) h r := by
  obtain ⟨⟨p, l, e, R, s, m, args, below, meth, c⟩, D, A, Q⟩ := Y
  intro o1 o2 v h' hr hz H locs ls hR hS hv
  exact lv_isub o1.1 o1.2.1 hd (k o1 o2 v h' hr hz H locs ls hR hS hv)
theorem z_imul {x y : Int32} (hd : decode M.1 pc = .ok (.imul, 1)) (k : Z Y M cells slots (pc + 1) lv (.int (x * y) :: st) h r) : Z Y M cells slots pc lv (.int y :: .int x :: st) h r := by
  obtain ⟨⟨p, l, e, R, s, m, args, below, meth, c⟩, D, A, Q⟩ := Y
  intro o1 o2 v h' hr hz H locs ls hR hS hv
  exact lv_imul o1.1 o1.2.1 hd (k o1 o2 v h' hr hz H locs ls hR hS hv)
theorem z_iand {x y : Int32} (hd : decode M.1 pc = .ok (.iand, 1)) (k : Z Y M cells slots (pc + 1) lv (.int (x &&& y) :: st) h r) : Z Y M cells slots pc lv (.int y :: .int x :: st) h r := by
  obtain ⟨⟨p, l, e, R, s, m, args, below, meth, c⟩, D, A, Q⟩ := Y
  intro o1 o2 v h' hr hz H locs ls hR hS hv
  exact lv_iand o1.1 o1.2.1 hd (k o1 o2 v h' hr hz H locs ls hR hS hv)
theorem z_ior {x y : Int32} (hd : decode M.1 pc = .ok (.ior, 1)) (k : Z Y M cells slots (pc + 1) lv (.int (x ||| y) :: st) h r) : Z Y M cells slots pc lv (.int y :: .int x :: st) h r := by
  obtain ⟨⟨p, l, e, R, s, m, args, below, meth, c⟩, D, A, Q⟩ := Y
  intro o1 o2 v h' hr hz H locs ls hR hS hv
  exact lv_ior o1.1 o1.2.1 hd (k o1 o2 v h' hr hz H locs ls hR hS hv)
theorem z_ixor {x y : Int32} (hd : decode M.1 pc = .ok (.ixor, 1)) (k : Z Y M cells slots (pc + 1) lv (.int (x ^^^ y) :: st) h r) : Z Y M cells slots pc lv (.int y :: .int x :: st) h r := by
  obtain ⟨⟨p, l, e, R, s, m, args, below, meth, c⟩, D, A, Q⟩ := Y
  intro o1 o2 v h' hr hz H locs ls hR hS hv
  exact lv_ixor o1.1 o1.2.1 hd (k o1 o2 v h' hr hz H locs ls hR hS hv)
theorem z_ishl {x y : Int32} (hd : decode M.1 pc = .ok (.ishl, 1)) (k : Z Y M cells slots (pc + 1) lv (.int (x <<< (y &&& 31)) :: st) h r) : Z Y M cells slots pc lv (.int y :: .int x :: st) h r := by
  obtain ⟨⟨p, l, e, R, s, m, args, below, meth, c⟩, D, A, Q⟩ := Y
  intro o1 o2 v h' hr hz H locs ls hR hS hv
  exact lv_ishl o1.1 o1.2.1 hd (k o1 o2 v h' hr hz H locs ls hR hS hv)
theorem z_ishr {x y : Int32} (hd : decode M.1 pc = .ok (.ishr, 1)) (k : Z Y M cells slots (pc + 1) lv (.int (x >>> (y &&& 31)) :: st) h r) : Z Y M cells slots pc lv (.int y :: .int x :: st) h r := by
  obtain ⟨⟨p, l, e, R, s, m, args, below, meth, c⟩, D, A, Q⟩ := Y
  intro o1 o2 v h' hr hz H locs ls hR hS hv
  exact lv_ishr o1.1 o1.2.1 hd (k o1 o2 v h' hr hz H locs ls hR hS hv)
theorem z_iushr {x y : Int32} (hd : decode M.1 pc = .ok (.iushr, 1)) (k : Z Y M cells slots (pc + 1) lv (.int ((x.toUInt32 >>> (y.toUInt32 &&& Int32.toUInt32 31)).toInt32) :: st) h r) : Z Y M cells slots pc lv (.int y :: .int x :: st) h r := by
  obtain ⟨⟨p, l, e, R, s, m, args, below, meth, c⟩, D, A, Q⟩ := Y
  intro o1 o2 v h' hr hz H locs ls hR hS hv
  exact lv_iushr o1.1 o1.2.1 hd rfl (k o1 o2 v h' hr hz H locs ls hR hS hv)
theorem z_ladd {x y : Int64} (hd : decode M.1 pc = .ok (.ladd, 1)) (k : Z Y M cells slots (pc + 1) lv (.long (x + y) :: st) h r) : Z Y M cells slots pc lv (.long y :: .long x :: st) h r := by
  obtain ⟨⟨p, l, e, R, s, m, args, below, meth, c⟩, D, A, Q⟩ := Y
  intro o1 o2 v h' hr hz H locs ls hR hS hv
  exact lv_ladd o1.1 o1.2.1 hd (k o1 o2 v h' hr hz H locs ls hR hS hv)
theorem z_lmul {x y : Int64} (hd : decode M.1 pc = .ok (.lmul, 1)) (k : Z Y M cells slots (pc + 1) lv (.long (x * y) :: st) h r) : Z Y M cells slots pc lv (.long y :: .long x :: st) h r := by
  obtain ⟨⟨p, l, e, R, s, m, args, below, meth, c⟩, D, A, Q⟩ := Y
  intro o1 o2 v h' hr hz H locs ls hR hS hv
  exact lv_lmul o1.1 o1.2.1 hd (k o1 o2 v h' hr hz H locs ls hR hS hv)
theorem z_i2l {x : Int32} (hd : decode M.1 pc = .ok (.i2l, 1)) (k : Z Y M cells slots (pc + 1) lv (.long x.toInt64 :: st) h r) : Z Y M cells slots pc lv (.int x :: st) h r := by
  obtain ⟨⟨p, l, e, R, s, m, args, below, meth, c⟩, D, A, Q⟩ := Y
  intro o1 o2 v h' hr hz H locs ls hR hS hv
  exact lv_i2l o1.1 o1.2.1 hd rfl (k o1 o2 v h' hr hz H locs ls hR hS hv)
theorem z_l2i {x : Int64} (hd : decode M.1 pc = .ok (.l2i, 1)) (k : Z Y M cells slots (pc + 1) lv (.int x.toInt32 :: st) h r) : Z Y M cells slots pc lv (.long x :: st) h r := by
  obtain ⟨⟨p, l, e, R, s, m, args, below, meth, c⟩, D, A, Q⟩ := Y
  intro o1 o2 v h' hr hz H locs ls hR hS hv
  exact lv_l2i o1.1 o1.2.1 hd rfl (k o1 o2 v h' hr hz H locs ls hR hS hv)
theorem z_i2b {x : Int32} (hd : decode M.1 pc = .ok (.i2b, 1)) (k : Z Y M cells slots (pc + 1) lv (.int x.toInt8.toInt32 :: st) h r) : Z Y M cells slots pc lv (.int x :: st) h r := by
  obtain ⟨⟨p, l, e, R, s, m, args, below, meth, c⟩, D, A, Q⟩ := Y
  intro o1 o2 v h' hr hz H locs ls hR hS hv
  exact lv_i2b o1.1 o1.2.1 hd rfl (k o1 o2 v h' hr hz H locs ls hR hS hv)
theorem z_lcmp {x y : Int64} (hd : decode M.1 pc = .ok (.lcmp, 1)) (k : Z Y M cells slots (pc + 1) lv (.int (lg_cmp x y) :: st) h r) : Z Y M cells slots pc lv (.long y :: .long x :: st) h r := by
  obtain ⟨⟨p, l, e, R, s, m, args, below, meth, c⟩, D, A, Q⟩ := Y
  intro o1 o2 v h' hr hz H locs ls hR hS hv
  exact W.lcmp o1.1 o1.2.1 hd (k o1 o2 v h' hr hz H locs ls hR hS hv)
theorem z_dup {x : Value} (hd : decode M.1 pc = .ok (.dup, 1)) (hx : x.category = 1) (k : Z Y M cells slots (pc + 1) lv (x :: x :: st) h r) : Z Y M cells slots pc lv (x :: st) h r := by
  obtain ⟨⟨p, l, e, R, s, m, args, below, meth, c⟩, D, A, Q⟩ := Y
  intro o1 o2 v h' hr hz H locs ls hR hS hv
  exact lv_dup o1.1 o1.2.1 hd hx (k o1 o2 v h' hr hz H locs ls hR hS hv)
theorem z_pop {x : Value} (hd : decode M.1 pc = .ok (.pop, 1)) (hx : x.category = 1) (k : Z Y M cells slots (pc + 1) lv (st) h r) : Z Y M cells slots pc lv (x :: st) h r := by
  obtain ⟨⟨p, l, e, R, s, m, args, below, meth, c⟩, D, A, Q⟩ := Y
  intro o1 o2 v h' hr hz H locs ls hR hS hv
  exact lv_pop o1.1 o1.2.1 hd hx (k o1 o2 v h' hr hz H locs ls hR hS hv)
theorem z_dup2 {x y : Value} (hd : decode M.1 pc = .ok (.dup2, 1)) (hx : x.category = 1) (hy : y.category = 1) (k : Z Y M cells slots (pc + 1) lv (x :: y :: x :: y :: st) h r) : Z Y M cells slots pc lv (x :: y :: st) h r := by
  obtain ⟨⟨p, l, e, R, s, m, args, below, meth, c⟩, D, A, Q⟩ := Y
  intro o1 o2 v h' hr hz H locs ls hR hS hv
  exact lv_dup2_11 o1.1 o1.2.1 hd hx hy (k o1 o2 v h' hr hz H locs ls hR hS hv)
theorem z_ldc {i : Nat} {x : Int32} (hw : Cond.constant M.2.1 i x ∈ zTb) (hd : decode M.1 pc = .ok (.ldc i, 2)) (k : Z Y M cells slots (pc + 2) lv (.int x :: st) h r) : Z Y M cells slots pc lv (st) h r := by
  obtain ⟨⟨p, l, e, R, s, m, args, below, meth, c⟩, D, A, Q⟩ := Y
  intro o1 o2 v h' hr hz H locs ls hR hS hv
  exact lv_ldc o1.1 o1.2.1 o1.2.2.2.1 (o1.2.2.2.2.2.1 _ hw) hd (k o1 o2 v h' hr hz H locs ls hR hS hv)
theorem z_ldcw {i : Nat} {x : Int32} (hw : Cond.constant M.2.1 i x ∈ zTb) (hd : decode M.1 pc = .ok (.ldc_w i, 3)) (k : Z Y M cells slots (pc + 3) lv (.int x :: st) h r) : Z Y M cells slots pc lv (st) h r := by
  obtain ⟨⟨p, l, e, R, s, m, args, below, meth, c⟩, D, A, Q⟩ := Y
  intro o1 o2 v h' hr hz H locs ls hR hS hv
  exact lv_ldcw o1.1 o1.2.1 o1.2.2.2.1 (o1.2.2.2.2.2.1 _ hw) hd (k o1 o2 v h' hr hz H locs ls hR hS hv)
theorem z_ldc2 {i : Nat} {x : Int64} (hw : Cond.constantLong M.2.1 i x ∈ zTb) (hd : decode M.1 pc = .ok (.ldc2_w i, 3)) (k : Z Y M cells slots (pc + 3) lv (.long x :: st) h r) : Z Y M cells slots pc lv (st) h r := by
  obtain ⟨⟨p, l, e, R, s, m, args, below, meth, c⟩, D, A, Q⟩ := Y
  intro o1 o2 v h' hr hz H locs ls hR hS hv
  exact lv_ldc2 o1.1 o1.2.1 o1.2.2.2.1 (o1.2.2.2.2.2.1 _ hw) hd (k o1 o2 v h' hr hz H locs ls hR hS hv)
theorem z_goto {off : Int} {tgt : Nat} (hd : decode M.1 pc = .ok (.goto off, 3)) (ht : (pc : Int) + off = (tgt : Int)) (k : Z Y M cells slots tgt lv st h r) : Z Y M cells slots pc lv st h r := by
  obtain ⟨⟨p, l, e, R, s, m, args, below, meth, c⟩, D, A, Q⟩ := Y
  intro o1 o2 v h' hr hz H locs ls hR hS hv
  exact lv_goto o1.1 o1.2.1 hd ht (k o1 o2 v h' hr hz H locs ls hR hS hv)
theorem z_if_eq {x : Int32} {off : Int} {tgt : Nat} (hd : decode M.1 pc = .ok (.ifCond .eq off, 3)) (ht : (pc : Int) + off = (tgt : Int)) (k1 : Z Y M cells slots tgt lv st h r1) (k2 : Z Y M cells slots (pc + 3) lv st h r2) : Z Y M cells slots pc lv (.int x :: st) h (if x = 0 then r1 else r2) := by
  obtain ⟨⟨p, l, e, R, s, m, args, below, meth, c⟩, D, A, Q⟩ := Y
  intro o1 o2 v h' hr hz H locs ls hR hS hv
  refine lv_if_eq o1.1 o1.2.1 hd ht (fun q => ?_) (fun q => ?_)
  · rw [if_pos q] at hr
    exact k1 o1 o2 v h' hr hz H locs ls hR hS hv
  · rw [if_neg q] at hr
    exact k2 o1 o2 v h' hr hz H locs ls hR hS hv
theorem z_icmp_eq {x y : Int32} {off : Int} {tgt : Nat} (hd : decode M.1 pc = .ok (.if_icmp .eq off, 3)) (ht : (pc : Int) + off = (tgt : Int)) (k1 : Z Y M cells slots tgt lv st h r1) (k2 : Z Y M cells slots (pc + 3) lv st h r2) : Z Y M cells slots pc lv (.int y :: .int x :: st) h (if x = y then r1 else r2) := by
  obtain ⟨⟨p, l, e, R, s, m, args, below, meth, c⟩, D, A, Q⟩ := Y
  intro o1 o2 v h' hr hz H locs ls hR hS hv
  refine lv_icmp_eq o1.1 o1.2.1 hd ht (fun q => ?_) (fun q => ?_)
  · rw [if_pos q] at hr
    exact k1 o1 o2 v h' hr hz H locs ls hR hS hv
  · rw [if_neg q] at hr
    exact k2 o1 o2 v h' hr hz H locs ls hR hS hv
theorem z_if_ne {x : Int32} {off : Int} {tgt : Nat} (hd : decode M.1 pc = .ok (.ifCond .ne off, 3)) (ht : (pc : Int) + off = (tgt : Int)) (k1 : Z Y M cells slots tgt lv st h r1) (k2 : Z Y M cells slots (pc + 3) lv st h r2) : Z Y M cells slots pc lv (.int x :: st) h (if x = 0 then r2 else r1) := by
  obtain ⟨⟨p, l, e, R, s, m, args, below, meth, c⟩, D, A, Q⟩ := Y
  intro o1 o2 v h' hr hz H locs ls hR hS hv
  refine lv_if_ne o1.1 o1.2.1 hd ht (fun q => ?_) (fun q => ?_)
  · rw [if_neg q] at hr
    exact k1 o1 o2 v h' hr hz H locs ls hR hS hv
  · rw [if_pos q] at hr
    exact k2 o1 o2 v h' hr hz H locs ls hR hS hv
theorem z_icmp_ne {x y : Int32} {off : Int} {tgt : Nat} (hd : decode M.1 pc = .ok (.if_icmp .ne off, 3)) (ht : (pc : Int) + off = (tgt : Int)) (k1 : Z Y M cells slots tgt lv st h r1) (k2 : Z Y M cells slots (pc + 3) lv st h r2) : Z Y M cells slots pc lv (.int y :: .int x :: st) h (if x = y then r2 else r1) := by
  obtain ⟨⟨p, l, e, R, s, m, args, below, meth, c⟩, D, A, Q⟩ := Y
  intro o1 o2 v h' hr hz H locs ls hR hS hv
  refine lv_icmp_ne o1.1 o1.2.1 hd ht (fun q => ?_) (fun q => ?_)
  · rw [if_neg q] at hr
    exact k1 o1 o2 v h' hr hz H locs ls hR hS hv
  · rw [if_pos q] at hr
    exact k2 o1 o2 v h' hr hz H locs ls hR hS hv
theorem z_if_lt {x : Int32} {off : Int} {tgt : Nat} (hd : decode M.1 pc = .ok (.ifCond .lt off, 3)) (ht : (pc : Int) + off = (tgt : Int)) (k1 : Z Y M cells slots tgt lv st h r1) (k2 : Z Y M cells slots (pc + 3) lv st h r2) : Z Y M cells slots pc lv (.int x :: st) h (if x < 0 then r1 else r2) := by
  obtain ⟨⟨p, l, e, R, s, m, args, below, meth, c⟩, D, A, Q⟩ := Y
  intro o1 o2 v h' hr hz H locs ls hR hS hv
  refine lv_if_lt o1.1 o1.2.1 hd ht (fun q => ?_) (fun q => ?_)
  · rw [if_pos q] at hr
    exact k1 o1 o2 v h' hr hz H locs ls hR hS hv
  · rw [if_neg q] at hr
    exact k2 o1 o2 v h' hr hz H locs ls hR hS hv
theorem z_icmp_lt {x y : Int32} {off : Int} {tgt : Nat} (hd : decode M.1 pc = .ok (.if_icmp .lt off, 3)) (ht : (pc : Int) + off = (tgt : Int)) (k1 : Z Y M cells slots tgt lv st h r1) (k2 : Z Y M cells slots (pc + 3) lv st h r2) : Z Y M cells slots pc lv (.int y :: .int x :: st) h (if x < y then r1 else r2) := by
  obtain ⟨⟨p, l, e, R, s, m, args, below, meth, c⟩, D, A, Q⟩ := Y
  intro o1 o2 v h' hr hz H locs ls hR hS hv
  refine lv_icmp_lt o1.1 o1.2.1 hd ht (fun q => ?_) (fun q => ?_)
  · rw [if_pos q] at hr
    exact k1 o1 o2 v h' hr hz H locs ls hR hS hv
  · rw [if_neg q] at hr
    exact k2 o1 o2 v h' hr hz H locs ls hR hS hv
theorem z_if_ge {x : Int32} {off : Int} {tgt : Nat} (hd : decode M.1 pc = .ok (.ifCond .ge off, 3)) (ht : (pc : Int) + off = (tgt : Int)) (k1 : Z Y M cells slots tgt lv st h r1) (k2 : Z Y M cells slots (pc + 3) lv st h r2) : Z Y M cells slots pc lv (.int x :: st) h (if 0 ≤ x then r1 else r2) := by
  obtain ⟨⟨p, l, e, R, s, m, args, below, meth, c⟩, D, A, Q⟩ := Y
  intro o1 o2 v h' hr hz H locs ls hR hS hv
  refine lv_if_ge o1.1 o1.2.1 hd ht (fun q => ?_) (fun q => ?_)
  · rw [if_pos q] at hr
    exact k1 o1 o2 v h' hr hz H locs ls hR hS hv
  · rw [if_neg q] at hr
    exact k2 o1 o2 v h' hr hz H locs ls hR hS hv
theorem z_icmp_ge {x y : Int32} {off : Int} {tgt : Nat} (hd : decode M.1 pc = .ok (.if_icmp .ge off, 3)) (ht : (pc : Int) + off = (tgt : Int)) (k1 : Z Y M cells slots tgt lv st h r1) (k2 : Z Y M cells slots (pc + 3) lv st h r2) : Z Y M cells slots pc lv (.int y :: .int x :: st) h (if y ≤ x then r1 else r2) := by
  obtain ⟨⟨p, l, e, R, s, m, args, below, meth, c⟩, D, A, Q⟩ := Y
  intro o1 o2 v h' hr hz H locs ls hR hS hv
  refine lv_icmp_ge o1.1 o1.2.1 hd ht (fun q => ?_) (fun q => ?_)
  · rw [if_pos q] at hr
    exact k1 o1 o2 v h' hr hz H locs ls hR hS hv
  · rw [if_neg q] at hr
    exact k2 o1 o2 v h' hr hz H locs ls hR hS hv
theorem z_if_gt {x : Int32} {off : Int} {tgt : Nat} (hd : decode M.1 pc = .ok (.ifCond .gt off, 3)) (ht : (pc : Int) + off = (tgt : Int)) (k1 : Z Y M cells slots tgt lv st h r1) (k2 : Z Y M cells slots (pc + 3) lv st h r2) : Z Y M cells slots pc lv (.int x :: st) h (if 0 < x then r1 else r2) := by
  obtain ⟨⟨p, l, e, R, s, m, args, below, meth, c⟩, D, A, Q⟩ := Y
  intro o1 o2 v h' hr hz H locs ls hR hS hv
  refine lv_if_gt o1.1 o1.2.1 hd ht (fun q => ?_) (fun q => ?_)
  · rw [if_pos q] at hr
    exact k1 o1 o2 v h' hr hz H locs ls hR hS hv
  · rw [if_neg q] at hr
    exact k2 o1 o2 v h' hr hz H locs ls hR hS hv
theorem z_icmp_gt {x y : Int32} {off : Int} {tgt : Nat} (hd : decode M.1 pc = .ok (.if_icmp .gt off, 3)) (ht : (pc : Int) + off = (tgt : Int)) (k1 : Z Y M cells slots tgt lv st h r1) (k2 : Z Y M cells slots (pc + 3) lv st h r2) : Z Y M cells slots pc lv (.int y :: .int x :: st) h (if y < x then r1 else r2) := by
  obtain ⟨⟨p, l, e, R, s, m, args, below, meth, c⟩, D, A, Q⟩ := Y
  intro o1 o2 v h' hr hz H locs ls hR hS hv
  refine lv_icmp_gt o1.1 o1.2.1 hd ht (fun q => ?_) (fun q => ?_)
  · rw [if_pos q] at hr
    exact k1 o1 o2 v h' hr hz H locs ls hR hS hv
  · rw [if_neg q] at hr
    exact k2 o1 o2 v h' hr hz H locs ls hR hS hv
theorem z_if_le {x : Int32} {off : Int} {tgt : Nat} (hd : decode M.1 pc = .ok (.ifCond .le off, 3)) (ht : (pc : Int) + off = (tgt : Int)) (k1 : Z Y M cells slots tgt lv st h r1) (k2 : Z Y M cells slots (pc + 3) lv st h r2) : Z Y M cells slots pc lv (.int x :: st) h (if x ≤ 0 then r1 else r2) := by
  obtain ⟨⟨p, l, e, R, s, m, args, below, meth, c⟩, D, A, Q⟩ := Y
  intro o1 o2 v h' hr hz H locs ls hR hS hv
  refine lv_if_le o1.1 o1.2.1 hd ht (fun q => ?_) (fun q => ?_)
  · rw [if_pos q] at hr
    exact k1 o1 o2 v h' hr hz H locs ls hR hS hv
  · rw [if_neg q] at hr
    exact k2 o1 o2 v h' hr hz H locs ls hR hS hv
theorem z_icmp_le {x y : Int32} {off : Int} {tgt : Nat} (hd : decode M.1 pc = .ok (.if_icmp .le off, 3)) (ht : (pc : Int) + off = (tgt : Int)) (k1 : Z Y M cells slots tgt lv st h r1) (k2 : Z Y M cells slots (pc + 3) lv st h r2) : Z Y M cells slots pc lv (.int y :: .int x :: st) h (if x ≤ y then r1 else r2) := by
  obtain ⟨⟨p, l, e, R, s, m, args, below, meth, c⟩, D, A, Q⟩ := Y
  intro o1 o2 v h' hr hz H locs ls hR hS hv
  refine lv_icmp_le o1.1 o1.2.1 hd ht (fun q => ?_) (fun q => ?_)
  · rw [if_pos q] at hr
    exact k1 o1 o2 v h' hr hz H locs ls hR hS hv
  · rw [if_neg q] at hr
    exact k2 o1 o2 v h' hr hz H locs ls hR hS hv
def zdv (y : Int32) (r : zR) : zR := if y = 0 then none else r
def zdvJ (y : Int64) (r : zR) : zR := if y = 0 then none else r
theorem zdv_some {y : Int32} {r : zR} {q : Option Value × zH} (hr : zdv y r = some q) : ¬ y = 0 ∧ r = some q := by
  unfold zdv at hr
  split at hr
  · cases hr
  · exact ⟨‹_›, hr⟩
theorem zdvJ_some {y : Int64} {r : zR} {q : Option Value × zH} (hr : zdvJ y r = some q) : ¬ y = 0 ∧ r = some q := by
  unfold zdvJ at hr
  split at hr
  · cases hr
  · exact ⟨‹_›, hr⟩
theorem z_idiv {x y : Int32} (hd : decode M.1 pc = .ok (.idiv, 1)) (k : Z Y M cells slots (pc + 1) lv (.int (x / y) :: st) h r) : Z Y M cells slots pc lv (.int y :: .int x :: st) h (zdv y r) := by
  obtain ⟨⟨p, l, e, R, s, m, args, below, meth, c⟩, D, A, Q⟩ := Y
  intro o1 o2 v h' hr hz H locs ls hR hS hv
  obtain ⟨hy, hr⟩ := zdv_some hr
  exact lv_idiv o1.1 o1.2.1 hd hy (k o1 o2 v h' hr hz H locs ls hR hS hv)
theorem z_irem {x y : Int32} (hd : decode M.1 pc = .ok (.irem, 1)) (k : Z Y M cells slots (pc + 1) lv (.int (x - x / y * y) :: st) h r) : Z Y M cells slots pc lv (.int y :: .int x :: st) h (zdv y r) := by
  obtain ⟨⟨p, l, e, R, s, m, args, below, meth, c⟩, D, A, Q⟩ := Y
  intro o1 o2 v h' hr hz H locs ls hR hS hv
  obtain ⟨hy, hr⟩ := zdv_some hr
  exact lv_irem o1.1 o1.2.1 hd hy (k o1 o2 v h' hr hz H locs ls hR hS hv)
theorem z_ldiv {x y : Int64} (hd : decode M.1 pc = .ok (.ldiv, 1)) (k : Z Y M cells slots (pc + 1) lv (.long (x / y) :: st) h r) : Z Y M cells slots pc lv (.long y :: .long x :: st) h (zdvJ y r) := by
  obtain ⟨⟨p, l, e, R, s, m, args, below, meth, c⟩, D, A, Q⟩ := Y
  intro o1 o2 v h' hr hz H locs ls hR hS hv
  obtain ⟨hy, hr⟩ := zdvJ_some hr
  exact lv_ldiv o1.1 o1.2.1 hd hy (k o1 o2 v h' hr hz H locs ls hR hS hv)
theorem z_lrem {x y : Int64} (hd : decode M.1 pc = .ok (.lrem, 1)) (k : Z Y M cells slots (pc + 1) lv (.long (x - x / y * y) :: st) h r) : Z Y M cells slots pc lv (.long y :: .long x :: st) h (zdvJ y r) := by
  obtain ⟨⟨p, l, e, R, s, m, args, below, meth, c⟩, D, A, Q⟩ := Y
  intro o1 o2 v h' hr hz H locs ls hR hS hv
  obtain ⟨hy, hr⟩ := zdvJ_some hr
  exact lv_lrem o1.1 o1.2.1 hd hy (k o1 o2 v h' hr hz H locs ls hR hS hv)
theorem z_tabIn {dflt lo hi : Int} {offs : Array Int} {len : Nat} {x : Int32} (j : Int32) {off : Int} {tgt : Nat} (hx : x = j) (hd : decode M.1 pc = .ok (.tableswitch dflt lo hi offs, len)) (h1 : ¬ j.toInt < lo) (h2 : ¬ hi < j.toInt) (ho : offs[(j.toInt - lo).toNat]? = some off) (ht : (pc : Int) + off = (tgt : Int)) (k : Z Y M cells slots tgt lv st h r) : Z Y M cells slots pc lv (.int x :: st) h r := by
  obtain ⟨⟨p, l, e, R, s, m, args, below, meth, c⟩, D, A, Q⟩ := Y
  intro o1 o2 v h' hr hz H locs ls hR hS hv
  subst hx
  exact lv_tableIn o1.1 o1.2.1 hd h1 h2 ho ht (k o1 o2 v h' hr hz H locs ls hR hS hv)
theorem z_tabOut {dflt lo hi : Int} {offs : Array Int} {len : Nat} {x : Int32} {tgt : Nat} (hd : decode M.1 pc = .ok (.tableswitch dflt lo hi offs, len)) (hx : x.toInt < lo ∨ hi < x.toInt) (ht : (pc : Int) + dflt = (tgt : Int)) (k : Z Y M cells slots tgt lv st h r) : Z Y M cells slots pc lv (.int x :: st) h r := by
  obtain ⟨⟨p, l, e, R, s, m, args, below, meth, c⟩, D, A, Q⟩ := Y
  intro o1 o2 v h' hr hz H locs ls hR hS hv
  exact lv_tableOut o1.1 o1.2.1 hd hx ht (k o1 o2 v h' hr hz H locs ls hR hS hv)
def zrI (x : Int32) (h : zH) : zR := some (some (.int x), h)
def zrZ (x : Int32) (h : zH) : zR := if x = 0 ∨ x = 1 then some (some (.int x), h) else none
def zrJ (x : Int64) (h : zH) : zR := some (some (.long x), h)
def zrV (h : zH) : zR := some (none, h)
theorem z_iret {x : Int32} (hret : M.2.2.2.2.1 = some .int) (hd : decode M.1 pc = .ok (.ireturn, 1)) : Z Y M M.2.2.2.2.2.2.1 M.2.2.2.2.2.2.2 pc lv [.int x] h (zrI x h) := by
  obtain ⟨⟨p, l, e, R, s, m, args, below, meth, c⟩, D, A, Q⟩ := Y
  intro o1 o2 v h' hr hz H locs ls hR hS hv
  cases hr
  exact o2.1 .int x h H locs ls pc hret rfl hd hz hR hS
theorem z_zret {x : Int32} (hret : M.2.2.2.2.1 = some .boolean) (hd : decode M.1 pc = .ok (.ireturn, 1)) : Z Y M M.2.2.2.2.2.2.1 M.2.2.2.2.2.2.2 pc lv [.int x] h (zrZ x h) := by
  obtain ⟨⟨p, l, e, R, s, m, args, below, meth, c⟩, D, A, Q⟩ := Y
  intro o1 o2 v h' hr hz H locs ls hR hS hv
  unfold zrZ at hr
  split at hr
  · rename_i hx
    cases hr
    refine o2.1 .boolean x h H locs ls pc hret ?_ hd hz hR hS
    rcases hx with rfl | rfl <;> decide +kernel
  · cases hr
theorem z_lret {x : Int64} (hret : M.2.2.2.2.1 = some .long) (hd : decode M.1 pc = .ok (.lreturn, 1)) : Z Y M M.2.2.2.2.2.2.1 M.2.2.2.2.2.2.2 pc lv [.long x] h (zrJ x h) := by
  obtain ⟨⟨p, l, e, R, s, m, args, below, meth, c⟩, D, A, Q⟩ := Y
  intro o1 o2 v h' hr hz H locs ls hR hS hv
  cases hr
  exact o2.2.1 x h H locs ls pc hret hd hz hR hS
theorem z_vret (hret : M.2.2.2.2.1 = none) (hd : decode M.1 pc = .ok (.return_, 1)) : Z Y M M.2.2.2.2.2.2.1 M.2.2.2.2.2.2.2 pc lv [] h (zrV h) := by
  obtain ⟨⟨p, l, e, R, s, m, args, below, meth, c⟩, D, A, Q⟩ := Y
  intro o1 o2 v h' hr hz H locs ls hR hS hv
  cases hr
  exact o2.2.2 h H locs ls pc hret hd hz hR hS
end ZB
end
section
/-! HEAP: objects, arrays -/
def zset (h : zH) (a : Nat) (e : zE) : zH := (h.1, fun q => if q = a then some e else h.2 q)
def zpush (h : zH) (e : zE) : zH := (h.1 + 1, fun q => if q = h.1 then some e else h.2 q)
def zgO (h : zH) (a ci : Nat) (K : List Value → zR) : zR := match h.2 a with
  | some (.inr (c, fs)) => if c = ci then K fs else none
  | _ => none
def zgI (h : zH) (a ci k : Nat) (K : Int32 → zR) : zR := zgO h a ci fun fs => match fs[k]? with
  | some (.int x) => K x
  | _ => none
def zgJ (h : zH) (a ci k : Nat) (K : Int64 → zR) : zR := zgO h a ci fun fs => match fs[k]? with
  | some (.long x) => K x
  | _ => none
def zgR (h : zH) (a ci k : Nat) (K : Nat → zR) : zR := zgO h a ci fun fs => match fs[k]? with
  | some (.ref x) => K x
  | _ => none
def zoc (h : zH) (a ci : Nat) (r : zR) : zR := zgO h a ci fun _ => r
def zpV (h : zH) (a ci k : Nat) (v : Value) (K : zH → zR) : zR := zgO h a ci fun fs => if k < fs.length then K (zset h a (.inr (ci, fs.set k v))) else none
def zgA (h : zH) (a t : Nat) (K : Nat → (Nat → Int32) → zR) : zR := match h.2 a with
  | some (.inl (t', n, .inl f)) => if t' = t then K n f else none
  | _ => none
def zgB (h : zH) (a t : Nat) (K : Nat → (Nat → Option Nat) → zR) : zR := match h.2 a with
  | some (.inl (t', n, .inr f)) => if t' = t then K n f else none
  | _ => none
def zaI (h : zH) (a t : Nat) (i : Int32) (K : Int32 → zR) : zR := zgA h a t fun n f => if i < 0 ∨ n ≤ i.toNatClampNeg then none else K (f i.toNatClampNeg)
def zaL (h : zH) (a t : Nat) (K : Int32 → zR) : zR := zgA h a t fun n _ => K (Int32.ofNat n)
def zsI (h : zH) (a t : Nat) (i x : Int32) (K : zH → zR) : zR := zgA h a t fun n f => if i < 0 ∨ n ≤ i.toNatClampNeg then none else K (zset h a (.inl (t, n, .inl (upd f i.toNatClampNeg x))))
def zaR (h : zH) (a t : Nat) (i : Int32) (K : Nat → zR) : zR := zgB h a t fun n f => if i < 0 ∨ n ≤ i.toNatClampNeg then none else match f i.toNatClampNeg with
  | some y => K y
  | none => none
def zsR (h : zH) (a t : Nat) (i : Int32) (v ci : Nat) (K : zH → zR) : zR := zgB h a t fun n f => if i < 0 ∨ n ≤ i.toNatClampNeg then none else zoc h v ci (K (zset h a (.inl (t, n, .inr (va_up f i.toNatClampNeg (some v))))))
/-- System.arraycopy of ints, to another array -/
def zcp (h : zH) (a0 : Nat) (sp : Int32) (a : Nat) (dp n : Int32) (K : zH → zR) : zR := zgA h a0 0 fun n0 f => zgA h a 0 fun n1 g => if sp < 0 ∨ dp < 0 ∨ n < 0 ∨ n0 < sp.toNatClampNeg + n.toNatClampNeg ∨ n1 < dp.toNatClampNeg + n.toNatClampNeg then none else K (zset h a (.inl (0, n1, .inl (va_cpy f g sp.toNatClampNeg dp.toNatClampNeg n.toNatClampNeg))))
def zcI (r : zR) (K : Int32 → zH → zR) : zR := match r with
  | some (some (.int x), h') => K x h'
  | _ => none
def zcJ (r : zR) (K : Int64 → zH → zR) : zR := match r with
  | some (some (.long x), h') => K x h'
  | _ => none
def zcV (r : zR) (K : zH → zR) : zR := match r with
  | some (none, h') => K h'
  | _ => none
theorem zgO_some {h : zH} {a ci : Nat} {K : List Value → zR} {q : Option Value × zH} (hr : zgO h a ci K = some q) : ∃ fs, h.2 a = some (.inr (ci, fs)) ∧ K fs = some q := by
  unfold zgO at hr
  split at hr
  · rename_i c fs he
    split at hr
    · rename_i hc
      subst hc
      exact ⟨fs, he, hr⟩
    · cases hr
  · cases hr
theorem zgI_some {h : zH} {a ci k : Nat} {K : Int32 → zR} {q : Option Value × zH} (hr : zgI h a ci k K = some q) : ∃ fs x, h.2 a = some (.inr (ci, fs)) ∧ fs[k]? = some (.int x) ∧ K x = some q := by
  obtain ⟨fs, h1, h2⟩ := zgO_some hr
  split at h2
  · rename_i x hx
    exact ⟨fs, x, h1, hx, h2⟩
  · cases h2
theorem zgJ_some {h : zH} {a ci k : Nat} {K : Int64 → zR} {q : Option Value × zH} (hr : zgJ h a ci k K = some q) : ∃ fs x, h.2 a = some (.inr (ci, fs)) ∧ fs[k]? = some (.long x) ∧ K x = some q := by
  obtain ⟨fs, h1, h2⟩ := zgO_some hr
  split at h2
  · rename_i x hx
    exact ⟨fs, x, h1, hx, h2⟩
  · cases h2
theorem zgR_some {h : zH} {a ci k : Nat} {K : Nat → zR} {q : Option Value × zH} (hr : zgR h a ci k K = some q) : ∃ fs x, h.2 a = some (.inr (ci, fs)) ∧ fs[k]? = some (.ref x) ∧ K x = some q := by
  obtain ⟨fs, h1, h2⟩ := zgO_some hr
  split at h2
  · rename_i x hx
    exact ⟨fs, x, h1, hx, h2⟩
  · cases h2
theorem zgA_some {h : zH} {a t : Nat} {K : Nat → (Nat → Int32) → zR} {q : Option Value × zH} (hr : zgA h a t K = some q) : ∃ n f, h.2 a = some (.inl (t, n, .inl f)) ∧ K n f = some q := by
  unfold zgA at hr
  split at hr
  · rename_i t' n f he
    split at hr
    · rename_i hc
      subst hc
      exact ⟨n, f, he, hr⟩
    · cases hr
  · cases hr
theorem zgB_some {h : zH} {a t : Nat} {K : Nat → (Nat → Option Nat) → zR} {q : Option Value × zH} (hr : zgB h a t K = some q) : ∃ n f, h.2 a = some (.inl (t, n, .inr f)) ∧ K n f = some q := by
  unfold zgB at hr
  split at hr
  · rename_i t' n f he
    split at hr
    · rename_i hc
      subst hc
      exact ⟨n, f, he, hr⟩
    · cases hr
  · cases hr
theorem zcI_some {r : zR} {K : Int32 → zH → zR} {q : Option Value × zH} (hr : zcI r K = some q) : ∃ x h', r = some (some (.int x), h') ∧ K x h' = some q := by
  unfold zcI at hr
  split at hr
  · exact ⟨_, _, rfl, hr⟩
  · cases hr
theorem zcJ_some {r : zR} {K : Int64 → zH → zR} {q : Option Value × zH} (hr : zcJ r K = some q) : ∃ x h', r = some (some (.long x), h') ∧ K x h' = some q := by
  unfold zcJ at hr
  split at hr
  · exact ⟨_, _, rfl, hr⟩
  · cases hr
theorem zcV_some {r : zR} {K : zH → zR} {q : Option Value × zH} (hr : zcV r K = some q) : ∃ h', r = some (none, h') ∧ K h' = some q := by
  unfold zcV at hr
  split at hr
  · exact ⟨_, rfl, hr⟩
  · cases hr
theorem zRel.set {D : zD} {A : Nat → Prop} {h : zH} {H1 : Heap} {ws : va_W} {a k0 : Nat} {e0 : va_E} {e1 : zE} (hD : va_D A ws) (m1 : ∀ (a : Nat) (e : zE), h.2 a = some e → ∃ k : Nat, ws[k]? = some (a, zcell D e)) (m2 : ∀ (k : Nat) (q : Nat × va_E), ws[k]? = some q → ∃ e, h.2 q.1 = some e ∧ q.2 = zcell D e) (h0 : ws[k0]? = some (a, e0)) (hz : H1.size = h.1) (hP : va_P D.1 vwCl (ws.set k0 (a, zcell D e1)) H1) (hD1 : va_D A (ws.set k0 (a, zcell D e1))) : zRel D A (zset h a e1) H1 := by
  have hlt : k0 < ws.length := (List.getElem?_eq_some_iff.mp h0).1
  refine ⟨hz, ws.set k0 (a, zcell D e1), hP, hD1, fun b e hb => ?_, fun k q hq => ?_⟩
  · by_cases hba : b = a
    · subst hba
      simp only [zset, if_true] at hb
      cases hb
      exact ⟨k0, by rw [List.getElem?_set_self hlt]⟩
    · simp only [zset, if_neg hba] at hb
      obtain ⟨k, hk⟩ := m1 b e hb
      refine ⟨k, ?_⟩
      rw [List.getElem?_set_ne (fun hkk => ?_)]
      · exact hk
      · subst hkk
        rw [h0] at hk
        cases hk
        exact hba rfl
  · by_cases hk : k0 = k
    · subst hk
      rw [List.getElem?_set_self hlt] at hq
      cases hq
      exact ⟨e1, by simp [zset], rfl⟩
    · rw [List.getElem?_set_ne hk] at hq
      obtain ⟨e, he, hee⟩ := m2 k q hq
      refine ⟨e, ?_, hee⟩
      have hqa : ¬ q.1 = a := fun hqa => hk ((hD.1 k k0 q _ hq h0 hqa).symm)
      simp only [zset, if_neg hqa]
      exact he
theorem va_S.then {A : Nat → Prop} {H0 H H1 : Heap} {locs locs1 : List Loc} (h : va_S A H0 H locs) (h1 : va_S A H H1 locs1) : va_S A H0 H1 locs1 := ⟨Nat.le_trans h.1 h1.1, fun q hq hA => (h1.2.1 q (Nat.lt_of_lt_of_le hq h.1) hA).trans (h.2.1 q hq hA), h1.2.2⟩
theorem va_S.here {A : Nat → Prop} {H0 H : Heap} {locs : List Loc} (h : va_S A H0 H locs) : va_S A H H locs := ⟨Nat.le_refl _, fun _ _ _ => rfl, h.2.2⟩
section ZS
variable {p : Program} {l : Launch} {e : Env} {R : Room} {s : State} {m : MethodId} {args : Array Value} {below : List Frame} {meth : Method} {c : Code} {H : Heap} {locs : List Loc} {cells slots : Nat} {Q : State → Prop} {g : JFrame}
theorem W.sized (k : H.size ≤ s.heap.size + cells → W p l e R s m args below meth c H locs cells slots Q g) : W p l e R s m args below meth c H locs cells slots Q g := fun T hT X => k (by rw [← hT]; exact X.heapSize) T hT X
end ZS
end
section
/-! ROWS OVER THE HEAP -/
/-- a field link: own class, place in its pool; the class among vwCl, the field, its type, final or not -/
def zFld (own : String) (idx ci k : Nat) (ty : FieldType) (fin : Bool) : Prop := ∃ (C : String) (T : u_T) (N : Nat) (ty0 : Nat → FieldType), vwCl[ci]? = some (C, T, N) ∧ k < N ∧ (∀ w ∈ u_ws C T N, w ∈ zTb) ∧ Cond.fieldLink own idx (T k).1 (T k).2.1 (T k).2.2.1 ∈ zTb ∧ (∀ k, k < N → parseFieldDescriptor (T k).2.2.1 = some (ty0 k)) ∧ (∀ a, a < N → ∀ b, b < N → a ≠ b → (T a).2.1 ≠ (T b).2.1) ∧ ty0 k = ty ∧ (T k).2.2.2 = fin ∧ (fin = true → (T k).1 = own)
theorem zin {i : Int32} {n : Nat} (h : ¬ (i < 0 ∨ n ≤ i.toNatClampNeg)) : vp_in i n := h
section ZH
variable {Y : zY} {M : zM} {cells slots pc : Nat} {lv lv' : List (Nat × Value)} {st : List Value} {h : zH} {r r1 r2 : zR}
theorem z_getI {idx ci k a : Nat} {ty : FieldType} {fin : Bool} {K : Int32 → zR} (hF : zFld M.2.1 idx ci k ty fin) (hd : decode M.1 pc = .ok (.getfield idx, 3)) (kk : ∀ x, Z Y M cells slots (pc + 3) lv (.int x :: st) h (K x)) : Z Y M cells slots pc lv (.ref a :: st) h (zgI h a ci k K) := by
  obtain ⟨⟨p, l, e, R, s, m, args, below, meth, c⟩, D, A, Q⟩ := Y
  intro o1 o2 v h' hr hz H locs ls hR hS hv
  obtain ⟨fs, x, h1, h2, h3⟩ := zgI_some hr
  obtain ⟨C, T, N, ty0, f1, f2, f3, f4, f5, f6, f7, f8, f9⟩ := hF
  obtain ⟨z1, ws, hP, hD, m1, m2⟩ := id hR
  obtain ⟨k0, hk0⟩ := m1 a _ h1
  exact va_get o1.1 o1.2.1 o1.2.2.2.2.2.1 f3 o1.2.2.2.1 o1.2.2.2.2.2.2.2.1.1 hP k0 hk0 f1 k f2 (o1.2.2.2.2.2.1 _ f4) (fun _ q => q) h2 hd (kk x o1 o2 v h' h3 hz H locs ls hR hS hv)
theorem z_getJ {idx ci k a : Nat} {ty : FieldType} {fin : Bool} {K : Int64 → zR} (hF : zFld M.2.1 idx ci k ty fin) (hd : decode M.1 pc = .ok (.getfield idx, 3)) (kk : ∀ x, Z Y M cells slots (pc + 3) lv (.long x :: st) h (K x)) : Z Y M cells slots pc lv (.ref a :: st) h (zgJ h a ci k K) := by
  obtain ⟨⟨p, l, e, R, s, m, args, below, meth, c⟩, D, A, Q⟩ := Y
  intro o1 o2 v h' hr hz H locs ls hR hS hv
  obtain ⟨fs, x, h1, h2, h3⟩ := zgJ_some hr
  obtain ⟨C, T, N, ty0, f1, f2, f3, f4, f5, f6, f7, f8, f9⟩ := hF
  obtain ⟨z1, ws, hP, hD, m1, m2⟩ := id hR
  obtain ⟨k0, hk0⟩ := m1 a _ h1
  exact va_get o1.1 o1.2.1 o1.2.2.2.2.2.1 f3 o1.2.2.2.1 o1.2.2.2.2.2.2.2.1.1 hP k0 hk0 f1 k f2 (o1.2.2.2.2.2.1 _ f4) (fun _ q => q) h2 hd (kk x o1 o2 v h' h3 hz H locs ls hR hS hv)
theorem z_getR {idx ci k a : Nat} {ty : FieldType} {fin : Bool} {K : Nat → zR} (hF : zFld M.2.1 idx ci k ty fin) (hd : decode M.1 pc = .ok (.getfield idx, 3)) (kk : ∀ x, Z Y M cells slots (pc + 3) lv (.ref x :: st) h (K x)) : Z Y M cells slots pc lv (.ref a :: st) h (zgR h a ci k K) := by
  obtain ⟨⟨p, l, e, R, s, m, args, below, meth, c⟩, D, A, Q⟩ := Y
  intro o1 o2 v h' hr hz H locs ls hR hS hv
  obtain ⟨fs, x, h1, h2, h3⟩ := zgR_some hr
  obtain ⟨C, T, N, ty0, f1, f2, f3, f4, f5, f6, f7, f8, f9⟩ := hF
  obtain ⟨z1, ws, hP, hD, m1, m2⟩ := id hR
  obtain ⟨k0, hk0⟩ := m1 a _ h1
  exact va_get o1.1 o1.2.1 o1.2.2.2.2.2.1 f3 o1.2.2.2.1 o1.2.2.2.2.2.2.2.1.1 hP k0 hk0 f1 k f2 (o1.2.2.2.2.2.1 _ f4) (fun _ q => q) h2 hd (kk x o1 o2 v h' h3 hz H locs ls hR hS hv)
theorem z_put {idx ci k a : Nat} {ty : FieldType} {w : Value} {K : zH → zR} (hF : zFld M.2.1 idx ci k ty false) (hn : narrow ty w = w) (hfit : fits ty w = true) (hd : decode M.1 pc = .ok (.putfield idx, 3)) (kk : ∀ h1 : zH, Z Y M cells slots (pc + 3) lv st h1 (K h1)) : Z Y M cells slots pc lv (w :: .ref a :: st) h (zpV h a ci k w K) := by
  obtain ⟨⟨p, l, e, R, s, m, args, below, meth, c⟩, D, A, Q⟩ := Y
  intro o1 o2 v h' hr hz H locs ls hR hS hv
  obtain ⟨fs, h1, h2⟩ := zgO_some hr
  split at h2
  · rename_i hkl
    obtain ⟨C, T, N, ty0, f1, f2, f3, f4, f5, f6, f7, f8, f9⟩ := hF
    obtain ⟨z1, ws, hP, hD, m1, m2⟩ := id hR
    obtain ⟨k0, hk0⟩ := m1 a _ h1
    refine va_put (ty := ty) o1.1 o1.2.1 o1.2.2.2.2.2.1 f3 ty0 f5 f6 o1.2.2.2.1 o1.2.2.2.2.2.2.2.1.1 hP hD hS.here k0 hk0 f1 k f2 (o1.2.2.2.2.2.1 _ f4) (fun _ q => q) f8 (by rw [f5 k f2, f7]) hn hfit hkl hd (fun H1 locs1 hP1 hD1 hS1 => ?_)
    refine W.sized (fun hle => ?_)
    have z2 : H1.size = h.1 := by have := hS1.1; omega
    exact kk _ o1 o2 v h' h2 hz H1 locs1 ls (zRel.set hD m1 m2 hk0 z2 hP1 hD1) (hS.then hS1) hv
  · cases h2
theorem z_putF {idx ci k a : Nat} {ty : FieldType} {w : Value} {K : zH → zR} (hF : zFld M.2.1 idx ci k ty true) (hini : M.2.2.1 = "<init>") (hn : narrow ty w = w) (hfit : fits ty w = true) (hd : decode M.1 pc = .ok (.putfield idx, 3)) (kk : ∀ h1 : zH, Z Y M cells slots (pc + 3) lv st h1 (K h1)) : Z Y M cells slots pc lv (w :: .ref a :: st) h (zpV h a ci k w K) := by
  obtain ⟨⟨p, l, e, R, s, m, args, below, meth, c⟩, D, A, Q⟩ := Y
  intro o1 o2 v h' hr hz H locs ls hR hS hv
  obtain ⟨fs, h1, h2⟩ := zgO_some hr
  split at h2
  · rename_i hkl
    obtain ⟨C, T, N, ty0, f1, f2, f3, f4, f5, f6, f7, f8, f9⟩ := hF
    obtain ⟨z1, ws, hP, hD, m1, m2⟩ := id hR
    obtain ⟨k0, hk0⟩ := m1 a _ h1
    refine va_putF (ty := ty) o1.1 o1.2.1 o1.2.2.2.2.2.1 f3 ty0 f5 f6 o1.2.2.2.1 o1.2.2.2.2.2.2.2.1.1 hP hD hS.here k0 hk0 f1 k f2 (o1.2.2.2.2.2.1 _ f4) (fun _ q => q) f8 (o1.2.2.2.2.1.trans hini) (f9 rfl) (by rw [f5 k f2, f7]) hn hfit hkl hd (fun H1 locs1 hP1 hD1 hS1 => ?_)
    refine W.sized (fun hle => ?_)
    have z2 : H1.size = h.1 := by have := hS1.1; omega
    exact kk _ o1 o2 v h' h2 hz H1 locs1 ls (zRel.set hD m1 m2 hk0 z2 hP1 hD1) (hS.then hS1) hv
  · cases h2
theorem z_iald {a : Nat} {i : Int32} {K : Int32 → zR} (hd : decode M.1 pc = .ok (.iaload, 1)) (kk : ∀ x, Z Y M cells slots (pc + 1) lv (.int x :: st) h (K x)) : Z Y M cells slots pc lv (.int i :: .ref a :: st) h (zaI h a 0 i K) := by
  obtain ⟨⟨p, l, e, R, s, m, args, below, meth, c⟩, D, A, Q⟩ := Y
  intro o1 o2 v h' hr hz H locs ls hR hS hv
  obtain ⟨n, f, h1, h2⟩ := zgA_some hr
  split at h2
  · cases h2
  · rename_i hin
    obtain ⟨z1, ws, hP, hD, m1, m2⟩ := id hR
    obtain ⟨k0, hk0⟩ := m1 a _ h1
    exact va_iald o1.1 o1.2.1 o1.2.2.2.2.2.2.2.1.1 hP k0 0 hk0 rfl (zin hin) hd (kk _ o1 o2 v h' h2 hz H locs ls hR hS hv)
theorem z_bald {a : Nat} {i : Int32} {K : Int32 → zR} (hd : decode M.1 pc = .ok (.baload, 1)) (kk : ∀ x, Z Y M cells slots (pc + 1) lv (.int x :: st) h (K x)) : Z Y M cells slots pc lv (.int i :: .ref a :: st) h (zaI h a 1 i K) := by
  obtain ⟨⟨p, l, e, R, s, m, args, below, meth, c⟩, D, A, Q⟩ := Y
  intro o1 o2 v h' hr hz H locs ls hR hS hv
  obtain ⟨n, f, h1, h2⟩ := zgA_some hr
  split at h2
  · cases h2
  · rename_i hin
    obtain ⟨z1, ws, hP, hD, m1, m2⟩ := id hR
    obtain ⟨k0, hk0⟩ := m1 a _ h1
    exact va_bald o1.1 o1.2.1 o1.2.2.2.2.2.2.2.1.1 hP k0 1 hk0 rfl (zin hin) hd (kk _ o1 o2 v h' h2 hz H locs ls hR hS hv)
theorem z_zald {a : Nat} {i : Int32} {K : Int32 → zR} (hd : decode M.1 pc = .ok (.baload, 1)) (kk : ∀ x, Z Y M cells slots (pc + 1) lv (.int x :: st) h (K x)) : Z Y M cells slots pc lv (.int i :: .ref a :: st) h (zaI h a 2 i K) := by
  obtain ⟨⟨p, l, e, R, s, m, args, below, meth, c⟩, D, A, Q⟩ := Y
  intro o1 o2 v h' hr hz H locs ls hR hS hv
  obtain ⟨n, f, h1, h2⟩ := zgA_some hr
  split at h2
  · cases h2
  · rename_i hin
    obtain ⟨z1, ws, hP, hD, m1, m2⟩ := id hR
    obtain ⟨k0, hk0⟩ := m1 a _ h1
    exact va_zald o1.1 o1.2.1 o1.2.2.2.2.2.2.2.1.1 hP k0 2 hk0 rfl (zin hin) hd (kk _ o1 o2 v h' h2 hz H locs ls hR hS hv)
theorem z_iast {a : Nat} {i x : Int32} {K : zH → zR} (hd : decode M.1 pc = .ok (.iastore, 1)) (kk : ∀ h1, Z Y M cells slots (pc + 1) lv st h1 (K h1)) : Z Y M cells slots pc lv (.int x :: .int i :: .ref a :: st) h (zsI h a 0 i x K) := by
  obtain ⟨⟨p, l, e, R, s, m, args, below, meth, c⟩, D, A, Q⟩ := Y
  intro o1 o2 v h' hr hz H locs ls hR hS hv
  obtain ⟨n, f, h1, h2⟩ := zgA_some hr
  split at h2
  · cases h2
  · rename_i hin
    obtain ⟨z1, ws, hP, hD, m1, m2⟩ := id hR
    obtain ⟨k0, hk0⟩ := m1 a _ h1
    refine va_iast o1.1 o1.2.1 o1.2.2.2.2.2.2.2.1.1 hP hD hS.here k0 0 hk0 rfl (zin hin) hd (fun H1 locs1 hP1 hD1 hS1 => ?_)
    refine W.sized (fun hle => ?_)
    have z2 : H1.size = h.1 := by have := hS1.1; omega
    exact kk _ o1 o2 v h' h2 hz H1 locs1 ls (zRel.set hD m1 m2 hk0 z2 hP1 hD1) (hS.then hS1) hv
theorem z_bast {a : Nat} {i x : Int32} {K : zH → zR} (hd : decode M.1 pc = .ok (.bastore, 1)) (kk : ∀ h1, Z Y M cells slots (pc + 1) lv st h1 (K h1)) : Z Y M cells slots pc lv (.int x :: .int i :: .ref a :: st) h (zsI h a 1 i (vp_nar .byte x) K) := by
  obtain ⟨⟨p, l, e, R, s, m, args, below, meth, c⟩, D, A, Q⟩ := Y
  intro o1 o2 v h' hr hz H locs ls hR hS hv
  obtain ⟨n, f, h1, h2⟩ := zgA_some hr
  split at h2
  · cases h2
  · rename_i hin
    obtain ⟨z1, ws, hP, hD, m1, m2⟩ := id hR
    obtain ⟨k0, hk0⟩ := m1 a _ h1
    refine va_bast o1.1 o1.2.1 o1.2.2.2.2.2.2.2.1.1 hP hD hS.here k0 1 hk0 rfl (zin hin) hd (fun H1 locs1 hP1 hD1 hS1 => ?_)
    refine W.sized (fun hle => ?_)
    have z2 : H1.size = h.1 := by have := hS1.1; omega
    exact kk _ o1 o2 v h' h2 hz H1 locs1 ls (zRel.set hD m1 m2 hk0 z2 hP1 hD1) (hS.then hS1) hv
theorem z_zast {a : Nat} {i x : Int32} {K : zH → zR} (hd : decode M.1 pc = .ok (.bastore, 1)) (kk : ∀ h1, Z Y M cells slots (pc + 1) lv st h1 (K h1)) : Z Y M cells slots pc lv (.int x :: .int i :: .ref a :: st) h (zsI h a 2 i (vp_nar .boolean x) K) := by
  obtain ⟨⟨p, l, e, R, s, m, args, below, meth, c⟩, D, A, Q⟩ := Y
  intro o1 o2 v h' hr hz H locs ls hR hS hv
  obtain ⟨n, f, h1, h2⟩ := zgA_some hr
  split at h2
  · cases h2
  · rename_i hin
    obtain ⟨z1, ws, hP, hD, m1, m2⟩ := id hR
    obtain ⟨k0, hk0⟩ := m1 a _ h1
    refine va_zast o1.1 o1.2.1 o1.2.2.2.2.2.2.2.1.1 hP hD hS.here k0 2 hk0 rfl (zin hin) hd (fun H1 locs1 hP1 hD1 hS1 => ?_)
    refine W.sized (fun hle => ?_)
    have z2 : H1.size = h.1 := by have := hS1.1; omega
    exact kk _ o1 o2 v h' h2 hz H1 locs1 ls (zRel.set hD m1 m2 hk0 z2 hP1 hD1) (hS.then hS1) hv
theorem z_alenB {a : Nat} {K : Int32 → zR} (hd : decode M.1 pc = .ok (.arraylength, 1)) (kk : ∀ x, Z Y M cells slots (pc + 1) lv (.int x :: st) h (K x)) : Z Y M cells slots pc lv (.ref a :: st) h (zaL h a 1 K) := by
  obtain ⟨⟨p, l, e, R, s, m, args, below, meth, c⟩, D, A, Q⟩ := Y
  intro o1 o2 v h' hr hz H locs ls hR hS hv
  obtain ⟨n, f, h1, h2⟩ := zgA_some hr
  obtain ⟨z1, ws, hP, hD, m1, m2⟩ := id hR
  obtain ⟨k0, hk0⟩ := m1 a _ h1
  exact va_alen o1.1 o1.2.1 o1.2.2.2.2.2.2.2.1.1 hP k0 1 hk0 rfl rfl hd (kk _ o1 o2 v h' h2 hz H locs ls hR hS hv)
theorem z_aald {a t : Nat} {C : String} {i : Int32} {K : Nat → zR} (ht : ∀ D : zD, (zTys D)[t]? = some (D.2.1 t, .object C)) (hd : decode M.1 pc = .ok (.aaload, 1)) (kk : ∀ x, Z Y M cells slots (pc + 1) lv (.ref x :: st) h (K x)) : Z Y M cells slots pc lv (.int i :: .ref a :: st) h (zaR h a t i K) := by
  obtain ⟨⟨p, l, e, R, s, m, args, below, meth, c⟩, D, A, Q⟩ := Y
  intro o1 o2 v h' hr hz H locs ls hR hS hv
  obtain ⟨n, f, h1, h2⟩ := zgB_some hr
  split at h2
  · cases h2
  · rename_i hin
    split at h2
    · rename_i y hy
      obtain ⟨z1, ws, hP, hD, m1, m2⟩ := id hR
      obtain ⟨k0, hk0⟩ := m1 a _ h1
      refine va_aldq o1.1 o1.2.1 o1.2.2.2.2.2.2.2.1.1 hP k0 t hk0 (ht D) (zin hin) hd ?_
      rw [hy]
      exact kk y o1 o2 v h' h2 hz H locs ls hR hS hv
    · cases h2
theorem z_aast {a t ci w : Nat} {q : vw_C} {i : Int32} {K : zH → zR} (ht : ∀ D : zD, (zTys D)[t]? = some (D.2.1 t, .object q.1)) (hc : vwCl[ci]? = some q) (hd : decode M.1 pc = .ok (.aastore, 1)) (kk : ∀ h1, Z Y M cells slots (pc + 1) lv st h1 (K h1)) : Z Y M cells slots pc lv (.ref w :: .int i :: .ref a :: st) h (zsR h a t i w ci K) := by
  obtain ⟨⟨p, l, e, R, s, m, args, below, meth, c⟩, D, A, Q⟩ := Y
  intro o1 o2 v h' hr hz H locs ls hR hS hv
  obtain ⟨n, f, h1, h2⟩ := zgB_some hr
  split at h2
  · cases h2
  · rename_i hin
    obtain ⟨fs, h3, h4⟩ := zgO_some h2
    obtain ⟨z1, ws, hP, hD, m1, m2⟩ := id hR
    obtain ⟨k0, hk0⟩ := m1 a _ h1
    obtain ⟨k1, hk1⟩ := m1 w _ h3
    refine va_astq o1.1 o1.2.1 o1.2.2.2.2.2.2.2.1.1 hP hD hS.here k0 t k1 ci hk0 (ht D) hk1 hc (zin hin) hd (fun H1 locs1 hP1 hD1 hS1 => ?_)
    refine W.sized (fun hle => ?_)
    have z2 : H1.size = h.1 := by have := hS1.1; omega
    exact kk _ o1 o2 v h' h4 hz H1 locs1 ls (zRel.set (e1 := .inl (t, n, .inr (va_up f i.toNatClampNeg (some w)))) hD m1 m2 hk0 z2 hP1 hD1) (hS.then hS1) hv
theorem z_copy {idx a0 a : Nat} {sp dp n : Int32} {K : zH → zR} (hw : Cond.methodLink M.2.1 idx arraycopyName ∈ zTb) (hw1 : Cond.native arraycopyName ∈ zTb) (hw2 : Cond.static arraycopyName ∈ zTb) (hw3 : Cond.initialized "java/lang/System" ∈ zTb) (hst : (st.map fun v => v.category).sum + (nativeFrameWords "java/lang/System" "arraycopy" 5 + 11) ≤ 60) (hd : decode M.1 pc = .ok (.invokestatic idx, 3)) (kk : ∀ h1, Z Y M cells slots (pc + 3) lv st h1 (K h1)) : Z Y M cells slots pc lv (.int n :: .int dp :: .ref a :: .int sp :: .ref a0 :: st) h (zcp h a0 sp a dp n K) := by
  obtain ⟨⟨p, l, e, R, s, m, args, below, meth, c⟩, D, A, Q⟩ := Y
  intro o1 o2 v h' hr hz H locs ls hR hS hv
  obtain ⟨n0, f, h1, h2⟩ := zgA_some hr
  obtain ⟨n1, g, h3, h4⟩ := zgA_some h2
  split at h4
  · cases h4
  · rename_i hin
    obtain ⟨z1, ws, hP, hD, m1, m2⟩ := id hR
    obtain ⟨k0, hk0⟩ := m1 a0 _ h1
    obtain ⟨k1, hk1⟩ := m1 a _ h3
    have w5 := o1.2.2.2.2.2.1
    have w6 := o1.2.2.2.2.2.2.1
    refine va_copyi o1.1 o1.2.1 (by rw [o1.2.2.1]; exact hv.1.symm) o1.2.2.2.1 (w5 _ hw) (w5 _ hw1) (w5 _ hw2) (w5 _ hw3) o1.2.2.2.2.2.2.2.1.1 hP hD hS.here k0 k1 0 0 hk0 hk1 rfl rfl rfl (fun q => hin (Or.inl q)) (fun q => hin (Or.inr (Or.inl q))) (fun q => hin (Or.inr (Or.inr (Or.inl q)))) (Nat.not_lt.mp fun q => hin (Or.inr (Or.inr (Or.inr (Or.inl q))))) (Nat.not_lt.mp fun q => hin (Or.inr (Or.inr (Or.inr (Or.inr q))))) (fun _ _ => rfl) (by omega) (by omega) hd (fun H1 locs1 hP1 hD1 hS1 => ?_)
    refine W.sized (fun hle => ?_)
    have z2 : H1.size = h.1 := by have := hS1.1; omega
    exact kk _ o1 o2 v h' h4 hz H1 locs1 ls (zRel.set (e1 := .inl (0, n1, .inl (va_cpy f g sp.toNatClampNeg dp.toNatClampNeg n.toNatClampNeg))) hD m1 m2 hk1 z2 hP1 hD1) (hS.then hS1) hv
end ZH
end
section
/-! ROWS: NEW CELLS, CALLS, METHODS -/
theorem zRel.push {D : zD} {A : Nat → Prop} {h : zH} {H H1 : Heap} {e1 : zE} (hR : zRel D A h H) (hz : H1.size = h.1 + 1) (oq : ∀ q : Nat, q < H.size → H1[q]? = H[q]?) (hA : A h.1) (he : va_at D.1 vwCl (h.1, zcell D e1) H1) : zRel D A (zpush h e1) H1 := by
  obtain ⟨z1, ws, hP, hD, m1, m2⟩ := hR
  have hlt : ∀ (k : Nat) (q : Nat × va_E), ws[k]? = some q → q.1 < H.size := fun k q hq => (hP k q hq).lt
  refine ⟨hz, ws ++ [(h.1, zcell D e1)], (hP.kept (fun k q hq => oq q.1 (hlt k q hq))).app (fun k q hq => ?_), hD.push hP z1.symm hA, fun b e hb => ?_, fun k q hq => ?_⟩
  · have hk : k < 1 := (List.getElem?_eq_some_iff.mp hq).1
    rw [show k = 0 by omega] at hq
    cases hq
    exact he
  · by_cases hba : b = h.1
    · subst hba
      simp only [zpush, if_true] at hb
      cases hb
      exact ⟨ws.length, by simp⟩
    · simp only [zpush, if_neg hba] at hb
      obtain ⟨k, hk⟩ := m1 b e hb
      exact ⟨k, by rw [List.getElem?_append_left (List.getElem?_eq_some_iff.mp hk).1]; exact hk⟩
  · by_cases hk : k < ws.length
    · rw [List.getElem?_append_left hk] at hq
      obtain ⟨e, h1, h2⟩ := m2 k q hq
      have hne : ¬ q.1 = h.1 := by have := hlt k q hq; omega
      exact ⟨e, by simp only [zpush, if_neg hne]; exact h1, h2⟩
    · rw [List.getElem?_append_right (by omega)] at hq
      have hk1 : k - ws.length < 1 := (List.getElem?_eq_some_iff.mp hq).1
      rw [show k - ws.length = 0 by omega] at hq
      cases hq
      exact ⟨e1, by simp [zpush], rfl⟩
theorem va_S.more {A : Nat → Prop} {H0 H H1 : Heap} {locs : List Loc} (hS : va_S A H0 H locs) (z1 : H.size ≤ H1.size) (o1 : ∀ q : Nat, q < H.size → H1[q]? = H[q]?) : va_S A H0 H1 locs := ⟨Nat.le_trans hS.1 z1, fun x h1 h2 => (o1 x (Nat.lt_of_lt_of_le h1 hS.1)).trans (hS.2.1 x h1 h2), hS.2.2⟩
def zNew (own : String) (idx ci N : Nat) (fs : List Value) : Prop := ∃ (C : String) (T : u_T) (ty : Nat → FieldType), vwCl[ci]? = some (C, T, N) ∧ (∀ w ∈ u_ws C T N, w ∈ zTb) ∧ (∀ k, k < N → parseFieldDescriptor (T k).2.2.1 = some (ty k)) ∧ Cond.classLink own idx C ∈ zTb ∧ Cond.instantiable C N ∈ zTb ∧ Cond.initialized C ∈ zTb ∧ ∀ j, j < N → defaultValue (ty j) = vp_V fs j
/-- a callee's words: static, or of an object -/
def zCal (y : MethodName) (M2 : zM) (n : Nat) : Prop := Cond.code y M2.1 M2.2.2.2.1 M2.2.2.2.2.1 ∈ zTb ∧ Cond.initialized y.cls ∈ zTb ∧ (y.cls ≠ "java/lang/invoke/MethodHandle" ∧ y.cls ≠ "java/lang/invoke/VarHandle" ∧ (parseMethodDescriptor y.desc).map (fun d => d.parameters.length) = some n) ∧ M2.2.2.2.1 + 19 ≤ 60
def zA (h : zH) : Nat → Prop := fun q => (∃ e, h.2 q = some e) ∨ h.1 ≤ q
def zPc (D : zD) (av : List Value) (h : zH) : Array Value → State → Prop := va_Pc av (fun U => zRel D (zA h) h U.heap ∧ zK D (zA h) U)
def zQc (D : zD) (h : zH) (mc : Nat) (v : Option Value) (h' : zH) : Array Value → State → Outcome → State → Prop := fun _ st oc t => (oc = .returned v ∧ zRel D (zA h) h' t.heap ∧ h'.1 = h.1 + mc) ∧ va_F (zA h) st t
def zrm (M : zM) : Room := { frames := M.2.2.2.2.2.1 + 1, cells := M.2.2.2.2.2.2.1, slots := M.2.2.2.2.2.2.2, locals := 60 * (M.2.2.2.2.2.1 + 1) }
def zMet (l : Launch) (D : zD) (y : MethodName) (M : zM) (av : List Value) (h : zH) (r : zR) : Prop := ∀ (v : Option Value) (h' : zH), r = some (v, h') → Met l y (.code y M.1 M.2.2.2.1 M.2.2.2.2.1 :: zTb) (zrm M) (zPc D av h) (zQc D h M.2.2.2.2.2.2.1 v h') M.2.2.2.2.2.2.1 M.2.2.2.2.2.2.2 (zA h)
theorem zPc.blind {D : zD} {av : List Value} {h : zH} : FrameBlind (zPc D av h) := fun a U g mk q => ⟨q.1, q.2.1, zK.calling q.2.2⟩
theorem zRel.narrow {D : zD} {A : Nat → Prop} {h : zH} {H : Heap} (hR : zRel D A h H) : zRel D (zA h) h H := by
  obtain ⟨z1, ws, hP, hD, m1, m2⟩ := hR
  refine ⟨z1, ws, hP, ⟨hD.1, fun k q hq => ?_⟩, m1, m2⟩
  obtain ⟨e, he, -⟩ := m2 k q hq
  exact Or.inl ⟨e, he⟩
theorem zRel.inA {D : zD} {A : Nat → Prop} {h : zH} {H : Heap} (hR : zRel D A h H) {q : Nat} {e : zE} (hq : h.2 q = some e) : A q := by
  obtain ⟨z1, ws, hP, hD, m1, m2⟩ := hR
  obtain ⟨k, hk⟩ := m1 q e hq
  exact hD.2 k _ hk
theorem zRel.zA {D : zD} {A : Nat → Prop} {h : zH} {H H0 : Heap} {locs : List Loc} (hR : zRel D A h H) (hS : va_S A H0 H locs) (hA : ∀ q, H0.size ≤ q → A q) : ∀ q, zA h q → A q := by
  intro q hq
  rcases hq with ⟨e, he⟩ | hq
  · exact hR.inA he
  · exact hA q (Nat.le_trans hS.1 (by rw [hR.1]; exact hq))
theorem zRel.weaken {D : zD} {A B : Nat → Prop} {h : zH} {H : Heap} (hR : zRel D A h H) (hAB : ∀ q, A q → B q) : zRel D B h H := by
  obtain ⟨z1, ws, hP, hD, m1, m2⟩ := hR
  exact ⟨z1, ws, hP, ⟨hD.1, fun k q hq => hAB _ (hD.2 k q hq)⟩, m1, m2⟩
section ZC
variable {Y : zY} {M : zM} {cells slots pc : Nat} {lv lv' : List (Nat × Value)} {st : List Value} {h : zH} {r r1 r2 : zR}
theorem z_new {idx ci N : Nat} {fs : List Value} (hN : zNew M.2.1 idx ci N fs) (hcells : cells + 1 ≤ M.2.2.2.2.2.2.1) (hslots : slots + N ≤ M.2.2.2.2.2.2.2) (hd : decode M.1 pc = .ok (.new idx, 3)) (k : Z Y M (cells + 1) (slots + N) (pc + 3) lv (.ref h.1 :: st) (zpush h (.inr (ci, fs))) r) : Z Y M cells slots pc lv st h r := by
  obtain ⟨⟨p, l, e, R, s, m, args, below, meth, c⟩, D, A, Q⟩ := Y
  intro o1 o2 v h' hr hz H locs ls hR hS hv
  obtain ⟨C, T, ty, f1, f2, f3, f4, f5, f6, f7⟩ := hN
  have w5 := o1.2.2.2.2.2.1
  have hKn := o1.2.2.2.2.2.2.2.1.1.1 ci _ f1
  refine W.newcK (h := h.1) o1.1 o1.2.1 o1.2.2.2.1 (w5 _ f4) (w5 _ f5) (w5 _ f6) rfl hd (Nat.le_trans hcells o1.2.2.2.2.2.2.1.2.2.1) (Nat.le_trans hslots o1.2.2.2.2.2.2.1.2.2.2) hKn.2.1 hR.1 fun H1 kC hkC e1 z1 q1 => ?_
  have q2 : ∀ q : Nat, q < H.size → H1[q]? = H[q]? := fun q hq => q1 q (by rw [← hR.1]; exact hq)
  refine k o1 o2 v h' hr (by show h.1 + 1 = _; omega) H1 locs ls (hR.push z1 q2 (o1.2.2.2.2.2.2.2.2 _ (by rw [← hR.1]; exact hS.1)) ⟨_, f1, (u_born ty w5 f2 hKn hkC e1 f3).to f7⟩) (hS.more (by rw [z1, hR.1]; omega) q2) hv
theorem z_newarr0 {n : Int32} {N : Nat} (hw : Cond.arrayClass .int ∈ zTb) (hn : ¬ n < 0) (hN : n.toNatClampNeg = N) (hb : N * componentBytes .int ≤ 536870912) (hcells : cells + 1 ≤ M.2.2.2.2.2.2.1) (hslots : slots + N ≤ M.2.2.2.2.2.2.2) (hd : decode M.1 pc = .ok (.newarray .int, 2)) (k : Z Y M (cells + 1) (slots + N) (pc + 2) lv (.ref h.1 :: st) (zpush h (.inl (0, N, .inl fun _ => 0))) r) : Z Y M cells slots pc lv (.int n :: st) h r := by
  obtain ⟨⟨p, l, e, R, s, m, args, below, meth, c⟩, D, A, Q⟩ := Y
  intro o1 o2 v h' hr hz H locs ls hR hS hv
  have w5 := o1.2.2.2.2.2.1
  refine va_newaK (h := h.1) (atype := .int) o1.1 o1.2.1 (w5 _ hw) rfl hd rfl hn hN hb (Nat.le_trans hcells o1.2.2.2.2.2.2.1.2.2.1) (Nat.le_trans hslots o1.2.2.2.2.2.2.1.2.2.2) hR.1 fun H1 cA e1 z1 q1 hAr hNm => ?_
  have q2 : ∀ q : Nat, q < H.size → H1[q]? = H[q]? := fun q hq => q1 q (by rw [← hR.1]; exact hq)
  have hcA : cA = D.2.1 0 := Option.some.inj (hNm.symm.trans (o1.2.2.2.2.2.2.2.1.1.2 0 (D.2.1 0, .int) rfl).2)
  subst hcA
  exact k o1 o2 v h' hr (by show h.1 + 1 = _; omega) H1 locs ls (hR.push z1 q2 (o1.2.2.2.2.2.2.2.2 _ (by rw [← hR.1]; exact hS.1)) e1) (hS.more (by rw [z1, hR.1]; omega) q2) hv
theorem z_newarr1 {n : Int32} {N : Nat} (hw : Cond.arrayClass .byte ∈ zTb) (hn : ¬ n < 0) (hN : n.toNatClampNeg = N) (hb : N * componentBytes .byte ≤ 536870912) (hcells : cells + 1 ≤ M.2.2.2.2.2.2.1) (hslots : slots + N ≤ M.2.2.2.2.2.2.2) (hd : decode M.1 pc = .ok (.newarray .byte, 2)) (k : Z Y M (cells + 1) (slots + N) (pc + 2) lv (.ref h.1 :: st) (zpush h (.inl (1, N, .inl fun _ => 0))) r) : Z Y M cells slots pc lv (.int n :: st) h r := by
  obtain ⟨⟨p, l, e, R, s, m, args, below, meth, c⟩, D, A, Q⟩ := Y
  intro o1 o2 v h' hr hz H locs ls hR hS hv
  have w5 := o1.2.2.2.2.2.1
  refine va_newaK (h := h.1) (atype := .byte) o1.1 o1.2.1 (w5 _ hw) rfl hd rfl hn hN hb (Nat.le_trans hcells o1.2.2.2.2.2.2.1.2.2.1) (Nat.le_trans hslots o1.2.2.2.2.2.2.1.2.2.2) hR.1 fun H1 cA e1 z1 q1 hAr hNm => ?_
  have q2 : ∀ q : Nat, q < H.size → H1[q]? = H[q]? := fun q hq => q1 q (by rw [← hR.1]; exact hq)
  have hcA : cA = D.2.1 1 := Option.some.inj (hNm.symm.trans (o1.2.2.2.2.2.2.2.1.1.2 1 (D.2.1 1, .byte) rfl).2)
  subst hcA
  exact k o1 o2 v h' hr (by show h.1 + 1 = _; omega) H1 locs ls (hR.push z1 q2 (o1.2.2.2.2.2.2.2.2 _ (by rw [← hR.1]; exact hS.1)) e1) (hS.more (by rw [z1, hR.1]; omega) q2) hv
theorem z_newarr2 {n : Int32} {N : Nat} (hw : Cond.arrayClass .boolean ∈ zTb) (hn : ¬ n < 0) (hN : n.toNatClampNeg = N) (hb : N * componentBytes .boolean ≤ 536870912) (hcells : cells + 1 ≤ M.2.2.2.2.2.2.1) (hslots : slots + N ≤ M.2.2.2.2.2.2.2) (hd : decode M.1 pc = .ok (.newarray .boolean, 2)) (k : Z Y M (cells + 1) (slots + N) (pc + 2) lv (.ref h.1 :: st) (zpush h (.inl (2, N, .inl fun _ => 0))) r) : Z Y M cells slots pc lv (.int n :: st) h r := by
  obtain ⟨⟨p, l, e, R, s, m, args, below, meth, c⟩, D, A, Q⟩ := Y
  intro o1 o2 v h' hr hz H locs ls hR hS hv
  have w5 := o1.2.2.2.2.2.1
  refine va_newaK (h := h.1) (atype := .boolean) o1.1 o1.2.1 (w5 _ hw) rfl hd rfl hn hN hb (Nat.le_trans hcells o1.2.2.2.2.2.2.1.2.2.1) (Nat.le_trans hslots o1.2.2.2.2.2.2.1.2.2.2) hR.1 fun H1 cA e1 z1 q1 hAr hNm => ?_
  have q2 : ∀ q : Nat, q < H.size → H1[q]? = H[q]? := fun q hq => q1 q (by rw [← hR.1]; exact hq)
  have hcA : cA = D.2.1 2 := Option.some.inj (hNm.symm.trans (o1.2.2.2.2.2.2.2.1.1.2 2 (D.2.1 2, .boolean) rfl).2)
  subst hcA
  exact k o1 o2 v h' hr (by show h.1 + 1 = _; omega) H1 locs ls (hR.push z1 q2 (o1.2.2.2.2.2.2.2.2 _ (by rw [← hR.1]; exact hS.1)) e1) (hS.more (by rw [z1, hR.1]; omega) q2) hv
theorem z_newarr3 {idx : Nat} {n : Int32} {N : Nat} (hw : Cond.classLink M.2.1 idx "PaperDolls$Wear" ∈ zTb) (hn : ¬ n < 0) (hN : n.toNatClampNeg = N) (hb : N * 4 ≤ 536870912) (hcells : cells + 1 ≤ M.2.2.2.2.2.2.1) (hslots : slots + N ≤ M.2.2.2.2.2.2.2) (hd : decode M.1 pc = .ok (.anewarray idx, 3)) (k : Z Y M (cells + 1) (slots + N) (pc + 3) lv (.ref h.1 :: st) (zpush h (.inl (3, N, .inr fun _ => none))) r) : Z Y M cells slots pc lv (.int n :: st) h r := by
  obtain ⟨⟨p, l, e, R, s, m, args, below, meth, c⟩, D, A, Q⟩ := Y
  intro o1 o2 v h' hr hz H locs ls hR hS hv
  have w5 := o1.2.2.2.2.2.1
  subst hN
  refine W.anew o1.1 o1.2.1 o1.2.2.2.1 (w5 _ hw) (va_AO.use o1.2.2.2.2.2.2.2.1.2.2.1) rfl hd rfl hn hb (Nat.le_trans hcells o1.2.2.2.2.2.2.1.2.2.1) (Nat.le_trans hslots o1.2.2.2.2.2.2.1.2.2.2) fun cA kA comp f1 f2 f3 f4 => ?_
  generalize hH1 : H.push ({ cls := cA, slots := Array.replicate n.toNatClampNeg .null, vm := .none } : Cell) = H1
  have z1 : H1.size = h.1 + 1 := by rw [← hH1, Array.size_push, hR.1]
  have e1 : H1[h.1]? = some (arrV cA n.toNatClampNeg (fun _ => .null)) := by rw [← hR.1, ← hH1, Array.getElem?_push_size, ← arrV_new]
  have q2 : ∀ q : Nat, q < H.size → H1[q]? = H[q]? := fun q hq => by rw [← hH1, Array.getElem?_push, if_neg (Nat.ne_of_lt hq)]
  obtain ⟨kA', comp', g1, g2, g3, g4⟩ := (o1.2.2.2.2.2.2.2.1.1.2 3 (D.2.1 3, .object "PaperDolls$Wear") rfl).2
  have hcA : cA = D.2.1 3 := Option.some.inj (f1.symm.trans g4)
  subst hcA
  rw [hR.1]
  exact k o1 o2 v h' hr (by show h.1 + 1 = _; omega) H1 locs ls (hR.push z1 q2 (o1.2.2.2.2.2.2.2.2 _ (by rw [← hR.1]; exact hS.1)) e1) (hS.more (by rw [z1, hR.1]; omega) q2) hv
theorem z_newarr4 {idx : Nat} {n : Int32} {N : Nat} (hw : Cond.classLink M.2.1 idx "PaperDolls$Doll" ∈ zTb) (hn : ¬ n < 0) (hN : n.toNatClampNeg = N) (hb : N * 4 ≤ 536870912) (hcells : cells + 1 ≤ M.2.2.2.2.2.2.1) (hslots : slots + N ≤ M.2.2.2.2.2.2.2) (hd : decode M.1 pc = .ok (.anewarray idx, 3)) (k : Z Y M (cells + 1) (slots + N) (pc + 3) lv (.ref h.1 :: st) (zpush h (.inl (4, N, .inr fun _ => none))) r) : Z Y M cells slots pc lv (.int n :: st) h r := by
  obtain ⟨⟨p, l, e, R, s, m, args, below, meth, c⟩, D, A, Q⟩ := Y
  intro o1 o2 v h' hr hz H locs ls hR hS hv
  have w5 := o1.2.2.2.2.2.1
  subst hN
  refine W.anew o1.1 o1.2.1 o1.2.2.2.1 (w5 _ hw) (va_AO.use o1.2.2.2.2.2.2.2.1.2.2.2.1) rfl hd rfl hn hb (Nat.le_trans hcells o1.2.2.2.2.2.2.1.2.2.1) (Nat.le_trans hslots o1.2.2.2.2.2.2.1.2.2.2) fun cA kA comp f1 f2 f3 f4 => ?_
  generalize hH1 : H.push ({ cls := cA, slots := Array.replicate n.toNatClampNeg .null, vm := .none } : Cell) = H1
  have z1 : H1.size = h.1 + 1 := by rw [← hH1, Array.size_push, hR.1]
  have e1 : H1[h.1]? = some (arrV cA n.toNatClampNeg (fun _ => .null)) := by rw [← hR.1, ← hH1, Array.getElem?_push_size, ← arrV_new]
  have q2 : ∀ q : Nat, q < H.size → H1[q]? = H[q]? := fun q hq => by rw [← hH1, Array.getElem?_push, if_neg (Nat.ne_of_lt hq)]
  obtain ⟨kA', comp', g1, g2, g3, g4⟩ := (o1.2.2.2.2.2.2.2.1.1.2 4 (D.2.1 4, .object "PaperDolls$Doll") rfl).2
  have hcA : cA = D.2.1 4 := Option.some.inj (f1.symm.trans g4)
  subst hcA
  rw [hR.1]
  exact k o1 o2 v h' hr (by show h.1 + 1 = _; omega) H1 locs ls (hR.push z1 q2 (o1.2.2.2.2.2.2.2.2 _ (by rw [← hR.1]; exact hS.1)) e1) (hS.more (by rw [z1, hR.1]; omega) q2) hv
theorem z_objInit {idx a : Nat} (hw : Cond.methodLink M.2.1 idx Lib.objectInit ∈ zTb) (hw1 : Cond.instanceMethod Lib.objectInit ∈ zTb) (hw2 : Cond.code Lib.objectInit ⟨#[0xb1]⟩ 1 none ∈ zTb) (hst : (st.map fun v => v.category).sum ≤ 8) (hd : decode M.1 pc = .ok (.invokespecial idx, 3)) (k : Z Y M cells slots (pc + 3) lv st h r) : Z Y M cells slots pc lv (.ref a :: st) h r := by
  obtain ⟨⟨p, l, e, R, s, m, args, below, meth, c⟩, D, A, Q⟩ := Y
  intro o1 o2 v h' hr hz H locs ls hR hS hv
  have w5 := o1.2.2.2.2.2.1
  have w6 := o1.2.2.2.2.2.2.1
  refine W.objInit o1.1 o1.2.1 o1.2.2.2.1 (w5 _ hw) (w5 _ hw1) (w5 _ hw2) rfl (by rw [o1.2.2.1]; exact hv.1) rfl hd (by omega) ?_ ?_
  · show 2 * 0 + (st.map fun v => v.category).sum + 12 ≤ _
    omega
  · exact k o1 o2 v h' hr hz H locs ls hR hS hv
theorem zcode_nil {y : Cond} (hy : y ∈ zTb) : GoodIn zTb (y :: zTb) := by
  intro w hw
  have h1 : w ∈ zTb := by
    rcases List.mem_cons.mp hw with h | h
    · rw [h]; exact hy
    · exact h
  exact ⟨h1, good_of_word (List.mem_filter.mp h1).2⟩
theorem z_callS_I {y : MethodName} {M2 : zM} {n idx : Nat} {K : Int32 → zH → zR} (av : List Value) {st0 : List Value} (hM : ∀ (l : Launch) (D : zD), l = Y.1.2.1 → D = Y.2.1 → zMet l D y M2 av h r) (hu : zCal y M2 n) (hl : Cond.methodLink M.2.1 idx y ∈ zTb) (hsx : Cond.static y ∈ zTb) (hn : av.length = n) (hst0 : st0 = av.reverse ++ st) (hrm : (st.map fun v => v.category).sum ≤ 8) (hlev : M2.2.2.2.2.2.1 + 1 ≤ M.2.2.2.2.2.1) (hcs : cells + M2.2.2.2.2.2.2.1 ≤ M.2.2.2.2.2.2.1 ∧ slots + M2.2.2.2.2.2.2.2 ≤ M.2.2.2.2.2.2.2) (hd : decode M.1 pc = .ok (.invokestatic idx, 3)) (kk : ∀ x h1, Z Y M (cells + M2.2.2.2.2.2.2.1) (slots + M2.2.2.2.2.2.2.2) (pc + 3) lv (.int x :: st) h1 (K x h1)) : Z Y M cells slots pc lv st0 h (zcI r K) := by
  obtain ⟨⟨p, l, e, R, s, m, args, below, meth, c⟩, D, A, Q⟩ := Y
  intro o1 o2 v h' hr hz H locs ls hR hS hv
  obtain ⟨x, h1, hr0, hr⟩ := zcI_some hr
  subst hst0
  have hM' := hM l D rfl rfl _ h1 hr0
  obtain ⟨u1, u2, u3, u4⟩ := hu
  have w5 := o1.2.2.2.2.2.1
  have w6 := o1.2.2.2.2.2.2.1
  have w5c := w5
  have hG := zcode_nil u1
  have hRo : (zrm M2).frames + 1 ≤ R.frames ∧ 8 + (M2.2.2.2.1 + 11) + (zrm M2).locals ≤ R.locals := by
    refine ⟨?_, ?_⟩
    · show M2.2.2.2.2.2.1 + 1 + 1 ≤ _
      omega
    · show 8 + (M2.2.2.2.1 + 11) + 60 * (M2.2.2.2.2.2.1 + 1) ≤ _
      omega
  have hfit : cells + M2.2.2.2.2.2.2.1 ≤ R.cells ∧ slots + M2.2.2.2.2.2.2.2 ≤ R.slots := ⟨Nat.le_trans hcs.1 w6.2.2.1, Nat.le_trans hcs.2 w6.2.2.2⟩
  have hAA := hR.zA hS o1.2.2.2.2.2.2.2.2
  have hPre : ∀ U : State, U.heap = H → s.WarmedH U.vm → zPc D (av) h (av).toArray U := fun U hU hW => ⟨rfl, by rw [hU]; exact hR.narrow, zK.warm hW hAA (fun a q1 q2 => by rw [hU]; exact hS.2.1 a q1 q2) o1.2.2.2.2.2.2.2.1⟩
  have hst' : (F0 m pc ls (av.reverse ++ st)).stack = av.reverse ++ st := rfl
  have hrun := va_runS (e := e) (locs := locs) (below := below) (meth := meth) (g := F0 m pc ls (av.reverse ++ st)) (Ts := zTb) (As := av) (rest := st) ⟨o1.1, o1.2.1, o1.2.2.1, o1.2.2.2.1, w5⟩ hM' ⟨callB_of (ws' := zTb) n w5c hG rfl rfl rfl (w5 _ u2) (w5 _ hl) u3 hRo, w5 _ hsx⟩ ⟨zPc.blind, hPre⟩ rfl hn hv.1 hst' (lv_room hrm) hd hfit
  intro T hT X
  obtain ⟨v0, st₀, t, T', L, h0, X', hL, e1, e2, ⟨⟨hv0, hRt, hzt⟩, hFz, hFk⟩, stp⟩ := hrun T hT X
  cases hv0
  rw [h0] at hFz hFk
  have hS' : va_S A s.heap T'.heap (locs ++ L) := ⟨Nat.le_trans hS.1 (by rw [e1]; exact hFz), fun q q1 q2 => by rw [e1, hFk q (Nat.lt_of_lt_of_le q1 hS.1) (fun z => q2 (hAA q z))]; exact hS.2.1 q q1 q2, fun q hq => by
    rcases List.mem_append.mp hq with hh | hh
    · exact hS.2.2 q hh
    · exact hAA _ (hL q hh)⟩
  have hR' : zRel D A h1 T'.heap := by rw [e1]; exact hRt.weaken hAA
  obtain ⟨t2, a1, b1⟩ := kk x h1 o1 o2 v h' hr (by rw [hzt, hz]; omega) T'.heap (locs ++ L) ls hR' hS' hv T' rfl X'
  exact ⟨t2, stp t2 a1, b1⟩
theorem z_callS_J {y : MethodName} {M2 : zM} {n idx : Nat} {K : Int64 → zH → zR} (av : List Value) {st0 : List Value} (hM : ∀ (l : Launch) (D : zD), l = Y.1.2.1 → D = Y.2.1 → zMet l D y M2 av h r) (hu : zCal y M2 n) (hl : Cond.methodLink M.2.1 idx y ∈ zTb) (hsx : Cond.static y ∈ zTb) (hn : av.length = n) (hst0 : st0 = av.reverse ++ st) (hrm : (st.map fun v => v.category).sum ≤ 8) (hlev : M2.2.2.2.2.2.1 + 1 ≤ M.2.2.2.2.2.1) (hcs : cells + M2.2.2.2.2.2.2.1 ≤ M.2.2.2.2.2.2.1 ∧ slots + M2.2.2.2.2.2.2.2 ≤ M.2.2.2.2.2.2.2) (hd : decode M.1 pc = .ok (.invokestatic idx, 3)) (kk : ∀ x h1, Z Y M (cells + M2.2.2.2.2.2.2.1) (slots + M2.2.2.2.2.2.2.2) (pc + 3) lv (.long x :: st) h1 (K x h1)) : Z Y M cells slots pc lv st0 h (zcJ r K) := by
  obtain ⟨⟨p, l, e, R, s, m, args, below, meth, c⟩, D, A, Q⟩ := Y
  intro o1 o2 v h' hr hz H locs ls hR hS hv
  obtain ⟨x, h1, hr0, hr⟩ := zcJ_some hr
  subst hst0
  have hM' := hM l D rfl rfl _ h1 hr0
  obtain ⟨u1, u2, u3, u4⟩ := hu
  have w5 := o1.2.2.2.2.2.1
  have w6 := o1.2.2.2.2.2.2.1
  have w5c := w5
  have hG := zcode_nil u1
  have hRo : (zrm M2).frames + 1 ≤ R.frames ∧ 8 + (M2.2.2.2.1 + 11) + (zrm M2).locals ≤ R.locals := by
    refine ⟨?_, ?_⟩
    · show M2.2.2.2.2.2.1 + 1 + 1 ≤ _
      omega
    · show 8 + (M2.2.2.2.1 + 11) + 60 * (M2.2.2.2.2.2.1 + 1) ≤ _
      omega
  have hfit : cells + M2.2.2.2.2.2.2.1 ≤ R.cells ∧ slots + M2.2.2.2.2.2.2.2 ≤ R.slots := ⟨Nat.le_trans hcs.1 w6.2.2.1, Nat.le_trans hcs.2 w6.2.2.2⟩
  have hAA := hR.zA hS o1.2.2.2.2.2.2.2.2
  have hPre : ∀ U : State, U.heap = H → s.WarmedH U.vm → zPc D (av) h (av).toArray U := fun U hU hW => ⟨rfl, by rw [hU]; exact hR.narrow, zK.warm hW hAA (fun a q1 q2 => by rw [hU]; exact hS.2.1 a q1 q2) o1.2.2.2.2.2.2.2.1⟩
  have hst' : (F0 m pc ls (av.reverse ++ st)).stack = av.reverse ++ st := rfl
  have hrun := va_runS (e := e) (locs := locs) (below := below) (meth := meth) (g := F0 m pc ls (av.reverse ++ st)) (Ts := zTb) (As := av) (rest := st) ⟨o1.1, o1.2.1, o1.2.2.1, o1.2.2.2.1, w5⟩ hM' ⟨callB_of (ws' := zTb) n w5c hG rfl rfl rfl (w5 _ u2) (w5 _ hl) u3 hRo, w5 _ hsx⟩ ⟨zPc.blind, hPre⟩ rfl hn hv.1 hst' (lv_room hrm) hd hfit
  intro T hT X
  obtain ⟨v0, st₀, t, T', L, h0, X', hL, e1, e2, ⟨⟨hv0, hRt, hzt⟩, hFz, hFk⟩, stp⟩ := hrun T hT X
  cases hv0
  rw [h0] at hFz hFk
  have hS' : va_S A s.heap T'.heap (locs ++ L) := ⟨Nat.le_trans hS.1 (by rw [e1]; exact hFz), fun q q1 q2 => by rw [e1, hFk q (Nat.lt_of_lt_of_le q1 hS.1) (fun z => q2 (hAA q z))]; exact hS.2.1 q q1 q2, fun q hq => by
    rcases List.mem_append.mp hq with hh | hh
    · exact hS.2.2 q hh
    · exact hAA _ (hL q hh)⟩
  have hR' : zRel D A h1 T'.heap := by rw [e1]; exact hRt.weaken hAA
  obtain ⟨t2, a1, b1⟩ := kk x h1 o1 o2 v h' hr (by rw [hzt, hz]; omega) T'.heap (locs ++ L) ls hR' hS' hv T' rfl X'
  exact ⟨t2, stp t2 a1, b1⟩
theorem z_callS_V {y : MethodName} {M2 : zM} {n idx : Nat} {K : zH → zR} (av : List Value) {st0 : List Value} (hM : ∀ (l : Launch) (D : zD), l = Y.1.2.1 → D = Y.2.1 → zMet l D y M2 av h r) (hu : zCal y M2 n) (hl : Cond.methodLink M.2.1 idx y ∈ zTb) (hsx : Cond.static y ∈ zTb) (hn : av.length = n) (hst0 : st0 = av.reverse ++ st) (hrm : (st.map fun v => v.category).sum ≤ 8) (hlev : M2.2.2.2.2.2.1 + 1 ≤ M.2.2.2.2.2.1) (hcs : cells + M2.2.2.2.2.2.2.1 ≤ M.2.2.2.2.2.2.1 ∧ slots + M2.2.2.2.2.2.2.2 ≤ M.2.2.2.2.2.2.2) (hd : decode M.1 pc = .ok (.invokestatic idx, 3)) (kk : ∀ h1, Z Y M (cells + M2.2.2.2.2.2.2.1) (slots + M2.2.2.2.2.2.2.2) (pc + 3) lv (st) h1 (K h1)) : Z Y M cells slots pc lv st0 h (zcV r K) := by
  obtain ⟨⟨p, l, e, R, s, m, args, below, meth, c⟩, D, A, Q⟩ := Y
  intro o1 o2 v h' hr hz H locs ls hR hS hv
  obtain ⟨h1, hr0, hr⟩ := zcV_some hr
  subst hst0
  have hM' := hM l D rfl rfl _ h1 hr0
  obtain ⟨u1, u2, u3, u4⟩ := hu
  have w5 := o1.2.2.2.2.2.1
  have w6 := o1.2.2.2.2.2.2.1
  have w5c := w5
  have hG := zcode_nil u1
  have hRo : (zrm M2).frames + 1 ≤ R.frames ∧ 8 + (M2.2.2.2.1 + 11) + (zrm M2).locals ≤ R.locals := by
    refine ⟨?_, ?_⟩
    · show M2.2.2.2.2.2.1 + 1 + 1 ≤ _
      omega
    · show 8 + (M2.2.2.2.1 + 11) + 60 * (M2.2.2.2.2.2.1 + 1) ≤ _
      omega
  have hfit : cells + M2.2.2.2.2.2.2.1 ≤ R.cells ∧ slots + M2.2.2.2.2.2.2.2 ≤ R.slots := ⟨Nat.le_trans hcs.1 w6.2.2.1, Nat.le_trans hcs.2 w6.2.2.2⟩
  have hAA := hR.zA hS o1.2.2.2.2.2.2.2.2
  have hPre : ∀ U : State, U.heap = H → s.WarmedH U.vm → zPc D (av) h (av).toArray U := fun U hU hW => ⟨rfl, by rw [hU]; exact hR.narrow, zK.warm hW hAA (fun a q1 q2 => by rw [hU]; exact hS.2.1 a q1 q2) o1.2.2.2.2.2.2.2.1⟩
  have hst' : (F0 m pc ls (av.reverse ++ st)).stack = av.reverse ++ st := rfl
  have hrun := va_runS (e := e) (locs := locs) (below := below) (meth := meth) (g := F0 m pc ls (av.reverse ++ st)) (Ts := zTb) (As := av) (rest := st) ⟨o1.1, o1.2.1, o1.2.2.1, o1.2.2.2.1, w5⟩ hM' ⟨callB_of (ws' := zTb) n w5c hG rfl rfl rfl (w5 _ u2) (w5 _ hl) u3 hRo, w5 _ hsx⟩ ⟨zPc.blind, hPre⟩ rfl hn hv.1 hst' (lv_room hrm) hd hfit
  intro T hT X
  obtain ⟨v0, st₀, t, T', L, h0, X', hL, e1, e2, ⟨⟨hv0, hRt, hzt⟩, hFz, hFk⟩, stp⟩ := hrun T hT X
  cases hv0
  rw [h0] at hFz hFk
  have hS' : va_S A s.heap T'.heap (locs ++ L) := ⟨Nat.le_trans hS.1 (by rw [e1]; exact hFz), fun q q1 q2 => by rw [e1, hFk q (Nat.lt_of_lt_of_le q1 hS.1) (fun z => q2 (hAA q z))]; exact hS.2.1 q q1 q2, fun q hq => by
    rcases List.mem_append.mp hq with hh | hh
    · exact hS.2.2 q hh
    · exact hAA _ (hL q hh)⟩
  have hR' : zRel D A h1 T'.heap := by rw [e1]; exact hRt.weaken hAA
  obtain ⟨t2, a1, b1⟩ := kk h1 o1 o2 v h' hr (by rw [hzt, hz]; omega) T'.heap (locs ++ L) ls hR' hS' hv T' rfl X'
  exact ⟨t2, stp t2 a1, b1⟩
theorem z_callV_I {y : MethodName} {M2 : zM} {n idx : Nat} {b : Nat} {K : Int32 → zH → zR} (av : List Value) {st0 : List Value} (hM : ∀ (l : Launch) (D : zD), l = Y.1.2.1 → D = Y.2.1 → zMet l D y M2 (.ref b :: av) h r) (hu : zCal y M2 n) (hl : Cond.methodLink M.2.1 idx y ∈ zTb) (hsx : Cond.instanceMethod y ∈ zTb) (hse : Cond.selects y.cls y y ∈ zTb) {ci : Nat} {T : u_T} {N : Nat} (hci : vwCl[ci]? = some (y.cls, T, N)) (hn : av.length = n) (hst0 : st0 = av.reverse ++ .ref b :: st) (hrm : (st.map fun v => v.category).sum ≤ 8) (hlev : M2.2.2.2.2.2.1 + 1 ≤ M.2.2.2.2.2.1) (hcs : cells + M2.2.2.2.2.2.2.1 ≤ M.2.2.2.2.2.2.1 ∧ slots + M2.2.2.2.2.2.2.2 ≤ M.2.2.2.2.2.2.2) (hd : decode M.1 pc = .ok (.invokevirtual idx, 3)) (kk : ∀ x h1, Z Y M (cells + M2.2.2.2.2.2.2.1) (slots + M2.2.2.2.2.2.2.2) (pc + 3) lv (.int x :: st) h1 (K x h1)) : Z Y M cells slots pc lv st0 h (zoc h b ci (zcI r K)) := by
  obtain ⟨⟨p, l, e, R, s, m, args, below, meth, c⟩, D, A, Q⟩ := Y
  intro o1 o2 v h' hr hz H locs ls hR hS hv
  obtain ⟨fsb, hb1, hr⟩ := zgO_some hr
  obtain ⟨x, h1, hr0, hr⟩ := zcI_some hr
  subst hst0
  have hM' := hM l D rfl rfl _ h1 hr0
  obtain ⟨u1, u2, u3, u4⟩ := hu
  have w5 := o1.2.2.2.2.2.1
  have w6 := o1.2.2.2.2.2.2.1
  have w5c := w5
  have hG := zcode_nil u1
  have hRo : (zrm M2).frames + 1 ≤ R.frames ∧ 8 + (M2.2.2.2.1 + 11) + (zrm M2).locals ≤ R.locals := by
    refine ⟨?_, ?_⟩
    · show M2.2.2.2.2.2.1 + 1 + 1 ≤ _
      omega
    · show 8 + (M2.2.2.2.1 + 11) + 60 * (M2.2.2.2.2.2.1 + 1) ≤ _
      omega
  have hfit : cells + M2.2.2.2.2.2.2.1 ≤ R.cells ∧ slots + M2.2.2.2.2.2.2.2 ≤ R.slots := ⟨Nat.le_trans hcs.1 w6.2.2.1, Nat.le_trans hcs.2 w6.2.2.2⟩
  have hAA := hR.zA hS o1.2.2.2.2.2.2.2.2
  have hRecv : ∃ cellB : Cell, H[b]? = some cellB ∧ cellB.vm.isStatics = false ∧ s.vm.findClass y.cls = some cellB.cls := by
    obtain ⟨z1, ws, hP, hD, m1, m2⟩ := id hR
    obtain ⟨k0, hk0⟩ := m1 b _ hb1
    exact va_recv o1.2.2.2.2.2.2.2.1.1 hP hci hk0
  have hPre : ∀ U : State, U.heap = H → s.WarmedH U.vm → zPc D ((.ref b :: av)) h ((.ref b :: av)).toArray U := fun U hU hW => ⟨rfl, by rw [hU]; exact hR.narrow, zK.warm hW hAA (fun a q1 q2 => by rw [hU]; exact hS.2.1 a q1 q2) o1.2.2.2.2.2.2.2.1⟩
  have hst' : (F0 m pc ls (av.reverse ++ .ref b :: st)).stack = av.reverse ++ .ref b :: st := rfl
  have hrun := va_runV (e := e) (locs := locs) (below := below) (meth := meth) (g := F0 m pc ls (av.reverse ++ .ref b :: st)) (Ts := zTb) (C := y.cls) (b := b) (As := av) (rest := st) ⟨o1.1, o1.2.1, o1.2.2.1, o1.2.2.2.1, w5⟩ hM' ⟨callB_of (ws' := zTb) n w5c hG rfl rfl rfl (w5 _ u2) (w5 _ hl) u3 hRo, w5 _ hsx, w5 _ hse⟩ ⟨zPc.blind, hRecv, hPre⟩ rfl hn hv.1 hst' (lv_room hrm) hd hfit
  intro T hT X
  obtain ⟨v0, st₀, t, T', L, h0, X', hL, e1, e2, ⟨⟨hv0, hRt, hzt⟩, hFz, hFk⟩, stp⟩ := hrun T hT X
  cases hv0
  rw [h0] at hFz hFk
  have hS' : va_S A s.heap T'.heap (locs ++ L) := ⟨Nat.le_trans hS.1 (by rw [e1]; exact hFz), fun q q1 q2 => by rw [e1, hFk q (Nat.lt_of_lt_of_le q1 hS.1) (fun z => q2 (hAA q z))]; exact hS.2.1 q q1 q2, fun q hq => by
    rcases List.mem_append.mp hq with hh | hh
    · exact hS.2.2 q hh
    · exact hAA _ (hL q hh)⟩
  have hR' : zRel D A h1 T'.heap := by rw [e1]; exact hRt.weaken hAA
  obtain ⟨t2, a1, b1⟩ := kk x h1 o1 o2 v h' hr (by rw [hzt, hz]; omega) T'.heap (locs ++ L) ls hR' hS' hv T' rfl X'
  exact ⟨t2, stp t2 a1, b1⟩
theorem z_callV_J {y : MethodName} {M2 : zM} {n idx : Nat} {b : Nat} {K : Int64 → zH → zR} (av : List Value) {st0 : List Value} (hM : ∀ (l : Launch) (D : zD), l = Y.1.2.1 → D = Y.2.1 → zMet l D y M2 (.ref b :: av) h r) (hu : zCal y M2 n) (hl : Cond.methodLink M.2.1 idx y ∈ zTb) (hsx : Cond.instanceMethod y ∈ zTb) (hse : Cond.selects y.cls y y ∈ zTb) {ci : Nat} {T : u_T} {N : Nat} (hci : vwCl[ci]? = some (y.cls, T, N)) (hn : av.length = n) (hst0 : st0 = av.reverse ++ .ref b :: st) (hrm : (st.map fun v => v.category).sum ≤ 8) (hlev : M2.2.2.2.2.2.1 + 1 ≤ M.2.2.2.2.2.1) (hcs : cells + M2.2.2.2.2.2.2.1 ≤ M.2.2.2.2.2.2.1 ∧ slots + M2.2.2.2.2.2.2.2 ≤ M.2.2.2.2.2.2.2) (hd : decode M.1 pc = .ok (.invokevirtual idx, 3)) (kk : ∀ x h1, Z Y M (cells + M2.2.2.2.2.2.2.1) (slots + M2.2.2.2.2.2.2.2) (pc + 3) lv (.long x :: st) h1 (K x h1)) : Z Y M cells slots pc lv st0 h (zoc h b ci (zcJ r K)) := by
  obtain ⟨⟨p, l, e, R, s, m, args, below, meth, c⟩, D, A, Q⟩ := Y
  intro o1 o2 v h' hr hz H locs ls hR hS hv
  obtain ⟨fsb, hb1, hr⟩ := zgO_some hr
  obtain ⟨x, h1, hr0, hr⟩ := zcJ_some hr
  subst hst0
  have hM' := hM l D rfl rfl _ h1 hr0
  obtain ⟨u1, u2, u3, u4⟩ := hu
  have w5 := o1.2.2.2.2.2.1
  have w6 := o1.2.2.2.2.2.2.1
  have w5c := w5
  have hG := zcode_nil u1
  have hRo : (zrm M2).frames + 1 ≤ R.frames ∧ 8 + (M2.2.2.2.1 + 11) + (zrm M2).locals ≤ R.locals := by
    refine ⟨?_, ?_⟩
    · show M2.2.2.2.2.2.1 + 1 + 1 ≤ _
      omega
    · show 8 + (M2.2.2.2.1 + 11) + 60 * (M2.2.2.2.2.2.1 + 1) ≤ _
      omega
  have hfit : cells + M2.2.2.2.2.2.2.1 ≤ R.cells ∧ slots + M2.2.2.2.2.2.2.2 ≤ R.slots := ⟨Nat.le_trans hcs.1 w6.2.2.1, Nat.le_trans hcs.2 w6.2.2.2⟩
  have hAA := hR.zA hS o1.2.2.2.2.2.2.2.2
  have hRecv : ∃ cellB : Cell, H[b]? = some cellB ∧ cellB.vm.isStatics = false ∧ s.vm.findClass y.cls = some cellB.cls := by
    obtain ⟨z1, ws, hP, hD, m1, m2⟩ := id hR
    obtain ⟨k0, hk0⟩ := m1 b _ hb1
    exact va_recv o1.2.2.2.2.2.2.2.1.1 hP hci hk0
  have hPre : ∀ U : State, U.heap = H → s.WarmedH U.vm → zPc D ((.ref b :: av)) h ((.ref b :: av)).toArray U := fun U hU hW => ⟨rfl, by rw [hU]; exact hR.narrow, zK.warm hW hAA (fun a q1 q2 => by rw [hU]; exact hS.2.1 a q1 q2) o1.2.2.2.2.2.2.2.1⟩
  have hst' : (F0 m pc ls (av.reverse ++ .ref b :: st)).stack = av.reverse ++ .ref b :: st := rfl
  have hrun := va_runV (e := e) (locs := locs) (below := below) (meth := meth) (g := F0 m pc ls (av.reverse ++ .ref b :: st)) (Ts := zTb) (C := y.cls) (b := b) (As := av) (rest := st) ⟨o1.1, o1.2.1, o1.2.2.1, o1.2.2.2.1, w5⟩ hM' ⟨callB_of (ws' := zTb) n w5c hG rfl rfl rfl (w5 _ u2) (w5 _ hl) u3 hRo, w5 _ hsx, w5 _ hse⟩ ⟨zPc.blind, hRecv, hPre⟩ rfl hn hv.1 hst' (lv_room hrm) hd hfit
  intro T hT X
  obtain ⟨v0, st₀, t, T', L, h0, X', hL, e1, e2, ⟨⟨hv0, hRt, hzt⟩, hFz, hFk⟩, stp⟩ := hrun T hT X
  cases hv0
  rw [h0] at hFz hFk
  have hS' : va_S A s.heap T'.heap (locs ++ L) := ⟨Nat.le_trans hS.1 (by rw [e1]; exact hFz), fun q q1 q2 => by rw [e1, hFk q (Nat.lt_of_lt_of_le q1 hS.1) (fun z => q2 (hAA q z))]; exact hS.2.1 q q1 q2, fun q hq => by
    rcases List.mem_append.mp hq with hh | hh
    · exact hS.2.2 q hh
    · exact hAA _ (hL q hh)⟩
  have hR' : zRel D A h1 T'.heap := by rw [e1]; exact hRt.weaken hAA
  obtain ⟨t2, a1, b1⟩ := kk x h1 o1 o2 v h' hr (by rw [hzt, hz]; omega) T'.heap (locs ++ L) ls hR' hS' hv T' rfl X'
  exact ⟨t2, stp t2 a1, b1⟩
theorem z_callV_V {y : MethodName} {M2 : zM} {n idx : Nat} {b : Nat} {K : zH → zR} (av : List Value) {st0 : List Value} (hM : ∀ (l : Launch) (D : zD), l = Y.1.2.1 → D = Y.2.1 → zMet l D y M2 (.ref b :: av) h r) (hu : zCal y M2 n) (hl : Cond.methodLink M.2.1 idx y ∈ zTb) (hsx : Cond.instanceMethod y ∈ zTb) (hse : Cond.selects y.cls y y ∈ zTb) {ci : Nat} {T : u_T} {N : Nat} (hci : vwCl[ci]? = some (y.cls, T, N)) (hn : av.length = n) (hst0 : st0 = av.reverse ++ .ref b :: st) (hrm : (st.map fun v => v.category).sum ≤ 8) (hlev : M2.2.2.2.2.2.1 + 1 ≤ M.2.2.2.2.2.1) (hcs : cells + M2.2.2.2.2.2.2.1 ≤ M.2.2.2.2.2.2.1 ∧ slots + M2.2.2.2.2.2.2.2 ≤ M.2.2.2.2.2.2.2) (hd : decode M.1 pc = .ok (.invokevirtual idx, 3)) (kk : ∀ h1, Z Y M (cells + M2.2.2.2.2.2.2.1) (slots + M2.2.2.2.2.2.2.2) (pc + 3) lv (st) h1 (K h1)) : Z Y M cells slots pc lv st0 h (zoc h b ci (zcV r K)) := by
  obtain ⟨⟨p, l, e, R, s, m, args, below, meth, c⟩, D, A, Q⟩ := Y
  intro o1 o2 v h' hr hz H locs ls hR hS hv
  obtain ⟨fsb, hb1, hr⟩ := zgO_some hr
  obtain ⟨h1, hr0, hr⟩ := zcV_some hr
  subst hst0
  have hM' := hM l D rfl rfl _ h1 hr0
  obtain ⟨u1, u2, u3, u4⟩ := hu
  have w5 := o1.2.2.2.2.2.1
  have w6 := o1.2.2.2.2.2.2.1
  have w5c := w5
  have hG := zcode_nil u1
  have hRo : (zrm M2).frames + 1 ≤ R.frames ∧ 8 + (M2.2.2.2.1 + 11) + (zrm M2).locals ≤ R.locals := by
    refine ⟨?_, ?_⟩
    · show M2.2.2.2.2.2.1 + 1 + 1 ≤ _
      omega
    · show 8 + (M2.2.2.2.1 + 11) + 60 * (M2.2.2.2.2.2.1 + 1) ≤ _
      omega
  have hfit : cells + M2.2.2.2.2.2.2.1 ≤ R.cells ∧ slots + M2.2.2.2.2.2.2.2 ≤ R.slots := ⟨Nat.le_trans hcs.1 w6.2.2.1, Nat.le_trans hcs.2 w6.2.2.2⟩
  have hAA := hR.zA hS o1.2.2.2.2.2.2.2.2
  have hRecv : ∃ cellB : Cell, H[b]? = some cellB ∧ cellB.vm.isStatics = false ∧ s.vm.findClass y.cls = some cellB.cls := by
    obtain ⟨z1, ws, hP, hD, m1, m2⟩ := id hR
    obtain ⟨k0, hk0⟩ := m1 b _ hb1
    exact va_recv o1.2.2.2.2.2.2.2.1.1 hP hci hk0
  have hPre : ∀ U : State, U.heap = H → s.WarmedH U.vm → zPc D ((.ref b :: av)) h ((.ref b :: av)).toArray U := fun U hU hW => ⟨rfl, by rw [hU]; exact hR.narrow, zK.warm hW hAA (fun a q1 q2 => by rw [hU]; exact hS.2.1 a q1 q2) o1.2.2.2.2.2.2.2.1⟩
  have hst' : (F0 m pc ls (av.reverse ++ .ref b :: st)).stack = av.reverse ++ .ref b :: st := rfl
  have hrun := va_runV (e := e) (locs := locs) (below := below) (meth := meth) (g := F0 m pc ls (av.reverse ++ .ref b :: st)) (Ts := zTb) (C := y.cls) (b := b) (As := av) (rest := st) ⟨o1.1, o1.2.1, o1.2.2.1, o1.2.2.2.1, w5⟩ hM' ⟨callB_of (ws' := zTb) n w5c hG rfl rfl rfl (w5 _ u2) (w5 _ hl) u3 hRo, w5 _ hsx, w5 _ hse⟩ ⟨zPc.blind, hRecv, hPre⟩ rfl hn hv.1 hst' (lv_room hrm) hd hfit
  intro T hT X
  obtain ⟨v0, st₀, t, T', L, h0, X', hL, e1, e2, ⟨⟨hv0, hRt, hzt⟩, hFz, hFk⟩, stp⟩ := hrun T hT X
  cases hv0
  rw [h0] at hFz hFk
  have hS' : va_S A s.heap T'.heap (locs ++ L) := ⟨Nat.le_trans hS.1 (by rw [e1]; exact hFz), fun q q1 q2 => by rw [e1, hFk q (Nat.lt_of_lt_of_le q1 hS.1) (fun z => q2 (hAA q z))]; exact hS.2.1 q q1 q2, fun q hq => by
    rcases List.mem_append.mp hq with hh | hh
    · exact hS.2.2 q hh
    · exact hAA _ (hL q hh)⟩
  have hR' : zRel D A h1 T'.heap := by rw [e1]; exact hRt.weaken hAA
  obtain ⟨t2, a1, b1⟩ := kk h1 o1 o2 v h' hr (by rw [hzt, hz]; omega) T'.heap (locs ++ L) ls hR' hS' hv T' rfl X'
  exact ⟨t2, stp t2 a1, b1⟩
theorem z_callI_V {y : MethodName} {M2 : zM} {n idx : Nat} {b : Nat} {K : zH → zR} (av : List Value) {st0 : List Value} (hM : ∀ (l : Launch) (D : zD), l = Y.1.2.1 → D = Y.2.1 → zMet l D y M2 (.ref b :: av) h r) (hu : zCal y M2 n) (hl : Cond.methodLink M.2.1 idx y ∈ zTb) (hsx : Cond.instanceMethod y ∈ zTb) (hyi : y.name = "<init>") (hret : M2.2.2.2.2.1 = none) (hn : av.length = n) (hst0 : st0 = av.reverse ++ .ref b :: st) (hrm : (st.map fun v => v.category).sum ≤ 8) (hlev : M2.2.2.2.2.2.1 + 1 ≤ M.2.2.2.2.2.1) (hcs : cells + M2.2.2.2.2.2.2.1 ≤ M.2.2.2.2.2.2.1 ∧ slots + M2.2.2.2.2.2.2.2 ≤ M.2.2.2.2.2.2.2) (hd : decode M.1 pc = .ok (.invokespecial idx, 3)) (kk : ∀ h1, Z Y M (cells + M2.2.2.2.2.2.2.1) (slots + M2.2.2.2.2.2.2.2) (pc + 3) lv (st) h1 (K h1)) : Z Y M cells slots pc lv st0 h (zcV r K) := by
  obtain ⟨⟨p, l, e, R, s, m, args, below, meth, c⟩, D, A, Q⟩ := Y
  intro o1 o2 v h' hr hz H locs ls hR hS hv
  obtain ⟨h1, hr0, hr⟩ := zcV_some hr
  subst hst0
  have hM' := hM l D rfl rfl _ h1 hr0
  obtain ⟨u1, u2, u3, u4⟩ := hu
  rw [hret] at u1 hM'
  have w5 := o1.2.2.2.2.2.1
  have w6 := o1.2.2.2.2.2.2.1
  have w5c := w5
  have hG := zcode_nil u1
  have hRo : (zrm M2).frames + 1 ≤ R.frames ∧ 8 + (M2.2.2.2.1 + 11) + (zrm M2).locals ≤ R.locals := by
    refine ⟨?_, ?_⟩
    · show M2.2.2.2.2.2.1 + 1 + 1 ≤ _
      omega
    · show 8 + (M2.2.2.2.1 + 11) + 60 * (M2.2.2.2.2.2.1 + 1) ≤ _
      omega
  have hfit : cells + M2.2.2.2.2.2.2.1 ≤ R.cells ∧ slots + M2.2.2.2.2.2.2.2 ≤ R.slots := ⟨Nat.le_trans hcs.1 w6.2.2.1, Nat.le_trans hcs.2 w6.2.2.2⟩
  have hAA := hR.zA hS o1.2.2.2.2.2.2.2.2
  have hPre : ∀ U : State, U.heap = H → s.WarmedH U.vm → zPc D ((.ref b :: av)) h ((.ref b :: av)).toArray U := fun U hU hW => ⟨rfl, by rw [hU]; exact hR.narrow, zK.warm hW hAA (fun a q1 q2 => by rw [hU]; exact hS.2.1 a q1 q2) o1.2.2.2.2.2.2.2.1⟩
  have hst' : (F0 m pc ls (av.reverse ++ .ref b :: st)).stack = av.reverse ++ .ref b :: st := rfl
  have hrun := va_runI (e := e) (locs := locs) (below := below) (meth := meth) (g := F0 m pc ls (av.reverse ++ .ref b :: st)) (Ts := zTb) (b := b) (As := av) (rest := st) ⟨o1.1, o1.2.1, o1.2.2.1, o1.2.2.2.1, w5⟩ hM' ⟨callB_of (ws' := zTb) n w5c hG rfl rfl rfl (w5 _ u2) (w5 _ hl) u3 hRo, hyi, w5 _ hsx⟩ ⟨zPc.blind, hPre⟩ rfl hn hv.1 hst' (lv_room hrm) hd hfit
  intro T hT X
  obtain ⟨v0, st₀, t, T', L, h0, X', hL, e1, e2, ⟨⟨hv0, hRt, hzt⟩, hFz, hFk⟩, stp⟩ := hrun T hT X
  cases hv0
  rw [h0] at hFz hFk
  have hS' : va_S A s.heap T'.heap (locs ++ L) := ⟨Nat.le_trans hS.1 (by rw [e1]; exact hFz), fun q q1 q2 => by rw [e1, hFk q (Nat.lt_of_lt_of_le q1 hS.1) (fun z => q2 (hAA q z))]; exact hS.2.1 q q1 q2, fun q hq => by
    rcases List.mem_append.mp hq with hh | hh
    · exact hS.2.2 q hh
    · exact hAA _ (hL q hh)⟩
  have hR' : zRel D A h1 T'.heap := by rw [e1]; exact hRt.weaken hAA
  obtain ⟨t2, a1, b1⟩ := kk h1 o1 o2 v h' hr (by rw [hzt, hz]; omega) T'.heap (locs ++ L) ls hR' hS' hv T' rfl X'
  exact ⟨t2, stp t2 a1, b1⟩
theorem z_callIN_V {y : MethodName} {M2 : zM} {n idx : Nat} {b : Nat} {K : zH → zR} (av : List Value) {st0 : List Value} (hM : ∀ (l : Launch) (D : zD), l = Y.1.2.1 → D = Y.2.1 → zMet l D y M2 (.ref b :: av) h r) (hu : zCal y M2 n) (hl : (M.2.1, idx, y) ∈ zNest) (hsx : Cond.instanceMethod y ∈ zTb) (hyi : y.name = "<init>") (hret : M2.2.2.2.2.1 = none) (hn : av.length = n) (hst0 : st0 = av.reverse ++ .ref b :: st) (hrm : (st.map fun v => v.category).sum ≤ 8) (hlev : M2.2.2.2.2.2.1 + 1 ≤ M.2.2.2.2.2.1) (hcs : cells + M2.2.2.2.2.2.2.1 ≤ M.2.2.2.2.2.2.1 ∧ slots + M2.2.2.2.2.2.2.2 ≤ M.2.2.2.2.2.2.2) (hd : decode M.1 pc = .ok (.invokespecial idx, 3)) (kk : ∀ h1, Z Y M (cells + M2.2.2.2.2.2.2.1) (slots + M2.2.2.2.2.2.2.2) (pc + 3) lv (st) h1 (K h1)) : Z Y M cells slots pc lv st0 h (zcV r K) := by
  obtain ⟨⟨p, l, e, R, s, m, args, below, meth, c⟩, D, A, Q⟩ := Y
  intro o1 o2 v h' hr hz H locs ls hR hS hv
  obtain ⟨h1, hr0, hr⟩ := zcV_some hr
  subst hst0
  have hM' := hM l D rfl rfl _ h1 hr0
  obtain ⟨u1, u2, u3, u4⟩ := hu
  rw [hret] at u1 hM'
  have w5 := o1.2.2.2.2.2.1
  have w6 := o1.2.2.2.2.2.2.1
  have w5c := w5
  have hG := zcode_nil u1
  have hRo : (zrm M2).frames + 1 ≤ R.frames ∧ 8 + (M2.2.2.2.1 + 11) + (zrm M2).locals ≤ R.locals := by
    refine ⟨?_, ?_⟩
    · show M2.2.2.2.2.2.1 + 1 + 1 ≤ _
      omega
    · show 8 + (M2.2.2.2.1 + 11) + 60 * (M2.2.2.2.2.2.1 + 1) ≤ _
      omega
  have hfit : cells + M2.2.2.2.2.2.2.1 ≤ R.cells ∧ slots + M2.2.2.2.2.2.2.2 ≤ R.slots := ⟨Nat.le_trans hcs.1 w6.2.2.1, Nat.le_trans hcs.2 w6.2.2.2⟩
  have hAA := hR.zA hS o1.2.2.2.2.2.2.2.2
  have hPre : ∀ U : State, U.heap = H → s.WarmedH U.vm → zPc D ((.ref b :: av)) h ((.ref b :: av)).toArray U := fun U hU hW => ⟨rfl, by rw [hU]; exact hR.narrow, zK.warm hW hAA (fun a q1 q2 => by rw [hU]; exact hS.2.1 a q1 q2) o1.2.2.2.2.2.2.2.1⟩
  have hst' : (F0 m pc ls (av.reverse ++ .ref b :: st)).stack = av.reverse ++ .ref b :: st := rfl
  have hrun := va_runIN (e := e) (locs := locs) (below := below) (meth := meth) (g := F0 m pc ls (av.reverse ++ .ref b :: st)) (Ts := zTb) (host := "PaperDolls") (b := b) (As := av) (rest := st) ⟨o1.1, o1.2.1, o1.2.2.1, o1.2.2.2.1, w5⟩ hM' ⟨va_cnB (ws' := zTb) n w5c hG rfl rfl rfl (o1.2.2.2.2.2.2.2.1.2.1 _ hl) (w5 _ u2) u3 hRo, hyi, w5 _ hsx⟩ ⟨zPc.blind, hPre⟩ rfl hn hv.1 hst' (lv_room hrm) hd hfit
  intro T hT X
  obtain ⟨v0, st₀, t, T', L, h0, X', hL, e1, e2, ⟨⟨hv0, hRt, hzt⟩, hFz, hFk⟩, stp⟩ := hrun T hT X
  cases hv0
  rw [h0] at hFz hFk
  have hS' : va_S A s.heap T'.heap (locs ++ L) := ⟨Nat.le_trans hS.1 (by rw [e1]; exact hFz), fun q q1 q2 => by rw [e1, hFk q (Nat.lt_of_lt_of_le q1 hS.1) (fun z => q2 (hAA q z))]; exact hS.2.1 q q1 q2, fun q hq => by
    rcases List.mem_append.mp hq with hh | hh
    · exact hS.2.2 q hh
    · exact hAA _ (hL q hh)⟩
  have hR' : zRel D A h1 T'.heap := by rw [e1]; exact hRt.weaken hAA
  obtain ⟨t2, a1, b1⟩ := kk h1 o1 o2 v h' hr (by rw [hzt, hz]; omega) T'.heap (locs ++ L) ls hR' hS' hv T' rfl X'
  exact ⟨t2, stp t2 a1, b1⟩
theorem z_callSN_I {y : MethodName} {M2 : zM} {n idx : Nat} {K : Int32 → zH → zR} (av : List Value) {st0 : List Value} (hM : ∀ (l : Launch) (D : zD), l = Y.1.2.1 → D = Y.2.1 → zMet l D y M2 av h r) (hu : zCal y M2 n) (hl : (M.2.1, idx, y) ∈ zNest) (hsx : Cond.static y ∈ zTb) (hn : av.length = n) (hst0 : st0 = av.reverse ++ st) (hrm : (st.map fun v => v.category).sum ≤ 8) (hlev : M2.2.2.2.2.2.1 + 1 ≤ M.2.2.2.2.2.1) (hcs : cells + M2.2.2.2.2.2.2.1 ≤ M.2.2.2.2.2.2.1 ∧ slots + M2.2.2.2.2.2.2.2 ≤ M.2.2.2.2.2.2.2) (hd : decode M.1 pc = .ok (.invokestatic idx, 3)) (kk : ∀ x h1, Z Y M (cells + M2.2.2.2.2.2.2.1) (slots + M2.2.2.2.2.2.2.2) (pc + 3) lv (.int x :: st) h1 (K x h1)) : Z Y M cells slots pc lv st0 h (zcI r K) := by
  obtain ⟨⟨p, l, e, R, s, m, args, below, meth, c⟩, D, A, Q⟩ := Y
  intro o1 o2 v h' hr hz H locs ls hR hS hv
  obtain ⟨x, h1, hr0, hr⟩ := zcI_some hr
  subst hst0
  have hM' := hM l D rfl rfl _ h1 hr0
  obtain ⟨u1, u2, u3, u4⟩ := hu
  have w5 := o1.2.2.2.2.2.1
  have w6 := o1.2.2.2.2.2.2.1
  have w5c := w5
  have hG := zcode_nil u1
  have hRo : (zrm M2).frames + 1 ≤ R.frames ∧ 8 + (M2.2.2.2.1 + 11) + (zrm M2).locals ≤ R.locals := by
    refine ⟨?_, ?_⟩
    · show M2.2.2.2.2.2.1 + 1 + 1 ≤ _
      omega
    · show 8 + (M2.2.2.2.1 + 11) + 60 * (M2.2.2.2.2.2.1 + 1) ≤ _
      omega
  have hfit : cells + M2.2.2.2.2.2.2.1 ≤ R.cells ∧ slots + M2.2.2.2.2.2.2.2 ≤ R.slots := ⟨Nat.le_trans hcs.1 w6.2.2.1, Nat.le_trans hcs.2 w6.2.2.2⟩
  have hAA := hR.zA hS o1.2.2.2.2.2.2.2.2
  have hPre : ∀ U : State, U.heap = H → s.WarmedH U.vm → zPc D (av) h (av).toArray U := fun U hU hW => ⟨rfl, by rw [hU]; exact hR.narrow, zK.warm hW hAA (fun a q1 q2 => by rw [hU]; exact hS.2.1 a q1 q2) o1.2.2.2.2.2.2.2.1⟩
  have hst' : (F0 m pc ls (av.reverse ++ st)).stack = av.reverse ++ st := rfl
  have hrun := va_runSN (e := e) (locs := locs) (below := below) (meth := meth) (g := F0 m pc ls (av.reverse ++ st)) (Ts := zTb) (host := "PaperDolls") (As := av) (rest := st) ⟨o1.1, o1.2.1, o1.2.2.1, o1.2.2.2.1, w5⟩ hM' ⟨va_cnB (ws' := zTb) n w5c hG rfl rfl rfl (o1.2.2.2.2.2.2.2.1.2.1 _ hl) (w5 _ u2) u3 hRo, w5 _ hsx, trivial⟩ ⟨zPc.blind, hPre⟩ rfl hn hv.1 hst' (lv_room hrm) hd hfit
  intro T hT X
  obtain ⟨v0, st₀, t, T', L, h0, X', hL, e1, e2, ⟨⟨hv0, hRt, hzt⟩, hFz, hFk⟩, stp⟩ := hrun T hT X
  cases hv0
  rw [h0] at hFz hFk
  have hS' : va_S A s.heap T'.heap (locs ++ L) := ⟨Nat.le_trans hS.1 (by rw [e1]; exact hFz), fun q q1 q2 => by rw [e1, hFk q (Nat.lt_of_lt_of_le q1 hS.1) (fun z => q2 (hAA q z))]; exact hS.2.1 q q1 q2, fun q hq => by
    rcases List.mem_append.mp hq with hh | hh
    · exact hS.2.2 q hh
    · exact hAA _ (hL q hh)⟩
  have hR' : zRel D A h1 T'.heap := by rw [e1]; exact hRt.weaken hAA
  obtain ⟨t2, a1, b1⟩ := kk x h1 o1 o2 v h' hr (by rw [hzt, hz]; omega) T'.heap (locs ++ L) ls hR' hS' hv T' rfl X'
  exact ⟨t2, stp t2 a1, b1⟩
end ZC
theorem zMet.of {l : Launch} {D : zD} {y : MethodName} {M : zM} {av : List Value} {h : zH} {r : zR} (hy : plainName y.cls = true) (hn : M.2.1 = y.cls ∧ M.2.2.1 = y.name) (hav : (lg_sl av).length ≤ M.2.2.2.1) (k : ∀ Y : zY, l = Y.1.2.1 → D = Y.2.1 → Z Y M 0 0 0 (lv_args 0 av) [] h r) : zMet l D y M av h r := by
  intro v h' hr
  refine Met.ofW (cc := M.1) (maxL := M.2.2.2.1) (ret := M.2.2.2.2.1) hy rfl ?_
  intro p e s m args below meth c s₁ B hml hv
  obtain ⟨rfl, hR, hK⟩ := hv
  have hts := atoms_spec (ws := .code y M.1 M.2.2.2.1 M.2.2.2.2.1 :: zTb) B.pre
  have hlocks := B.notSynchronized
  have hA : ∀ q, s.heap.size ≤ q → zA h q := fun q hq => Or.inr (by rw [← hR.1]; exact hq)
  have o1 : zOk p (zrm M) s m av.toArray meth c D (zA h) M := ⟨B.exec, B.bytes, hml, by rw [hn.1]; exact findClass_of_methodNamed B.named, by rw [hn.2]; exact (name_of_methodNamed B.named B.method).1, fun w hw => hts w (List.mem_cons_of_mem _ hw), ⟨Nat.le_refl _, Nat.le_refl _, Nat.le_refl _, Nat.le_refl _⟩, hK, hA⟩
  have hq : ∀ (v : Option Value) (h1 : zH) (H : Heap) (locs : List Loc), h1.1 = s.heap.size + M.2.2.2.2.2.2.1 → zRel D (zA h) h1 H → va_S (zA h) s.heap H locs → ∀ t : State, t.heap = H → s.WarmedH t.vm → zQc D h M.2.2.2.2.2.2.1 v h1 av.toArray s (.returned v) t := fun v h1 H locs hz hR1 hS t ht hW => ⟨⟨rfl, by rw [ht]; exact hR1, by rw [hz, hR.1]⟩, hS.F ht⟩
  have o2 : zRets p l e (zrm M) s m av.toArray below meth c D (zA h) (fun v h' => MQ below (zQc D h M.2.2.2.2.2.2.1 v h') av.toArray s M.2.2.2.2.2.2.1 M.2.2.2.2.2.2.2 (zA h)) M := by
    refine ⟨?_, ?_, ?_⟩
    · intro ty v h1 H locs ls pc hret hnar hd hz hR1 hS
      exact W.zret B.exec B.bytes (B.returns.trans hret) hnar (hq _ h1 H locs hz hR1 hS) hS.2.2 hd
    · intro v h1 H locs ls pc hret hd hz hR1 hS
      exact W.lret B.exec B.bytes (B.returns.trans hret) (hq _ h1 H locs hz hR1 hS) hS.2.2 hd
    · intro h1 H locs ls pc hret hd hz hR1 hS
      exact W.vret B.exec B.bytes (B.returns.trans hret) (hq _ h1 H locs hz hR1 hS) hS.2.2 hd
  have hl := lv_entry av (n := M.2.2.2.1) hav
  rw [lg_entry_eq]
  exact k ((p, l, e, zrm M, s, m, av.toArray, below, meth, c), D, zA h, fun v h' => MQ below (zQc D h M.2.2.2.2.2.2.1 v h') av.toArray s M.2.2.2.2.2.2.1 M.2.2.2.2.2.2.2 (zA h)) rfl rfl o1 o2 v h' hr (by rw [hR.1]; rfl) s.heap [] _ hR va_S.rf hl
end
