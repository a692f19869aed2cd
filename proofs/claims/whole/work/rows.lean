section
-- ===== PART A: goes FIRST, ahead of the names: the tables' words, and 'selects' of the private methods out of them =====
/-- a private method of a class that the tables say can be made, by its rows of tables_1 -/
def lw_okq (q : MethodName × Nat) : Prop := (q.1.cls ≠ "java/lang/invoke/MethodHandle" ∧ q.1.cls ≠ "java/lang/invoke/VarHandle") ∧ Cond.instantiable q.1.cls q.2 ∈ tables_1 ∧ Cond.privateMethod q.1 ∈ tables_1 ∧ Cond.instanceMethod q.1 ∈ tables_1
theorem lw_p0 : lw_okq (⟨"PaperDolls", "refuse", "(I)I"⟩, 15) := ⟨⟨by decide +kernel, by decide +kernel⟩, List.mem_of_getElem? (i := 20) (by decide +kernel), List.mem_of_getElem? (i := 235) (by decide +kernel), List.mem_of_getElem? (i := 236) (by decide +kernel)⟩
theorem lw_p1 : lw_okq (⟨"PaperDolls$Reader", "advance", "()V"⟩, 6) := ⟨⟨by decide +kernel, by decide +kernel⟩, List.mem_of_getElem? (i := 124) (by decide +kernel), List.mem_of_getElem? (i := 279) (by decide +kernel), List.mem_of_getElem? (i := 280) (by decide +kernel)⟩
theorem lw_p2 : lw_okq (⟨"PaperDolls$Reader", "advanceOverWord", "()V"⟩, 6) := ⟨⟨by decide +kernel, by decide +kernel⟩, List.mem_of_getElem? (i := 124) (by decide +kernel), List.mem_of_getElem? (i := 284) (by decide +kernel), List.mem_of_getElem? (i := 285) (by decide +kernel)⟩
theorem lw_p3 : lw_okq (⟨"PaperDolls$Reader", "advanceOverNumber", "()V"⟩, 6) := ⟨⟨by decide +kernel, by decide +kernel⟩, List.mem_of_getElem? (i := 124) (by decide +kernel), List.mem_of_getElem? (i := 288) (by decide +kernel), List.mem_of_getElem? (i := 289) (by decide +kernel)⟩
theorem lw_p4 : lw_okq (⟨"PaperDolls$Reader", "readItem", "(LPaperDolls$Doll;Z)Z"⟩, 6) := ⟨⟨by decide +kernel, by decide +kernel⟩, List.mem_of_getElem? (i := 124) (by decide +kernel), List.mem_of_getElem? (i := 292) (by decide +kernel), List.mem_of_getElem? (i := 293) (by decide +kernel)⟩
theorem lw_p5 : lw_okq (⟨"PaperDolls$Reader", "isWord", "(Ljava/lang/String;)Z"⟩, 6) := ⟨⟨by decide +kernel, by decide +kernel⟩, List.mem_of_getElem? (i := 124) (by decide +kernel), List.mem_of_getElem? (i := 297) (by decide +kernel), List.mem_of_getElem? (i := 298) (by decide +kernel)⟩
theorem lw_p6 : lw_okq (⟨"PaperDolls$Reader", "readChild", "(LPaperDolls$Doll;)Z"⟩, 6) := ⟨⟨by decide +kernel, by decide +kernel⟩, List.mem_of_getElem? (i := 124) (by decide +kernel), List.mem_of_getElem? (i := 349) (by decide +kernel), List.mem_of_getElem? (i := 350) (by decide +kernel)⟩
theorem lw_p7 : lw_okq (⟨"PaperDolls$Reader", "readNumber", "(II)Z"⟩, 6) := ⟨⟨by decide +kernel, by decide +kernel⟩, List.mem_of_getElem? (i := 124) (by decide +kernel), List.mem_of_getElem? (i := 353) (by decide +kernel), List.mem_of_getElem? (i := 354) (by decide +kernel)⟩
theorem lw_p8 : lw_okq (⟨"PaperDolls$Reader", "readPiece", "(LPaperDolls$Doll;)Z"⟩, 6) := ⟨⟨by decide +kernel, by decide +kernel⟩, List.mem_of_getElem? (i := 124) (by decide +kernel), List.mem_of_getElem? (i := 358) (by decide +kernel), List.mem_of_getElem? (i := 359) (by decide +kernel)⟩
theorem lw_p9 : lw_okq (⟨"PaperDolls$Reader", "readMove", "(LPaperDolls$Doll;I)Z"⟩, 6) := ⟨⟨by decide +kernel, by decide +kernel⟩, List.mem_of_getElem? (i := 124) (by decide +kernel), List.mem_of_getElem? (i := 364) (by decide +kernel), List.mem_of_getElem? (i := 365) (by decide +kernel)⟩
theorem lw_p10 : lw_okq (⟨"PaperDolls$Doll", "mayPut", "(LPaperDolls$Wear;I)Z"⟩, 12) := ⟨⟨by decide +kernel, by decide +kernel⟩, List.mem_of_getElem? (i := 28) (by decide +kernel), List.mem_of_getElem? (i := 376) (by decide +kernel), List.mem_of_getElem? (i := 377) (by decide +kernel)⟩
theorem lw_p11 : lw_okq (⟨"PaperDolls$Doll", "mayTake", "(LPaperDolls$Wear;I)Z"⟩, 12) := ⟨⟨by decide +kernel, by decide +kernel⟩, List.mem_of_getElem? (i := 28) (by decide +kernel), List.mem_of_getElem? (i := 390) (by decide +kernel), List.mem_of_getElem? (i := 391) (by decide +kernel)⟩
theorem lw_p12 : lw_okq (⟨"PaperDolls", "whyNoMove", "(II)I"⟩, 15) := ⟨⟨by decide +kernel, by decide +kernel⟩, List.mem_of_getElem? (i := 20) (by decide +kernel), List.mem_of_getElem? (i := 432) (by decide +kernel), List.mem_of_getElem? (i := 433) (by decide +kernel)⟩
theorem lw_p13 : lw_okq (⟨"PaperDolls$Doll", "keepPast", "()V"⟩, 12) := ⟨⟨by decide +kernel, by decide +kernel⟩, List.mem_of_getElem? (i := 28) (by decide +kernel), List.mem_of_getElem? (i := 442) (by decide +kernel), List.mem_of_getElem? (i := 443) (by decide +kernel)⟩
theorem lw_p14 : lw_okq (⟨"PaperDolls$Wardrobe", "mostApartFrom", "(III)I"⟩, 2) := ⟨⟨by decide +kernel, by decide +kernel⟩, List.mem_of_getElem? (i := 151) (by decide +kernel), List.mem_of_getElem? (i := 546) (by decide +kernel), List.mem_of_getElem? (i := 547) (by decide +kernel)⟩
theorem lw_p15 : lw_okq (⟨"PaperDolls$MoveSearch", "dresses", "(LPaperDolls$Doll;LPaperDolls$Wear;II)Z"⟩, 2) := ⟨⟨by decide +kernel, by decide +kernel⟩, List.mem_of_getElem? (i := 166) (by decide +kernel), List.mem_of_getElem? (i := 582) (by decide +kernel), List.mem_of_getElem? (i := 583) (by decide +kernel)⟩
def lw_privs_1 : List (MethodName × Nat) := [(⟨"PaperDolls", "refuse", "(I)I"⟩, 15), (⟨"PaperDolls$Reader", "advance", "()V"⟩, 6), (⟨"PaperDolls$Reader", "advanceOverWord", "()V"⟩, 6), (⟨"PaperDolls$Reader", "advanceOverNumber", "()V"⟩, 6), (⟨"PaperDolls$Reader", "readItem", "(LPaperDolls$Doll;Z)Z"⟩, 6), (⟨"PaperDolls$Reader", "isWord", "(Ljava/lang/String;)Z"⟩, 6), (⟨"PaperDolls$Reader", "readChild", "(LPaperDolls$Doll;)Z"⟩, 6), (⟨"PaperDolls$Reader", "readNumber", "(II)Z"⟩, 6), (⟨"PaperDolls$Reader", "readPiece", "(LPaperDolls$Doll;)Z"⟩, 6), (⟨"PaperDolls$Reader", "readMove", "(LPaperDolls$Doll;I)Z"⟩, 6), (⟨"PaperDolls$Doll", "mayPut", "(LPaperDolls$Wear;I)Z"⟩, 12), (⟨"PaperDolls$Doll", "mayTake", "(LPaperDolls$Wear;I)Z"⟩, 12), (⟨"PaperDolls", "whyNoMove", "(II)I"⟩, 15), (⟨"PaperDolls$Doll", "keepPast", "()V"⟩, 12), (⟨"PaperDolls$Wardrobe", "mostApartFrom", "(III)I"⟩, 2), (⟨"PaperDolls$MoveSearch", "dresses", "(LPaperDolls$Doll;LPaperDolls$Wear;II)Z"⟩, 2)]
theorem lw_r1 : ∀ q ∈ lw_privs_1, lw_okq q := List.forall_mem_cons.mpr ⟨lw_p0, List.forall_mem_cons.mpr ⟨lw_p1, List.forall_mem_cons.mpr ⟨lw_p2, List.forall_mem_cons.mpr ⟨lw_p3, List.forall_mem_cons.mpr ⟨lw_p4, List.forall_mem_cons.mpr ⟨lw_p5, List.forall_mem_cons.mpr ⟨lw_p6, List.forall_mem_cons.mpr ⟨lw_p7, List.forall_mem_cons.mpr ⟨lw_p8, List.forall_mem_cons.mpr ⟨lw_p9, List.forall_mem_cons.mpr ⟨lw_p10, List.forall_mem_cons.mpr ⟨lw_p11, List.forall_mem_cons.mpr ⟨lw_p12, List.forall_mem_cons.mpr ⟨lw_p13, List.forall_mem_cons.mpr ⟨lw_p14, List.forall_mem_cons.mpr ⟨lw_p15, fun _ h => absurd h List.not_mem_nil⟩⟩⟩⟩⟩⟩⟩⟩⟩⟩⟩⟩⟩⟩⟩⟩
theorem lw_p16 : lw_okq (⟨"PaperDolls$MoveSearch", "dressesAtLast", "(LPaperDolls$Doll;LPaperDolls$Wear;I)Z"⟩, 2) := ⟨⟨by decide +kernel, by decide +kernel⟩, List.mem_of_getElem? (i := 166) (by decide +kernel), List.mem_of_getElem? (i := 586) (by decide +kernel), List.mem_of_getElem? (i := 587) (by decide +kernel)⟩
theorem lw_p17 : lw_okq (⟨"PaperDolls", "setFraction", "(II)V"⟩, 15) := ⟨⟨by decide +kernel, by decide +kernel⟩, List.mem_of_getElem? (i := 20) (by decide +kernel), List.mem_of_getElem? (i := 686) (by decide +kernel), List.mem_of_getElem? (i := 687) (by decide +kernel)⟩
theorem lw_p18 : lw_okq (⟨"PaperDolls", "countOf", "(I)I"⟩, 15) := ⟨⟨by decide +kernel, by decide +kernel⟩, List.mem_of_getElem? (i := 20) (by decide +kernel), List.mem_of_getElem? (i := 726) (by decide +kernel), List.mem_of_getElem? (i := 727) (by decide +kernel)⟩
theorem lw_p19 : lw_okq (⟨"PaperDollsModel", "bad", "()I"⟩, 19) := ⟨⟨by decide +kernel, by decide +kernel⟩, List.mem_of_getElem? (i := 745) (by decide +kernel), List.mem_of_getElem? (i := 817) (by decide +kernel), List.mem_of_getElem? (i := 818) (by decide +kernel)⟩
theorem lw_p20 : lw_okq (⟨"PaperDollsModel", "begin", "(I)V"⟩, 19) := ⟨⟨by decide +kernel, by decide +kernel⟩, List.mem_of_getElem? (i := 745) (by decide +kernel), List.mem_of_getElem? (i := 821) (by decide +kernel), List.mem_of_getElem? (i := 822) (by decide +kernel)⟩
theorem lw_p21 : lw_okq (⟨"PaperDollsModel", "take", "()V"⟩, 19) := ⟨⟨by decide +kernel, by decide +kernel⟩, List.mem_of_getElem? (i := 745) (by decide +kernel), List.mem_of_getElem? (i := 825) (by decide +kernel), List.mem_of_getElem? (i := 826) (by decide +kernel)⟩
theorem lw_p22 : lw_okq (⟨"PaperDollsModel", "full", "()I"⟩, 19) := ⟨⟨by decide +kernel, by decide +kernel⟩, List.mem_of_getElem? (i := 745) (by decide +kernel), List.mem_of_getElem? (i := 839) (by decide +kernel), List.mem_of_getElem? (i := 840) (by decide +kernel)⟩
theorem lw_p23 : lw_okq (⟨"PaperDollsModel", "aside", "()V"⟩, 19) := ⟨⟨by decide +kernel, by decide +kernel⟩, List.mem_of_getElem? (i := 745) (by decide +kernel), List.mem_of_getElem? (i := 843) (by decide +kernel), List.mem_of_getElem? (i := 844) (by decide +kernel)⟩
theorem lw_p24 : lw_okq (⟨"PaperDollsModel", "addPiece", "(III)V"⟩, 19) := ⟨⟨by decide +kernel, by decide +kernel⟩, List.mem_of_getElem? (i := 745) (by decide +kernel), List.mem_of_getElem? (i := 847) (by decide +kernel), List.mem_of_getElem? (i := 848) (by decide +kernel)⟩
theorem lw_p25 : lw_okq (⟨"PaperDollsModel", "next", "()V"⟩, 19) := ⟨⟨by decide +kernel, by decide +kernel⟩, List.mem_of_getElem? (i := 745) (by decide +kernel), List.mem_of_getElem? (i := 864) (by decide +kernel), List.mem_of_getElem? (i := 865) (by decide +kernel)⟩
theorem lw_p26 : lw_okq (⟨"PaperDollsModel", "item", "(Z)Z"⟩, 19) := ⟨⟨by decide +kernel, by decide +kernel⟩, List.mem_of_getElem? (i := 745) (by decide +kernel), List.mem_of_getElem? (i := 878) (by decide +kernel), List.mem_of_getElem? (i := 879) (by decide +kernel)⟩
theorem lw_p27 : lw_okq (⟨"PaperDollsModel", "isNumber", "(II)Z"⟩, 19) := ⟨⟨by decide +kernel, by decide +kernel⟩, List.mem_of_getElem? (i := 745) (by decide +kernel), List.mem_of_getElem? (i := 883) (by decide +kernel), List.mem_of_getElem? (i := 884) (by decide +kernel)⟩
theorem lw_p28 : lw_okq (⟨"PaperDollsModel", "isEnd", "()Z"⟩, 19) := ⟨⟨by decide +kernel, by decide +kernel⟩, List.mem_of_getElem? (i := 745) (by decide +kernel), List.mem_of_getElem? (i := 887) (by decide +kernel), List.mem_of_getElem? (i := 888) (by decide +kernel)⟩
theorem lw_p29 : lw_okq (⟨"PaperDollsModel", "goMove", "(II)Z"⟩, 19) := ⟨⟨by decide +kernel, by decide +kernel⟩, List.mem_of_getElem? (i := 745) (by decide +kernel), List.mem_of_getElem? (i := 893) (by decide +kernel), List.mem_of_getElem? (i := 894) (by decide +kernel)⟩
theorem lw_p30 : lw_okq (⟨"PaperDollsModel", "canPut", "(I)Z"⟩, 19) := ⟨⟨by decide +kernel, by decide +kernel⟩, List.mem_of_getElem? (i := 745) (by decide +kernel), List.mem_of_getElem? (i := 897) (by decide +kernel), List.mem_of_getElem? (i := 898) (by decide +kernel)⟩
theorem lw_p31 : lw_okq (⟨"PaperDollsModel", "placeOf", "(I)I"⟩, 19) := ⟨⟨by decide +kernel, by decide +kernel⟩, List.mem_of_getElem? (i := 745) (by decide +kernel), List.mem_of_getElem? (i := 901) (by decide +kernel), List.mem_of_getElem? (i := 902) (by decide +kernel)⟩
def lw_privs_2 : List (MethodName × Nat) := [(⟨"PaperDolls$MoveSearch", "dressesAtLast", "(LPaperDolls$Doll;LPaperDolls$Wear;I)Z"⟩, 2), (⟨"PaperDolls", "setFraction", "(II)V"⟩, 15), (⟨"PaperDolls", "countOf", "(I)I"⟩, 15), (⟨"PaperDollsModel", "bad", "()I"⟩, 19), (⟨"PaperDollsModel", "begin", "(I)V"⟩, 19), (⟨"PaperDollsModel", "take", "()V"⟩, 19), (⟨"PaperDollsModel", "full", "()I"⟩, 19), (⟨"PaperDollsModel", "aside", "()V"⟩, 19), (⟨"PaperDollsModel", "addPiece", "(III)V"⟩, 19), (⟨"PaperDollsModel", "next", "()V"⟩, 19), (⟨"PaperDollsModel", "item", "(Z)Z"⟩, 19), (⟨"PaperDollsModel", "isNumber", "(II)Z"⟩, 19), (⟨"PaperDollsModel", "isEnd", "()Z"⟩, 19), (⟨"PaperDollsModel", "goMove", "(II)Z"⟩, 19), (⟨"PaperDollsModel", "canPut", "(I)Z"⟩, 19), (⟨"PaperDollsModel", "placeOf", "(I)I"⟩, 19)]
theorem lw_r2 : ∀ q ∈ lw_privs_2, lw_okq q := List.forall_mem_cons.mpr ⟨lw_p16, List.forall_mem_cons.mpr ⟨lw_p17, List.forall_mem_cons.mpr ⟨lw_p18, List.forall_mem_cons.mpr ⟨lw_p19, List.forall_mem_cons.mpr ⟨lw_p20, List.forall_mem_cons.mpr ⟨lw_p21, List.forall_mem_cons.mpr ⟨lw_p22, List.forall_mem_cons.mpr ⟨lw_p23, List.forall_mem_cons.mpr ⟨lw_p24, List.forall_mem_cons.mpr ⟨lw_p25, List.forall_mem_cons.mpr ⟨lw_p26, List.forall_mem_cons.mpr ⟨lw_p27, List.forall_mem_cons.mpr ⟨lw_p28, List.forall_mem_cons.mpr ⟨lw_p29, List.forall_mem_cons.mpr ⟨lw_p30, List.forall_mem_cons.mpr ⟨lw_p31, fun _ h => absurd h List.not_mem_nil⟩⟩⟩⟩⟩⟩⟩⟩⟩⟩⟩⟩⟩⟩⟩⟩
theorem lw_p32 : lw_okq (⟨"PaperDollsModel", "holdsOf", "(I)I"⟩, 19) := ⟨⟨by decide +kernel, by decide +kernel⟩, List.mem_of_getElem? (i := 745) (by decide +kernel), List.mem_of_getElem? (i := 905) (by decide +kernel), List.mem_of_getElem? (i := 906) (by decide +kernel)⟩
theorem lw_p33 : lw_okq (⟨"PaperDollsModel", "canTake", "(I)Z"⟩, 19) := ⟨⟨by decide +kernel, by decide +kernel⟩, List.mem_of_getElem? (i := 745) (by decide +kernel), List.mem_of_getElem? (i := 915) (by decide +kernel), List.mem_of_getElem? (i := 916) (by decide +kernel)⟩
theorem lw_p34 : lw_okq (⟨"PaperDollsModel", "goPut", "(I)V"⟩, 19) := ⟨⟨by decide +kernel, by decide +kernel⟩, List.mem_of_getElem? (i := 745) (by decide +kernel), List.mem_of_getElem? (i := 922) (by decide +kernel), List.mem_of_getElem? (i := 923) (by decide +kernel)⟩
theorem lw_p35 : lw_okq (⟨"PaperDollsModel", "goTake", "(I)V"⟩, 19) := ⟨⟨by decide +kernel, by decide +kernel⟩, List.mem_of_getElem? (i := 745) (by decide +kernel), List.mem_of_getElem? (i := 926) (by decide +kernel), List.mem_of_getElem? (i := 927) (by decide +kernel)⟩
theorem lw_p36 : lw_okq (⟨"PaperDollsModel", "goMend", "(I)V"⟩, 19) := ⟨⟨by decide +kernel, by decide +kernel⟩, List.mem_of_getElem? (i := 745) (by decide +kernel), List.mem_of_getElem? (i := 930) (by decide +kernel), List.mem_of_getElem? (i := 931) (by decide +kernel)⟩
theorem lw_p37 : lw_okq (⟨"PaperDollsModel", "move", "(II)I"⟩, 19) := ⟨⟨by decide +kernel, by decide +kernel⟩, List.mem_of_getElem? (i := 745) (by decide +kernel), List.mem_of_getElem? (i := 938) (by decide +kernel), List.mem_of_getElem? (i := 939) (by decide +kernel)⟩
theorem lw_p38 : lw_okq (⟨"PaperDollsModel", "isPiece", "(I)Z"⟩, 19) := ⟨⟨by decide +kernel, by decide +kernel⟩, List.mem_of_getElem? (i := 745) (by decide +kernel), List.mem_of_getElem? (i := 942) (by decide +kernel), List.mem_of_getElem? (i := 943) (by decide +kernel)⟩
theorem lw_p39 : lw_okq (⟨"PaperDollsModel", "no", "()I"⟩, 19) := ⟨⟨by decide +kernel, by decide +kernel⟩, List.mem_of_getElem? (i := 745) (by decide +kernel), List.mem_of_getElem? (i := 946) (by decide +kernel), List.mem_of_getElem? (i := 947) (by decide +kernel)⟩
theorem lw_p40 : lw_okq (⟨"PaperDollsModel", "remember", "()V"⟩, 19) := ⟨⟨by decide +kernel, by decide +kernel⟩, List.mem_of_getElem? (i := 745) (by decide +kernel), List.mem_of_getElem? (i := 950) (by decide +kernel), List.mem_of_getElem? (i := 951) (by decide +kernel)⟩
theorem lw_p41 : lw_okq (⟨"PaperDollsModel", "canSet", "()I"⟩, 19) := ⟨⟨by decide +kernel, by decide +kernel⟩, List.mem_of_getElem? (i := 745) (by decide +kernel), List.mem_of_getElem? (i := 982) (by decide +kernel), List.mem_of_getElem? (i := 983) (by decide +kernel)⟩
theorem lw_p42 : lw_okq (⟨"PaperDollsModel", "areGoing", "(II)Z"⟩, 19) := ⟨⟨by decide +kernel, by decide +kernel⟩, List.mem_of_getElem? (i := 745) (by decide +kernel), List.mem_of_getElem? (i := 994) (by decide +kernel), List.mem_of_getElem? (i := 995) (by decide +kernel)⟩
theorem lw_p43 : lw_okq (⟨"PaperDollsModel", "outfitMany", "()I"⟩, 19) := ⟨⟨by decide +kernel, by decide +kernel⟩, List.mem_of_getElem? (i := 745) (by decide +kernel), List.mem_of_getElem? (i := 1002) (by decide +kernel), List.mem_of_getElem? (i := 1003) (by decide +kernel)⟩
theorem lw_p44 : lw_okq (⟨"PaperDollsModel", "outfitAt", "(I)I"⟩, 19) := ⟨⟨by decide +kernel, by decide +kernel⟩, List.mem_of_getElem? (i := 745) (by decide +kernel), List.mem_of_getElem? (i := 1006) (by decide +kernel), List.mem_of_getElem? (i := 1007) (by decide +kernel)⟩
theorem lw_p45 : lw_okq (⟨"PaperDollsModel", "isOutfit", "(I)Z"⟩, 19) := ⟨⟨by decide +kernel, by decide +kernel⟩, List.mem_of_getElem? (i := 745) (by decide +kernel), List.mem_of_getElem? (i := 1010) (by decide +kernel), List.mem_of_getElem? (i := 1011) (by decide +kernel)⟩
theorem lw_p46 : lw_okq (⟨"PaperDollsModel", "coveredBy", "(I)I"⟩, 19) := ⟨⟨by decide +kernel, by decide +kernel⟩, List.mem_of_getElem? (i := 745) (by decide +kernel), List.mem_of_getElem? (i := 1014) (by decide +kernel), List.mem_of_getElem? (i := 1015) (by decide +kernel)⟩
theorem lw_p47 : lw_okq (⟨"PaperDollsModel", "goRow", "(II)Z"⟩, 19) := ⟨⟨by decide +kernel, by decide +kernel⟩, List.mem_of_getElem? (i := 745) (by decide +kernel), List.mem_of_getElem? (i := 1037) (by decide +kernel), List.mem_of_getElem? (i := 1038) (by decide +kernel)⟩
def lw_privs_3 : List (MethodName × Nat) := [(⟨"PaperDollsModel", "holdsOf", "(I)I"⟩, 19), (⟨"PaperDollsModel", "canTake", "(I)Z"⟩, 19), (⟨"PaperDollsModel", "goPut", "(I)V"⟩, 19), (⟨"PaperDollsModel", "goTake", "(I)V"⟩, 19), (⟨"PaperDollsModel", "goMend", "(I)V"⟩, 19), (⟨"PaperDollsModel", "move", "(II)I"⟩, 19), (⟨"PaperDollsModel", "isPiece", "(I)Z"⟩, 19), (⟨"PaperDollsModel", "no", "()I"⟩, 19), (⟨"PaperDollsModel", "remember", "()V"⟩, 19), (⟨"PaperDollsModel", "canSet", "()I"⟩, 19), (⟨"PaperDollsModel", "areGoing", "(II)Z"⟩, 19), (⟨"PaperDollsModel", "outfitMany", "()I"⟩, 19), (⟨"PaperDollsModel", "outfitAt", "(I)I"⟩, 19), (⟨"PaperDollsModel", "isOutfit", "(I)Z"⟩, 19), (⟨"PaperDollsModel", "coveredBy", "(I)I"⟩, 19), (⟨"PaperDollsModel", "goRow", "(II)Z"⟩, 19)]
theorem lw_r3 : ∀ q ∈ lw_privs_3, lw_okq q := List.forall_mem_cons.mpr ⟨lw_p32, List.forall_mem_cons.mpr ⟨lw_p33, List.forall_mem_cons.mpr ⟨lw_p34, List.forall_mem_cons.mpr ⟨lw_p35, List.forall_mem_cons.mpr ⟨lw_p36, List.forall_mem_cons.mpr ⟨lw_p37, List.forall_mem_cons.mpr ⟨lw_p38, List.forall_mem_cons.mpr ⟨lw_p39, List.forall_mem_cons.mpr ⟨lw_p40, List.forall_mem_cons.mpr ⟨lw_p41, List.forall_mem_cons.mpr ⟨lw_p42, List.forall_mem_cons.mpr ⟨lw_p43, List.forall_mem_cons.mpr ⟨lw_p44, List.forall_mem_cons.mpr ⟨lw_p45, List.forall_mem_cons.mpr ⟨lw_p46, List.forall_mem_cons.mpr ⟨lw_p47, fun _ h => absurd h List.not_mem_nil⟩⟩⟩⟩⟩⟩⟩⟩⟩⟩⟩⟩⟩⟩⟩⟩
theorem lw_p48 : lw_okq (⟨"PaperDollsModel", "covered", "()I"⟩, 19) := ⟨⟨by decide +kernel, by decide +kernel⟩, List.mem_of_getElem? (i := 745) (by decide +kernel), List.mem_of_getElem? (i := 1041) (by decide +kernel), List.mem_of_getElem? (i := 1042) (by decide +kernel)⟩
theorem lw_p49 : lw_okq (⟨"PaperDollsModel", "rowAt", "(III)I"⟩, 19) := ⟨⟨by decide +kernel, by decide +kernel⟩, List.mem_of_getElem? (i := 745) (by decide +kernel), List.mem_of_getElem? (i := 1045) (by decide +kernel), List.mem_of_getElem? (i := 1046) (by decide +kernel)⟩
theorem lw_p50 : lw_okq (⟨"PaperDollsModel", "kindSet", "(I)I"⟩, 19) := ⟨⟨by decide +kernel, by decide +kernel⟩, List.mem_of_getElem? (i := 745) (by decide +kernel), List.mem_of_getElem? (i := 1077) (by decide +kernel), List.mem_of_getElem? (i := 1078) (by decide +kernel)⟩
theorem lw_p51 : lw_okq (⟨"PaperDollsModel", "rests", "(IIII)Z"⟩, 19) := ⟨⟨by decide +kernel, by decide +kernel⟩, List.mem_of_getElem? (i := 745) (by decide +kernel), List.mem_of_getElem? (i := 1089) (by decide +kernel), List.mem_of_getElem? (i := 1090) (by decide +kernel)⟩
theorem lw_p52 : lw_okq (⟨"PaperDollsModel", "getsOf", "(III)I"⟩, 19) := ⟨⟨by decide +kernel, by decide +kernel⟩, List.mem_of_getElem? (i := 745) (by decide +kernel), List.mem_of_getElem? (i := 1093) (by decide +kernel), List.mem_of_getElem? (i := 1094) (by decide +kernel)⟩
theorem lw_p53 : lw_okq (⟨"PaperDollsModel", "fraction", "(JJ)V"⟩, 19) := ⟨⟨by decide +kernel, by decide +kernel⟩, List.mem_of_getElem? (i := 745) (by decide +kernel), List.mem_of_getElem? (i := 1102) (by decide +kernel), List.mem_of_getElem? (i := 1103) (by decide +kernel)⟩
theorem lw_p54 : lw_okq (⟨"PaperDollsModel", "countOf", "(I)I"⟩, 19) := ⟨⟨by decide +kernel, by decide +kernel⟩, List.mem_of_getElem? (i := 745) (by decide +kernel), List.mem_of_getElem? (i := 1139) (by decide +kernel), List.mem_of_getElem? (i := 1140) (by decide +kernel)⟩
theorem lw_p55 : lw_okq (⟨"PaperDollsModel", "wornAll", "()I"⟩, 19) := ⟨⟨by decide +kernel, by decide +kernel⟩, List.mem_of_getElem? (i := 745) (by decide +kernel), List.mem_of_getElem? (i := 1143) (by decide +kernel), List.mem_of_getElem? (i := 1144) (by decide +kernel)⟩
def lw_privs_4 : List (MethodName × Nat) := [(⟨"PaperDollsModel", "covered", "()I"⟩, 19), (⟨"PaperDollsModel", "rowAt", "(III)I"⟩, 19), (⟨"PaperDollsModel", "kindSet", "(I)I"⟩, 19), (⟨"PaperDollsModel", "rests", "(IIII)Z"⟩, 19), (⟨"PaperDollsModel", "getsOf", "(III)I"⟩, 19), (⟨"PaperDollsModel", "fraction", "(JJ)V"⟩, 19), (⟨"PaperDollsModel", "countOf", "(I)I"⟩, 19), (⟨"PaperDollsModel", "wornAll", "()I"⟩, 19)]
theorem lw_r4 : ∀ q ∈ lw_privs_4, lw_okq q := List.forall_mem_cons.mpr ⟨lw_p48, List.forall_mem_cons.mpr ⟨lw_p49, List.forall_mem_cons.mpr ⟨lw_p50, List.forall_mem_cons.mpr ⟨lw_p51, List.forall_mem_cons.mpr ⟨lw_p52, List.forall_mem_cons.mpr ⟨lw_p53, List.forall_mem_cons.mpr ⟨lw_p54, List.forall_mem_cons.mpr ⟨lw_p55, fun _ h => absurd h List.not_mem_nil⟩⟩⟩⟩⟩⟩⟩⟩
def lw_privs : List (MethodName × Nat) := lw_privs_1 ++ (lw_privs_2 ++ (lw_privs_3 ++ (lw_privs_4)))
def lw_tbl : List Cond := k2_sels lw_privs ++ tables_1
theorem lw_privs_ok : ∀ q ∈ lw_privs, lw_okq q := by
  show ∀ q ∈ lw_privs_1 ++ (lw_privs_2 ++ (lw_privs_3 ++ (lw_privs_4))), lw_okq q
  exact List.forall_mem_append.mpr ⟨lw_r1, List.forall_mem_append.mpr ⟨lw_r2, List.forall_mem_append.mpr ⟨lw_r3, lw_r4⟩⟩⟩

/-- the words that keep: every method's words -/
def zTb : List Cond := lw_tbl.filter goodWord
theorem zmem {w : Cond} (i : Nat) (h : lw_tbl[i]? = some w) (hg : goodWord w = true) : w ∈ zTb := List.mem_filter.mpr ⟨List.mem_of_getElem? h, hg⟩
theorem zgood {y : Cond} (hy : y ∈ zTb) (z : Cond) : GoodIn (z :: zTb) (y :: zTb) := by
  intro w hw
  have h1 : w ∈ zTb := by
    rcases List.mem_cons.mp hw with h | h
    · rw [h]; exact hy
    · exact h
  exact ⟨List.mem_cons_of_mem _ h1, good_of_word (List.mem_filter.mp h1).2⟩
end
section
def RX0 : String := "PaperDolls$Cloth"
def TX0 : u_T := fun k => match k with
  | _ => ("", "", "", false)
def tyX0 : Nat → FieldType := fun k => match k with
  | _ => .int
theorem nmX0 : ∀ a, a < 0 → ∀ b, b < 0 → a ≠ b → (TX0 a).2.1 ≠ (TX0 b).2.1 := by decide +kernel
theorem tyX0_ok : ∀ k, k < 0 → parseFieldDescriptor (TX0 k).2.2.1 = some (tyX0 k) := by decide +kernel
abbrev cX0_covers : ByteArray := prog_2_method_2_code
def yX0_covers : MethodName := ⟨RX0, "covers", "(I)I"⟩
abbrev cX0_holds : ByteArray := prog_2_method_3_code
def yX0_holds : MethodName := ⟨RX0, "holds", "(III)I"⟩
def RX1 : String := "PaperDolls$Doll"
def TX1 : u_T := fun k => match k with
  | 0 => ("PaperDolls$Doll", "childKind", "I", false)
  | 1 => ("PaperDolls$Doll", "pieces", "I", false)
  | 2 => ("PaperDolls$Doll", "kind", "[I", true)
  | 3 => ("PaperDolls$Doll", "colour", "[I", true)
  | 4 => ("PaperDolls$Doll", "paper", "[I", true)
  | 5 => ("PaperDolls$Doll", "now", "LPaperDolls$Wear;", true)
  | 6 => ("PaperDolls$Doll", "past", "[LPaperDolls$Wear;", true)
  | 7 => ("PaperDolls$Doll", "pastCount", "I", false)
  | 8 => ("PaperDolls$Doll", "notes", "[I", true)
  | 9 => ("PaperDolls$Doll", "noteCount", "I", false)
  | 10 => ("PaperDolls$Doll", "marks", "[I", true)
  | _ => ("PaperDolls$Doll", "markCount", "I", false)
def tyX1 : Nat → FieldType := fun k => match k with
  | 0 => .int
  | 1 => .int
  | 2 => .array .int
  | 3 => .array .int
  | 4 => .array .int
  | 5 => .object "PaperDolls$Wear"
  | 6 => .array (.object "PaperDolls$Wear")
  | 7 => .int
  | 8 => .array .int
  | 9 => .int
  | 10 => .array .int
  | _ => .int
theorem nmX1 : ∀ a, a < 12 → ∀ b, b < 12 → a ≠ b → (TX1 a).2.1 ≠ (TX1 b).2.1 := by decide +kernel
theorem tyX1_ok : ∀ k, k < 12 → parseFieldDescriptor (TX1 k).2.2.1 = some (tyX1 k) := by decide +kernel
abbrev cX1_init : ByteArray := prog_3_method_1_code
def yX1_init : MethodName := ⟨RX1, "<init>", "()V"⟩
abbrev cX1_begin : ByteArray := prog_3_method_2_code
def yX1_begin : MethodName := ⟨RX1, "begin", "(I)V"⟩
abbrev cX1_copyFrom : ByteArray := prog_3_method_3_code
def yX1_copyFrom : MethodName := ⟨RX1, "copyFrom", "(LPaperDolls$Doll;)V"⟩
abbrev cX1_has : ByteArray := prog_3_method_4_code
def yX1_has : MethodName := ⟨RX1, "has", "(I)Z"⟩
abbrev cX1_allPieces : ByteArray := prog_3_method_5_code
def yX1_allPieces : MethodName := ⟨RX1, "allPieces", "()I"⟩
abbrev cX1_addPiece : ByteArray := prog_3_method_6_code
def yX1_addPiece : MethodName := ⟨RX1, "addPiece", "(III)V"⟩
abbrev cX1_addNote : ByteArray := prog_3_method_7_code
def yX1_addNote : MethodName := ⟨RX1, "addNote", "(III)V"⟩
abbrev cX1_addMark : ByteArray := prog_3_method_8_code
def yX1_addMark : MethodName := ⟨RX1, "addMark", "(IIII)V"⟩
abbrev cX1_spotsOf : ByteArray := prog_3_method_9_code
def yX1_spotsOf : MethodName := ⟨RX1, "spotsOf", "(I)I"⟩
abbrev cX1_spotsOfSet : ByteArray := prog_3_method_10_code
def yX1_spotsOfSet : MethodName := ⟨RX1, "spotsOfSet", "(I)I"⟩
abbrev cX1_isDressed : ByteArray := prog_3_method_11_code
def yX1_isDressed : MethodName := ⟨RX1, "isDressed", "(LPaperDolls$Wear;)Z"⟩
abbrev cX1_holdOf : ByteArray := prog_3_method_12_code
def yX1_holdOf : MethodName := ⟨RX1, "holdOf", "(LPaperDolls$Wear;I)I"⟩
abbrev cX1_match : ByteArray := prog_3_method_13_code
def yX1_match : MethodName := ⟨RX1, "match", "(II)Z"⟩
abbrev cX1_matchesOf : ByteArray := prog_3_method_14_code
def yX1_matchesOf : MethodName := ⟨RX1, "matchesOf", "(I)I"⟩
abbrev cX1_allMatch : ByteArray := prog_3_method_15_code
def yX1_allMatch : MethodName := ⟨RX1, "allMatch", "(I)Z"⟩
abbrev cX1_mayMove : ByteArray := prog_3_method_16_code
def yX1_mayMove : MethodName := ⟨RX1, "mayMove", "(LPaperDolls$Wear;II)Z"⟩
abbrev cX1_mayPut : ByteArray := prog_3_method_17_code
def yX1_mayPut : MethodName := ⟨RX1, "mayPut", "(LPaperDolls$Wear;I)Z"⟩
abbrev cX1_mayTake : ByteArray := prog_3_method_18_code
def yX1_mayTake : MethodName := ⟨RX1, "mayTake", "(LPaperDolls$Wear;I)Z"⟩
abbrev cX1_setThatMay : ByteArray := prog_3_method_19_code
def yX1_setThatMay : MethodName := ⟨RX1, "setThatMay", "(LPaperDolls$Wear;I)I"⟩
abbrev cX1_move : ByteArray := prog_3_method_20_code
def yX1_move : MethodName := ⟨RX1, "move", "(LPaperDolls$Wear;II)V"⟩
abbrev cX1_moveForGood : ByteArray := prog_3_method_21_code
def yX1_moveForGood : MethodName := ⟨RX1, "moveForGood", "(II)V"⟩
abbrev cX1_keepPast : ByteArray := prog_3_method_22_code
def yX1_keepPast : MethodName := ⟨RX1, "keepPast", "()V"⟩
abbrev cX1_bringBack : ByteArray := prog_3_method_23_code
def yX1_bringBack : MethodName := ⟨RX1, "bringBack", "()V"⟩
abbrev cX1_playWith : ByteArray := prog_3_method_24_code
def yX1_playWith : MethodName := ⟨RX1, "playWith", "(LPaperDolls$Wear;I)V"⟩
abbrev cX1_digestOn : ByteArray := prog_3_method_25_code
def yX1_digestOn : MethodName := ⟨RX1, "digestOn", "(J)J"⟩
def RX2 : String := "PaperDolls$Game"
def TX2 : u_T := fun k => match k with
  | _ => ("", "", "", false)
def tyX2 : Nat → FieldType := fun k => match k with
  | _ => .int
theorem nmX2 : ∀ a, a < 0 → ∀ b, b < 0 → a ≠ b → (TX2 a).2.1 ≠ (TX2 b).2.1 := by decide +kernel
theorem tyX2_ok : ∀ k, k < 0 → parseFieldDescriptor (TX2 k).2.2.1 = some (tyX2 k) := by decide +kernel
abbrev cX2_rests : ByteArray := prog_4_method_2_code
def yX2_rests : MethodName := ⟨RX2, "rests", "(LPaperDolls$Doll;IIII)Z"⟩
abbrev cX2_noneIsBetter : ByteArray := prog_4_method_3_code
def yX2_noneIsBetter : MethodName := ⟨RX2, "noneIsBetter", "(LPaperDolls$Doll;IIII)Z"⟩
abbrev cX2_gain : ByteArray := prog_4_method_4_code
def yX2_gain : MethodName := ⟨RX2, "gain", "(LPaperDolls$Doll;III)I"⟩
def RX3 : String := "PaperDolls$Guess"
def TX3 : u_T := fun k => match k with
  | _ => ("", "", "", false)
def tyX3 : Nat → FieldType := fun k => match k with
  | _ => .int
theorem nmX3 : ∀ a, a < 0 → ∀ b, b < 0 → a ≠ b → (TX3 a).2.1 ≠ (TX3 b).2.1 := by decide +kernel
theorem tyX3_ok : ∀ k, k < 0 → parseFieldDescriptor (TX3 k).2.2.1 = some (tyX3 k) := by decide +kernel
abbrev cX3_childKinds : ByteArray := prog_5_method_2_code
def yX3_childKinds : MethodName := ⟨RX3, "childKinds", "(LPaperDolls$Doll;)I"⟩
abbrev cX3_fitsNotes : ByteArray := prog_5_method_3_code
def yX3_fitsNotes : MethodName := ⟨RX3, "fitsNotes", "(LPaperDolls$Doll;I)Z"⟩
abbrev cX3_bestPair : ByteArray := prog_5_method_4_code
def yX3_bestPair : MethodName := ⟨RX3, "bestPair", "(I)I"⟩
abbrev cX3_greaterPart : ByteArray := prog_5_method_5_code
def yX3_greaterPart : MethodName := ⟨RX3, "greaterPart", "(III)I"⟩
abbrev cX3_clothKinds : ByteArray := prog_5_method_6_code
def yX3_clothKinds : MethodName := ⟨RX3, "clothKinds", "(LPaperDolls$Doll;I)I"⟩
abbrev cX3_fitsMarks : ByteArray := prog_5_method_7_code
def yX3_fitsMarks : MethodName := ⟨RX3, "fitsMarks", "(LPaperDolls$Doll;II)Z"⟩
abbrev cX3_bestWear : ByteArray := prog_5_method_8_code
def yX3_bestWear : MethodName := ⟨RX3, "bestWear", "(II)I"⟩
abbrev cX3_mostAlike : ByteArray := prog_5_method_9_code
def yX3_mostAlike : MethodName := ⟨RX3, "mostAlike", "(III)I"⟩
abbrev cX3_howManyHold : ByteArray := prog_5_method_10_code
def yX3_howManyHold : MethodName := ⟨RX3, "howManyHold", "(IIII)I"⟩
def RX4 : String := "PaperDolls$MoveSearch"
def TX4 : u_T := fun k => match k with
  | 0 => ("PaperDolls$MoveSearch", "row", "[I", true)
  | _ => ("PaperDolls$MoveSearch", "behind", "[LPaperDolls$Wear;", true)
def tyX4 : Nat → FieldType := fun k => match k with
  | 0 => .array .int
  | _ => .array (.object "PaperDolls$Wear")
theorem nmX4 : ∀ a, a < 2 → ∀ b, b < 2 → a ≠ b → (TX4 a).2.1 ≠ (TX4 b).2.1 := by decide +kernel
theorem tyX4_ok : ∀ k, k < 2 → parseFieldDescriptor (TX4 k).2.2.1 = some (tyX4 k) := by decide +kernel
abbrev cX4_init : ByteArray := prog_6_method_1_code
def yX4_init : MethodName := ⟨RX4, "<init>", "()V"⟩
abbrev cX4_fewest : ByteArray := prog_6_method_2_code
def yX4_fewest : MethodName := ⟨RX4, "fewest", "(LPaperDolls$Doll;)I"⟩
abbrev cX4_dresses : ByteArray := prog_6_method_3_code
def yX4_dresses : MethodName := ⟨RX4, "dresses", "(LPaperDolls$Doll;LPaperDolls$Wear;II)Z"⟩
abbrev cX4_dressesAtLast : ByteArray := prog_6_method_4_code
def yX4_dressesAtLast : MethodName := ⟨RX4, "dressesAtLast", "(LPaperDolls$Doll;LPaperDolls$Wear;I)Z"⟩
def RX5 : String := "PaperDolls$Reader"
def TX5 : u_T := fun k => match k with
  | 0 => ("PaperDolls$Reader", "bytes", "[B", false)
  | 1 => ("PaperDolls$Reader", "length", "I", false)
  | 2 => ("PaperDolls$Reader", "token", "I", false)
  | 3 => ("PaperDolls$Reader", "start", "I", false)
  | 4 => ("PaperDolls$Reader", "stop", "I", false)
  | _ => ("PaperDolls$Reader", "number", "I", false)
def tyX5 : Nat → FieldType := fun k => match k with
  | 0 => .array .byte
  | 1 => .int
  | 2 => .int
  | 3 => .int
  | 4 => .int
  | _ => .int
theorem nmX5 : ∀ a, a < 6 → ∀ b, b < 6 → a ≠ b → (TX5 a).2.1 ≠ (TX5 b).2.1 := by decide +kernel
theorem tyX5_ok : ∀ k, k < 6 → parseFieldDescriptor (TX5 k).2.2.1 = some (tyX5 k) := by decide +kernel
abbrev cX5_init : ByteArray := prog_7_method_1_code
def yX5_init : MethodName := ⟨RX5, "<init>", "()V"⟩
abbrev cX5_readDoll : ByteArray := prog_7_method_2_code
def yX5_readDoll : MethodName := ⟨RX5, "readDoll", "([BILPaperDolls$Doll;)I"⟩
abbrev cX5_readItem : ByteArray := prog_7_method_3_code
def yX5_readItem : MethodName := ⟨RX5, "readItem", "(LPaperDolls$Doll;Z)Z"⟩
abbrev cX5_readChild : ByteArray := prog_7_method_4_code
def yX5_readChild : MethodName := ⟨RX5, "readChild", "(LPaperDolls$Doll;)Z"⟩
abbrev cX5_readPiece : ByteArray := prog_7_method_5_code
def yX5_readPiece : MethodName := ⟨RX5, "readPiece", "(LPaperDolls$Doll;)Z"⟩
abbrev cX5_readMove : ByteArray := prog_7_method_6_code
def yX5_readMove : MethodName := ⟨RX5, "readMove", "(LPaperDolls$Doll;I)Z"⟩
abbrev cX5_readNumber : ByteArray := prog_7_method_7_code
def yX5_readNumber : MethodName := ⟨RX5, "readNumber", "(II)Z"⟩
abbrev cX5_isWord : ByteArray := prog_7_method_8_code
def yX5_isWord : MethodName := ⟨RX5, "isWord", "(Ljava/lang/String;)Z"⟩
abbrev cX5_advance : ByteArray := prog_7_method_9_code
def yX5_advance : MethodName := ⟨RX5, "advance", "()V"⟩
abbrev cX5_advanceOverWord : ByteArray := prog_7_method_10_code
def yX5_advanceOverWord : MethodName := ⟨RX5, "advanceOverWord", "()V"⟩
abbrev cX5_advanceOverNumber : ByteArray := prog_7_method_11_code
def yX5_advanceOverNumber : MethodName := ⟨RX5, "advanceOverNumber", "()V"⟩
def RX6 : String := "PaperDolls$Taste"
def TX6 : u_T := fun k => match k with
  | _ => ("", "", "", false)
def tyX6 : Nat → FieldType := fun k => match k with
  | _ => .int
theorem nmX6 : ∀ a, a < 0 → ∀ b, b < 0 → a ≠ b → (TX6 a).2.1 ≠ (TX6 b).2.1 := by decide +kernel
theorem tyX6_ok : ∀ k, k < 0 → parseFieldDescriptor (TX6 k).2.2.1 = some (tyX6 k) := by decide +kernel
abbrev cX6_allows : ByteArray := prog_8_method_2_code
def yX6_allows : MethodName := ⟨RX6, "allows", "(III)Z"⟩
def RX7 : String := "PaperDolls$Wardrobe"
def TX7 : u_T := fun k => match k with
  | 0 => ("PaperDolls$Wardrobe", "sets", "[I", true)
  | _ => ("PaperDolls$Wardrobe", "found", "I", false)
def tyX7 : Nat → FieldType := fun k => match k with
  | 0 => .array .int
  | _ => .int
theorem nmX7 : ∀ a, a < 2 → ∀ b, b < 2 → a ≠ b → (TX7 a).2.1 ≠ (TX7 b).2.1 := by decide +kernel
theorem tyX7_ok : ∀ k, k < 2 → parseFieldDescriptor (TX7 k).2.2.1 = some (tyX7 k) := by decide +kernel
abbrev cX7_init : ByteArray := prog_9_method_1_code
def yX7_init : MethodName := ⟨RX7, "<init>", "()V"⟩
abbrev cX7_findOutfits : ByteArray := prog_9_method_2_code
def yX7_findOutfits : MethodName := ⟨RX7, "findOutfits", "(LPaperDolls$Doll;)V"⟩
abbrev cX7_isOutfit : ByteArray := prog_9_method_3_code
def yX7_isOutfit : MethodName := ⟨RX7, "isOutfit", "(LPaperDolls$Doll;I)Z"⟩
abbrev cX7_smallest : ByteArray := prog_9_method_4_code
def yX7_smallest : MethodName := ⟨RX7, "smallest", "()I"⟩
abbrev cX7_used : ByteArray := prog_9_method_5_code
def yX7_used : MethodName := ⟨RX7, "used", "()I"⟩
abbrev cX7_mostApart : ByteArray := prog_9_method_6_code
def yX7_mostApart : MethodName := ⟨RX7, "mostApart", "()I"⟩
abbrev cX7_mostApartFrom : ByteArray := prog_9_method_7_code
def yX7_mostApartFrom : MethodName := ⟨RX7, "mostApartFrom", "(III)I"⟩
def RX8 : String := "PaperDolls$Wear"
def TX8 : u_T := fun k => match k with
  | 0 => ("PaperDolls$Wear", "on", "[I", true)
  | 1 => ("PaperDolls$Wear", "worn", "[I", true)
  | 2 => ("PaperDolls$Wear", "onCount", "I", false)
  | _ => ("PaperDolls$Wear", "moves", "I", false)
def tyX8 : Nat → FieldType := fun k => match k with
  | 0 => .array .int
  | 1 => .array .int
  | 2 => .int
  | _ => .int
theorem nmX8 : ∀ a, a < 4 → ∀ b, b < 4 → a ≠ b → (TX8 a).2.1 ≠ (TX8 b).2.1 := by decide +kernel
theorem tyX8_ok : ∀ k, k < 4 → parseFieldDescriptor (TX8 k).2.2.1 = some (tyX8 k) := by decide +kernel
abbrev cX8_init : ByteArray := prog_10_method_1_code
def yX8_init : MethodName := ⟨RX8, "<init>", "()V"⟩
abbrev cX8_begin : ByteArray := prog_10_method_2_code
def yX8_begin : MethodName := ⟨RX8, "begin", "()V"⟩
abbrev cX8_copyFrom : ByteArray := prog_10_method_3_code
def yX8_copyFrom : MethodName := ⟨RX8, "copyFrom", "(LPaperDolls$Wear;)V"⟩
abbrev cX8_placeOf : ByteArray := prog_10_method_4_code
def yX8_placeOf : MethodName := ⟨RX8, "placeOf", "(I)I"⟩
abbrev cX8_onSet : ByteArray := prog_10_method_5_code
def yX8_onSet : MethodName := ⟨RX8, "onSet", "()I"⟩
abbrev cX8_wornTogether : ByteArray := prog_10_method_6_code
def yX8_wornTogether : MethodName := ⟨RX8, "wornTogether", "()I"⟩
abbrev cX8_layOver : ByteArray := prog_10_method_7_code
def yX8_layOver : MethodName := ⟨RX8, "layOver", "(I)V"⟩
abbrev cX8_pullOut : ByteArray := prog_10_method_8_code
def yX8_pullOut : MethodName := ⟨RX8, "pullOut", "(I)V"⟩
def RX9 : String := "PaperDolls"
def TX9 : u_T := fun k => match k with
  | 0 => ("PaperDolls", "doll", "LPaperDolls$Doll;", true)
  | 1 => ("PaperDolls", "draft", "LPaperDolls$Doll;", true)
  | 2 => ("PaperDolls", "images", "[LPaperDolls$Doll;", true)
  | 3 => ("PaperDolls", "imageKept", "[Z", true)
  | 4 => ("PaperDolls", "trial", "LPaperDolls$Wear;", true)
  | 5 => ("PaperDolls", "reader", "LPaperDolls$Reader;", true)
  | 6 => ("PaperDolls", "wardrobe", "LPaperDolls$Wardrobe;", true)
  | 7 => ("PaperDolls", "moveSearch", "LPaperDolls$MoveSearch;", true)
  | 8 => ("PaperDolls", "text", "[B", true)
  | 9 => ("PaperDolls", "textLength", "I", false)
  | 10 => ("PaperDolls", "above", "J", false)
  | 11 => ("PaperDolls", "below", "J", false)
  | 12 => ("PaperDolls", "refusedBad", "I", false)
  | 13 => ("PaperDolls", "refusedNo", "I", false)
  | _ => ("PaperDolls", "refusedFull", "I", false)
def tyX9 : Nat → FieldType := fun k => match k with
  | 0 => .object "PaperDolls$Doll"
  | 1 => .object "PaperDolls$Doll"
  | 2 => .array (.object "PaperDolls$Doll")
  | 3 => .array .boolean
  | 4 => .object "PaperDolls$Wear"
  | 5 => .object "PaperDolls$Reader"
  | 6 => .object "PaperDolls$Wardrobe"
  | 7 => .object "PaperDolls$MoveSearch"
  | 8 => .array .byte
  | 9 => .int
  | 10 => .long
  | 11 => .long
  | 12 => .int
  | 13 => .int
  | _ => .int
theorem nmX9 : ∀ a, a < 15 → ∀ b, b < 15 → a ≠ b → (TX9 a).2.1 ≠ (TX9 b).2.1 := by decide +kernel
theorem tyX9_ok : ∀ k, k < 15 → parseFieldDescriptor (TX9 k).2.2.1 = some (tyX9 k) := by decide +kernel
abbrev cX9_init : ByteArray := prog_1_method_1_code
def yX9_init : MethodName := ⟨RX9, "<init>", "()V"⟩
abbrev cX9_doll : ByteArray := prog_1_method_2_code
def yX9_doll : MethodName := ⟨RX9, "doll", "(I)I"⟩
abbrev cX9_child : ByteArray := prog_1_method_3_code
def yX9_child : MethodName := ⟨RX9, "child", "(I)I"⟩
abbrev cX9_piece : ByteArray := prog_1_method_4_code
def yX9_piece : MethodName := ⟨RX9, "piece", "(III)I"⟩
abbrev cX9_type : ByteArray := prog_1_method_5_code
def yX9_type : MethodName := ⟨RX9, "type", "(I)I"⟩
abbrev cX9_clear : ByteArray := prog_1_method_6_code
def yX9_clear : MethodName := ⟨RX9, "clear", "()I"⟩
abbrev cX9_read : ByteArray := prog_1_method_7_code
def yX9_read : MethodName := ⟨RX9, "read", "()I"⟩
abbrev cX9_puts : ByteArray := prog_1_method_8_code
def yX9_puts : MethodName := ⟨RX9, "puts", "(I)I"⟩
abbrev cX9_takes : ByteArray := prog_1_method_9_code
def yX9_takes : MethodName := ⟨RX9, "takes", "(I)I"⟩
abbrev cX9_mends : ByteArray := prog_1_method_10_code
def yX9_mends : MethodName := ⟨RX9, "mends", "(I)I"⟩
abbrev cX9_undo : ByteArray := prog_1_method_11_code
def yX9_undo : MethodName := ⟨RX9, "undo", "()I"⟩
abbrev cX9_of : ByteArray := prog_1_method_12_code
def yX9_of : MethodName := ⟨RX9, "of", "(II)I"⟩
abbrev cX9_seen : ByteArray := prog_1_method_13_code
def yX9_seen : MethodName := ⟨RX9, "seen", "(I)I"⟩
abbrev cX9_can : ByteArray := prog_1_method_14_code
def yX9_can : MethodName := ⟨RX9, "can", "()I"⟩
abbrev cX9_off : ByteArray := prog_1_method_15_code
def yX9_off : MethodName := ⟨RX9, "off", "()I"⟩
abbrev cX9_going : ByteArray := prog_1_method_16_code
def yX9_going : MethodName := ⟨RX9, "going", "(I)I"⟩
abbrev cX9_outfits : ByteArray := prog_1_method_17_code
def yX9_outfits : MethodName := ⟨RX9, "outfits", "(I)I"⟩
abbrev cX9_lean : ByteArray := prog_1_method_18_code
def yX9_lean : MethodName := ⟨RX9, "lean", "(I)I"⟩
abbrev cX9_days : ByteArray := prog_1_method_19_code
def yX9_days : MethodName := ⟨RX9, "days", "()I"⟩
abbrev cX9_spared : ByteArray := prog_1_method_20_code
def yX9_spared : MethodName := ⟨RX9, "spared", "()I"⟩
abbrev cX9_few : ByteArray := prog_1_method_21_code
def yX9_few : MethodName := ⟨RX9, "few", "(I)I"⟩
abbrev cX9_note : ByteArray := prog_1_method_22_code
def yX9_note : MethodName := ⟨RX9, "note", "(III)I"⟩
abbrev cX9_mark : ByteArray := prog_1_method_23_code
def yX9_mark : MethodName := ⟨RX9, "mark", "(IIII)I"⟩
abbrev cX9_forget : ByteArray := prog_1_method_24_code
def yX9_forget : MethodName := ⟨RX9, "forget", "(I)I"⟩
abbrev cX9_is : ByteArray := prog_1_method_25_code
def yX9_is : MethodName := ⟨RX9, "is", "()I"⟩
abbrev cX9_look : ByteArray := prog_1_method_26_code
def yX9_look : MethodName := ⟨RX9, "look", "()I"⟩
abbrev cX9_kinds : ByteArray := prog_1_method_27_code
def yX9_kinds : MethodName := ⟨RX9, "kinds", "(I)I"⟩
abbrev cX9_ask : ByteArray := prog_1_method_28_code
def yX9_ask : MethodName := ⟨RX9, "ask", "(I)I"⟩
abbrev cX9_two : ByteArray := prog_1_method_29_code
def yX9_two : MethodName := ⟨RX9, "two", "(I)I"⟩
abbrev cX9_luck : ByteArray := prog_1_method_30_code
def yX9_luck : MethodName := ⟨RX9, "luck", "(I)I"⟩
abbrev cX9_evenings : ByteArray := prog_1_method_31_code
def yX9_evenings : MethodName := ⟨RX9, "evenings", "(II)I"⟩
abbrev cX9_part : ByteArray := prog_1_method_32_code
def yX9_part : MethodName := ⟨RX9, "part", "(I)J"⟩
abbrev cX9_image : ByteArray := prog_1_method_33_code
def yX9_image : MethodName := ⟨RX9, "image", "(I)I"⟩
abbrev cX9_from : ByteArray := prog_1_method_34_code
def yX9_from : MethodName := ⟨RX9, "from", "(I)I"⟩
abbrev cX9_status : ByteArray := prog_1_method_35_code
def yX9_status : MethodName := ⟨RX9, "status", "(I)I"⟩
abbrev cX9_count : ByteArray := prog_1_method_36_code
def yX9_count : MethodName := ⟨RX9, "count", "(I)I"⟩
abbrev cX9_digest : ByteArray := prog_1_method_37_code
def yX9_digest : MethodName := ⟨RX9, "digest", "()J"⟩
abbrev cX9_within : ByteArray := prog_1_method_38_code
def yX9_within : MethodName := ⟨RX9, "within", "(III)Z"⟩
abbrev cX9_refuse : ByteArray := prog_1_method_39_code
def yX9_refuse : MethodName := ⟨RX9, "refuse", "(I)I"⟩
abbrev cX9_whyNoMove : ByteArray := prog_1_method_40_code
def yX9_whyNoMove : MethodName := ⟨RX9, "whyNoMove", "(II)I"⟩
abbrev cX9_countOf : ByteArray := prog_1_method_41_code
def yX9_countOf : MethodName := ⟨RX9, "countOf", "(I)I"⟩
abbrev cX9_setFraction : ByteArray := prog_1_method_42_code
def yX9_setFraction : MethodName := ⟨RX9, "setFraction", "(II)V"⟩
def RX10 : String := "PaperDollsModel"
def TX10 : u_T := fun k => match k with
  | 0 => ("PaperDollsModel", "now", "[I", true)
  | 1 => ("PaperDollsModel", "side", "[I", true)
  | 2 => ("PaperDollsModel", "before", "[I", true)
  | 3 => ("PaperDollsModel", "undoMany", "I", false)
  | 4 => ("PaperDollsModel", "images", "[I", true)
  | 5 => ("PaperDollsModel", "imageBefore", "[I", true)
  | 6 => ("PaperDollsModel", "imageUndos", "[I", true)
  | 7 => ("PaperDollsModel", "imaged", "I", false)
  | 8 => ("PaperDollsModel", "length", "I", false)
  | 9 => ("PaperDollsModel", "text", "[I", true)
  | 10 => ("PaperDollsModel", "above", "J", false)
  | 11 => ("PaperDollsModel", "below", "J", false)
  | 12 => ("PaperDollsModel", "refused", "[I", true)
  | 13 => ("PaperDollsModel", "spot", "I", false)
  | 14 => ("PaperDollsModel", "begins", "I", false)
  | 15 => ("PaperDollsModel", "token", "I", false)
  | 16 => ("PaperDollsModel", "value", "I", false)
  | 17 => ("PaperDollsModel", "dayMany", "[I", true)
  | _ => ("PaperDollsModel", "open", "[I", true)
def tyX10 : Nat → FieldType := fun k => match k with
  | 0 => .array .int
  | 1 => .array .int
  | 2 => .array .int
  | 3 => .int
  | 4 => .array .int
  | 5 => .array .int
  | 6 => .array .int
  | 7 => .int
  | 8 => .int
  | 9 => .array .int
  | 10 => .long
  | 11 => .long
  | 12 => .array .int
  | 13 => .int
  | 14 => .int
  | 15 => .int
  | 16 => .int
  | 17 => .array .int
  | _ => .array .int
theorem nmX10 : ∀ a, a < 19 → ∀ b, b < 19 → a ≠ b → (TX10 a).2.1 ≠ (TX10 b).2.1 := by decide +kernel
theorem tyX10_ok : ∀ k, k < 19 → parseFieldDescriptor (TX10 k).2.2.1 = some (tyX10 k) := by decide +kernel
abbrev cX10_init : ByteArray := prog_12_method_1_code
def yX10_init : MethodName := ⟨RX10, "<init>", "()V"⟩
abbrev cX10_in : ByteArray := prog_12_method_2_code
def yX10_in : MethodName := ⟨RX10, "in", "(JJJ)Z"⟩
abbrev cX10_has : ByteArray := prog_12_method_3_code
def yX10_has : MethodName := ⟨RX10, "has", "(II)Z"⟩
abbrev cX10_ones : ByteArray := prog_12_method_4_code
def yX10_ones : MethodName := ⟨RX10, "ones", "(I)I"⟩
abbrev cX10_bad : ByteArray := prog_12_method_5_code
def yX10_bad : MethodName := ⟨RX10, "bad", "()I"⟩
abbrev cX10_no : ByteArray := prog_12_method_6_code
def yX10_no : MethodName := ⟨RX10, "no", "()I"⟩
abbrev cX10_full : ByteArray := prog_12_method_7_code
def yX10_full : MethodName := ⟨RX10, "full", "()I"⟩
abbrev cX10_covers : ByteArray := prog_12_method_8_code
def yX10_covers : MethodName := ⟨RX10, "covers", "(I)I"⟩
abbrev cX10_holds : ByteArray := prog_12_method_9_code
def yX10_holds : MethodName := ⟨RX10, "holds", "(III)I"⟩
abbrev cX10_goes : ByteArray := prog_12_method_10_code
def yX10_goes : MethodName := ⟨RX10, "goes", "(III)Z"⟩
abbrev cX10_areGoing : ByteArray := prog_12_method_11_code
def yX10_areGoing : MethodName := ⟨RX10, "areGoing", "(II)Z"⟩
abbrev cX10_isPiece : ByteArray := prog_12_method_12_code
def yX10_isPiece : MethodName := ⟨RX10, "isPiece", "(I)Z"⟩
abbrev cX10_aside : ByteArray := prog_12_method_13_code
def yX10_aside : MethodName := ⟨RX10, "aside", "()V"⟩
abbrev cX10_take : ByteArray := prog_12_method_14_code
def yX10_take : MethodName := ⟨RX10, "take", "()V"⟩
abbrev cX10_placeOf : ByteArray := prog_12_method_15_code
def yX10_placeOf : MethodName := ⟨RX10, "placeOf", "(I)I"⟩
abbrev cX10_holdsOf : ByteArray := prog_12_method_16_code
def yX10_holdsOf : MethodName := ⟨RX10, "holdsOf", "(I)I"⟩
abbrev cX10_canPut : ByteArray := prog_12_method_17_code
def yX10_canPut : MethodName := ⟨RX10, "canPut", "(I)Z"⟩
abbrev cX10_canTake : ByteArray := prog_12_method_18_code
def yX10_canTake : MethodName := ⟨RX10, "canTake", "(I)Z"⟩
abbrev cX10_goPut : ByteArray := prog_12_method_19_code
def yX10_goPut : MethodName := ⟨RX10, "goPut", "(I)V"⟩
abbrev cX10_goTake : ByteArray := prog_12_method_20_code
def yX10_goTake : MethodName := ⟨RX10, "goTake", "(I)V"⟩
abbrev cX10_goMend : ByteArray := prog_12_method_21_code
def yX10_goMend : MethodName := ⟨RX10, "goMend", "(I)V"⟩
abbrev cX10_goMove : ByteArray := prog_12_method_22_code
def yX10_goMove : MethodName := ⟨RX10, "goMove", "(II)Z"⟩
abbrev cX10_covered : ByteArray := prog_12_method_23_code
def yX10_covered : MethodName := ⟨RX10, "covered", "()I"⟩
abbrev cX10_begin : ByteArray := prog_12_method_24_code
def yX10_begin : MethodName := ⟨RX10, "begin", "(I)V"⟩
abbrev cX10_doll : ByteArray := prog_12_method_25_code
def yX10_doll : MethodName := ⟨RX10, "doll", "(I)I"⟩
abbrev cX10_child : ByteArray := prog_12_method_26_code
def yX10_child : MethodName := ⟨RX10, "child", "(I)I"⟩
abbrev cX10_addPiece : ByteArray := prog_12_method_27_code
def yX10_addPiece : MethodName := ⟨RX10, "addPiece", "(III)V"⟩
abbrev cX10_piece : ByteArray := prog_12_method_28_code
def yX10_piece : MethodName := ⟨RX10, "piece", "(III)I"⟩
abbrev cX10_type : ByteArray := prog_12_method_29_code
def yX10_type : MethodName := ⟨RX10, "type", "(I)I"⟩
abbrev cX10_clear : ByteArray := prog_12_method_30_code
def yX10_clear : MethodName := ⟨RX10, "clear", "()I"⟩
abbrev cX10_isLetter : ByteArray := prog_12_method_31_code
def yX10_isLetter : MethodName := ⟨RX10, "isLetter", "(I)Z"⟩
abbrev cX10_isFigure : ByteArray := prog_12_method_32_code
def yX10_isFigure : MethodName := ⟨RX10, "isFigure", "(I)Z"⟩
abbrev cX10_next : ByteArray := prog_12_method_33_code
def yX10_next : MethodName := ⟨RX10, "next", "()V"⟩
abbrev cX10_isNumber : ByteArray := prog_12_method_34_code
def yX10_isNumber : MethodName := ⟨RX10, "isNumber", "(II)Z"⟩
abbrev cX10_isEnd : ByteArray := prog_12_method_35_code
def yX10_isEnd : MethodName := ⟨RX10, "isEnd", "()Z"⟩
abbrev cX10_item : ByteArray := prog_12_method_36_code
def yX10_item : MethodName := ⟨RX10, "item", "(Z)Z"⟩
abbrev cX10_read : ByteArray := prog_12_method_37_code
def yX10_read : MethodName := ⟨RX10, "read", "()I"⟩
abbrev cX10_remember : ByteArray := prog_12_method_38_code
def yX10_remember : MethodName := ⟨RX10, "remember", "()V"⟩
abbrev cX10_move : ByteArray := prog_12_method_39_code
def yX10_move : MethodName := ⟨RX10, "move", "(II)I"⟩
abbrev cX10_puts : ByteArray := prog_12_method_40_code
def yX10_puts : MethodName := ⟨RX10, "puts", "(I)I"⟩
abbrev cX10_takes : ByteArray := prog_12_method_41_code
def yX10_takes : MethodName := ⟨RX10, "takes", "(I)I"⟩
abbrev cX10_mends : ByteArray := prog_12_method_42_code
def yX10_mends : MethodName := ⟨RX10, "mends", "(I)I"⟩
abbrev cX10_undo : ByteArray := prog_12_method_43_code
def yX10_undo : MethodName := ⟨RX10, "undo", "()I"⟩
abbrev cX10_of : ByteArray := prog_12_method_44_code
def yX10_of : MethodName := ⟨RX10, "of", "(II)I"⟩
abbrev cX10_seen : ByteArray := prog_12_method_45_code
def yX10_seen : MethodName := ⟨RX10, "seen", "(I)I"⟩
abbrev cX10_canSet : ByteArray := prog_12_method_46_code
def yX10_canSet : MethodName := ⟨RX10, "canSet", "()I"⟩
abbrev cX10_can : ByteArray := prog_12_method_47_code
def yX10_can : MethodName := ⟨RX10, "can", "()I"⟩
abbrev cX10_off : ByteArray := prog_12_method_48_code
def yX10_off : MethodName := ⟨RX10, "off", "()I"⟩
abbrev cX10_going : ByteArray := prog_12_method_49_code
def yX10_going : MethodName := ⟨RX10, "going", "(I)I"⟩
abbrev cX10_coveredBy : ByteArray := prog_12_method_50_code
def yX10_coveredBy : MethodName := ⟨RX10, "coveredBy", "(I)I"⟩
abbrev cX10_isOutfit : ByteArray := prog_12_method_51_code
def yX10_isOutfit : MethodName := ⟨RX10, "isOutfit", "(I)Z"⟩
abbrev cX10_outfitAt : ByteArray := prog_12_method_52_code
def yX10_outfitAt : MethodName := ⟨RX10, "outfitAt", "(I)I"⟩
abbrev cX10_outfitMany : ByteArray := prog_12_method_53_code
def yX10_outfitMany : MethodName := ⟨RX10, "outfitMany", "()I"⟩
abbrev cX10_outfits : ByteArray := prog_12_method_54_code
def yX10_outfits : MethodName := ⟨RX10, "outfits", "(I)I"⟩
abbrev cX10_lean : ByteArray := prog_12_method_55_code
def yX10_lean : MethodName := ⟨RX10, "lean", "(I)I"⟩
abbrev cX10_days : ByteArray := prog_12_method_56_code
def yX10_days : MethodName := ⟨RX10, "days", "()I"⟩
abbrev cX10_spared : ByteArray := prog_12_method_57_code
def yX10_spared : MethodName := ⟨RX10, "spared", "()I"⟩
abbrev cX10_goRow : ByteArray := prog_12_method_58_code
def yX10_goRow : MethodName := ⟨RX10, "goRow", "(II)Z"⟩
abbrev cX10_few : ByteArray := prog_12_method_59_code
def yX10_few : MethodName := ⟨RX10, "few", "(I)I"⟩
abbrev cX10_rowAt : ByteArray := prog_12_method_60_code
def yX10_rowAt : MethodName := ⟨RX10, "rowAt", "(III)I"⟩
abbrev cX10_note : ByteArray := prog_12_method_61_code
def yX10_note : MethodName := ⟨RX10, "note", "(III)I"⟩
abbrev cX10_mark : ByteArray := prog_12_method_62_code
def yX10_mark : MethodName := ⟨RX10, "mark", "(IIII)I"⟩
abbrev cX10_forget : ByteArray := prog_12_method_63_code
def yX10_forget : MethodName := ⟨RX10, "forget", "(I)I"⟩
abbrev cX10_is : ByteArray := prog_12_method_64_code
def yX10_is : MethodName := ⟨RX10, "is", "()I"⟩
abbrev cX10_look : ByteArray := prog_12_method_65_code
def yX10_look : MethodName := ⟨RX10, "look", "()I"⟩
abbrev cX10_kindSet : ByteArray := prog_12_method_66_code
def yX10_kindSet : MethodName := ⟨RX10, "kindSet", "(I)I"⟩
abbrev cX10_kinds : ByteArray := prog_12_method_67_code
def yX10_kinds : MethodName := ⟨RX10, "kinds", "(I)I"⟩
abbrev cX10_ask : ByteArray := prog_12_method_68_code
def yX10_ask : MethodName := ⟨RX10, "ask", "(I)I"⟩
abbrev cX10_getsOf : ByteArray := prog_12_method_69_code
def yX10_getsOf : MethodName := ⟨RX10, "getsOf", "(III)I"⟩
abbrev cX10_rests : ByteArray := prog_12_method_70_code
def yX10_rests : MethodName := ⟨RX10, "rests", "(IIII)Z"⟩
abbrev cX10_two : ByteArray := prog_12_method_71_code
def yX10_two : MethodName := ⟨RX10, "two", "(I)I"⟩
abbrev cX10_fraction : ByteArray := prog_12_method_72_code
def yX10_fraction : MethodName := ⟨RX10, "fraction", "(JJ)V"⟩
abbrev cX10_luck : ByteArray := prog_12_method_73_code
def yX10_luck : MethodName := ⟨RX10, "luck", "(I)I"⟩
abbrev cX10_evenings : ByteArray := prog_12_method_74_code
def yX10_evenings : MethodName := ⟨RX10, "evenings", "(II)I"⟩
abbrev cX10_part : ByteArray := prog_12_method_75_code
def yX10_part : MethodName := ⟨RX10, "part", "(I)J"⟩
abbrev cX10_image : ByteArray := prog_12_method_76_code
def yX10_image : MethodName := ⟨RX10, "image", "(I)I"⟩
abbrev cX10_from : ByteArray := prog_12_method_77_code
def yX10_from : MethodName := ⟨RX10, "from", "(I)I"⟩
abbrev cX10_status : ByteArray := prog_12_method_78_code
def yX10_status : MethodName := ⟨RX10, "status", "(I)I"⟩
abbrev cX10_countOf : ByteArray := prog_12_method_79_code
def yX10_countOf : MethodName := ⟨RX10, "countOf", "(I)I"⟩
abbrev cX10_wornAll : ByteArray := prog_12_method_80_code
def yX10_wornAll : MethodName := ⟨RX10, "wornAll", "()I"⟩
abbrev cX10_count : ByteArray := prog_12_method_81_code
def yX10_count : MethodName := ⟨RX10, "count", "(I)I"⟩
abbrev cX10_digest : ByteArray := prog_12_method_82_code
def yX10_digest : MethodName := ⟨RX10, "digest", "()J"⟩
def RJ6 : String := "java/lang/Integer"
abbrev cJ6_bitCount_0f7a4 : ByteArray := prog_13_method_49_code
def yJ6_bitCount_0f7a4 : MethodName := ⟨RJ6, "bitCount", "(I)I"⟩
def RJ9 : String := "java/lang/Math"
abbrev cJ9_max_7cf53 : ByteArray := prog_14_method_65_code
def yJ9_max_7cf53 : MethodName := ⟨RJ9, "max", "(II)I"⟩
abbrev cJ9_min_7cf53 : ByteArray := prog_14_method_69_code
def yJ9_min_7cf53 : MethodName := ⟨RJ9, "min", "(II)I"⟩
def RJ0 : String := "java/lang/String"
abbrev cJ0_length_8abf5 : ByteArray := prog_15_method_54_code
def yJ0_length_8abf5 : MethodName := ⟨RJ0, "length", "()I"⟩
abbrev cJ0_charAt_5068e : ByteArray := prog_15_method_56_code
def yJ0_charAt_5068e : MethodName := ⟨RJ0, "charAt", "(I)C"⟩
abbrev cJ0_coder_7d493 : ByteArray := prog_15_method_152_code
def yJ0_coder_7d493 : MethodName := ⟨RJ0, "coder", "()B"⟩
abbrev cJ0_isLatin1_aae02 : ByteArray := prog_15_method_154_code
def yJ0_isLatin1_aae02 : MethodName := ⟨RJ0, "isLatin1", "()Z"⟩
abbrev cJ0_checkIndex_df160 : ByteArray := prog_15_method_155_code
def yJ0_checkIndex_df160 : MethodName := ⟨RJ0, "checkIndex", "(II)V"⟩
def RJ1 : String := "java/lang/StringLatin1"
abbrev cJ1_charAt_3b067 : ByteArray := prog_16_method_2_code
def yJ1_charAt_3b067 : MethodName := ⟨RJ1, "charAt", "([BI)C"⟩
def RJ2 : String := "java/lang/StringUTF16"
abbrev cJ2_getChar_3b067 : ByteArray := prog_17_method_5_code
def yJ2_getChar_3b067 : MethodName := ⟨RJ2, "getChar", "([BI)C"⟩
abbrev cJ2_length_9d52b : ByteArray := prog_17_method_6_code
def yJ2_length_9d52b : MethodName := ⟨RJ2, "length", "([B)I"⟩
abbrev cJ2_charAt_3b067 : ByteArray := prog_17_method_83_code
def yJ2_charAt_3b067 : MethodName := ⟨RJ2, "charAt", "([BI)C"⟩
abbrev cJ2_checkIndex_2214a : ByteArray := prog_17_method_91_code
def yJ2_checkIndex_2214a : MethodName := ⟨RJ2, "checkIndex", "(I[B)V"⟩
def RJ10 : String := "java/lang/System"
def RJ3 : String := "jdk/internal/util/Preconditions"
abbrev cJ3_checkIndex_8e157 : ByteArray := prog_19_method_11_code
def yJ3_checkIndex_8e157 : MethodName := ⟨RJ3, "checkIndex", "(IILjava/util/function/BiFunction;)I"⟩
def RL : String := "PaperDollsLaw"
abbrev cL_law : ByteArray := code
abbrev vwCl : List vw_C := [(RX1, TX1, 12), (RX4, TX4, 2), (RX5, TX5, 6), (RX7, TX7, 2), (RX8, TX8, 4), (RX9, TX9, 15), (RX10, TX10, 19)]
end
section
/-! MY OWN LAYER. The abstract heap: its size, and what lies at an address; a method's run as a pure function over it. -/
abbrev zD : Type := va_G × (Nat → ClassId) × (Nat → Nat) × (Nat → Nat)
abbrev zE : Type := (Nat × Nat × ((Nat → Int32) ⊕ (Nat → Option Nat))) ⊕ (Nat × List Value)
abbrev zH : Type := Nat × (Nat → Option zE)
abbrev zR : Type := Option (Option Value × zH)
abbrev zX : Type := Program × Launch × Env × Room × State × MethodId × Array Value × List Frame × Method × Code
abbrev zY : Type := zX × zD × (Nat → Prop) × (Option Value → zH → State → Prop)
/-- arrays by tag: 0 int, 1 byte, 2 boolean, 3 Wear, 4 Doll -/
def zTys (D : zD) : List (ClassId × FieldType) := [(D.2.1 0, .int), (D.2.1 1, .byte), (D.2.1 2, .boolean), (D.2.1 3, .object "PaperDolls$Wear"), (D.2.1 4, .object "PaperDolls$Doll")]
def zcell (D : zD) : zE → va_E
  | .inl (t, n, .inl f) => .inl (D.2.1 t, n, .inl f)
  | .inl (t, n, .inr g) => .inl (D.2.1 t, n, .inr (.inr (.inr (.inr g))))
  | .inr o => .inr o
def zRel (D : zD) (A : Nat → Prop) (h : zH) (H : Heap) : Prop := H.size = h.1 ∧ ∃ ws : va_W, va_P D.1 vwCl ws H ∧ va_D A ws ∧ (∀ (a : Nat) (e : zE), h.2 a = some e → ∃ k : Nat, ws[k]? = some (a, zcell D e)) ∧ ∀ (k : Nat) (q : Nat × va_E), ws[k]? = some q → ∃ e, h.2 q.1 = some e ∧ q.2 = zcell D e
def zNest : List (String × Nat × MethodName) := [("PaperDolls$Doll", 23, yX8_init), ("PaperDolls", 29, yX8_init), ("PaperDolls", 36, yX5_init), ("PaperDolls", 43, yX7_init), ("PaperDolls$MoveSearch", 21, yX8_init), ("PaperDolls$Reader", 101, yX9_within)]
def zStrs : List (Nat × String) := [(47, "doll"), (57, "piece"), (65, "on"), (71, "off"), (73, "mend")]
def zLen : List Nat := [4, 5, 2, 3, 4]
def zByt : List (List Int32) := [[100, 111, 108, 108], [112, 105, 101, 99, 101], [111, 110], [111, 102, 102], [109, 101, 110, 100]]
def zK (D : zD) (A : Nat → Prop) (U : State) : Prop := va_K D.1 vwCl (zTys D) U ∧ (∀ w ∈ zNest, va_Nw (.methodLinkNest w.1 w.2.1 w.2.2 "PaperDolls") U) ∧ va_AO "PaperDolls$Wear" U ∧ va_AO "PaperDolls$Doll" U
  ∧ vk_S 5 zLen zByt D.2.2.1 D.2.2.2 A U U.heap ∧ (∀ (i : Nat) (q : Nat × String), zStrs[i]? = some q → vk_R "PaperDolls$Reader" q.1 q.2 (D.2.2.1 i) U)
  ∧ va_Z "java/lang/String" "COMPACT_STRINGS" "Z" (.int 1) A U U.heap ∧ va_Zq "jdk/internal/util/Preconditions" "SIOOBE_FORMATTER" "Ljava/util/function/BiFunction;" A U U.heap
theorem zK.warm {D : zD} {A B : Nat → Prop} {s U : State} (hW : s.WarmedH U.vm) (hAB : ∀ q, B q → A q) (hq : ∀ a : Nat, a < s.heap.size → ¬ A a → U.heap[a]? = s.heap[a]?) (h : zK D A s) : zK D B U := by
  obtain ⟨h1, h2, h3, h4, h5, h6, h7, h8⟩ := h
  have hv := hW.alike
  exact ⟨va_K.moved hv h1, fun w hw => va_Nw.warmM hW (h2 w hw), va_AO.moved hv h3, va_AO.moved hv h4, vk_S.narrow (vk_S.kept (vk_S.moved hv h5) hq) hAB, fun i q hi => vk_R.warm hW (h6 i q hi), va_Z.narrow (va_Z.kept (va_Z.moved hv h7) hq) hAB, va_Zq.narrow (va_Zq.kept (va_Zq.moved hv h8) hq) hAB⟩
theorem zK.calling {D : zD} {A : Nat → Prop} {U : State} {g : JFrame} {mk : MethodId} {a : Array Value} (h : zK D A U) : zK D A (U.calling g mk a) := by
  obtain ⟨h1, h2, h3, h4, h5, h6, h7, h8⟩ := h
  have hv : U.vm.Alike (U.calling g mk a).vm := Vm.Alike.refl U.vm
  exact ⟨va_K.moved hv h1, fun w hw => va_Nw.same rfl rfl (h2 w hw), va_AO.moved hv h3, va_AO.moved hv h4, vk_S.moved hv h5, fun i q hi => vk_R.same rfl (h6 i q hi), va_Z.moved hv h7, va_Zq.moved hv h8⟩
/-- the machine's parts of a context -/
abbrev zW (X : zX) (H : Heap) (locs : List Loc) (cells slots : Nat) (Q : State → Prop) (g : JFrame) : Prop := W X.1 X.2.1 X.2.2.1 X.2.2.2.1 X.2.2.2.2.1 X.2.2.2.2.2.1 X.2.2.2.2.2.2.1 X.2.2.2.2.2.2.2.1 X.2.2.2.2.2.2.2.2.1 X.2.2.2.2.2.2.2.2.2 H locs cells slots Q g
/-- a method's fixed things: code, class, name, locals, answer, level, cells and slots in all -/
abbrev zM : Type := ByteArray × String × String × Nat × Option FieldType × Nat × Nat × Nat
def zOk (p : Program) (R : Room) (s : State) (m : MethodId) (args : Array Value) (meth : Method) (c : Code) (D : zD) (A : Nat → Prop) (M : zM) : Prop :=
  p.tables.exec = Jvm.exec ∧ c.code = M.1 ∧ c.maxLocals = M.2.2.2.1 ∧ s.vm.findClass M.2.1 = some m.cls ∧ meth.name = M.2.2.1 ∧ (∀ w ∈ zTb, w.before args s = true) ∧ (M.2.2.2.2.2.1 + 1 ≤ R.frames ∧ 60 * (M.2.2.2.2.2.1 + 1) ≤ R.locals ∧ M.2.2.2.2.2.2.1 ≤ R.cells ∧ M.2.2.2.2.2.2.2 ≤ R.slots) ∧ zK D A s ∧ ∀ q, s.heap.size ≤ q → A q
/-- what a return gives, by the kind of the answer -/
def zRets (p : Program) (l : Launch) (e : Env) (R : Room) (s : State) (m : MethodId) (args : Array Value) (below : List Frame) (meth : Method) (c : Code) (D : zD) (A : Nat → Prop) (Q : Option Value → zH → State → Prop) (M : zM) : Prop :=
  (∀ (ty : FieldType) (v : Int32) (h : zH) (H : Heap) (locs : List Loc) (ls : Array Slot) (pc : Nat), M.2.2.2.2.1 = some ty → narrow ty (.int v) = .int v → decode M.1 pc = .ok (.ireturn, 1) → h.1 = s.heap.size + M.2.2.2.2.2.2.1 → zRel D A h H → va_S A s.heap H locs → W p l e R s m args below meth c H locs M.2.2.2.2.2.2.1 M.2.2.2.2.2.2.2 (Q (some (.int v)) h) (F0 m pc ls [.int v]))
    ∧ (∀ (v : Int64) (h : zH) (H : Heap) (locs : List Loc) (ls : Array Slot) (pc : Nat), M.2.2.2.2.1 = some .long → decode M.1 pc = .ok (.lreturn, 1) → h.1 = s.heap.size + M.2.2.2.2.2.2.1 → zRel D A h H → va_S A s.heap H locs → W p l e R s m args below meth c H locs M.2.2.2.2.2.2.1 M.2.2.2.2.2.2.2 (Q (some (.long v)) h) (F0 m pc ls [.long v]))
    ∧ (∀ (h : zH) (H : Heap) (locs : List Loc) (ls : Array Slot) (pc : Nat), M.2.2.2.2.1 = none → decode M.1 pc = .ok (.return_, 1) → h.1 = s.heap.size + M.2.2.2.2.2.2.1 → zRel D A h H → va_S A s.heap H locs → W p l e R s m args below meth c H locs M.2.2.2.2.2.2.1 M.2.2.2.2.2.2.2 (Q none h) (F0 m pc ls []))
/-- the machine, at pc with locals lv and stack st over the heap h, comes to the end that r says -/
def Z (Y : zY) (M : zM) (cells slots pc : Nat) (lv : List (Nat × Value)) (st : List Value) (h : zH) (r : zR) : Prop := match Y with
  | ((p, l, e, R, s, m, args, below, meth, c), D, A, Q) => zOk p R s m args meth c D A M → zRets p l e R s m args below meth c D A Q M → ∀ (v : Option Value) (h' : zH), r = some (v, h') → h.1 = s.heap.size + cells → ∀ (H : Heap) (locs : List Loc) (ls : Array Slot), zRel D A h H → va_S A s.heap H locs → lv_has ls M.2.2.2.1 lv → W p l e R s m args below meth c H locs cells slots (Q v h') (F0 m pc ls st)
section ZB
variable {Y : zY} {M : zM} {cells slots pc : Nat} {lv lv' : List (Nat × Value)} {st : List Value} {h : zH} {r r1 r2 : zR}
theorem z_none : Z Y M cells slots pc lv st h none := by
  obtain ⟨⟨p, l, e, R, s, m, args, below, meth, c⟩, D, A, Q⟩ := Y
  intro _ _ v h' hr
  cases hr
theorem z_sub (ks : List Nat) (hl : lv_pick lv ks = lv') (k : Z Y M cells slots pc lv' st h r) : Z Y M cells slots pc lv st h r := by
  obtain ⟨⟨p, l, e, R, s, m, args, below, meth, c⟩, D, A, Q⟩ := Y
  intro o1 o2 v h' hr hz H locs ls hR hS hv
  exact k o1 o2 v h' hr hz H locs ls hR hS (lv_sub hv ks hl)
theorem z_ite {c : Prop} [Decidable c] (k1 : c → Z Y M cells slots pc lv st h r1) (k2 : ¬ c → Z Y M cells slots pc lv st h r2) : Z Y M cells slots pc lv st h (if c then r1 else r2) := by
  split
  · exact k1 ‹_›
  · exact k2 ‹_›
def zlt {α : Type} (x : α) (K : α → zR) : zR := K x
theorem z_let {x : Int32} {K : Int32 → zR} (k : ∀ y, Z Y M cells slots pc lv (.int y :: st) h (K y)) : Z Y M cells slots pc lv (.int x :: st) h (zlt x K) := k x
theorem z_letJ {x : Int64} {K : Int64 → zR} (k : ∀ y, Z Y M cells slots pc lv (.long y :: st) h (K y)) : Z Y M cells slots pc lv (.long x :: st) h (zlt x K) := k x
theorem z_iconst {n : Int} {x : Int32} (hd : decode M.1 pc = .ok (.iconst n, 1)) (hx : Int32.ofInt n = x) (k : Z Y M cells slots (pc + 1) lv (.int x :: st) h r) : Z Y M cells slots pc lv (st) h r := by
  obtain ⟨⟨p, l, e, R, s, m, args, below, meth, c⟩, D, A, Q⟩ := Y
  intro o1 o2 v h' hr hz H locs ls hR hS hv
  exact lv_iconst o1.1 o1.2.1 hd hx (k o1 o2 v h' hr hz H locs ls hR hS hv)
theorem z_bipush {n : Int} {x : Int32} (hd : decode M.1 pc = .ok (.bipush n, 2)) (hx : (Int8.ofInt n).toInt32 = x) (k : Z Y M cells slots (pc + 2) lv (.int x :: st) h r) : Z Y M cells slots pc lv (st) h r := by
  obtain ⟨⟨p, l, e, R, s, m, args, below, meth, c⟩, D, A, Q⟩ := Y
  intro o1 o2 v h' hr hz H locs ls hR hS hv
  exact lv_bipush o1.1 o1.2.1 hd hx (k o1 o2 v h' hr hz H locs ls hR hS hv)
theorem z_sipush {n : Int} {x : Int32} (hd : decode M.1 pc = .ok (.sipush n, 3)) (hx : (Int16.ofInt n).toInt32 = x) (k : Z Y M cells slots (pc + 3) lv (.int x :: st) h r) : Z Y M cells slots pc lv (st) h r := by
  obtain ⟨⟨p, l, e, R, s, m, args, below, meth, c⟩, D, A, Q⟩ := Y
  intro o1 o2 v h' hr hz H locs ls hR hS hv
  exact lv_sipush o1.1 o1.2.1 hd hx (k o1 o2 v h' hr hz H locs ls hR hS hv)
theorem z_lconst {n : Fin 2} {x : Int64} (hd : decode M.1 pc = .ok (.lconst n, 1)) (hx : Int64.ofNat (n : Nat) = x) (k : Z Y M cells slots (pc + 1) lv (.long x :: st) h r) : Z Y M cells slots pc lv (st) h r := by
  obtain ⟨⟨p, l, e, R, s, m, args, below, meth, c⟩, D, A, Q⟩ := Y
  intro o1 o2 v h' hr hz H locs ls hR hS hv
  exact lv_lconst o1.1 o1.2.1 hd hx (k o1 o2 v h' hr hz H locs ls hR hS hv)
theorem z_iload_n {i : Fin 4} {j : Nat} {x : Int32} (q : Nat) (hd : decode M.1 pc = .ok (.iload_n i, 1)) (hj : (i : Nat) = j) (hq : lv[q]? = some (j, .int x)) (k : Z Y M cells slots (pc + 1) lv (.int x :: st) h r) : Z Y M cells slots pc lv (st) h r := by
  obtain ⟨⟨p, l, e, R, s, m, args, below, meth, c⟩, D, A, Q⟩ := Y
  intro o1 o2 v h' hr hz H locs ls hR hS hv
  exact lv_iload_n o1.1 o1.2.1 hd hj (lv_at hv q hq) (k o1 o2 v h' hr hz H locs ls hR hS hv)
theorem z_iload {j : Nat} {x : Int32} (q : Nat) (hd : decode M.1 pc = .ok (.iload j, 2)) (hq : lv[q]? = some (j, .int x)) (k : Z Y M cells slots (pc + 2) lv (.int x :: st) h r) : Z Y M cells slots pc lv (st) h r := by
  obtain ⟨⟨p, l, e, R, s, m, args, below, meth, c⟩, D, A, Q⟩ := Y
  intro o1 o2 v h' hr hz H locs ls hR hS hv
  exact lv_iload o1.1 o1.2.1 hd (lv_at hv q hq) (k o1 o2 v h' hr hz H locs ls hR hS hv)
theorem z_lload_n {i : Fin 4} {j : Nat} {x : Int64} (q : Nat) (hd : decode M.1 pc = .ok (.lload_n i, 1)) (hj : (i : Nat) = j) (hq : lv[q]? = some (j, .long x)) (k : Z Y M cells slots (pc + 1) lv (.long x :: st) h r) : Z Y M cells slots pc lv (st) h r := by
  obtain ⟨⟨p, l, e, R, s, m, args, below, meth, c⟩, D, A, Q⟩ := Y
  intro o1 o2 v h' hr hz H locs ls hR hS hv
  exact lv_lload_n o1.1 o1.2.1 hd hj (lv_at hv q hq) (k o1 o2 v h' hr hz H locs ls hR hS hv)
theorem z_lload {j : Nat} {x : Int64} (q : Nat) (hd : decode M.1 pc = .ok (.lload j, 2)) (hq : lv[q]? = some (j, .long x)) (k : Z Y M cells slots (pc + 2) lv (.long x :: st) h r) : Z Y M cells slots pc lv (st) h r := by
  obtain ⟨⟨p, l, e, R, s, m, args, below, meth, c⟩, D, A, Q⟩ := Y
  intro o1 o2 v h' hr hz H locs ls hR hS hv
  exact lv_lload o1.1 o1.2.1 hd (lv_at hv q hq) (k o1 o2 v h' hr hz H locs ls hR hS hv)
theorem z_aload_n {i : Fin 4} {j : Nat} {x : Nat} (q : Nat) (hd : decode M.1 pc = .ok (.aload_n i, 1)) (hj : (i : Nat) = j) (hq : lv[q]? = some (j, .ref x)) (k : Z Y M cells slots (pc + 1) lv (.ref x :: st) h r) : Z Y M cells slots pc lv (st) h r := by
  obtain ⟨⟨p, l, e, R, s, m, args, below, meth, c⟩, D, A, Q⟩ := Y
  intro o1 o2 v h' hr hz H locs ls hR hS hv
  exact lv_aload_n o1.1 o1.2.1 hd hj (lv_at hv q hq) (k o1 o2 v h' hr hz H locs ls hR hS hv)
theorem z_aload {j : Nat} {x : Nat} (q : Nat) (hd : decode M.1 pc = .ok (.aload j, 2)) (hq : lv[q]? = some (j, .ref x)) (k : Z Y M cells slots (pc + 2) lv (.ref x :: st) h r) : Z Y M cells slots pc lv (st) h r := by
  obtain ⟨⟨p, l, e, R, s, m, args, below, meth, c⟩, D, A, Q⟩ := Y
  intro o1 o2 v h' hr hz H locs ls hR hS hv
  exact lv_aload o1.1 o1.2.1 hd (lv_at hv q hq) (k o1 o2 v h' hr hz H locs ls hR hS hv)
theorem z_istore_n {i : Fin 4} {j : Nat} {x : Int32} (hd : decode M.1 pc = .ok (.istore_n i, 1)) (hj : (i : Nat) = j) (hn : j < M.2.2.2.1) (hl : (j, Value.int x) :: lv.filter (fun q => !(q.1 == j) && !(q.1 + 1 == j && q.2.category == 2)) = lv') (k : Z Y M cells slots (pc + 1) lv' st h r) : Z Y M cells slots pc lv (.int x :: st) h r := by
  obtain ⟨⟨p, l, e, R, s, m, args, below, meth, c⟩, D, A, Q⟩ := Y
  intro o1 o2 v h' hr hz H locs ls hR hS hv
  exact lv_istore_n o1.1 o1.2.1 hd hj hv hn hl (fun ls hv => k o1 o2 v h' hr hz H locs ls hR hS hv)
theorem z_istore {j : Nat} {x : Int32} (hd : decode M.1 pc = .ok (.istore j, 2)) (hn : j < M.2.2.2.1) (hl : (j, Value.int x) :: lv.filter (fun q => !(q.1 == j) && !(q.1 + 1 == j && q.2.category == 2)) = lv') (k : Z Y M cells slots (pc + 2) lv' st h r) : Z Y M cells slots pc lv (.int x :: st) h r := by
  obtain ⟨⟨p, l, e, R, s, m, args, below, meth, c⟩, D, A, Q⟩ := Y
  intro o1 o2 v h' hr hz H locs ls hR hS hv
  exact lv_istore o1.1 o1.2.1 hd hv hn hl (fun ls hv => k o1 o2 v h' hr hz H locs ls hR hS hv)
theorem z_astore_n {i : Fin 4} {j : Nat} {x : Nat} (hd : decode M.1 pc = .ok (.astore_n i, 1)) (hj : (i : Nat) = j) (hn : j < M.2.2.2.1) (hl : (j, Value.ref x) :: lv.filter (fun q => !(q.1 == j) && !(q.1 + 1 == j && q.2.category == 2)) = lv') (k : Z Y M cells slots (pc + 1) lv' st h r) : Z Y M cells slots pc lv (.ref x :: st) h r := by
  obtain ⟨⟨p, l, e, R, s, m, args, below, meth, c⟩, D, A, Q⟩ := Y
  intro o1 o2 v h' hr hz H locs ls hR hS hv
  exact lv_astore_n o1.1 o1.2.1 hd hj hv hn hl (fun ls hv => k o1 o2 v h' hr hz H locs ls hR hS hv)
theorem z_astore {j : Nat} {x : Nat} (hd : decode M.1 pc = .ok (.astore j, 2)) (hn : j < M.2.2.2.1) (hl : (j, Value.ref x) :: lv.filter (fun q => !(q.1 == j) && !(q.1 + 1 == j && q.2.category == 2)) = lv') (k : Z Y M cells slots (pc + 2) lv' st h r) : Z Y M cells slots pc lv (.ref x :: st) h r := by
  obtain ⟨⟨p, l, e, R, s, m, args, below, meth, c⟩, D, A, Q⟩ := Y
  intro o1 o2 v h' hr hz H locs ls hR hS hv
  exact lv_astore o1.1 o1.2.1 hd hv hn hl (fun ls hv => k o1 o2 v h' hr hz H locs ls hR hS hv)
theorem z_lstore_n {i : Fin 4} {j : Nat} {x : Int64} (hd : decode M.1 pc = .ok (.lstore_n i, 1)) (hj : (i : Nat) = j) (hn : j + 1 < M.2.2.2.1) (hl : (j, Value.long x) :: lv.filter (fun q => !(q.1 == j) && (!(q.1 == j + 1) && !(q.1 + 1 == j && q.2.category == 2))) = lv') (k : Z Y M cells slots (pc + 1) lv' st h r) : Z Y M cells slots pc lv (.long x :: st) h r := by
  obtain ⟨⟨p, l, e, R, s, m, args, below, meth, c⟩, D, A, Q⟩ := Y
  intro o1 o2 v h' hr hz H locs ls hR hS hv
  exact lv_lstore_n o1.1 o1.2.1 hd hj hv hn hl (fun ls hv => k o1 o2 v h' hr hz H locs ls hR hS hv)
theorem z_lstore {j : Nat} {x : Int64} (hd : decode M.1 pc = .ok (.lstore j, 2)) (hn : j + 1 < M.2.2.2.1) (hl : (j, Value.long x) :: lv.filter (fun q => !(q.1 == j) && (!(q.1 == j + 1) && !(q.1 + 1 == j && q.2.category == 2))) = lv') (k : Z Y M cells slots (pc + 2) lv' st h r) : Z Y M cells slots pc lv (.long x :: st) h r := by
  obtain ⟨⟨p, l, e, R, s, m, args, below, meth, c⟩, D, A, Q⟩ := Y
  intro o1 o2 v h' hr hz H locs ls hR hS hv
  exact lv_lstore o1.1 o1.2.1 hd hv hn hl (fun ls hv => k o1 o2 v h' hr hz H locs ls hR hS hv)
theorem z_iinc {j : Nat} {n : Int} {x y : Int32} (q : Nat) (hd : decode M.1 pc = .ok (.iinc j n, 3)) (hq : lv[q]? = some (j, .int x)) (hy : x + Int32.ofInt n = y) (hn : j < M.2.2.2.1) (hl : (j, Value.int y) :: lv.filter (fun q => !(q.1 == j) && !(q.1 + 1 == j && q.2.category == 2)) = lv') (k : Z Y M cells slots (pc + 3) lv' st h r) : Z Y M cells slots pc lv st h r := by
  obtain ⟨⟨p, l, e, R, s, m, args, below, meth, c⟩, D, A, Q⟩ := Y
  intro o1 o2 v h' hr hz H locs ls hR hS hv
  exact lv_iinc o1.1 o1.2.1 hd hv hq hy hn hl (fun ls hv => k o1 o2 v h' hr hz H locs ls hR hS hv)
theorem z_iadd {x y : Int32} (hd : decode M.1 pc = .ok (.iadd, 1)) (k : Z Y M cells slots (pc + 1) lv (.int (x + y) :: st) h r) : Z Y M cells slots pc lv (.int y :: .int x :: st) h r := by
  obtain ⟨⟨p, l, e, R, s, m, args, below, meth, c⟩, D, A, Q⟩ := Y
  intro o1 o2 v h' hr hz H locs ls hR hS hv
  exact lv_iadd o1.1 o1.2.1 hd (k o1 o2 v h' hr hz H locs ls hR hS hv)
theorem z_isub {x y : Int32} (hd : decode M.1 pc = .ok (.isub, 1)) (k : Z Y M cells slots (pc + 1) lv (.int (x - y) :: st) h r) : Z Y M cells slots pc lv (.int y :: .int x :: st) h r := by
  obtain ⟨⟨p, l, e, R, s, m, args, below, meth, c⟩, D, A, Q⟩ := Y
  intro o1 o2 v h' hr hz H locs ls hR hS hv
  exact lv_isub o1.1 o1.2.1 hd (k o1 o2 v h' hr hz H locs ls hR hS hv)
theorem z_imul {x y : Int32} (hd : decode M.1 pc = .ok (.imul, 1)) (k : Z Y M cells slots (pc + 1) lv (.int (x * y) :: st) h r) : Z Y M cells slots pc lv (.int y :: .int x :: st) h r := by
  obtain ⟨⟨p, l, e, R, s, m, args, below, meth, c⟩, D, A, Q⟩ := Y
  intro o1 o2 v h' hr hz H locs ls hR hS hv
  exact lv_imul o1.1 o1.2.1 hd (k o1 o2 v h' hr hz H locs ls hR hS hv)
theorem z_iand {x y : Int32} (hd : decode M.1 pc = .ok (.iand, 1)) (k : Z Y M cells slots (pc + 1) lv (.int (x &&& y) :: st) h r) : Z Y M cells slots pc lv (.int y :: .int x :: st) h r := by
  obtain ⟨⟨p, l, e, R, s, m, args, below, meth, c⟩, D, A, Q⟩ := Y
  intro o1 o2 v h' hr hz H locs ls hR hS hv
  exact lv_iand o1.1 o1.2.1 hd (k o1 o2 v h' hr hz H locs ls hR hS hv)
theorem z_ior {x y : Int32} (hd : decode M.1 pc = .ok (.ior, 1)) (k : Z Y M cells slots (pc + 1) lv (.int (x ||| y) :: st) h r) : Z Y M cells slots pc lv (.int y :: .int x :: st) h r := by
  obtain ⟨⟨p, l, e, R, s, m, args, below, meth, c⟩, D, A, Q⟩ := Y
  intro o1 o2 v h' hr hz H locs ls hR hS hv
  exact lv_ior o1.1 o1.2.1 hd (k o1 o2 v h' hr hz H locs ls hR hS hv)
theorem z_ixor {x y : Int32} (hd : decode M.1 pc = .ok (.ixor, 1)) (k : Z Y M cells slots (pc + 1) lv (.int (x ^^^ y) :: st) h r) : Z Y M cells slots pc lv (.int y :: .int x :: st) h r := by
  obtain ⟨⟨p, l, e, R, s, m, args, below, meth, c⟩, D, A, Q⟩ := Y
  intro o1 o2 v h' hr hz H locs ls hR hS hv
  exact lv_ixor o1.1 o1.2.1 hd (k o1 o2 v h' hr hz H locs ls hR hS hv)
theorem z_ishl {x y : Int32} (hd : decode M.1 pc = .ok (.ishl, 1)) (k : Z Y M cells slots (pc + 1) lv (.int (x <<< (y &&& 31)) :: st) h r) : Z Y M cells slots pc lv (.int y :: .int x :: st) h r := by
  obtain ⟨⟨p, l, e, R, s, m, args, below, meth, c⟩, D, A, Q⟩ := Y
  intro o1 o2 v h' hr hz H locs ls hR hS hv
  exact lv_ishl o1.1 o1.2.1 hd (k o1 o2 v h' hr hz H locs ls hR hS hv)
theorem z_ishr {x y : Int32} (hd : decode M.1 pc = .ok (.ishr, 1)) (k : Z Y M cells slots (pc + 1) lv (.int (x >>> (y &&& 31)) :: st) h r) : Z Y M cells slots pc lv (.int y :: .int x :: st) h r := by
  obtain ⟨⟨p, l, e, R, s, m, args, below, meth, c⟩, D, A, Q⟩ := Y
  intro o1 o2 v h' hr hz H locs ls hR hS hv
  exact lv_ishr o1.1 o1.2.1 hd (k o1 o2 v h' hr hz H locs ls hR hS hv)
theorem z_iushr {x y : Int32} (hd : decode M.1 pc = .ok (.iushr, 1)) (k : Z Y M cells slots (pc + 1) lv (.int ((x.toUInt32 >>> (y.toUInt32 &&& Int32.toUInt32 31)).toInt32) :: st) h r) : Z Y M cells slots pc lv (.int y :: .int x :: st) h r := by
  obtain ⟨⟨p, l, e, R, s, m, args, below, meth, c⟩, D, A, Q⟩ := Y
  intro o1 o2 v h' hr hz H locs ls hR hS hv
  exact lv_iushr o1.1 o1.2.1 hd rfl (k o1 o2 v h' hr hz H locs ls hR hS hv)
theorem z_ladd {x y : Int64} (hd : decode M.1 pc = .ok (.ladd, 1)) (k : Z Y M cells slots (pc + 1) lv (.long (x + y) :: st) h r) : Z Y M cells slots pc lv (.long y :: .long x :: st) h r := by
  obtain ⟨⟨p, l, e, R, s, m, args, below, meth, c⟩, D, A, Q⟩ := Y
  intro o1 o2 v h' hr hz H locs ls hR hS hv
  exact lv_ladd o1.1 o1.2.1 hd (k o1 o2 v h' hr hz H locs ls hR hS hv)
theorem z_lmul {x y : Int64} (hd : decode M.1 pc = .ok (.lmul, 1)) (k : Z Y M cells slots (pc + 1) lv (.long (x * y) :: st) h r) : Z Y M cells slots pc lv (.long y :: .long x :: st) h r := by
  obtain ⟨⟨p, l, e, R, s, m, args, below, meth, c⟩, D, A, Q⟩ := Y
  intro o1 o2 v h' hr hz H locs ls hR hS hv
  exact lv_lmul o1.1 o1.2.1 hd (k o1 o2 v h' hr hz H locs ls hR hS hv)
theorem z_i2l {x : Int32} (hd : decode M.1 pc = .ok (.i2l, 1)) (k : Z Y M cells slots (pc + 1) lv (.long x.toInt64 :: st) h r) : Z Y M cells slots pc lv (.int x :: st) h r := by
  obtain ⟨⟨p, l, e, R, s, m, args, below, meth, c⟩, D, A, Q⟩ := Y
  intro o1 o2 v h' hr hz H locs ls hR hS hv
  exact lv_i2l o1.1 o1.2.1 hd rfl (k o1 o2 v h' hr hz H locs ls hR hS hv)
theorem z_l2i {x : Int64} (hd : decode M.1 pc = .ok (.l2i, 1)) (k : Z Y M cells slots (pc + 1) lv (.int x.toInt32 :: st) h r) : Z Y M cells slots pc lv (.long x :: st) h r := by
  obtain ⟨⟨p, l, e, R, s, m, args, below, meth, c⟩, D, A, Q⟩ := Y
  intro o1 o2 v h' hr hz H locs ls hR hS hv
  exact lv_l2i o1.1 o1.2.1 hd rfl (k o1 o2 v h' hr hz H locs ls hR hS hv)
theorem z_i2b {x : Int32} (hd : decode M.1 pc = .ok (.i2b, 1)) (k : Z Y M cells slots (pc + 1) lv (.int x.toInt8.toInt32 :: st) h r) : Z Y M cells slots pc lv (.int x :: st) h r := by
  obtain ⟨⟨p, l, e, R, s, m, args, below, meth, c⟩, D, A, Q⟩ := Y
  intro o1 o2 v h' hr hz H locs ls hR hS hv
  exact lv_i2b o1.1 o1.2.1 hd rfl (k o1 o2 v h' hr hz H locs ls hR hS hv)
theorem z_lcmp {x y : Int64} (hd : decode M.1 pc = .ok (.lcmp, 1)) (k : Z Y M cells slots (pc + 1) lv (.int (lg_cmp x y) :: st) h r) : Z Y M cells slots pc lv (.long y :: .long x :: st) h r := by
  obtain ⟨⟨p, l, e, R, s, m, args, below, meth, c⟩, D, A, Q⟩ := Y
  intro o1 o2 v h' hr hz H locs ls hR hS hv
  exact W.lcmp o1.1 o1.2.1 hd (k o1 o2 v h' hr hz H locs ls hR hS hv)
theorem z_dup {x : Value} (hd : decode M.1 pc = .ok (.dup, 1)) (hx : x.category = 1) (k : Z Y M cells slots (pc + 1) lv (x :: x :: st) h r) : Z Y M cells slots pc lv (x :: st) h r := by
  obtain ⟨⟨p, l, e, R, s, m, args, below, meth, c⟩, D, A, Q⟩ := Y
  intro o1 o2 v h' hr hz H locs ls hR hS hv
  exact lv_dup o1.1 o1.2.1 hd hx (k o1 o2 v h' hr hz H locs ls hR hS hv)
theorem z_pop {x : Value} (hd : decode M.1 pc = .ok (.pop, 1)) (hx : x.category = 1) (k : Z Y M cells slots (pc + 1) lv (st) h r) : Z Y M cells slots pc lv (x :: st) h r := by
  obtain ⟨⟨p, l, e, R, s, m, args, below, meth, c⟩, D, A, Q⟩ := Y
  intro o1 o2 v h' hr hz H locs ls hR hS hv
  exact lv_pop o1.1 o1.2.1 hd hx (k o1 o2 v h' hr hz H locs ls hR hS hv)
theorem z_dup2 {x y : Value} (hd : decode M.1 pc = .ok (.dup2, 1)) (hx : x.category = 1) (hy : y.category = 1) (k : Z Y M cells slots (pc + 1) lv (x :: y :: x :: y :: st) h r) : Z Y M cells slots pc lv (x :: y :: st) h r := by
  obtain ⟨⟨p, l, e, R, s, m, args, below, meth, c⟩, D, A, Q⟩ := Y
  intro o1 o2 v h' hr hz H locs ls hR hS hv
  exact lv_dup2_11 o1.1 o1.2.1 hd hx hy (k o1 o2 v h' hr hz H locs ls hR hS hv)
theorem z_ldc {i : Nat} {x : Int32} (hw : Cond.constant M.2.1 i x ∈ zTb) (hd : decode M.1 pc = .ok (.ldc i, 2)) (k : Z Y M cells slots (pc + 2) lv (.int x :: st) h r) : Z Y M cells slots pc lv (st) h r := by
  obtain ⟨⟨p, l, e, R, s, m, args, below, meth, c⟩, D, A, Q⟩ := Y
  intro o1 o2 v h' hr hz H locs ls hR hS hv
  exact lv_ldc o1.1 o1.2.1 o1.2.2.2.1 (o1.2.2.2.2.2.1 _ hw) hd (k o1 o2 v h' hr hz H locs ls hR hS hv)
theorem z_ldcw {i : Nat} {x : Int32} (hw : Cond.constant M.2.1 i x ∈ zTb) (hd : decode M.1 pc = .ok (.ldc_w i, 3)) (k : Z Y M cells slots (pc + 3) lv (.int x :: st) h r) : Z Y M cells slots pc lv (st) h r := by
  obtain ⟨⟨p, l, e, R, s, m, args, below, meth, c⟩, D, A, Q⟩ := Y
  intro o1 o2 v h' hr hz H locs ls hR hS hv
  exact lv_ldcw o1.1 o1.2.1 o1.2.2.2.1 (o1.2.2.2.2.2.1 _ hw) hd (k o1 o2 v h' hr hz H locs ls hR hS hv)
theorem z_ldc2 {i : Nat} {x : Int64} (hw : Cond.constantLong M.2.1 i x ∈ zTb) (hd : decode M.1 pc = .ok (.ldc2_w i, 3)) (k : Z Y M cells slots (pc + 3) lv (.long x :: st) h r) : Z Y M cells slots pc lv (st) h r := by
  obtain ⟨⟨p, l, e, R, s, m, args, below, meth, c⟩, D, A, Q⟩ := Y
  intro o1 o2 v h' hr hz H locs ls hR hS hv
  exact lv_ldc2 o1.1 o1.2.1 o1.2.2.2.1 (o1.2.2.2.2.2.1 _ hw) hd (k o1 o2 v h' hr hz H locs ls hR hS hv)
theorem z_goto {off : Int} {tgt : Nat} (hd : decode M.1 pc = .ok (.goto off, 3)) (ht : (pc : Int) + off = (tgt : Int)) (k : Z Y M cells slots tgt lv st h r) : Z Y M cells slots pc lv st h r := by
  obtain ⟨⟨p, l, e, R, s, m, args, below, meth, c⟩, D, A, Q⟩ := Y
  intro o1 o2 v h' hr hz H locs ls hR hS hv
  exact lv_goto o1.1 o1.2.1 hd ht (k o1 o2 v h' hr hz H locs ls hR hS hv)
theorem z_if_eq {x : Int32} {off : Int} {tgt : Nat} (hd : decode M.1 pc = .ok (.ifCond .eq off, 3)) (ht : (pc : Int) + off = (tgt : Int)) (k1 : Z Y M cells slots tgt lv st h r1) (k2 : Z Y M cells slots (pc + 3) lv st h r2) : Z Y M cells slots pc lv (.int x :: st) h (if x = 0 then r1 else r2) := by
  obtain ⟨⟨p, l, e, R, s, m, args, below, meth, c⟩, D, A, Q⟩ := Y
  intro o1 o2 v h' hr hz H locs ls hR hS hv
  refine lv_if_eq o1.1 o1.2.1 hd ht (fun q => ?_) (fun q => ?_)
  · rw [if_pos q] at hr
    exact k1 o1 o2 v h' hr hz H locs ls hR hS hv
  · rw [if_neg q] at hr
    exact k2 o1 o2 v h' hr hz H locs ls hR hS hv
theorem z_icmp_eq {x y : Int32} {off : Int} {tgt : Nat} (hd : decode M.1 pc = .ok (.if_icmp .eq off, 3)) (ht : (pc : Int) + off = (tgt : Int)) (k1 : Z Y M cells slots tgt lv st h r1) (k2 : Z Y M cells slots (pc + 3) lv st h r2) : Z Y M cells slots pc lv (.int y :: .int x :: st) h (if x = y then r1 else r2) := by
  obtain ⟨⟨p, l, e, R, s, m, args, below, meth, c⟩, D, A, Q⟩ := Y
  intro o1 o2 v h' hr hz H locs ls hR hS hv
  refine lv_icmp_eq o1.1 o1.2.1 hd ht (fun q => ?_) (fun q => ?_)
  · rw [if_pos q] at hr
    exact k1 o1 o2 v h' hr hz H locs ls hR hS hv
  · rw [if_neg q] at hr
    exact k2 o1 o2 v h' hr hz H locs ls hR hS hv
theorem z_if_ne {x : Int32} {off : Int} {tgt : Nat} (hd : decode M.1 pc = .ok (.ifCond .ne off, 3)) (ht : (pc : Int) + off = (tgt : Int)) (k1 : Z Y M cells slots tgt lv st h r1) (k2 : Z Y M cells slots (pc + 3) lv st h r2) : Z Y M cells slots pc lv (.int x :: st) h (if x = 0 then r2 else r1) := by
  obtain ⟨⟨p, l, e, R, s, m, args, below, meth, c⟩, D, A, Q⟩ := Y
  intro o1 o2 v h' hr hz H locs ls hR hS hv
  refine lv_if_ne o1.1 o1.2.1 hd ht (fun q => ?_) (fun q => ?_)
  · rw [if_neg q] at hr
    exact k1 o1 o2 v h' hr hz H locs ls hR hS hv
  · rw [if_pos q] at hr
    exact k2 o1 o2 v h' hr hz H locs ls hR hS hv
theorem z_icmp_ne {x y : Int32} {off : Int} {tgt : Nat} (hd : decode M.1 pc = .ok (.if_icmp .ne off, 3)) (ht : (pc : Int) + off = (tgt : Int)) (k1 : Z Y M cells slots tgt lv st h r1) (k2 : Z Y M cells slots (pc + 3) lv st h r2) : Z Y M cells slots pc lv (.int y :: .int x :: st) h (if x = y then r2 else r1) := by
  obtain ⟨⟨p, l, e, R, s, m, args, below, meth, c⟩, D, A, Q⟩ := Y
  intro o1 o2 v h' hr hz H locs ls hR hS hv
  refine lv_icmp_ne o1.1 o1.2.1 hd ht (fun q => ?_) (fun q => ?_)
  · rw [if_neg q] at hr
    exact k1 o1 o2 v h' hr hz H locs ls hR hS hv
  · rw [if_pos q] at hr
    exact k2 o1 o2 v h' hr hz H locs ls hR hS hv
theorem z_if_lt {x : Int32} {off : Int} {tgt : Nat} (hd : decode M.1 pc = .ok (.ifCond .lt off, 3)) (ht : (pc : Int) + off = (tgt : Int)) (k1 : Z Y M cells slots tgt lv st h r1) (k2 : Z Y M cells slots (pc + 3) lv st h r2) : Z Y M cells slots pc lv (.int x :: st) h (if x < 0 then r1 else r2) := by
  obtain ⟨⟨p, l, e, R, s, m, args, below, meth, c⟩, D, A, Q⟩ := Y
  intro o1 o2 v h' hr hz H locs ls hR hS hv
  refine lv_if_lt o1.1 o1.2.1 hd ht (fun q => ?_) (fun q => ?_)
  · rw [if_pos q] at hr
    exact k1 o1 o2 v h' hr hz H locs ls hR hS hv
  · rw [if_neg q] at hr
    exact k2 o1 o2 v h' hr hz H locs ls hR hS hv
theorem z_icmp_lt {x y : Int32} {off : Int} {tgt : Nat} (hd : decode M.1 pc = .ok (.if_icmp .lt off, 3)) (ht : (pc : Int) + off = (tgt : Int)) (k1 : Z Y M cells slots tgt lv st h r1) (k2 : Z Y M cells slots (pc + 3) lv st h r2) : Z Y M cells slots pc lv (.int y :: .int x :: st) h (if x < y then r1 else r2) := by
  obtain ⟨⟨p, l, e, R, s, m, args, below, meth, c⟩, D, A, Q⟩ := Y
  intro o1 o2 v h' hr hz H locs ls hR hS hv
  refine lv_icmp_lt o1.1 o1.2.1 hd ht (fun q => ?_) (fun q => ?_)
  · rw [if_pos q] at hr
    exact k1 o1 o2 v h' hr hz H locs ls hR hS hv
  · rw [if_neg q] at hr
    exact k2 o1 o2 v h' hr hz H locs ls hR hS hv
theorem z_if_ge {x : Int32} {off : Int} {tgt : Nat} (hd : decode M.1 pc = .ok (.ifCond .ge off, 3)) (ht : (pc : Int) + off = (tgt : Int)) (k1 : Z Y M cells slots tgt lv st h r1) (k2 : Z Y M cells slots (pc + 3) lv st h r2) : Z Y M cells slots pc lv (.int x :: st) h (if 0 ≤ x then r1 else r2) := by
  obtain ⟨⟨p, l, e, R, s, m, args, below, meth, c⟩, D, A, Q⟩ := Y
  intro o1 o2 v h' hr hz H locs ls hR hS hv
  refine lv_if_ge o1.1 o1.2.1 hd ht (fun q => ?_) (fun q => ?_)
  · rw [if_pos q] at hr
    exact k1 o1 o2 v h' hr hz H locs ls hR hS hv
  · rw [if_neg q] at hr
    exact k2 o1 o2 v h' hr hz H locs ls hR hS hv
theorem z_icmp_ge {x y : Int32} {off : Int} {tgt : Nat} (hd : decode M.1 pc = .ok (.if_icmp .ge off, 3)) (ht : (pc : Int) + off = (tgt : Int)) (k1 : Z Y M cells slots tgt lv st h r1) (k2 : Z Y M cells slots (pc + 3) lv st h r2) : Z Y M cells slots pc lv (.int y :: .int x :: st) h (if y ≤ x then r1 else r2) := by
  obtain ⟨⟨p, l, e, R, s, m, args, below, meth, c⟩, D, A, Q⟩ := Y
  intro o1 o2 v h' hr hz H locs ls hR hS hv
  refine lv_icmp_ge o1.1 o1.2.1 hd ht (fun q => ?_) (fun q => ?_)
  · rw [if_pos q] at hr
    exact k1 o1 o2 v h' hr hz H locs ls hR hS hv
  · rw [if_neg q] at hr
    exact k2 o1 o2 v h' hr hz H locs ls hR hS hv
theorem z_if_gt {x : Int32} {off : Int} {tgt : Nat} (hd : decode M.1 pc = .ok (.ifCond .gt off, 3)) (ht : (pc : Int) + off = (tgt : Int)) (k1 : Z Y M cells slots tgt lv st h r1) (k2 : Z Y M cells slots (pc + 3) lv st h r2) : Z Y M cells slots pc lv (.int x :: st) h (if 0 < x then r1 else r2) := by
  obtain ⟨⟨p, l, e, R, s, m, args, below, meth, c⟩, D, A, Q⟩ := Y
  intro o1 o2 v h' hr hz H locs ls hR hS hv
  refine lv_if_gt o1.1 o1.2.1 hd ht (fun q => ?_) (fun q => ?_)
  · rw [if_pos q] at hr
    exact k1 o1 o2 v h' hr hz H locs ls hR hS hv
  · rw [if_neg q] at hr
    exact k2 o1 o2 v h' hr hz H locs ls hR hS hv
theorem z_icmp_gt {x y : Int32} {off : Int} {tgt : Nat} (hd : decode M.1 pc = .ok (.if_icmp .gt off, 3)) (ht : (pc : Int) + off = (tgt : Int)) (k1 : Z Y M cells slots tgt lv st h r1) (k2 : Z Y M cells slots (pc + 3) lv st h r2) : Z Y M cells slots pc lv (.int y :: .int x :: st) h (if y < x then r1 else r2) := by
  obtain ⟨⟨p, l, e, R, s, m, args, below, meth, c⟩, D, A, Q⟩ := Y
  intro o1 o2 v h' hr hz H locs ls hR hS hv
  refine lv_icmp_gt o1.1 o1.2.1 hd ht (fun q => ?_) (fun q => ?_)
  · rw [if_pos q] at hr
    exact k1 o1 o2 v h' hr hz H locs ls hR hS hv
  · rw [if_neg q] at hr
    exact k2 o1 o2 v h' hr hz H locs ls hR hS hv
theorem z_if_le {x : Int32} {off : Int} {tgt : Nat} (hd : decode M.1 pc = .ok (.ifCond .le off, 3)) (ht : (pc : Int) + off = (tgt : Int)) (k1 : Z Y M cells slots tgt lv st h r1) (k2 : Z Y M cells slots (pc + 3) lv st h r2) : Z Y M cells slots pc lv (.int x :: st) h (if x ≤ 0 then r1 else r2) := by
  obtain ⟨⟨p, l, e, R, s, m, args, below, meth, c⟩, D, A, Q⟩ := Y
  intro o1 o2 v h' hr hz H locs ls hR hS hv
  refine lv_if_le o1.1 o1.2.1 hd ht (fun q => ?_) (fun q => ?_)
  · rw [if_pos q] at hr
    exact k1 o1 o2 v h' hr hz H locs ls hR hS hv
  · rw [if_neg q] at hr
    exact k2 o1 o2 v h' hr hz H locs ls hR hS hv
theorem z_icmp_le {x y : Int32} {off : Int} {tgt : Nat} (hd : decode M.1 pc = .ok (.if_icmp .le off, 3)) (ht : (pc : Int) + off = (tgt : Int)) (k1 : Z Y M cells slots tgt lv st h r1) (k2 : Z Y M cells slots (pc + 3) lv st h r2) : Z Y M cells slots pc lv (.int y :: .int x :: st) h (if x ≤ y then r1 else r2) := by
  obtain ⟨⟨p, l, e, R, s, m, args, below, meth, c⟩, D, A, Q⟩ := Y
  intro o1 o2 v h' hr hz H locs ls hR hS hv
  refine lv_icmp_le o1.1 o1.2.1 hd ht (fun q => ?_) (fun q => ?_)
  · rw [if_pos q] at hr
    exact k1 o1 o2 v h' hr hz H locs ls hR hS hv
  · rw [if_neg q] at hr
    exact k2 o1 o2 v h' hr hz H locs ls hR hS hv
def zdv (y : Int32) (r : zR) : zR := if y = 0 then none else r
def zdvJ (y : Int64) (r : zR) : zR := if y = 0 then none else r
theorem zdv_some {y : Int32} {r : zR} {q : Option Value × zH} (hr : zdv y r = some q) : ¬ y = 0 ∧ r = some q := by
  unfold zdv at hr
  split at hr
  · cases hr
  · exact ⟨‹_›, hr⟩
theorem zdvJ_some {y : Int64} {r : zR} {q : Option Value × zH} (hr : zdvJ y r = some q) : ¬ y = 0 ∧ r = some q := by
  unfold zdvJ at hr
  split at hr
  · cases hr
  · exact ⟨‹_›, hr⟩
theorem z_idiv {x y : Int32} (hd : decode M.1 pc = .ok (.idiv, 1)) (k : Z Y M cells slots (pc + 1) lv (.int (x / y) :: st) h r) : Z Y M cells slots pc lv (.int y :: .int x :: st) h (zdv y r) := by
  obtain ⟨⟨p, l, e, R, s, m, args, below, meth, c⟩, D, A, Q⟩ := Y
  intro o1 o2 v h' hr hz H locs ls hR hS hv
  obtain ⟨hy, hr⟩ := zdv_some hr
  exact lv_idiv o1.1 o1.2.1 hd hy (k o1 o2 v h' hr hz H locs ls hR hS hv)
theorem z_irem {x y : Int32} (hd : decode M.1 pc = .ok (.irem, 1)) (k : Z Y M cells slots (pc + 1) lv (.int (x - x / y * y) :: st) h r) : Z Y M cells slots pc lv (.int y :: .int x :: st) h (zdv y r) := by
  obtain ⟨⟨p, l, e, R, s, m, args, below, meth, c⟩, D, A, Q⟩ := Y
  intro o1 o2 v h' hr hz H locs ls hR hS hv
  obtain ⟨hy, hr⟩ := zdv_some hr
  exact lv_irem o1.1 o1.2.1 hd hy (k o1 o2 v h' hr hz H locs ls hR hS hv)
theorem z_ldiv {x y : Int64} (hd : decode M.1 pc = .ok (.ldiv, 1)) (k : Z Y M cells slots (pc + 1) lv (.long (x / y) :: st) h r) : Z Y M cells slots pc lv (.long y :: .long x :: st) h (zdvJ y r) := by
  obtain ⟨⟨p, l, e, R, s, m, args, below, meth, c⟩, D, A, Q⟩ := Y
  intro o1 o2 v h' hr hz H locs ls hR hS hv
  obtain ⟨hy, hr⟩ := zdvJ_some hr
  exact lv_ldiv o1.1 o1.2.1 hd hy (k o1 o2 v h' hr hz H locs ls hR hS hv)
theorem z_lrem {x y : Int64} (hd : decode M.1 pc = .ok (.lrem, 1)) (k : Z Y M cells slots (pc + 1) lv (.long (x - x / y * y) :: st) h r) : Z Y M cells slots pc lv (.long y :: .long x :: st) h (zdvJ y r) := by
  obtain ⟨⟨p, l, e, R, s, m, args, below, meth, c⟩, D, A, Q⟩ := Y
  intro o1 o2 v h' hr hz H locs ls hR hS hv
  obtain ⟨hy, hr⟩ := zdvJ_some hr
  exact lv_lrem o1.1 o1.2.1 hd hy (k o1 o2 v h' hr hz H locs ls hR hS hv)
theorem z_tabIn {dflt lo hi : Int} {offs : Array Int} {len : Nat} {x : Int32} (j : Int32) {off : Int} {tgt : Nat} (hx : x = j) (hd : decode M.1 pc = .ok (.tableswitch dflt lo hi offs, len)) (h1 : ¬ j.toInt < lo) (h2 : ¬ hi < j.toInt) (ho : offs[(j.toInt - lo).toNat]? = some off) (ht : (pc : Int) + off = (tgt : Int)) (k : Z Y M cells slots tgt lv st h r) : Z Y M cells slots pc lv (.int x :: st) h r := by
  obtain ⟨⟨p, l, e, R, s, m, args, below, meth, c⟩, D, A, Q⟩ := Y
  intro o1 o2 v h' hr hz H locs ls hR hS hv
  subst hx
  exact lv_tableIn o1.1 o1.2.1 hd h1 h2 ho ht (k o1 o2 v h' hr hz H locs ls hR hS hv)
theorem z_tabOut {dflt lo hi : Int} {offs : Array Int} {len : Nat} {x : Int32} {tgt : Nat} (hd : decode M.1 pc = .ok (.tableswitch dflt lo hi offs, len)) (hx : x.toInt < lo ∨ hi < x.toInt) (ht : (pc : Int) + dflt = (tgt : Int)) (k : Z Y M cells slots tgt lv st h r) : Z Y M cells slots pc lv (.int x :: st) h r := by
  obtain ⟨⟨p, l, e, R, s, m, args, below, meth, c⟩, D, A, Q⟩ := Y
  intro o1 o2 v h' hr hz H locs ls hR hS hv
  exact lv_tableOut o1.1 o1.2.1 hd hx ht (k o1 o2 v h' hr hz H locs ls hR hS hv)
def zrI (x : Int32) (h : zH) : zR := some (some (.int x), h)
def zrZ (x : Int32) (h : zH) : zR := if x = 0 ∨ x = 1 then some (some (.int x), h) else none
def zrJ (x : Int64) (h : zH) : zR := some (some (.long x), h)
def zrV (h : zH) : zR := some (none, h)
theorem z_iret {x : Int32} (hret : M.2.2.2.2.1 = some .int) (hd : decode M.1 pc = .ok (.ireturn, 1)) : Z Y M M.2.2.2.2.2.2.1 M.2.2.2.2.2.2.2 pc lv [.int x] h (zrI x h) := by
  obtain ⟨⟨p, l, e, R, s, m, args, below, meth, c⟩, D, A, Q⟩ := Y
  intro o1 o2 v h' hr hz H locs ls hR hS hv
  cases hr
  exact o2.1 .int x h H locs ls pc hret rfl hd hz hR hS
theorem z_zret {x : Int32} (hret : M.2.2.2.2.1 = some .boolean) (hd : decode M.1 pc = .ok (.ireturn, 1)) : Z Y M M.2.2.2.2.2.2.1 M.2.2.2.2.2.2.2 pc lv [.int x] h (zrZ x h) := by
  obtain ⟨⟨p, l, e, R, s, m, args, below, meth, c⟩, D, A, Q⟩ := Y
  intro o1 o2 v h' hr hz H locs ls hR hS hv
  unfold zrZ at hr
  split at hr
  · rename_i hx
    cases hr
    refine o2.1 .boolean x h H locs ls pc hret ?_ hd hz hR hS
    rcases hx with rfl | rfl <;> decide +kernel
  · cases hr
theorem z_lret {x : Int64} (hret : M.2.2.2.2.1 = some .long) (hd : decode M.1 pc = .ok (.lreturn, 1)) : Z Y M M.2.2.2.2.2.2.1 M.2.2.2.2.2.2.2 pc lv [.long x] h (zrJ x h) := by
  obtain ⟨⟨p, l, e, R, s, m, args, below, meth, c⟩, D, A, Q⟩ := Y
  intro o1 o2 v h' hr hz H locs ls hR hS hv
  cases hr
  exact o2.2.1 x h H locs ls pc hret hd hz hR hS
theorem z_vret (hret : M.2.2.2.2.1 = none) (hd : decode M.1 pc = .ok (.return_, 1)) : Z Y M M.2.2.2.2.2.2.1 M.2.2.2.2.2.2.2 pc lv [] h (zrV h) := by
  obtain ⟨⟨p, l, e, R, s, m, args, below, meth, c⟩, D, A, Q⟩ := Y
  intro o1 o2 v h' hr hz H locs ls hR hS hv
  cases hr
  exact o2.2.2 h H locs ls pc hret hd hz hR hS
end ZB
end
section
/-! HEAP: objects, arrays -/
def zset (h : zH) (a : Nat) (e : zE) : zH := (h.1, fun q => if q = a then some e else h.2 q)
def zpush (h : zH) (e : zE) : zH := (h.1 + 1, fun q => if q = h.1 then some e else h.2 q)
def zgO (h : zH) (a ci : Nat) (K : List Value → zR) : zR := match h.2 a with
  | some (.inr (c, fs)) => if c = ci then K fs else none
  | _ => none
def zgI (h : zH) (a ci k : Nat) (K : Int32 → zR) : zR := zgO h a ci fun fs => match fs[k]? with
  | some (.int x) => K x
  | _ => none
def zgJ (h : zH) (a ci k : Nat) (K : Int64 → zR) : zR := zgO h a ci fun fs => match fs[k]? with
  | some (.long x) => K x
  | _ => none
def zgR (h : zH) (a ci k : Nat) (K : Nat → zR) : zR := zgO h a ci fun fs => match fs[k]? with
  | some (.ref x) => K x
  | _ => none
def zoc (h : zH) (a ci : Nat) (r : zR) : zR := zgO h a ci fun _ => r
def zpV (h : zH) (a ci k : Nat) (v : Value) (K : zH → zR) : zR := zgO h a ci fun fs => if k < fs.length then K (zset h a (.inr (ci, fs.set k v))) else none
def zgA (h : zH) (a t : Nat) (K : Nat → (Nat → Int32) → zR) : zR := match h.2 a with
  | some (.inl (t', n, .inl f)) => if t' = t then K n f else none
  | _ => none
def zgB (h : zH) (a t : Nat) (K : Nat → (Nat → Option Nat) → zR) : zR := match h.2 a with
  | some (.inl (t', n, .inr f)) => if t' = t then K n f else none
  | _ => none
def zaI (h : zH) (a t : Nat) (i : Int32) (K : Int32 → zR) : zR := zgA h a t fun n f => if i < 0 ∨ n ≤ i.toNatClampNeg then none else K (f i.toNatClampNeg)
def zaL (h : zH) (a t : Nat) (K : Int32 → zR) : zR := zgA h a t fun n _ => K (Int32.ofNat n)
def zsI (h : zH) (a t : Nat) (i x : Int32) (K : zH → zR) : zR := zgA h a t fun n f => if i < 0 ∨ n ≤ i.toNatClampNeg then none else K (zset h a (.inl (t, n, .inl (upd f i.toNatClampNeg x))))
def zaR (h : zH) (a t : Nat) (i : Int32) (K : Nat → zR) : zR := zgB h a t fun n f => if i < 0 ∨ n ≤ i.toNatClampNeg then none else match f i.toNatClampNeg with
  | some y => K y
  | none => none
def zsR (h : zH) (a t : Nat) (i : Int32) (v ci : Nat) (K : zH → zR) : zR := zgB h a t fun n f => if i < 0 ∨ n ≤ i.toNatClampNeg then none else zoc h v ci (K (zset h a (.inl (t, n, .inr (va_up f i.toNatClampNeg (some v))))))
/-- System.arraycopy of ints, to another array -/
def zcp (h : zH) (a0 : Nat) (sp : Int32) (a : Nat) (dp n : Int32) (K : zH → zR) : zR := zgA h a0 0 fun n0 f => zgA h a 0 fun n1 g => if sp < 0 ∨ dp < 0 ∨ n < 0 ∨ n0 < sp.toNatClampNeg + n.toNatClampNeg ∨ n1 < dp.toNatClampNeg + n.toNatClampNeg then none else K (zset h a (.inl (0, n1, .inl (va_cpy f g sp.toNatClampNeg dp.toNatClampNeg n.toNatClampNeg))))
def zcI (r : zR) (K : Int32 → zH → zR) : zR := match r with
  | some (some (.int x), h') => K x h'
  | _ => none
def zcJ (r : zR) (K : Int64 → zH → zR) : zR := match r with
  | some (some (.long x), h') => K x h'
  | _ => none
def zcV (r : zR) (K : zH → zR) : zR := match r with
  | some (none, h') => K h'
  | _ => none
theorem zgO_some {h : zH} {a ci : Nat} {K : List Value → zR} {q : Option Value × zH} (hr : zgO h a ci K = some q) : ∃ fs, h.2 a = some (.inr (ci, fs)) ∧ K fs = some q := by
  unfold zgO at hr
  split at hr
  · rename_i c fs he
    split at hr
    · rename_i hc
      subst hc
      exact ⟨fs, he, hr⟩
    · cases hr
  · cases hr
theorem zgI_some {h : zH} {a ci k : Nat} {K : Int32 → zR} {q : Option Value × zH} (hr : zgI h a ci k K = some q) : ∃ fs x, h.2 a = some (.inr (ci, fs)) ∧ fs[k]? = some (.int x) ∧ K x = some q := by
  obtain ⟨fs, h1, h2⟩ := zgO_some hr
  split at h2
  · rename_i x hx
    exact ⟨fs, x, h1, hx, h2⟩
  · cases h2
theorem zgJ_some {h : zH} {a ci k : Nat} {K : Int64 → zR} {q : Option Value × zH} (hr : zgJ h a ci k K = some q) : ∃ fs x, h.2 a = some (.inr (ci, fs)) ∧ fs[k]? = some (.long x) ∧ K x = some q := by
  obtain ⟨fs, h1, h2⟩ := zgO_some hr
  split at h2
  · rename_i x hx
    exact ⟨fs, x, h1, hx, h2⟩
  · cases h2
theorem zgR_some {h : zH} {a ci k : Nat} {K : Nat → zR} {q : Option Value × zH} (hr : zgR h a ci k K = some q) : ∃ fs x, h.2 a = some (.inr (ci, fs)) ∧ fs[k]? = some (.ref x) ∧ K x = some q := by
  obtain ⟨fs, h1, h2⟩ := zgO_some hr
  split at h2
  · rename_i x hx
    exact ⟨fs, x, h1, hx, h2⟩
  · cases h2
theorem zgA_some {h : zH} {a t : Nat} {K : Nat → (Nat → Int32) → zR} {q : Option Value × zH} (hr : zgA h a t K = some q) : ∃ n f, h.2 a = some (.inl (t, n, .inl f)) ∧ K n f = some q := by
  unfold zgA at hr
  split at hr
  · rename_i t' n f he
    split at hr
    · rename_i hc
      subst hc
      exact ⟨n, f, he, hr⟩
    · cases hr
  · cases hr
theorem zgB_some {h : zH} {a t : Nat} {K : Nat → (Nat → Option Nat) → zR} {q : Option Value × zH} (hr : zgB h a t K = some q) : ∃ n f, h.2 a = some (.inl (t, n, .inr f)) ∧ K n f = some q := by
  unfold zgB at hr
  split at hr
  · rename_i t' n f he
    split at hr
    · rename_i hc
      subst hc
      exact ⟨n, f, he, hr⟩
    · cases hr
  · cases hr
theorem zcI_some {r : zR} {K : Int32 → zH → zR} {q : Option Value × zH} (hr : zcI r K = some q) : ∃ x h', r = some (some (.int x), h') ∧ K x h' = some q := by
  unfold zcI at hr
  split at hr
  · exact ⟨_, _, rfl, hr⟩
  · cases hr
theorem zcJ_some {r : zR} {K : Int64 → zH → zR} {q : Option Value × zH} (hr : zcJ r K = some q) : ∃ x h', r = some (some (.long x), h') ∧ K x h' = some q := by
  unfold zcJ at hr
  split at hr
  · exact ⟨_, _, rfl, hr⟩
  · cases hr
theorem zcV_some {r : zR} {K : zH → zR} {q : Option Value × zH} (hr : zcV r K = some q) : ∃ h', r = some (none, h') ∧ K h' = some q := by
  unfold zcV at hr
  split at hr
  · exact ⟨_, rfl, hr⟩
  · cases hr
theorem zRel.set {D : zD} {A : Nat → Prop} {h : zH} {H1 : Heap} {ws : va_W} {a k0 : Nat} {e0 : va_E} {e1 : zE} (hD : va_D A ws) (m1 : ∀ (a : Nat) (e : zE), h.2 a = some e → ∃ k : Nat, ws[k]? = some (a, zcell D e)) (m2 : ∀ (k : Nat) (q : Nat × va_E), ws[k]? = some q → ∃ e, h.2 q.1 = some e ∧ q.2 = zcell D e) (h0 : ws[k0]? = some (a, e0)) (hz : H1.size = h.1) (hP : va_P D.1 vwCl (ws.set k0 (a, zcell D e1)) H1) (hD1 : va_D A (ws.set k0 (a, zcell D e1))) : zRel D A (zset h a e1) H1 := by
  have hlt : k0 < ws.length := (List.getElem?_eq_some_iff.mp h0).1
  refine ⟨hz, ws.set k0 (a, zcell D e1), hP, hD1, fun b e hb => ?_, fun k q hq => ?_⟩
  · by_cases hba : b = a
    · subst hba
      simp only [zset, if_true] at hb
      cases hb
      exact ⟨k0, by rw [List.getElem?_set_self hlt]⟩
    · simp only [zset, if_neg hba] at hb
      obtain ⟨k, hk⟩ := m1 b e hb
      refine ⟨k, ?_⟩
      rw [List.getElem?_set_ne (fun hkk => ?_)]
      · exact hk
      · subst hkk
        rw [h0] at hk
        cases hk
        exact hba rfl
  · by_cases hk : k0 = k
    · subst hk
      rw [List.getElem?_set_self hlt] at hq
      cases hq
      exact ⟨e1, by simp [zset], rfl⟩
    · rw [List.getElem?_set_ne hk] at hq
      obtain ⟨e, he, hee⟩ := m2 k q hq
      refine ⟨e, ?_, hee⟩
      have hqa : ¬ q.1 = a := fun hqa => hk ((hD.1 k k0 q _ hq h0 hqa).symm)
      simp only [zset, if_neg hqa]
      exact he
theorem va_S.then {A : Nat → Prop} {H0 H H1 : Heap} {locs locs1 : List Loc} (h : va_S A H0 H locs) (h1 : va_S A H H1 locs1) : va_S A H0 H1 locs1 := ⟨Nat.le_trans h.1 h1.1, fun q hq hA => (h1.2.1 q (Nat.lt_of_lt_of_le hq h.1) hA).trans (h.2.1 q hq hA), h1.2.2⟩
theorem va_S.here {A : Nat → Prop} {H0 H : Heap} {locs : List Loc} (h : va_S A H0 H locs) : va_S A H H locs := ⟨Nat.le_refl _, fun _ _ _ => rfl, h.2.2⟩
section ZS
variable {p : Program} {l : Launch} {e : Env} {R : Room} {s : State} {m : MethodId} {args : Array Value} {below : List Frame} {meth : Method} {c : Code} {H : Heap} {locs : List Loc} {cells slots : Nat} {Q : State → Prop} {g : JFrame}
theorem W.sized (k : H.size ≤ s.heap.size + cells → W p l e R s m args below meth c H locs cells slots Q g) : W p l e R s m args below meth c H locs cells slots Q g := fun T hT X => k (by rw [← hT]; exact X.heapSize) T hT X
end ZS
end
section
/-! ROWS OVER THE HEAP -/
/-- a field link: own class, place in its pool; the class among vwCl, the field, its type, final or not -/
def zFld (own : String) (idx ci k : Nat) (ty : FieldType) (fin : Bool) : Prop := ∃ (C : String) (T : u_T) (N : Nat) (ty0 : Nat → FieldType), vwCl[ci]? = some (C, T, N) ∧ k < N ∧ (∀ w ∈ u_ws C T N, w ∈ zTb) ∧ Cond.fieldLink own idx (T k).1 (T k).2.1 (T k).2.2.1 ∈ zTb ∧ (∀ k, k < N → parseFieldDescriptor (T k).2.2.1 = some (ty0 k)) ∧ (∀ a, a < N → ∀ b, b < N → a ≠ b → (T a).2.1 ≠ (T b).2.1) ∧ ty0 k = ty ∧ (T k).2.2.2 = fin ∧ (T k).1 = C
theorem zin {i : Int32} {n : Nat} (h : ¬ (i < 0 ∨ n ≤ i.toNatClampNeg)) : vp_in i n := h
section ZH
variable {Y : zY} {M : zM} {cells slots pc : Nat} {lv lv' : List (Nat × Value)} {st : List Value} {h : zH} {r r1 r2 : zR}
theorem z_getI {idx ci k a : Nat} {ty : FieldType} {fin : Bool} {K : Int32 → zR} (hF : zFld M.2.1 idx ci k ty fin) (hd : decode M.1 pc = .ok (.getfield idx, 3)) (kk : ∀ x, Z Y M cells slots (pc + 3) lv (.int x :: st) h (K x)) : Z Y M cells slots pc lv (.ref a :: st) h (zgI h a ci k K) := by
  obtain ⟨⟨p, l, e, R, s, m, args, below, meth, c⟩, D, A, Q⟩ := Y
  intro o1 o2 v h' hr hz H locs ls hR hS hv
  obtain ⟨fs, x, h1, h2, h3⟩ := zgI_some hr
  obtain ⟨C, T, N, ty0, f1, f2, f3, f4, f5, f6, f7, f8, f9⟩ := hF
  obtain ⟨z1, ws, hP, hD, m1, m2⟩ := id hR
  obtain ⟨k0, hk0⟩ := m1 a _ h1
  exact va_get o1.1 o1.2.1 o1.2.2.2.2.2.1 f3 o1.2.2.2.1 o1.2.2.2.2.2.2.2.1.1 hP k0 hk0 f1 k f2 (o1.2.2.2.2.2.1 _ f4) (fun _ q => q) h2 hd (kk x o1 o2 v h' h3 hz H locs ls hR hS hv)
theorem z_getJ {idx ci k a : Nat} {ty : FieldType} {fin : Bool} {K : Int64 → zR} (hF : zFld M.2.1 idx ci k ty fin) (hd : decode M.1 pc = .ok (.getfield idx, 3)) (kk : ∀ x, Z Y M cells slots (pc + 3) lv (.long x :: st) h (K x)) : Z Y M cells slots pc lv (.ref a :: st) h (zgJ h a ci k K) := by
  obtain ⟨⟨p, l, e, R, s, m, args, below, meth, c⟩, D, A, Q⟩ := Y
  intro o1 o2 v h' hr hz H locs ls hR hS hv
  obtain ⟨fs, x, h1, h2, h3⟩ := zgJ_some hr
  obtain ⟨C, T, N, ty0, f1, f2, f3, f4, f5, f6, f7, f8, f9⟩ := hF
  obtain ⟨z1, ws, hP, hD, m1, m2⟩ := id hR
  obtain ⟨k0, hk0⟩ := m1 a _ h1
  exact va_get o1.1 o1.2.1 o1.2.2.2.2.2.1 f3 o1.2.2.2.1 o1.2.2.2.2.2.2.2.1.1 hP k0 hk0 f1 k f2 (o1.2.2.2.2.2.1 _ f4) (fun _ q => q) h2 hd (kk x o1 o2 v h' h3 hz H locs ls hR hS hv)
theorem z_getR {idx ci k a : Nat} {ty : FieldType} {fin : Bool} {K : Nat → zR} (hF : zFld M.2.1 idx ci k ty fin) (hd : decode M.1 pc = .ok (.getfield idx, 3)) (kk : ∀ x, Z Y M cells slots (pc + 3) lv (.ref x :: st) h (K x)) : Z Y M cells slots pc lv (.ref a :: st) h (zgR h a ci k K) := by
  obtain ⟨⟨p, l, e, R, s, m, args, below, meth, c⟩, D, A, Q⟩ := Y
  intro o1 o2 v h' hr hz H locs ls hR hS hv
  obtain ⟨fs, x, h1, h2, h3⟩ := zgR_some hr
  obtain ⟨C, T, N, ty0, f1, f2, f3, f4, f5, f6, f7, f8, f9⟩ := hF
  obtain ⟨z1, ws, hP, hD, m1, m2⟩ := id hR
  obtain ⟨k0, hk0⟩ := m1 a _ h1
  exact va_get o1.1 o1.2.1 o1.2.2.2.2.2.1 f3 o1.2.2.2.1 o1.2.2.2.2.2.2.2.1.1 hP k0 hk0 f1 k f2 (o1.2.2.2.2.2.1 _ f4) (fun _ q => q) h2 hd (kk x o1 o2 v h' h3 hz H locs ls hR hS hv)
theorem z_put {idx ci k a : Nat} {ty : FieldType} {w : Value} {K : zH → zR} (hF : zFld M.2.1 idx ci k ty false) (hn : narrow ty w = w) (hfit : fits ty w = true) (hd : decode M.1 pc = .ok (.putfield idx, 3)) (kk : ∀ h1 : zH, Z Y M cells slots (pc + 3) lv st h1 (K h1)) : Z Y M cells slots pc lv (w :: .ref a :: st) h (zpV h a ci k w K) := by
  obtain ⟨⟨p, l, e, R, s, m, args, below, meth, c⟩, D, A, Q⟩ := Y
  intro o1 o2 v h' hr hz H locs ls hR hS hv
  obtain ⟨fs, h1, h2⟩ := zgO_some hr
  split at h2
  · rename_i hkl
    obtain ⟨C, T, N, ty0, f1, f2, f3, f4, f5, f6, f7, f8, f9⟩ := hF
    obtain ⟨z1, ws, hP, hD, m1, m2⟩ := id hR
    obtain ⟨k0, hk0⟩ := m1 a _ h1
    refine va_put (ty := ty) o1.1 o1.2.1 o1.2.2.2.2.2.1 f3 ty0 f5 f6 o1.2.2.2.1 o1.2.2.2.2.2.2.2.1.1 hP hD hS.here k0 hk0 f1 k f2 (o1.2.2.2.2.2.1 _ f4) (fun _ q => q) f8 (by rw [f5 k f2, f7]) hn hfit hkl hd (fun H1 locs1 hP1 hD1 hS1 => ?_)
    refine W.sized (fun hle => ?_)
    have z2 : H1.size = h.1 := by have := hS1.1; omega
    exact kk _ o1 o2 v h' h2 hz H1 locs1 ls (zRel.set hD m1 m2 hk0 z2 hP1 hD1) (hS.then hS1) hv
  · cases h2
theorem z_putF {idx ci k a : Nat} {ty : FieldType} {w : Value} {K : zH → zR} (hF : zFld M.2.1 idx ci k ty true) (hini : M.2.2.1 = "<init>") (hoC : (vwCl[ci]?).map (fun q => q.1) = some M.2.1) (hn : narrow ty w = w) (hfit : fits ty w = true) (hd : decode M.1 pc = .ok (.putfield idx, 3)) (kk : ∀ h1 : zH, Z Y M cells slots (pc + 3) lv st h1 (K h1)) : Z Y M cells slots pc lv (w :: .ref a :: st) h (zpV h a ci k w K) := by
  obtain ⟨⟨p, l, e, R, s, m, args, below, meth, c⟩, D, A, Q⟩ := Y
  intro o1 o2 v h' hr hz H locs ls hR hS hv
  obtain ⟨fs, h1, h2⟩ := zgO_some hr
  split at h2
  · rename_i hkl
    obtain ⟨C, T, N, ty0, f1, f2, f3, f4, f5, f6, f7, f8, f9⟩ := hF
    obtain ⟨z1, ws, hP, hD, m1, m2⟩ := id hR
    obtain ⟨k0, hk0⟩ := m1 a _ h1
    refine va_putF (ty := ty) o1.1 o1.2.1 o1.2.2.2.2.2.1 f3 ty0 f5 f6 o1.2.2.2.1 o1.2.2.2.2.2.2.2.1.1 hP hD hS.here k0 hk0 f1 k f2 (o1.2.2.2.2.2.1 _ f4) (fun _ q => q) f8 (o1.2.2.2.2.1.trans hini) (f9.trans (by rw [f1] at hoC; exact Option.some.inj hoC)) (by rw [f5 k f2, f7]) hn hfit hkl hd (fun H1 locs1 hP1 hD1 hS1 => ?_)
    refine W.sized (fun hle => ?_)
    have z2 : H1.size = h.1 := by have := hS1.1; omega
    exact kk _ o1 o2 v h' h2 hz H1 locs1 ls (zRel.set hD m1 m2 hk0 z2 hP1 hD1) (hS.then hS1) hv
  · cases h2
theorem z_iald {a : Nat} {i : Int32} {K : Int32 → zR} (hd : decode M.1 pc = .ok (.iaload, 1)) (kk : ∀ x, Z Y M cells slots (pc + 1) lv (.int x :: st) h (K x)) : Z Y M cells slots pc lv (.int i :: .ref a :: st) h (zaI h a 0 i K) := by
  obtain ⟨⟨p, l, e, R, s, m, args, below, meth, c⟩, D, A, Q⟩ := Y
  intro o1 o2 v h' hr hz H locs ls hR hS hv
  obtain ⟨n, f, h1, h2⟩ := zgA_some hr
  split at h2
  · cases h2
  · rename_i hin
    obtain ⟨z1, ws, hP, hD, m1, m2⟩ := id hR
    obtain ⟨k0, hk0⟩ := m1 a _ h1
    exact va_iald o1.1 o1.2.1 o1.2.2.2.2.2.2.2.1.1 hP k0 0 hk0 rfl (zin hin) hd (kk _ o1 o2 v h' h2 hz H locs ls hR hS hv)
theorem z_bald {a : Nat} {i : Int32} {K : Int32 → zR} (hd : decode M.1 pc = .ok (.baload, 1)) (kk : ∀ x, Z Y M cells slots (pc + 1) lv (.int x :: st) h (K x)) : Z Y M cells slots pc lv (.int i :: .ref a :: st) h (zaI h a 1 i K) := by
  obtain ⟨⟨p, l, e, R, s, m, args, below, meth, c⟩, D, A, Q⟩ := Y
  intro o1 o2 v h' hr hz H locs ls hR hS hv
  obtain ⟨n, f, h1, h2⟩ := zgA_some hr
  split at h2
  · cases h2
  · rename_i hin
    obtain ⟨z1, ws, hP, hD, m1, m2⟩ := id hR
    obtain ⟨k0, hk0⟩ := m1 a _ h1
    exact va_bald o1.1 o1.2.1 o1.2.2.2.2.2.2.2.1.1 hP k0 1 hk0 rfl (zin hin) hd (kk _ o1 o2 v h' h2 hz H locs ls hR hS hv)
theorem z_zald {a : Nat} {i : Int32} {K : Int32 → zR} (hd : decode M.1 pc = .ok (.baload, 1)) (kk : ∀ x, Z Y M cells slots (pc + 1) lv (.int x :: st) h (K x)) : Z Y M cells slots pc lv (.int i :: .ref a :: st) h (zaI h a 2 i K) := by
  obtain ⟨⟨p, l, e, R, s, m, args, below, meth, c⟩, D, A, Q⟩ := Y
  intro o1 o2 v h' hr hz H locs ls hR hS hv
  obtain ⟨n, f, h1, h2⟩ := zgA_some hr
  split at h2
  · cases h2
  · rename_i hin
    obtain ⟨z1, ws, hP, hD, m1, m2⟩ := id hR
    obtain ⟨k0, hk0⟩ := m1 a _ h1
    exact va_zald o1.1 o1.2.1 o1.2.2.2.2.2.2.2.1.1 hP k0 2 hk0 rfl (zin hin) hd (kk _ o1 o2 v h' h2 hz H locs ls hR hS hv)
theorem z_iast {a : Nat} {i x : Int32} {K : zH → zR} (hd : decode M.1 pc = .ok (.iastore, 1)) (kk : ∀ h1, Z Y M cells slots (pc + 1) lv st h1 (K h1)) : Z Y M cells slots pc lv (.int x :: .int i :: .ref a :: st) h (zsI h a 0 i x K) := by
  obtain ⟨⟨p, l, e, R, s, m, args, below, meth, c⟩, D, A, Q⟩ := Y
  intro o1 o2 v h' hr hz H locs ls hR hS hv
  obtain ⟨n, f, h1, h2⟩ := zgA_some hr
  split at h2
  · cases h2
  · rename_i hin
    obtain ⟨z1, ws, hP, hD, m1, m2⟩ := id hR
    obtain ⟨k0, hk0⟩ := m1 a _ h1
    refine va_iast o1.1 o1.2.1 o1.2.2.2.2.2.2.2.1.1 hP hD hS.here k0 0 hk0 rfl (zin hin) hd (fun H1 locs1 hP1 hD1 hS1 => ?_)
    refine W.sized (fun hle => ?_)
    have z2 : H1.size = h.1 := by have := hS1.1; omega
    exact kk _ o1 o2 v h' h2 hz H1 locs1 ls (zRel.set hD m1 m2 hk0 z2 hP1 hD1) (hS.then hS1) hv
theorem z_bast {a : Nat} {i x : Int32} {K : zH → zR} (hd : decode M.1 pc = .ok (.bastore, 1)) (kk : ∀ h1, Z Y M cells slots (pc + 1) lv st h1 (K h1)) : Z Y M cells slots pc lv (.int x :: .int i :: .ref a :: st) h (zsI h a 1 i (vp_nar .byte x) K) := by
  obtain ⟨⟨p, l, e, R, s, m, args, below, meth, c⟩, D, A, Q⟩ := Y
  intro o1 o2 v h' hr hz H locs ls hR hS hv
  obtain ⟨n, f, h1, h2⟩ := zgA_some hr
  split at h2
  · cases h2
  · rename_i hin
    obtain ⟨z1, ws, hP, hD, m1, m2⟩ := id hR
    obtain ⟨k0, hk0⟩ := m1 a _ h1
    refine va_bast o1.1 o1.2.1 o1.2.2.2.2.2.2.2.1.1 hP hD hS.here k0 1 hk0 rfl (zin hin) hd (fun H1 locs1 hP1 hD1 hS1 => ?_)
    refine W.sized (fun hle => ?_)
    have z2 : H1.size = h.1 := by have := hS1.1; omega
    exact kk _ o1 o2 v h' h2 hz H1 locs1 ls (zRel.set hD m1 m2 hk0 z2 hP1 hD1) (hS.then hS1) hv
theorem z_zast {a : Nat} {i x : Int32} {K : zH → zR} (hd : decode M.1 pc = .ok (.bastore, 1)) (kk : ∀ h1, Z Y M cells slots (pc + 1) lv st h1 (K h1)) : Z Y M cells slots pc lv (.int x :: .int i :: .ref a :: st) h (zsI h a 2 i (vp_nar .boolean x) K) := by
  obtain ⟨⟨p, l, e, R, s, m, args, below, meth, c⟩, D, A, Q⟩ := Y
  intro o1 o2 v h' hr hz H locs ls hR hS hv
  obtain ⟨n, f, h1, h2⟩ := zgA_some hr
  split at h2
  · cases h2
  · rename_i hin
    obtain ⟨z1, ws, hP, hD, m1, m2⟩ := id hR
    obtain ⟨k0, hk0⟩ := m1 a _ h1
    refine va_zast o1.1 o1.2.1 o1.2.2.2.2.2.2.2.1.1 hP hD hS.here k0 2 hk0 rfl (zin hin) hd (fun H1 locs1 hP1 hD1 hS1 => ?_)
    refine W.sized (fun hle => ?_)
    have z2 : H1.size = h.1 := by have := hS1.1; omega
    exact kk _ o1 o2 v h' h2 hz H1 locs1 ls (zRel.set hD m1 m2 hk0 z2 hP1 hD1) (hS.then hS1) hv
theorem z_alenB {a : Nat} {K : Int32 → zR} (hd : decode M.1 pc = .ok (.arraylength, 1)) (kk : ∀ x, Z Y M cells slots (pc + 1) lv (.int x :: st) h (K x)) : Z Y M cells slots pc lv (.ref a :: st) h (zaL h a 1 K) := by
  obtain ⟨⟨p, l, e, R, s, m, args, below, meth, c⟩, D, A, Q⟩ := Y
  intro o1 o2 v h' hr hz H locs ls hR hS hv
  obtain ⟨n, f, h1, h2⟩ := zgA_some hr
  obtain ⟨z1, ws, hP, hD, m1, m2⟩ := id hR
  obtain ⟨k0, hk0⟩ := m1 a _ h1
  exact va_alen o1.1 o1.2.1 o1.2.2.2.2.2.2.2.1.1 hP k0 1 hk0 rfl rfl hd (kk _ o1 o2 v h' h2 hz H locs ls hR hS hv)
theorem z_aald {a t : Nat} {C : String} {i : Int32} {K : Nat → zR} (ht : ∀ D : zD, (zTys D)[t]? = some (D.2.1 t, .object C)) (hd : decode M.1 pc = .ok (.aaload, 1)) (kk : ∀ x, Z Y M cells slots (pc + 1) lv (.ref x :: st) h (K x)) : Z Y M cells slots pc lv (.int i :: .ref a :: st) h (zaR h a t i K) := by
  obtain ⟨⟨p, l, e, R, s, m, args, below, meth, c⟩, D, A, Q⟩ := Y
  intro o1 o2 v h' hr hz H locs ls hR hS hv
  obtain ⟨n, f, h1, h2⟩ := zgB_some hr
  split at h2
  · cases h2
  · rename_i hin
    split at h2
    · rename_i y hy
      obtain ⟨z1, ws, hP, hD, m1, m2⟩ := id hR
      obtain ⟨k0, hk0⟩ := m1 a _ h1
      refine va_aldq o1.1 o1.2.1 o1.2.2.2.2.2.2.2.1.1 hP k0 t hk0 (ht D) (zin hin) hd ?_
      rw [hy]
      exact kk y o1 o2 v h' h2 hz H locs ls hR hS hv
    · cases h2
theorem z_aast {a t ci w : Nat} {q : vw_C} {i : Int32} {K : zH → zR} (ht : ∀ D : zD, (zTys D)[t]? = some (D.2.1 t, .object q.1)) (hc : vwCl[ci]? = some q) (hd : decode M.1 pc = .ok (.aastore, 1)) (kk : ∀ h1, Z Y M cells slots (pc + 1) lv st h1 (K h1)) : Z Y M cells slots pc lv (.ref w :: .int i :: .ref a :: st) h (zsR h a t i w ci K) := by
  obtain ⟨⟨p, l, e, R, s, m, args, below, meth, c⟩, D, A, Q⟩ := Y
  intro o1 o2 v h' hr hz H locs ls hR hS hv
  obtain ⟨n, f, h1, h2⟩ := zgB_some hr
  split at h2
  · cases h2
  · rename_i hin
    obtain ⟨fs, h3, h4⟩ := zgO_some h2
    obtain ⟨z1, ws, hP, hD, m1, m2⟩ := id hR
    obtain ⟨k0, hk0⟩ := m1 a _ h1
    obtain ⟨k1, hk1⟩ := m1 w _ h3
    refine va_astq o1.1 o1.2.1 o1.2.2.2.2.2.2.2.1.1 hP hD hS.here k0 t k1 ci hk0 (ht D) hk1 hc (zin hin) hd (fun H1 locs1 hP1 hD1 hS1 => ?_)
    refine W.sized (fun hle => ?_)
    have z2 : H1.size = h.1 := by have := hS1.1; omega
    exact kk _ o1 o2 v h' h4 hz H1 locs1 ls (zRel.set (e1 := .inl (t, n, .inr (va_up f i.toNatClampNeg (some w)))) hD m1 m2 hk0 z2 hP1 hD1) (hS.then hS1) hv
theorem z_copy {idx a0 a : Nat} {sp dp n : Int32} {K : zH → zR} (hw : Cond.methodLink M.2.1 idx arraycopyName ∈ zTb) (hw1 : Cond.native arraycopyName ∈ zTb) (hw2 : Cond.static arraycopyName ∈ zTb) (hw3 : Cond.initialized "java/lang/System" ∈ zTb) (hst : (st.map fun v => v.category).sum + (nativeFrameWords "java/lang/System" "arraycopy" 5 + 11) ≤ 60) (hd : decode M.1 pc = .ok (.invokestatic idx, 3)) (kk : ∀ h1, Z Y M cells slots (pc + 3) lv st h1 (K h1)) : Z Y M cells slots pc lv (.int n :: .int dp :: .ref a :: .int sp :: .ref a0 :: st) h (zcp h a0 sp a dp n K) := by
  obtain ⟨⟨p, l, e, R, s, m, args, below, meth, c⟩, D, A, Q⟩ := Y
  intro o1 o2 v h' hr hz H locs ls hR hS hv
  obtain ⟨n0, f, h1, h2⟩ := zgA_some hr
  obtain ⟨n1, g, h3, h4⟩ := zgA_some h2
  split at h4
  · cases h4
  · rename_i hin
    obtain ⟨z1, ws, hP, hD, m1, m2⟩ := id hR
    obtain ⟨k0, hk0⟩ := m1 a0 _ h1
    obtain ⟨k1, hk1⟩ := m1 a _ h3
    have w5 := o1.2.2.2.2.2.1
    have w6 := o1.2.2.2.2.2.2.1
    refine va_copyi o1.1 o1.2.1 (by rw [o1.2.2.1]; exact hv.1.symm) o1.2.2.2.1 (w5 _ hw) (w5 _ hw1) (w5 _ hw2) (w5 _ hw3) o1.2.2.2.2.2.2.2.1.1 hP hD hS.here k0 k1 0 0 hk0 hk1 rfl rfl rfl (fun q => hin (Or.inl q)) (fun q => hin (Or.inr (Or.inl q))) (fun q => hin (Or.inr (Or.inr (Or.inl q)))) (Nat.not_lt.mp fun q => hin (Or.inr (Or.inr (Or.inr (Or.inl q))))) (Nat.not_lt.mp fun q => hin (Or.inr (Or.inr (Or.inr (Or.inr q))))) (fun _ _ => rfl) (by omega) (by omega) hd (fun H1 locs1 hP1 hD1 hS1 => ?_)
    refine W.sized (fun hle => ?_)
    have z2 : H1.size = h.1 := by have := hS1.1; omega
    exact kk _ o1 o2 v h' h4 hz H1 locs1 ls (zRel.set (e1 := .inl (0, n1, .inl (va_cpy f g sp.toNatClampNeg dp.toNatClampNeg n.toNatClampNeg))) hD m1 m2 hk1 z2 hP1 hD1) (hS.then hS1) hv
end ZH
end
section
/-! ROWS: NEW CELLS, CALLS, METHODS -/
theorem zRel.push {D : zD} {A : Nat → Prop} {h : zH} {H H1 : Heap} {e1 : zE} (hR : zRel D A h H) (hz : H1.size = h.1 + 1) (oq : ∀ q : Nat, q < H.size → H1[q]? = H[q]?) (hA : A h.1) (he : va_at D.1 vwCl (h.1, zcell D e1) H1) : zRel D A (zpush h e1) H1 := by
  obtain ⟨z1, ws, hP, hD, m1, m2⟩ := hR
  have hlt : ∀ (k : Nat) (q : Nat × va_E), ws[k]? = some q → q.1 < H.size := fun k q hq => (hP k q hq).lt
  refine ⟨hz, ws ++ [(h.1, zcell D e1)], (hP.kept (fun k q hq => oq q.1 (hlt k q hq))).app (fun k q hq => ?_), hD.push hP z1.symm hA, fun b e hb => ?_, fun k q hq => ?_⟩
  · have hk : k < 1 := (List.getElem?_eq_some_iff.mp hq).1
    rw [show k = 0 by omega] at hq
    cases hq
    exact he
  · by_cases hba : b = h.1
    · subst hba
      simp only [zpush, if_true] at hb
      cases hb
      exact ⟨ws.length, by simp⟩
    · simp only [zpush, if_neg hba] at hb
      obtain ⟨k, hk⟩ := m1 b e hb
      exact ⟨k, by rw [List.getElem?_append_left (List.getElem?_eq_some_iff.mp hk).1]; exact hk⟩
  · by_cases hk : k < ws.length
    · rw [List.getElem?_append_left hk] at hq
      obtain ⟨e, h1, h2⟩ := m2 k q hq
      have hne : ¬ q.1 = h.1 := by have := hlt k q hq; omega
      exact ⟨e, by simp only [zpush, if_neg hne]; exact h1, h2⟩
    · rw [List.getElem?_append_right (by omega)] at hq
      have hk1 : k - ws.length < 1 := (List.getElem?_eq_some_iff.mp hq).1
      rw [show k - ws.length = 0 by omega] at hq
      cases hq
      exact ⟨e1, by simp [zpush], rfl⟩
theorem va_S.more {A : Nat → Prop} {H0 H H1 : Heap} {locs : List Loc} (hS : va_S A H0 H locs) (z1 : H.size ≤ H1.size) (o1 : ∀ q : Nat, q < H.size → H1[q]? = H[q]?) : va_S A H0 H1 locs := ⟨Nat.le_trans hS.1 z1, fun x h1 h2 => (o1 x (Nat.lt_of_lt_of_le h1 hS.1)).trans (hS.2.1 x h1 h2), hS.2.2⟩
def zNew (own : String) (idx ci N : Nat) (fs : List Value) : Prop := ∃ (C : String) (T : u_T) (ty : Nat → FieldType), vwCl[ci]? = some (C, T, N) ∧ (∀ w ∈ u_ws C T N, w ∈ zTb) ∧ (∀ k, k < N → parseFieldDescriptor (T k).2.2.1 = some (ty k)) ∧ Cond.classLink own idx C ∈ zTb ∧ Cond.instantiable C N ∈ zTb ∧ Cond.initialized C ∈ zTb ∧ ∀ j, j < N → defaultValue (ty j) = vp_V fs j
/-- a callee's words: static, or of an object -/
def zCal (y : MethodName) (M2 : zM) (n : Nat) : Prop := Cond.code y M2.1 M2.2.2.2.1 M2.2.2.2.2.1 ∈ zTb ∧ Cond.initialized y.cls ∈ zTb ∧ (y.cls ≠ "java/lang/invoke/MethodHandle" ∧ y.cls ≠ "java/lang/invoke/VarHandle" ∧ (parseMethodDescriptor y.desc).map (fun d => d.parameters.length) = some n) ∧ M2.2.2.2.1 + 19 ≤ 60
def zA (h : zH) : Nat → Prop := fun q => (∃ e, h.2 q = some e) ∨ h.1 ≤ q
def zPc (D : zD) (av : List Value) (h : zH) : Array Value → State → Prop := va_Pc av (fun U => zRel D (zA h) h U.heap ∧ zK D (zA h) U)
def zQc (D : zD) (h : zH) (mc : Nat) (v : Option Value) (h' : zH) : Array Value → State → Outcome → State → Prop := fun _ st oc t => (oc = .returned v ∧ zRel D (zA h) h' t.heap ∧ h'.1 = h.1 + mc) ∧ va_F (zA h) st t
def zrm (M : zM) : Room := { frames := M.2.2.2.2.2.1 + 1, cells := M.2.2.2.2.2.2.1, slots := M.2.2.2.2.2.2.2, locals := 60 * (M.2.2.2.2.2.1 + 1) }
def zMet (l : Launch) (D : zD) (y : MethodName) (M : zM) (av : List Value) (h : zH) (r : zR) : Prop := ∀ (v : Option Value) (h' : zH), r = some (v, h') → Met l y (.code y M.1 M.2.2.2.1 M.2.2.2.2.1 :: zTb) (zrm M) (zPc D av h) (zQc D h M.2.2.2.2.2.2.1 v h') M.2.2.2.2.2.2.1 M.2.2.2.2.2.2.2 (zA h)
theorem zPc.blind {D : zD} {av : List Value} {h : zH} : FrameBlind (zPc D av h) := fun a U g mk q => ⟨q.1, q.2.1, zK.calling q.2.2⟩
theorem zRel.narrow {D : zD} {A : Nat → Prop} {h : zH} {H : Heap} (hR : zRel D A h H) : zRel D (zA h) h H := by
  obtain ⟨z1, ws, hP, hD, m1, m2⟩ := hR
  refine ⟨z1, ws, hP, ⟨hD.1, fun k q hq => ?_⟩, m1, m2⟩
  obtain ⟨e, he, -⟩ := m2 k q hq
  exact Or.inl ⟨e, he⟩
theorem zRel.inA {D : zD} {A : Nat → Prop} {h : zH} {H : Heap} (hR : zRel D A h H) {q : Nat} {e : zE} (hq : h.2 q = some e) : A q := by
  obtain ⟨z1, ws, hP, hD, m1, m2⟩ := hR
  obtain ⟨k, hk⟩ := m1 q e hq
  exact hD.2 k _ hk
theorem zRel.zA {D : zD} {A : Nat → Prop} {h : zH} {H H0 : Heap} {locs : List Loc} (hR : zRel D A h H) (hS : va_S A H0 H locs) (hA : ∀ q, H0.size ≤ q → A q) : ∀ q, zA h q → A q := by
  intro q hq
  rcases hq with ⟨e, he⟩ | hq
  · exact hR.inA he
  · exact hA q (Nat.le_trans hS.1 (by rw [hR.1]; exact hq))
theorem zRel.weaken {D : zD} {A B : Nat → Prop} {h : zH} {H : Heap} (hR : zRel D A h H) (hAB : ∀ q, A q → B q) : zRel D B h H := by
  obtain ⟨z1, ws, hP, hD, m1, m2⟩ := hR
  exact ⟨z1, ws, hP, ⟨hD.1, fun k q hq => hAB _ (hD.2 k q hq)⟩, m1, m2⟩
section ZC
variable {Y : zY} {M : zM} {cells slots pc : Nat} {lv lv' : List (Nat × Value)} {st : List Value} {h : zH} {r r1 r2 : zR}
theorem z_new {idx ci N : Nat} {fs : List Value} (hN : zNew M.2.1 idx ci N fs) (hcells : cells + 1 ≤ M.2.2.2.2.2.2.1) (hslots : slots + N ≤ M.2.2.2.2.2.2.2) (hd : decode M.1 pc = .ok (.new idx, 3)) (k : Z Y M (cells + 1) (slots + N) (pc + 3) lv (.ref h.1 :: st) (zpush h (.inr (ci, fs))) r) : Z Y M cells slots pc lv st h r := by
  obtain ⟨⟨p, l, e, R, s, m, args, below, meth, c⟩, D, A, Q⟩ := Y
  intro o1 o2 v h' hr hz H locs ls hR hS hv
  obtain ⟨C, T, ty, f1, f2, f3, f4, f5, f6, f7⟩ := hN
  have w5 := o1.2.2.2.2.2.1
  have hKn := o1.2.2.2.2.2.2.2.1.1.1 ci _ f1
  refine W.newcK (h := h.1) o1.1 o1.2.1 o1.2.2.2.1 (w5 _ f4) (w5 _ f5) (w5 _ f6) rfl hd (Nat.le_trans hcells o1.2.2.2.2.2.2.1.2.2.1) (Nat.le_trans hslots o1.2.2.2.2.2.2.1.2.2.2) hKn.2.1 hR.1 fun H1 kC hkC e1 z1 q1 => ?_
  have q2 : ∀ q : Nat, q < H.size → H1[q]? = H[q]? := fun q hq => q1 q (by rw [← hR.1]; exact hq)
  refine k o1 o2 v h' hr (by show h.1 + 1 = _; omega) H1 locs ls (hR.push z1 q2 (o1.2.2.2.2.2.2.2.2 _ (by rw [← hR.1]; exact hS.1)) ⟨_, f1, (u_born ty w5 f2 hKn hkC e1 f3).to f7⟩) (hS.more (by rw [z1, hR.1]; omega) q2) hv
theorem z_newarr0 {n : Int32} {N : Nat} (hw : Cond.arrayClass .int ∈ zTb) (hn : ¬ n < 0) (hN : n.toNatClampNeg = N) (hb : N * componentBytes .int ≤ 536870912) (hcells : cells + 1 ≤ M.2.2.2.2.2.2.1) (hslots : slots + N ≤ M.2.2.2.2.2.2.2) (hd : decode M.1 pc = .ok (.newarray .int, 2)) (k : Z Y M (cells + 1) (slots + N) (pc + 2) lv (.ref h.1 :: st) (zpush h (.inl (0, N, .inl fun _ => 0))) r) : Z Y M cells slots pc lv (.int n :: st) h r := by
  obtain ⟨⟨p, l, e, R, s, m, args, below, meth, c⟩, D, A, Q⟩ := Y
  intro o1 o2 v h' hr hz H locs ls hR hS hv
  have w5 := o1.2.2.2.2.2.1
  refine va_newaK (h := h.1) (atype := .int) o1.1 o1.2.1 (w5 _ hw) rfl hd rfl hn hN hb (Nat.le_trans hcells o1.2.2.2.2.2.2.1.2.2.1) (Nat.le_trans hslots o1.2.2.2.2.2.2.1.2.2.2) hR.1 fun H1 cA e1 z1 q1 hAr hNm => ?_
  have q2 : ∀ q : Nat, q < H.size → H1[q]? = H[q]? := fun q hq => q1 q (by rw [← hR.1]; exact hq)
  have hcA : cA = D.2.1 0 := Option.some.inj (hNm.symm.trans (o1.2.2.2.2.2.2.2.1.1.2 0 (D.2.1 0, .int) rfl).2)
  subst hcA
  exact k o1 o2 v h' hr (by show h.1 + 1 = _; omega) H1 locs ls (hR.push z1 q2 (o1.2.2.2.2.2.2.2.2 _ (by rw [← hR.1]; exact hS.1)) e1) (hS.more (by rw [z1, hR.1]; omega) q2) hv
theorem z_newarr1 {n : Int32} {N : Nat} (hw : Cond.arrayClass .byte ∈ zTb) (hn : ¬ n < 0) (hN : n.toNatClampNeg = N) (hb : N * componentBytes .byte ≤ 536870912) (hcells : cells + 1 ≤ M.2.2.2.2.2.2.1) (hslots : slots + N ≤ M.2.2.2.2.2.2.2) (hd : decode M.1 pc = .ok (.newarray .byte, 2)) (k : Z Y M (cells + 1) (slots + N) (pc + 2) lv (.ref h.1 :: st) (zpush h (.inl (1, N, .inl fun _ => 0))) r) : Z Y M cells slots pc lv (.int n :: st) h r := by
  obtain ⟨⟨p, l, e, R, s, m, args, below, meth, c⟩, D, A, Q⟩ := Y
  intro o1 o2 v h' hr hz H locs ls hR hS hv
  have w5 := o1.2.2.2.2.2.1
  refine va_newaK (h := h.1) (atype := .byte) o1.1 o1.2.1 (w5 _ hw) rfl hd rfl hn hN hb (Nat.le_trans hcells o1.2.2.2.2.2.2.1.2.2.1) (Nat.le_trans hslots o1.2.2.2.2.2.2.1.2.2.2) hR.1 fun H1 cA e1 z1 q1 hAr hNm => ?_
  have q2 : ∀ q : Nat, q < H.size → H1[q]? = H[q]? := fun q hq => q1 q (by rw [← hR.1]; exact hq)
  have hcA : cA = D.2.1 1 := Option.some.inj (hNm.symm.trans (o1.2.2.2.2.2.2.2.1.1.2 1 (D.2.1 1, .byte) rfl).2)
  subst hcA
  exact k o1 o2 v h' hr (by show h.1 + 1 = _; omega) H1 locs ls (hR.push z1 q2 (o1.2.2.2.2.2.2.2.2 _ (by rw [← hR.1]; exact hS.1)) e1) (hS.more (by rw [z1, hR.1]; omega) q2) hv
theorem z_newarr2 {n : Int32} {N : Nat} (hw : Cond.arrayClass .boolean ∈ zTb) (hn : ¬ n < 0) (hN : n.toNatClampNeg = N) (hb : N * componentBytes .boolean ≤ 536870912) (hcells : cells + 1 ≤ M.2.2.2.2.2.2.1) (hslots : slots + N ≤ M.2.2.2.2.2.2.2) (hd : decode M.1 pc = .ok (.newarray .boolean, 2)) (k : Z Y M (cells + 1) (slots + N) (pc + 2) lv (.ref h.1 :: st) (zpush h (.inl (2, N, .inl fun _ => 0))) r) : Z Y M cells slots pc lv (.int n :: st) h r := by
  obtain ⟨⟨p, l, e, R, s, m, args, below, meth, c⟩, D, A, Q⟩ := Y
  intro o1 o2 v h' hr hz H locs ls hR hS hv
  have w5 := o1.2.2.2.2.2.1
  refine va_newaK (h := h.1) (atype := .boolean) o1.1 o1.2.1 (w5 _ hw) rfl hd rfl hn hN hb (Nat.le_trans hcells o1.2.2.2.2.2.2.1.2.2.1) (Nat.le_trans hslots o1.2.2.2.2.2.2.1.2.2.2) hR.1 fun H1 cA e1 z1 q1 hAr hNm => ?_
  have q2 : ∀ q : Nat, q < H.size → H1[q]? = H[q]? := fun q hq => q1 q (by rw [← hR.1]; exact hq)
  have hcA : cA = D.2.1 2 := Option.some.inj (hNm.symm.trans (o1.2.2.2.2.2.2.2.1.1.2 2 (D.2.1 2, .boolean) rfl).2)
  subst hcA
  exact k o1 o2 v h' hr (by show h.1 + 1 = _; omega) H1 locs ls (hR.push z1 q2 (o1.2.2.2.2.2.2.2.2 _ (by rw [← hR.1]; exact hS.1)) e1) (hS.more (by rw [z1, hR.1]; omega) q2) hv
theorem z_newarr3 {idx : Nat} {n : Int32} {N : Nat} (hw : Cond.classLink M.2.1 idx "PaperDolls$Wear" ∈ zTb) (hn : ¬ n < 0) (hN : n.toNatClampNeg = N) (hb : N * 4 ≤ 536870912) (hcells : cells + 1 ≤ M.2.2.2.2.2.2.1) (hslots : slots + N ≤ M.2.2.2.2.2.2.2) (hd : decode M.1 pc = .ok (.anewarray idx, 3)) (k : Z Y M (cells + 1) (slots + N) (pc + 3) lv (.ref h.1 :: st) (zpush h (.inl (3, N, .inr fun _ => none))) r) : Z Y M cells slots pc lv (.int n :: st) h r := by
  obtain ⟨⟨p, l, e, R, s, m, args, below, meth, c⟩, D, A, Q⟩ := Y
  intro o1 o2 v h' hr hz H locs ls hR hS hv
  have w5 := o1.2.2.2.2.2.1
  subst hN
  refine W.anew o1.1 o1.2.1 o1.2.2.2.1 (w5 _ hw) (va_AO.use o1.2.2.2.2.2.2.2.1.2.2.1) rfl hd rfl hn hb (Nat.le_trans hcells o1.2.2.2.2.2.2.1.2.2.1) (Nat.le_trans hslots o1.2.2.2.2.2.2.1.2.2.2) fun cA kA comp f1 f2 f3 f4 => ?_
  generalize hH1 : H.push ({ cls := cA, slots := Array.replicate n.toNatClampNeg .null, vm := .none } : Cell) = H1
  have z1 : H1.size = h.1 + 1 := by rw [← hH1, Array.size_push, hR.1]
  have e1 : H1[h.1]? = some (arrV cA n.toNatClampNeg (fun _ => .null)) := by rw [← hR.1, ← hH1, Array.getElem?_push_size, ← arrV_new]
  have q2 : ∀ q : Nat, q < H.size → H1[q]? = H[q]? := fun q hq => by rw [← hH1, Array.getElem?_push, if_neg (Nat.ne_of_lt hq)]
  obtain ⟨kA', comp', g1, g2, g3, g4⟩ := (o1.2.2.2.2.2.2.2.1.1.2 3 (D.2.1 3, .object "PaperDolls$Wear") rfl).2
  have hcA : cA = D.2.1 3 := Option.some.inj (f1.symm.trans g4)
  subst hcA
  rw [hR.1]
  exact k o1 o2 v h' hr (by show h.1 + 1 = _; omega) H1 locs ls (hR.push z1 q2 (o1.2.2.2.2.2.2.2.2 _ (by rw [← hR.1]; exact hS.1)) e1) (hS.more (by rw [z1, hR.1]; omega) q2) hv
theorem z_newarr4 {idx : Nat} {n : Int32} {N : Nat} (hw : Cond.classLink M.2.1 idx "PaperDolls$Doll" ∈ zTb) (hn : ¬ n < 0) (hN : n.toNatClampNeg = N) (hb : N * 4 ≤ 536870912) (hcells : cells + 1 ≤ M.2.2.2.2.2.2.1) (hslots : slots + N ≤ M.2.2.2.2.2.2.2) (hd : decode M.1 pc = .ok (.anewarray idx, 3)) (k : Z Y M (cells + 1) (slots + N) (pc + 3) lv (.ref h.1 :: st) (zpush h (.inl (4, N, .inr fun _ => none))) r) : Z Y M cells slots pc lv (.int n :: st) h r := by
  obtain ⟨⟨p, l, e, R, s, m, args, below, meth, c⟩, D, A, Q⟩ := Y
  intro o1 o2 v h' hr hz H locs ls hR hS hv
  have w5 := o1.2.2.2.2.2.1
  subst hN
  refine W.anew o1.1 o1.2.1 o1.2.2.2.1 (w5 _ hw) (va_AO.use o1.2.2.2.2.2.2.2.1.2.2.2.1) rfl hd rfl hn hb (Nat.le_trans hcells o1.2.2.2.2.2.2.1.2.2.1) (Nat.le_trans hslots o1.2.2.2.2.2.2.1.2.2.2) fun cA kA comp f1 f2 f3 f4 => ?_
  generalize hH1 : H.push ({ cls := cA, slots := Array.replicate n.toNatClampNeg .null, vm := .none } : Cell) = H1
  have z1 : H1.size = h.1 + 1 := by rw [← hH1, Array.size_push, hR.1]
  have e1 : H1[h.1]? = some (arrV cA n.toNatClampNeg (fun _ => .null)) := by rw [← hR.1, ← hH1, Array.getElem?_push_size, ← arrV_new]
  have q2 : ∀ q : Nat, q < H.size → H1[q]? = H[q]? := fun q hq => by rw [← hH1, Array.getElem?_push, if_neg (Nat.ne_of_lt hq)]
  obtain ⟨kA', comp', g1, g2, g3, g4⟩ := (o1.2.2.2.2.2.2.2.1.1.2 4 (D.2.1 4, .object "PaperDolls$Doll") rfl).2
  have hcA : cA = D.2.1 4 := Option.some.inj (f1.symm.trans g4)
  subst hcA
  rw [hR.1]
  exact k o1 o2 v h' hr (by show h.1 + 1 = _; omega) H1 locs ls (hR.push z1 q2 (o1.2.2.2.2.2.2.2.2 _ (by rw [← hR.1]; exact hS.1)) e1) (hS.more (by rw [z1, hR.1]; omega) q2) hv
theorem z_objInit {idx a : Nat} (hw : Cond.methodLink M.2.1 idx Lib.objectInit ∈ zTb) (hw1 : Cond.instanceMethod Lib.objectInit ∈ zTb) (hw2 : Cond.code Lib.objectInit ⟨#[0xb1]⟩ 1 none ∈ zTb) (hst : (st.map fun v => v.category).sum ≤ 8) (hd : decode M.1 pc = .ok (.invokespecial idx, 3)) (k : Z Y M cells slots (pc + 3) lv st h r) : Z Y M cells slots pc lv (.ref a :: st) h r := by
  obtain ⟨⟨p, l, e, R, s, m, args, below, meth, c⟩, D, A, Q⟩ := Y
  intro o1 o2 v h' hr hz H locs ls hR hS hv
  have w5 := o1.2.2.2.2.2.1
  have w6 := o1.2.2.2.2.2.2.1
  refine W.objInit o1.1 o1.2.1 o1.2.2.2.1 (w5 _ hw) (w5 _ hw1) (w5 _ hw2) rfl (by rw [o1.2.2.1]; exact hv.1) rfl hd (by omega) ?_ ?_
  · show 2 * 0 + (st.map fun v => v.category).sum + 12 ≤ _
    omega
  · exact k o1 o2 v h' hr hz H locs ls hR hS hv
theorem zcode_nil {y : Cond} (hy : y ∈ zTb) : GoodIn zTb (y :: zTb) := by
  intro w hw
  have h1 : w ∈ zTb := by
    rcases List.mem_cons.mp hw with h | h
    · rw [h]; exact hy
    · exact h
  exact ⟨h1, good_of_word (List.mem_filter.mp h1).2⟩
theorem z_callS_I {y : MethodName} {M2 : zM} {n idx : Nat} {K : Int32 → zH → zR} (av : List Value) {st0 : List Value} (hM : ∀ (l : Launch) (D : zD), l = Y.1.2.1 → D = Y.2.1 → zMet l D y M2 av h r) (hu : zCal y M2 n) (hl : Cond.methodLink M.2.1 idx y ∈ zTb) (hsx : Cond.static y ∈ zTb) (hn : av.length = n) (hst0 : st0 = av.reverse ++ st) (hrm : (st.map fun v => v.category).sum ≤ 8) (hlev : M2.2.2.2.2.2.1 + 1 ≤ M.2.2.2.2.2.1) (hcs : cells + M2.2.2.2.2.2.2.1 ≤ M.2.2.2.2.2.2.1 ∧ slots + M2.2.2.2.2.2.2.2 ≤ M.2.2.2.2.2.2.2) (hd : decode M.1 pc = .ok (.invokestatic idx, 3)) (kk : ∀ x h1, Z Y M (cells + M2.2.2.2.2.2.2.1) (slots + M2.2.2.2.2.2.2.2) (pc + 3) lv (.int x :: st) h1 (K x h1)) : Z Y M cells slots pc lv st0 h (zcI r K) := by
  obtain ⟨⟨p, l, e, R, s, m, args, below, meth, c⟩, D, A, Q⟩ := Y
  intro o1 o2 v h' hr hz H locs ls hR hS hv
  obtain ⟨x, h1, hr0, hr⟩ := zcI_some hr
  subst hst0
  have hM' := hM l D rfl rfl _ h1 hr0
  obtain ⟨u1, u2, u3, u4⟩ := hu
  have w5 := o1.2.2.2.2.2.1
  have w6 := o1.2.2.2.2.2.2.1
  have w5c := w5
  have hG := zcode_nil u1
  have hRo : (zrm M2).frames + 1 ≤ R.frames ∧ 8 + (M2.2.2.2.1 + 11) + (zrm M2).locals ≤ R.locals := by
    refine ⟨?_, ?_⟩
    · show M2.2.2.2.2.2.1 + 1 + 1 ≤ _
      omega
    · show 8 + (M2.2.2.2.1 + 11) + 60 * (M2.2.2.2.2.2.1 + 1) ≤ _
      omega
  have hfit : cells + M2.2.2.2.2.2.2.1 ≤ R.cells ∧ slots + M2.2.2.2.2.2.2.2 ≤ R.slots := ⟨Nat.le_trans hcs.1 w6.2.2.1, Nat.le_trans hcs.2 w6.2.2.2⟩
  have hAA := hR.zA hS o1.2.2.2.2.2.2.2.2
  have hPre : ∀ U : State, U.heap = H → s.WarmedH U.vm → zPc D (av) h (av).toArray U := fun U hU hW => ⟨rfl, by rw [hU]; exact hR.narrow, zK.warm hW hAA (fun a q1 q2 => by rw [hU]; exact hS.2.1 a q1 q2) o1.2.2.2.2.2.2.2.1⟩
  have hst' : (F0 m pc ls (av.reverse ++ st)).stack = av.reverse ++ st := rfl
  have hrun := va_runS (e := e) (locs := locs) (below := below) (meth := meth) (g := F0 m pc ls (av.reverse ++ st)) (Ts := zTb) (As := av) (rest := st) ⟨o1.1, o1.2.1, o1.2.2.1, o1.2.2.2.1, w5⟩ hM' ⟨callB_of (ws' := zTb) n w5c hG rfl rfl rfl (w5 _ u2) (w5 _ hl) u3 hRo, w5 _ hsx⟩ ⟨zPc.blind, hPre⟩ rfl hn hv.1 hst' (lv_room hrm) hd hfit
  intro T hT X
  obtain ⟨v0, st₀, t, T', L, h0, X', hL, e1, e2, ⟨⟨hv0, hRt, hzt⟩, hFz, hFk⟩, stp⟩ := hrun T hT X
  cases hv0
  rw [h0] at hFz hFk
  have hS' : va_S A s.heap T'.heap (locs ++ L) := ⟨Nat.le_trans hS.1 (by rw [e1]; exact hFz), fun q q1 q2 => by rw [e1, hFk q (Nat.lt_of_lt_of_le q1 hS.1) (fun z => q2 (hAA q z))]; exact hS.2.1 q q1 q2, fun q hq => by
    rcases List.mem_append.mp hq with hh | hh
    · exact hS.2.2 q hh
    · exact hAA _ (hL q hh)⟩
  have hR' : zRel D A h1 T'.heap := by rw [e1]; exact hRt.weaken hAA
  obtain ⟨t2, a1, b1⟩ := kk x h1 o1 o2 v h' hr (by rw [hzt, hz]; omega) T'.heap (locs ++ L) ls hR' hS' hv T' rfl X'
  exact ⟨t2, stp t2 a1, b1⟩
theorem z_callS_J {y : MethodName} {M2 : zM} {n idx : Nat} {K : Int64 → zH → zR} (av : List Value) {st0 : List Value} (hM : ∀ (l : Launch) (D : zD), l = Y.1.2.1 → D = Y.2.1 → zMet l D y M2 av h r) (hu : zCal y M2 n) (hl : Cond.methodLink M.2.1 idx y ∈ zTb) (hsx : Cond.static y ∈ zTb) (hn : av.length = n) (hst0 : st0 = av.reverse ++ st) (hrm : (st.map fun v => v.category).sum ≤ 8) (hlev : M2.2.2.2.2.2.1 + 1 ≤ M.2.2.2.2.2.1) (hcs : cells + M2.2.2.2.2.2.2.1 ≤ M.2.2.2.2.2.2.1 ∧ slots + M2.2.2.2.2.2.2.2 ≤ M.2.2.2.2.2.2.2) (hd : decode M.1 pc = .ok (.invokestatic idx, 3)) (kk : ∀ x h1, Z Y M (cells + M2.2.2.2.2.2.2.1) (slots + M2.2.2.2.2.2.2.2) (pc + 3) lv (.long x :: st) h1 (K x h1)) : Z Y M cells slots pc lv st0 h (zcJ r K) := by
  obtain ⟨⟨p, l, e, R, s, m, args, below, meth, c⟩, D, A, Q⟩ := Y
  intro o1 o2 v h' hr hz H locs ls hR hS hv
  obtain ⟨x, h1, hr0, hr⟩ := zcJ_some hr
  subst hst0
  have hM' := hM l D rfl rfl _ h1 hr0
  obtain ⟨u1, u2, u3, u4⟩ := hu
  have w5 := o1.2.2.2.2.2.1
  have w6 := o1.2.2.2.2.2.2.1
  have w5c := w5
  have hG := zcode_nil u1
  have hRo : (zrm M2).frames + 1 ≤ R.frames ∧ 8 + (M2.2.2.2.1 + 11) + (zrm M2).locals ≤ R.locals := by
    refine ⟨?_, ?_⟩
    · show M2.2.2.2.2.2.1 + 1 + 1 ≤ _
      omega
    · show 8 + (M2.2.2.2.1 + 11) + 60 * (M2.2.2.2.2.2.1 + 1) ≤ _
      omega
  have hfit : cells + M2.2.2.2.2.2.2.1 ≤ R.cells ∧ slots + M2.2.2.2.2.2.2.2 ≤ R.slots := ⟨Nat.le_trans hcs.1 w6.2.2.1, Nat.le_trans hcs.2 w6.2.2.2⟩
  have hAA := hR.zA hS o1.2.2.2.2.2.2.2.2
  have hPre : ∀ U : State, U.heap = H → s.WarmedH U.vm → zPc D (av) h (av).toArray U := fun U hU hW => ⟨rfl, by rw [hU]; exact hR.narrow, zK.warm hW hAA (fun a q1 q2 => by rw [hU]; exact hS.2.1 a q1 q2) o1.2.2.2.2.2.2.2.1⟩
  have hst' : (F0 m pc ls (av.reverse ++ st)).stack = av.reverse ++ st := rfl
  have hrun := va_runS (e := e) (locs := locs) (below := below) (meth := meth) (g := F0 m pc ls (av.reverse ++ st)) (Ts := zTb) (As := av) (rest := st) ⟨o1.1, o1.2.1, o1.2.2.1, o1.2.2.2.1, w5⟩ hM' ⟨callB_of (ws' := zTb) n w5c hG rfl rfl rfl (w5 _ u2) (w5 _ hl) u3 hRo, w5 _ hsx⟩ ⟨zPc.blind, hPre⟩ rfl hn hv.1 hst' (lv_room hrm) hd hfit
  intro T hT X
  obtain ⟨v0, st₀, t, T', L, h0, X', hL, e1, e2, ⟨⟨hv0, hRt, hzt⟩, hFz, hFk⟩, stp⟩ := hrun T hT X
  cases hv0
  rw [h0] at hFz hFk
  have hS' : va_S A s.heap T'.heap (locs ++ L) := ⟨Nat.le_trans hS.1 (by rw [e1]; exact hFz), fun q q1 q2 => by rw [e1, hFk q (Nat.lt_of_lt_of_le q1 hS.1) (fun z => q2 (hAA q z))]; exact hS.2.1 q q1 q2, fun q hq => by
    rcases List.mem_append.mp hq with hh | hh
    · exact hS.2.2 q hh
    · exact hAA _ (hL q hh)⟩
  have hR' : zRel D A h1 T'.heap := by rw [e1]; exact hRt.weaken hAA
  obtain ⟨t2, a1, b1⟩ := kk x h1 o1 o2 v h' hr (by rw [hzt, hz]; omega) T'.heap (locs ++ L) ls hR' hS' hv T' rfl X'
  exact ⟨t2, stp t2 a1, b1⟩
theorem z_callS_V {y : MethodName} {M2 : zM} {n idx : Nat} {K : zH → zR} (av : List Value) {st0 : List Value} (hM : ∀ (l : Launch) (D : zD), l = Y.1.2.1 → D = Y.2.1 → zMet l D y M2 av h r) (hu : zCal y M2 n) (hl : Cond.methodLink M.2.1 idx y ∈ zTb) (hsx : Cond.static y ∈ zTb) (hn : av.length = n) (hst0 : st0 = av.reverse ++ st) (hrm : (st.map fun v => v.category).sum ≤ 8) (hlev : M2.2.2.2.2.2.1 + 1 ≤ M.2.2.2.2.2.1) (hcs : cells + M2.2.2.2.2.2.2.1 ≤ M.2.2.2.2.2.2.1 ∧ slots + M2.2.2.2.2.2.2.2 ≤ M.2.2.2.2.2.2.2) (hd : decode M.1 pc = .ok (.invokestatic idx, 3)) (kk : ∀ h1, Z Y M (cells + M2.2.2.2.2.2.2.1) (slots + M2.2.2.2.2.2.2.2) (pc + 3) lv (st) h1 (K h1)) : Z Y M cells slots pc lv st0 h (zcV r K) := by
  obtain ⟨⟨p, l, e, R, s, m, args, below, meth, c⟩, D, A, Q⟩ := Y
  intro o1 o2 v h' hr hz H locs ls hR hS hv
  obtain ⟨h1, hr0, hr⟩ := zcV_some hr
  subst hst0
  have hM' := hM l D rfl rfl _ h1 hr0
  obtain ⟨u1, u2, u3, u4⟩ := hu
  have w5 := o1.2.2.2.2.2.1
  have w6 := o1.2.2.2.2.2.2.1
  have w5c := w5
  have hG := zcode_nil u1
  have hRo : (zrm M2).frames + 1 ≤ R.frames ∧ 8 + (M2.2.2.2.1 + 11) + (zrm M2).locals ≤ R.locals := by
    refine ⟨?_, ?_⟩
    · show M2.2.2.2.2.2.1 + 1 + 1 ≤ _
      omega
    · show 8 + (M2.2.2.2.1 + 11) + 60 * (M2.2.2.2.2.2.1 + 1) ≤ _
      omega
  have hfit : cells + M2.2.2.2.2.2.2.1 ≤ R.cells ∧ slots + M2.2.2.2.2.2.2.2 ≤ R.slots := ⟨Nat.le_trans hcs.1 w6.2.2.1, Nat.le_trans hcs.2 w6.2.2.2⟩
  have hAA := hR.zA hS o1.2.2.2.2.2.2.2.2
  have hPre : ∀ U : State, U.heap = H → s.WarmedH U.vm → zPc D (av) h (av).toArray U := fun U hU hW => ⟨rfl, by rw [hU]; exact hR.narrow, zK.warm hW hAA (fun a q1 q2 => by rw [hU]; exact hS.2.1 a q1 q2) o1.2.2.2.2.2.2.2.1⟩
  have hst' : (F0 m pc ls (av.reverse ++ st)).stack = av.reverse ++ st := rfl
  have hrun := va_runS (e := e) (locs := locs) (below := below) (meth := meth) (g := F0 m pc ls (av.reverse ++ st)) (Ts := zTb) (As := av) (rest := st) ⟨o1.1, o1.2.1, o1.2.2.1, o1.2.2.2.1, w5⟩ hM' ⟨callB_of (ws' := zTb) n w5c hG rfl rfl rfl (w5 _ u2) (w5 _ hl) u3 hRo, w5 _ hsx⟩ ⟨zPc.blind, hPre⟩ rfl hn hv.1 hst' (lv_room hrm) hd hfit
  intro T hT X
  obtain ⟨v0, st₀, t, T', L, h0, X', hL, e1, e2, ⟨⟨hv0, hRt, hzt⟩, hFz, hFk⟩, stp⟩ := hrun T hT X
  cases hv0
  rw [h0] at hFz hFk
  have hS' : va_S A s.heap T'.heap (locs ++ L) := ⟨Nat.le_trans hS.1 (by rw [e1]; exact hFz), fun q q1 q2 => by rw [e1, hFk q (Nat.lt_of_lt_of_le q1 hS.1) (fun z => q2 (hAA q z))]; exact hS.2.1 q q1 q2, fun q hq => by
    rcases List.mem_append.mp hq with hh | hh
    · exact hS.2.2 q hh
    · exact hAA _ (hL q hh)⟩
  have hR' : zRel D A h1 T'.heap := by rw [e1]; exact hRt.weaken hAA
  obtain ⟨t2, a1, b1⟩ := kk h1 o1 o2 v h' hr (by rw [hzt, hz]; omega) T'.heap (locs ++ L) ls hR' hS' hv T' rfl X'
  exact ⟨t2, stp t2 a1, b1⟩
theorem z_callV_I {y : MethodName} {M2 : zM} {n idx : Nat} {b : Nat} {K : Int32 → zH → zR} (av : List Value) {st0 : List Value} (hM : ∀ (l : Launch) (D : zD), l = Y.1.2.1 → D = Y.2.1 → zMet l D y M2 (.ref b :: av) h r) (hu : zCal y M2 n) (hl : Cond.methodLink M.2.1 idx y ∈ zTb) (hsx : Cond.instanceMethod y ∈ zTb) (hse : Cond.selects y.cls y y ∈ zTb) {ci : Nat} {T : u_T} {N : Nat} (hci : vwCl[ci]? = some (y.cls, T, N)) (hn : av.length = n) (hst0 : st0 = av.reverse ++ .ref b :: st) (hrm : (st.map fun v => v.category).sum ≤ 8) (hlev : M2.2.2.2.2.2.1 + 1 ≤ M.2.2.2.2.2.1) (hcs : cells + M2.2.2.2.2.2.2.1 ≤ M.2.2.2.2.2.2.1 ∧ slots + M2.2.2.2.2.2.2.2 ≤ M.2.2.2.2.2.2.2) (hd : decode M.1 pc = .ok (.invokevirtual idx, 3)) (kk : ∀ x h1, Z Y M (cells + M2.2.2.2.2.2.2.1) (slots + M2.2.2.2.2.2.2.2) (pc + 3) lv (.int x :: st) h1 (K x h1)) : Z Y M cells slots pc lv st0 h (zoc h b ci (zcI r K)) := by
  obtain ⟨⟨p, l, e, R, s, m, args, below, meth, c⟩, D, A, Q⟩ := Y
  intro o1 o2 v h' hr hz H locs ls hR hS hv
  obtain ⟨fsb, hb1, hr⟩ := zgO_some hr
  obtain ⟨x, h1, hr0, hr⟩ := zcI_some hr
  subst hst0
  have hM' := hM l D rfl rfl _ h1 hr0
  obtain ⟨u1, u2, u3, u4⟩ := hu
  have w5 := o1.2.2.2.2.2.1
  have w6 := o1.2.2.2.2.2.2.1
  have w5c := w5
  have hG := zcode_nil u1
  have hRo : (zrm M2).frames + 1 ≤ R.frames ∧ 8 + (M2.2.2.2.1 + 11) + (zrm M2).locals ≤ R.locals := by
    refine ⟨?_, ?_⟩
    · show M2.2.2.2.2.2.1 + 1 + 1 ≤ _
      omega
    · show 8 + (M2.2.2.2.1 + 11) + 60 * (M2.2.2.2.2.2.1 + 1) ≤ _
      omega
  have hfit : cells + M2.2.2.2.2.2.2.1 ≤ R.cells ∧ slots + M2.2.2.2.2.2.2.2 ≤ R.slots := ⟨Nat.le_trans hcs.1 w6.2.2.1, Nat.le_trans hcs.2 w6.2.2.2⟩
  have hAA := hR.zA hS o1.2.2.2.2.2.2.2.2
  have hRecv : ∃ cellB : Cell, H[b]? = some cellB ∧ cellB.vm.isStatics = false ∧ s.vm.findClass y.cls = some cellB.cls := by
    obtain ⟨z1, ws, hP, hD, m1, m2⟩ := id hR
    obtain ⟨k0, hk0⟩ := m1 b _ hb1
    exact va_recv o1.2.2.2.2.2.2.2.1.1 hP hci hk0
  have hPre : ∀ U : State, U.heap = H → s.WarmedH U.vm → zPc D ((.ref b :: av)) h ((.ref b :: av)).toArray U := fun U hU hW => ⟨rfl, by rw [hU]; exact hR.narrow, zK.warm hW hAA (fun a q1 q2 => by rw [hU]; exact hS.2.1 a q1 q2) o1.2.2.2.2.2.2.2.1⟩
  have hst' : (F0 m pc ls (av.reverse ++ .ref b :: st)).stack = av.reverse ++ .ref b :: st := rfl
  have hrun := va_runV (e := e) (locs := locs) (below := below) (meth := meth) (g := F0 m pc ls (av.reverse ++ .ref b :: st)) (Ts := zTb) (C := y.cls) (b := b) (As := av) (rest := st) ⟨o1.1, o1.2.1, o1.2.2.1, o1.2.2.2.1, w5⟩ hM' ⟨callB_of (ws' := zTb) n w5c hG rfl rfl rfl (w5 _ u2) (w5 _ hl) u3 hRo, w5 _ hsx, w5 _ hse⟩ ⟨zPc.blind, hRecv, hPre⟩ rfl hn hv.1 hst' (lv_room hrm) hd hfit
  intro T hT X
  obtain ⟨v0, st₀, t, T', L, h0, X', hL, e1, e2, ⟨⟨hv0, hRt, hzt⟩, hFz, hFk⟩, stp⟩ := hrun T hT X
  cases hv0
  rw [h0] at hFz hFk
  have hS' : va_S A s.heap T'.heap (locs ++ L) := ⟨Nat.le_trans hS.1 (by rw [e1]; exact hFz), fun q q1 q2 => by rw [e1, hFk q (Nat.lt_of_lt_of_le q1 hS.1) (fun z => q2 (hAA q z))]; exact hS.2.1 q q1 q2, fun q hq => by
    rcases List.mem_append.mp hq with hh | hh
    · exact hS.2.2 q hh
    · exact hAA _ (hL q hh)⟩
  have hR' : zRel D A h1 T'.heap := by rw [e1]; exact hRt.weaken hAA
  obtain ⟨t2, a1, b1⟩ := kk x h1 o1 o2 v h' hr (by rw [hzt, hz]; omega) T'.heap (locs ++ L) ls hR' hS' hv T' rfl X'
  exact ⟨t2, stp t2 a1, b1⟩
theorem z_callV_J {y : MethodName} {M2 : zM} {n idx : Nat} {b : Nat} {K : Int64 → zH → zR} (av : List Value) {st0 : List Value} (hM : ∀ (l : Launch) (D : zD), l = Y.1.2.1 → D = Y.2.1 → zMet l D y M2 (.ref b :: av) h r) (hu : zCal y M2 n) (hl : Cond.methodLink M.2.1 idx y ∈ zTb) (hsx : Cond.instanceMethod y ∈ zTb) (hse : Cond.selects y.cls y y ∈ zTb) {ci : Nat} {T : u_T} {N : Nat} (hci : vwCl[ci]? = some (y.cls, T, N)) (hn : av.length = n) (hst0 : st0 = av.reverse ++ .ref b :: st) (hrm : (st.map fun v => v.category).sum ≤ 8) (hlev : M2.2.2.2.2.2.1 + 1 ≤ M.2.2.2.2.2.1) (hcs : cells + M2.2.2.2.2.2.2.1 ≤ M.2.2.2.2.2.2.1 ∧ slots + M2.2.2.2.2.2.2.2 ≤ M.2.2.2.2.2.2.2) (hd : decode M.1 pc = .ok (.invokevirtual idx, 3)) (kk : ∀ x h1, Z Y M (cells + M2.2.2.2.2.2.2.1) (slots + M2.2.2.2.2.2.2.2) (pc + 3) lv (.long x :: st) h1 (K x h1)) : Z Y M cells slots pc lv st0 h (zoc h b ci (zcJ r K)) := by
  obtain ⟨⟨p, l, e, R, s, m, args, below, meth, c⟩, D, A, Q⟩ := Y
  intro o1 o2 v h' hr hz H locs ls hR hS hv
  obtain ⟨fsb, hb1, hr⟩ := zgO_some hr
  obtain ⟨x, h1, hr0, hr⟩ := zcJ_some hr
  subst hst0
  have hM' := hM l D rfl rfl _ h1 hr0
  obtain ⟨u1, u2, u3, u4⟩ := hu
  have w5 := o1.2.2.2.2.2.1
  have w6 := o1.2.2.2.2.2.2.1
  have w5c := w5
  have hG := zcode_nil u1
  have hRo : (zrm M2).frames + 1 ≤ R.frames ∧ 8 + (M2.2.2.2.1 + 11) + (zrm M2).locals ≤ R.locals := by
    refine ⟨?_, ?_⟩
    · show M2.2.2.2.2.2.1 + 1 + 1 ≤ _
      omega
    · show 8 + (M2.2.2.2.1 + 11) + 60 * (M2.2.2.2.2.2.1 + 1) ≤ _
      omega
  have hfit : cells + M2.2.2.2.2.2.2.1 ≤ R.cells ∧ slots + M2.2.2.2.2.2.2.2 ≤ R.slots := ⟨Nat.le_trans hcs.1 w6.2.2.1, Nat.le_trans hcs.2 w6.2.2.2⟩
  have hAA := hR.zA hS o1.2.2.2.2.2.2.2.2
  have hRecv : ∃ cellB : Cell, H[b]? = some cellB ∧ cellB.vm.isStatics = false ∧ s.vm.findClass y.cls = some cellB.cls := by
    obtain ⟨z1, ws, hP, hD, m1, m2⟩ := id hR
    obtain ⟨k0, hk0⟩ := m1 b _ hb1
    exact va_recv o1.2.2.2.2.2.2.2.1.1 hP hci hk0
  have hPre : ∀ U : State, U.heap = H → s.WarmedH U.vm → zPc D ((.ref b :: av)) h ((.ref b :: av)).toArray U := fun U hU hW => ⟨rfl, by rw [hU]; exact hR.narrow, zK.warm hW hAA (fun a q1 q2 => by rw [hU]; exact hS.2.1 a q1 q2) o1.2.2.2.2.2.2.2.1⟩
  have hst' : (F0 m pc ls (av.reverse ++ .ref b :: st)).stack = av.reverse ++ .ref b :: st := rfl
  have hrun := va_runV (e := e) (locs := locs) (below := below) (meth := meth) (g := F0 m pc ls (av.reverse ++ .ref b :: st)) (Ts := zTb) (C := y.cls) (b := b) (As := av) (rest := st) ⟨o1.1, o1.2.1, o1.2.2.1, o1.2.2.2.1, w5⟩ hM' ⟨callB_of (ws' := zTb) n w5c hG rfl rfl rfl (w5 _ u2) (w5 _ hl) u3 hRo, w5 _ hsx, w5 _ hse⟩ ⟨zPc.blind, hRecv, hPre⟩ rfl hn hv.1 hst' (lv_room hrm) hd hfit
  intro T hT X
  obtain ⟨v0, st₀, t, T', L, h0, X', hL, e1, e2, ⟨⟨hv0, hRt, hzt⟩, hFz, hFk⟩, stp⟩ := hrun T hT X
  cases hv0
  rw [h0] at hFz hFk
  have hS' : va_S A s.heap T'.heap (locs ++ L) := ⟨Nat.le_trans hS.1 (by rw [e1]; exact hFz), fun q q1 q2 => by rw [e1, hFk q (Nat.lt_of_lt_of_le q1 hS.1) (fun z => q2 (hAA q z))]; exact hS.2.1 q q1 q2, fun q hq => by
    rcases List.mem_append.mp hq with hh | hh
    · exact hS.2.2 q hh
    · exact hAA _ (hL q hh)⟩
  have hR' : zRel D A h1 T'.heap := by rw [e1]; exact hRt.weaken hAA
  obtain ⟨t2, a1, b1⟩ := kk x h1 o1 o2 v h' hr (by rw [hzt, hz]; omega) T'.heap (locs ++ L) ls hR' hS' hv T' rfl X'
  exact ⟨t2, stp t2 a1, b1⟩
theorem z_callV_V {y : MethodName} {M2 : zM} {n idx : Nat} {b : Nat} {K : zH → zR} (av : List Value) {st0 : List Value} (hM : ∀ (l : Launch) (D : zD), l = Y.1.2.1 → D = Y.2.1 → zMet l D y M2 (.ref b :: av) h r) (hu : zCal y M2 n) (hl : Cond.methodLink M.2.1 idx y ∈ zTb) (hsx : Cond.instanceMethod y ∈ zTb) (hse : Cond.selects y.cls y y ∈ zTb) {ci : Nat} {T : u_T} {N : Nat} (hci : vwCl[ci]? = some (y.cls, T, N)) (hn : av.length = n) (hst0 : st0 = av.reverse ++ .ref b :: st) (hrm : (st.map fun v => v.category).sum ≤ 8) (hlev : M2.2.2.2.2.2.1 + 1 ≤ M.2.2.2.2.2.1) (hcs : cells + M2.2.2.2.2.2.2.1 ≤ M.2.2.2.2.2.2.1 ∧ slots + M2.2.2.2.2.2.2.2 ≤ M.2.2.2.2.2.2.2) (hd : decode M.1 pc = .ok (.invokevirtual idx, 3)) (kk : ∀ h1, Z Y M (cells + M2.2.2.2.2.2.2.1) (slots + M2.2.2.2.2.2.2.2) (pc + 3) lv (st) h1 (K h1)) : Z Y M cells slots pc lv st0 h (zoc h b ci (zcV r K)) := by
  obtain ⟨⟨p, l, e, R, s, m, args, below, meth, c⟩, D, A, Q⟩ := Y
  intro o1 o2 v h' hr hz H locs ls hR hS hv
  obtain ⟨fsb, hb1, hr⟩ := zgO_some hr
  obtain ⟨h1, hr0, hr⟩ := zcV_some hr
  subst hst0
  have hM' := hM l D rfl rfl _ h1 hr0
  obtain ⟨u1, u2, u3, u4⟩ := hu
  have w5 := o1.2.2.2.2.2.1
  have w6 := o1.2.2.2.2.2.2.1
  have w5c := w5
  have hG := zcode_nil u1
  have hRo : (zrm M2).frames + 1 ≤ R.frames ∧ 8 + (M2.2.2.2.1 + 11) + (zrm M2).locals ≤ R.locals := by
    refine ⟨?_, ?_⟩
    · show M2.2.2.2.2.2.1 + 1 + 1 ≤ _
      omega
    · show 8 + (M2.2.2.2.1 + 11) + 60 * (M2.2.2.2.2.2.1 + 1) ≤ _
      omega
  have hfit : cells + M2.2.2.2.2.2.2.1 ≤ R.cells ∧ slots + M2.2.2.2.2.2.2.2 ≤ R.slots := ⟨Nat.le_trans hcs.1 w6.2.2.1, Nat.le_trans hcs.2 w6.2.2.2⟩
  have hAA := hR.zA hS o1.2.2.2.2.2.2.2.2
  have hRecv : ∃ cellB : Cell, H[b]? = some cellB ∧ cellB.vm.isStatics = false ∧ s.vm.findClass y.cls = some cellB.cls := by
    obtain ⟨z1, ws, hP, hD, m1, m2⟩ := id hR
    obtain ⟨k0, hk0⟩ := m1 b _ hb1
    exact va_recv o1.2.2.2.2.2.2.2.1.1 hP hci hk0
  have hPre : ∀ U : State, U.heap = H → s.WarmedH U.vm → zPc D ((.ref b :: av)) h ((.ref b :: av)).toArray U := fun U hU hW => ⟨rfl, by rw [hU]; exact hR.narrow, zK.warm hW hAA (fun a q1 q2 => by rw [hU]; exact hS.2.1 a q1 q2) o1.2.2.2.2.2.2.2.1⟩
  have hst' : (F0 m pc ls (av.reverse ++ .ref b :: st)).stack = av.reverse ++ .ref b :: st := rfl
  have hrun := va_runV (e := e) (locs := locs) (below := below) (meth := meth) (g := F0 m pc ls (av.reverse ++ .ref b :: st)) (Ts := zTb) (C := y.cls) (b := b) (As := av) (rest := st) ⟨o1.1, o1.2.1, o1.2.2.1, o1.2.2.2.1, w5⟩ hM' ⟨callB_of (ws' := zTb) n w5c hG rfl rfl rfl (w5 _ u2) (w5 _ hl) u3 hRo, w5 _ hsx, w5 _ hse⟩ ⟨zPc.blind, hRecv, hPre⟩ rfl hn hv.1 hst' (lv_room hrm) hd hfit
  intro T hT X
  obtain ⟨v0, st₀, t, T', L, h0, X', hL, e1, e2, ⟨⟨hv0, hRt, hzt⟩, hFz, hFk⟩, stp⟩ := hrun T hT X
  cases hv0
  rw [h0] at hFz hFk
  have hS' : va_S A s.heap T'.heap (locs ++ L) := ⟨Nat.le_trans hS.1 (by rw [e1]; exact hFz), fun q q1 q2 => by rw [e1, hFk q (Nat.lt_of_lt_of_le q1 hS.1) (fun z => q2 (hAA q z))]; exact hS.2.1 q q1 q2, fun q hq => by
    rcases List.mem_append.mp hq with hh | hh
    · exact hS.2.2 q hh
    · exact hAA _ (hL q hh)⟩
  have hR' : zRel D A h1 T'.heap := by rw [e1]; exact hRt.weaken hAA
  obtain ⟨t2, a1, b1⟩ := kk h1 o1 o2 v h' hr (by rw [hzt, hz]; omega) T'.heap (locs ++ L) ls hR' hS' hv T' rfl X'
  exact ⟨t2, stp t2 a1, b1⟩
theorem z_callI_V {y : MethodName} {M2 : zM} {n idx : Nat} {b : Nat} {K : zH → zR} (av : List Value) {st0 : List Value} (hM : ∀ (l : Launch) (D : zD), l = Y.1.2.1 → D = Y.2.1 → zMet l D y M2 (.ref b :: av) h r) (hu : zCal y M2 n) (hl : Cond.methodLink M.2.1 idx y ∈ zTb) (hsx : Cond.instanceMethod y ∈ zTb) (hyi : y.name = "<init>") (hret : M2.2.2.2.2.1 = none) (hn : av.length = n) (hst0 : st0 = av.reverse ++ .ref b :: st) (hrm : (st.map fun v => v.category).sum ≤ 8) (hlev : M2.2.2.2.2.2.1 + 1 ≤ M.2.2.2.2.2.1) (hcs : cells + M2.2.2.2.2.2.2.1 ≤ M.2.2.2.2.2.2.1 ∧ slots + M2.2.2.2.2.2.2.2 ≤ M.2.2.2.2.2.2.2) (hd : decode M.1 pc = .ok (.invokespecial idx, 3)) (kk : ∀ h1, Z Y M (cells + M2.2.2.2.2.2.2.1) (slots + M2.2.2.2.2.2.2.2) (pc + 3) lv (st) h1 (K h1)) : Z Y M cells slots pc lv st0 h (zcV r K) := by
  obtain ⟨⟨p, l, e, R, s, m, args, below, meth, c⟩, D, A, Q⟩ := Y
  intro o1 o2 v h' hr hz H locs ls hR hS hv
  obtain ⟨h1, hr0, hr⟩ := zcV_some hr
  subst hst0
  have hM' := hM l D rfl rfl _ h1 hr0
  obtain ⟨u1, u2, u3, u4⟩ := hu
  rw [hret] at u1 hM'
  have w5 := o1.2.2.2.2.2.1
  have w6 := o1.2.2.2.2.2.2.1
  have w5c := w5
  have hG := zcode_nil u1
  have hRo : (zrm M2).frames + 1 ≤ R.frames ∧ 8 + (M2.2.2.2.1 + 11) + (zrm M2).locals ≤ R.locals := by
    refine ⟨?_, ?_⟩
    · show M2.2.2.2.2.2.1 + 1 + 1 ≤ _
      omega
    · show 8 + (M2.2.2.2.1 + 11) + 60 * (M2.2.2.2.2.2.1 + 1) ≤ _
      omega
  have hfit : cells + M2.2.2.2.2.2.2.1 ≤ R.cells ∧ slots + M2.2.2.2.2.2.2.2 ≤ R.slots := ⟨Nat.le_trans hcs.1 w6.2.2.1, Nat.le_trans hcs.2 w6.2.2.2⟩
  have hAA := hR.zA hS o1.2.2.2.2.2.2.2.2
  have hPre : ∀ U : State, U.heap = H → s.WarmedH U.vm → zPc D ((.ref b :: av)) h ((.ref b :: av)).toArray U := fun U hU hW => ⟨rfl, by rw [hU]; exact hR.narrow, zK.warm hW hAA (fun a q1 q2 => by rw [hU]; exact hS.2.1 a q1 q2) o1.2.2.2.2.2.2.2.1⟩
  have hst' : (F0 m pc ls (av.reverse ++ .ref b :: st)).stack = av.reverse ++ .ref b :: st := rfl
  have hrun := va_runI (e := e) (locs := locs) (below := below) (meth := meth) (g := F0 m pc ls (av.reverse ++ .ref b :: st)) (Ts := zTb) (b := b) (As := av) (rest := st) ⟨o1.1, o1.2.1, o1.2.2.1, o1.2.2.2.1, w5⟩ hM' ⟨callB_of (ws' := zTb) n w5c hG rfl rfl rfl (w5 _ u2) (w5 _ hl) u3 hRo, hyi, w5 _ hsx⟩ ⟨zPc.blind, hPre⟩ rfl hn hv.1 hst' (lv_room hrm) hd hfit
  intro T hT X
  obtain ⟨v0, st₀, t, T', L, h0, X', hL, e1, e2, ⟨⟨hv0, hRt, hzt⟩, hFz, hFk⟩, stp⟩ := hrun T hT X
  cases hv0
  rw [h0] at hFz hFk
  have hS' : va_S A s.heap T'.heap (locs ++ L) := ⟨Nat.le_trans hS.1 (by rw [e1]; exact hFz), fun q q1 q2 => by rw [e1, hFk q (Nat.lt_of_lt_of_le q1 hS.1) (fun z => q2 (hAA q z))]; exact hS.2.1 q q1 q2, fun q hq => by
    rcases List.mem_append.mp hq with hh | hh
    · exact hS.2.2 q hh
    · exact hAA _ (hL q hh)⟩
  have hR' : zRel D A h1 T'.heap := by rw [e1]; exact hRt.weaken hAA
  obtain ⟨t2, a1, b1⟩ := kk h1 o1 o2 v h' hr (by rw [hzt, hz]; omega) T'.heap (locs ++ L) ls hR' hS' hv T' rfl X'
  exact ⟨t2, stp t2 a1, b1⟩
theorem z_callIN_V {y : MethodName} {M2 : zM} {n idx : Nat} {b : Nat} {K : zH → zR} (av : List Value) {st0 : List Value} (hM : ∀ (l : Launch) (D : zD), l = Y.1.2.1 → D = Y.2.1 → zMet l D y M2 (.ref b :: av) h r) (hu : zCal y M2 n) (hl : (M.2.1, idx, y) ∈ zNest) (hsx : Cond.instanceMethod y ∈ zTb) (hyi : y.name = "<init>") (hret : M2.2.2.2.2.1 = none) (hn : av.length = n) (hst0 : st0 = av.reverse ++ .ref b :: st) (hrm : (st.map fun v => v.category).sum ≤ 8) (hlev : M2.2.2.2.2.2.1 + 1 ≤ M.2.2.2.2.2.1) (hcs : cells + M2.2.2.2.2.2.2.1 ≤ M.2.2.2.2.2.2.1 ∧ slots + M2.2.2.2.2.2.2.2 ≤ M.2.2.2.2.2.2.2) (hd : decode M.1 pc = .ok (.invokespecial idx, 3)) (kk : ∀ h1, Z Y M (cells + M2.2.2.2.2.2.2.1) (slots + M2.2.2.2.2.2.2.2) (pc + 3) lv (st) h1 (K h1)) : Z Y M cells slots pc lv st0 h (zcV r K) := by
  obtain ⟨⟨p, l, e, R, s, m, args, below, meth, c⟩, D, A, Q⟩ := Y
  intro o1 o2 v h' hr hz H locs ls hR hS hv
  obtain ⟨h1, hr0, hr⟩ := zcV_some hr
  subst hst0
  have hM' := hM l D rfl rfl _ h1 hr0
  obtain ⟨u1, u2, u3, u4⟩ := hu
  rw [hret] at u1 hM'
  have w5 := o1.2.2.2.2.2.1
  have w6 := o1.2.2.2.2.2.2.1
  have w5c := w5
  have hG := zcode_nil u1
  have hRo : (zrm M2).frames + 1 ≤ R.frames ∧ 8 + (M2.2.2.2.1 + 11) + (zrm M2).locals ≤ R.locals := by
    refine ⟨?_, ?_⟩
    · show M2.2.2.2.2.2.1 + 1 + 1 ≤ _
      omega
    · show 8 + (M2.2.2.2.1 + 11) + 60 * (M2.2.2.2.2.2.1 + 1) ≤ _
      omega
  have hfit : cells + M2.2.2.2.2.2.2.1 ≤ R.cells ∧ slots + M2.2.2.2.2.2.2.2 ≤ R.slots := ⟨Nat.le_trans hcs.1 w6.2.2.1, Nat.le_trans hcs.2 w6.2.2.2⟩
  have hAA := hR.zA hS o1.2.2.2.2.2.2.2.2
  have hPre : ∀ U : State, U.heap = H → s.WarmedH U.vm → zPc D ((.ref b :: av)) h ((.ref b :: av)).toArray U := fun U hU hW => ⟨rfl, by rw [hU]; exact hR.narrow, zK.warm hW hAA (fun a q1 q2 => by rw [hU]; exact hS.2.1 a q1 q2) o1.2.2.2.2.2.2.2.1⟩
  have hst' : (F0 m pc ls (av.reverse ++ .ref b :: st)).stack = av.reverse ++ .ref b :: st := rfl
  have hrun := va_runIN (e := e) (locs := locs) (below := below) (meth := meth) (g := F0 m pc ls (av.reverse ++ .ref b :: st)) (Ts := zTb) (host := "PaperDolls") (b := b) (As := av) (rest := st) ⟨o1.1, o1.2.1, o1.2.2.1, o1.2.2.2.1, w5⟩ hM' ⟨va_cnB (ws' := zTb) n w5c hG rfl rfl rfl (o1.2.2.2.2.2.2.2.1.2.1 _ hl) (w5 _ u2) u3 hRo, hyi, w5 _ hsx⟩ ⟨zPc.blind, hPre⟩ rfl hn hv.1 hst' (lv_room hrm) hd hfit
  intro T hT X
  obtain ⟨v0, st₀, t, T', L, h0, X', hL, e1, e2, ⟨⟨hv0, hRt, hzt⟩, hFz, hFk⟩, stp⟩ := hrun T hT X
  cases hv0
  rw [h0] at hFz hFk
  have hS' : va_S A s.heap T'.heap (locs ++ L) := ⟨Nat.le_trans hS.1 (by rw [e1]; exact hFz), fun q q1 q2 => by rw [e1, hFk q (Nat.lt_of_lt_of_le q1 hS.1) (fun z => q2 (hAA q z))]; exact hS.2.1 q q1 q2, fun q hq => by
    rcases List.mem_append.mp hq with hh | hh
    · exact hS.2.2 q hh
    · exact hAA _ (hL q hh)⟩
  have hR' : zRel D A h1 T'.heap := by rw [e1]; exact hRt.weaken hAA
  obtain ⟨t2, a1, b1⟩ := kk h1 o1 o2 v h' hr (by rw [hzt, hz]; omega) T'.heap (locs ++ L) ls hR' hS' hv T' rfl X'
  exact ⟨t2, stp t2 a1, b1⟩
theorem z_callSN_I {y : MethodName} {M2 : zM} {n idx : Nat} {K : Int32 → zH → zR} (av : List Value) {st0 : List Value} (hM : ∀ (l : Launch) (D : zD), l = Y.1.2.1 → D = Y.2.1 → zMet l D y M2 av h r) (hu : zCal y M2 n) (hl : (M.2.1, idx, y) ∈ zNest) (hsx : Cond.static y ∈ zTb) (hn : av.length = n) (hst0 : st0 = av.reverse ++ st) (hrm : (st.map fun v => v.category).sum ≤ 8) (hlev : M2.2.2.2.2.2.1 + 1 ≤ M.2.2.2.2.2.1) (hcs : cells + M2.2.2.2.2.2.2.1 ≤ M.2.2.2.2.2.2.1 ∧ slots + M2.2.2.2.2.2.2.2 ≤ M.2.2.2.2.2.2.2) (hd : decode M.1 pc = .ok (.invokestatic idx, 3)) (kk : ∀ x h1, Z Y M (cells + M2.2.2.2.2.2.2.1) (slots + M2.2.2.2.2.2.2.2) (pc + 3) lv (.int x :: st) h1 (K x h1)) : Z Y M cells slots pc lv st0 h (zcI r K) := by
  obtain ⟨⟨p, l, e, R, s, m, args, below, meth, c⟩, D, A, Q⟩ := Y
  intro o1 o2 v h' hr hz H locs ls hR hS hv
  obtain ⟨x, h1, hr0, hr⟩ := zcI_some hr
  subst hst0
  have hM' := hM l D rfl rfl _ h1 hr0
  obtain ⟨u1, u2, u3, u4⟩ := hu
  have w5 := o1.2.2.2.2.2.1
  have w6 := o1.2.2.2.2.2.2.1
  have w5c := w5
  have hG := zcode_nil u1
  have hRo : (zrm M2).frames + 1 ≤ R.frames ∧ 8 + (M2.2.2.2.1 + 11) + (zrm M2).locals ≤ R.locals := by
    refine ⟨?_, ?_⟩
    · show M2.2.2.2.2.2.1 + 1 + 1 ≤ _
      omega
    · show 8 + (M2.2.2.2.1 + 11) + 60 * (M2.2.2.2.2.2.1 + 1) ≤ _
      omega
  have hfit : cells + M2.2.2.2.2.2.2.1 ≤ R.cells ∧ slots + M2.2.2.2.2.2.2.2 ≤ R.slots := ⟨Nat.le_trans hcs.1 w6.2.2.1, Nat.le_trans hcs.2 w6.2.2.2⟩
  have hAA := hR.zA hS o1.2.2.2.2.2.2.2.2
  have hPre : ∀ U : State, U.heap = H → s.WarmedH U.vm → zPc D (av) h (av).toArray U := fun U hU hW => ⟨rfl, by rw [hU]; exact hR.narrow, zK.warm hW hAA (fun a q1 q2 => by rw [hU]; exact hS.2.1 a q1 q2) o1.2.2.2.2.2.2.2.1⟩
  have hst' : (F0 m pc ls (av.reverse ++ st)).stack = av.reverse ++ st := rfl
  have hrun := va_runSN (e := e) (locs := locs) (below := below) (meth := meth) (g := F0 m pc ls (av.reverse ++ st)) (Ts := zTb) (host := "PaperDolls") (As := av) (rest := st) ⟨o1.1, o1.2.1, o1.2.2.1, o1.2.2.2.1, w5⟩ hM' ⟨va_cnB (ws' := zTb) n w5c hG rfl rfl rfl (o1.2.2.2.2.2.2.2.1.2.1 _ hl) (w5 _ u2) u3 hRo, w5 _ hsx, trivial⟩ ⟨zPc.blind, hPre⟩ rfl hn hv.1 hst' (lv_room hrm) hd hfit
  intro T hT X
  obtain ⟨v0, st₀, t, T', L, h0, X', hL, e1, e2, ⟨⟨hv0, hRt, hzt⟩, hFz, hFk⟩, stp⟩ := hrun T hT X
  cases hv0
  rw [h0] at hFz hFk
  have hS' : va_S A s.heap T'.heap (locs ++ L) := ⟨Nat.le_trans hS.1 (by rw [e1]; exact hFz), fun q q1 q2 => by rw [e1, hFk q (Nat.lt_of_lt_of_le q1 hS.1) (fun z => q2 (hAA q z))]; exact hS.2.1 q q1 q2, fun q hq => by
    rcases List.mem_append.mp hq with hh | hh
    · exact hS.2.2 q hh
    · exact hAA _ (hL q hh)⟩
  have hR' : zRel D A h1 T'.heap := by rw [e1]; exact hRt.weaken hAA
  obtain ⟨t2, a1, b1⟩ := kk x h1 o1 o2 v h' hr (by rw [hzt, hz]; omega) T'.heap (locs ++ L) ls hR' hS' hv T' rfl X'
  exact ⟨t2, stp t2 a1, b1⟩
end ZC
theorem zMet.of {l : Launch} {D : zD} {y : MethodName} {M : zM} {av : List Value} {h : zH} {r : zR} (hy : plainName y.cls = true) (hn : M.2.1 = y.cls ∧ M.2.2.1 = y.name) (hav : (lg_sl av).length ≤ M.2.2.2.1) (k : ∀ Y : zY, l = Y.1.2.1 → D = Y.2.1 → Z Y M 0 0 0 (lv_args 0 av) [] h r) : zMet l D y M av h r := by
  intro v h' hr
  refine Met.ofW (cc := M.1) (maxL := M.2.2.2.1) (ret := M.2.2.2.2.1) hy rfl ?_
  intro p e s m args below meth c s₁ B hml hv
  obtain ⟨rfl, hR, hK⟩ := hv
  have hts := atoms_spec (ws := .code y M.1 M.2.2.2.1 M.2.2.2.2.1 :: zTb) B.pre
  have hlocks := B.notSynchronized
  have hA : ∀ q, s.heap.size ≤ q → zA h q := fun q hq => Or.inr (by rw [← hR.1]; exact hq)
  have o1 : zOk p (zrm M) s m av.toArray meth c D (zA h) M := ⟨B.exec, B.bytes, hml, by rw [hn.1]; exact findClass_of_methodNamed B.named, by rw [hn.2]; exact (name_of_methodNamed B.named B.method).1, fun w hw => hts w (List.mem_cons_of_mem _ hw), ⟨Nat.le_refl _, Nat.le_refl _, Nat.le_refl _, Nat.le_refl _⟩, hK, hA⟩
  have hq : ∀ (v : Option Value) (h1 : zH) (H : Heap) (locs : List Loc), h1.1 = s.heap.size + M.2.2.2.2.2.2.1 → zRel D (zA h) h1 H → va_S (zA h) s.heap H locs → ∀ t : State, t.heap = H → s.WarmedH t.vm → zQc D h M.2.2.2.2.2.2.1 v h1 av.toArray s (.returned v) t := fun v h1 H locs hz hR1 hS t ht hW => ⟨⟨rfl, by rw [ht]; exact hR1, by rw [hz, hR.1]⟩, hS.F ht⟩
  have o2 : zRets p l e (zrm M) s m av.toArray below meth c D (zA h) (fun v h' => MQ below (zQc D h M.2.2.2.2.2.2.1 v h') av.toArray s M.2.2.2.2.2.2.1 M.2.2.2.2.2.2.2 (zA h)) M := by
    refine ⟨?_, ?_, ?_⟩
    · intro ty v h1 H locs ls pc hret hnar hd hz hR1 hS
      exact W.zret B.exec B.bytes (B.returns.trans hret) hnar (hq _ h1 H locs hz hR1 hS) hS.2.2 hd
    · intro v h1 H locs ls pc hret hd hz hR1 hS
      exact W.lret B.exec B.bytes (B.returns.trans hret) (hq _ h1 H locs hz hR1 hS) hS.2.2 hd
    · intro h1 H locs ls pc hret hd hz hR1 hS
      exact W.vret B.exec B.bytes (B.returns.trans hret) (hq _ h1 H locs hz hR1 hS) hS.2.2 hd
  have hl := lv_entry av (n := M.2.2.2.1) hav
  rw [lg_entry_eq]
  exact k ((p, l, e, zrm M, s, m, av.toArray, below, meth, c), D, zA h, fun v h' => MQ below (zQc D h M.2.2.2.2.2.2.1 v h') av.toArray s M.2.2.2.2.2.2.1 M.2.2.2.2.2.2.2 (zA h)) rfl rfl o1 o2 v h' hr (by rw [hR.1]; rfl) s.heap [] _ hR va_S.rf hl
end
section
/-! WORDS, by program -/
theorem inX1 : ∀ w ∈ u_ws RX1 TX1 12, w ∈ zTb := by decide +kernel
theorem inX4 : ∀ w ∈ u_ws RX4 TX4 2, w ∈ zTb := by decide +kernel
theorem inX5 : ∀ w ∈ u_ws RX5 TX5 6, w ∈ zTb := by decide +kernel
theorem inX7 : ∀ w ∈ u_ws RX7 TX7 2, w ∈ zTb := by decide +kernel
theorem inX8 : ∀ w ∈ u_ws RX8 TX8 4, w ∈ zTb := by decide +kernel
theorem inX9 : ∀ w ∈ u_ws RX9 TX9 15, w ∈ zTb := by decide +kernel
theorem inX10 : ∀ w ∈ u_ws RX10 TX10 19, w ∈ zTb := by decide +kernel
theorem qa_boolean : Cond.arrayClass .boolean ∈ zTb := zmem 204 (by decide +kernel) rfl
theorem qa_byte : Cond.arrayClass .byte ∈ zTb := zmem 205 (by decide +kernel) rfl
theorem qa_int : Cond.arrayClass .int ∈ zTb := zmem 116 (by decide +kernel) rfl
theorem qc_X1_21 : Cond.classLink RX1 21 "PaperDolls$Wear" ∈ zTb := zmem 89 (by decide +kernel) rfl
theorem qc_X4_15 : Cond.classLink RX4 15 "PaperDolls$Wear" ∈ zTb := zmem 227 (by decide +kernel) rfl
theorem qc_X9_9 : Cond.classLink RX9 9 "PaperDolls$Doll" ∈ zTb := zmem 83 (by decide +kernel) rfl
theorem qk_J6_265 : Cond.constant RJ6 265 1431655765 ∈ zTb := zmem 589 (by decide +kernel) rfl
theorem qk_J6_266 : Cond.constant RJ6 266 858993459 ∈ zTb := zmem 590 (by decide +kernel) rfl
theorem qk_J6_267 : Cond.constant RJ6 267 252645135 ∈ zTb := zmem 591 (by decide +kernel) rfl
theorem qk_X10_147 : Cond.constant RX10 147 146828 ∈ zTb := zmem 937 (by decide +kernel) rfl
theorem qk_X10_156 : Cond.constant RX10 156 17077349 ∈ zTb := zmem 946 (by decide +kernel) rfl
theorem qk_X10_157 : Cond.constant RX10 157 431556 ∈ zTb := zmem 947 (by decide +kernel) rfl
theorem qk_X9_241 : Cond.constant RX9 241 999999 ∈ zTb := zmem 749 (by decide +kernel) rfl
theorem fl_X1_114 : zFld RX1 114 4 2 (.int) false := ⟨RX8, TX8, 4, tyX8, rfl, by decide, inX8, zmem 103 (by decide +kernel) rfl, tyX8_ok, nmX8, rfl, rfl, rfl⟩
theorem fl_X1_117 : zFld RX1 117 4 0 (.array .int) true := ⟨RX8, TX8, 4, tyX8, rfl, by decide, inX8, zmem 97 (by decide +kernel) rfl, tyX8_ok, nmX8, rfl, rfl, rfl⟩
theorem fl_X1_134 : zFld RX1 134 4 3 (.int) false := ⟨RX8, TX8, 4, tyX8, rfl, by decide, inX8, zmem 106 (by decide +kernel) rfl, tyX8_ok, nmX8, rfl, rfl, rfl⟩
theorem fl_X1_15 : zFld RX1 15 0 3 (.array .int) true := ⟨RX1, TX1, 12, tyX1, rfl, by decide, inX1, zmem 129 (by decide +kernel) rfl, tyX1_ok, nmX1, rfl, rfl, rfl⟩
theorem fl_X1_18 : zFld RX1 18 0 4 (.array .int) true := ⟨RX1, TX1, 12, tyX1, rfl, by decide, inX1, zmem 131 (by decide +kernel) rfl, tyX1_ok, nmX1, rfl, rfl, rfl⟩
theorem fl_X1_24 : zFld RX1 24 0 5 (.object "PaperDolls$Wear") true := ⟨RX1, TX1, 12, tyX1, rfl, by decide, inX1, zmem 133 (by decide +kernel) rfl, tyX1_ok, nmX1, rfl, rfl, rfl⟩
theorem fl_X1_28 : zFld RX1 28 0 6 (.array (.object "PaperDolls$Wear")) true := ⟨RX1, TX1, 12, tyX1, rfl, by decide, inX1, zmem 138 (by decide +kernel) rfl, tyX1_ok, nmX1, rfl, rfl, rfl⟩
theorem fl_X1_32 : zFld RX1 32 0 8 (.array .int) true := ⟨RX1, TX1, 12, tyX1, rfl, by decide, inX1, zmem 141 (by decide +kernel) rfl, tyX1_ok, nmX1, rfl, rfl, rfl⟩
theorem fl_X1_35 : zFld RX1 35 0 10 (.array .int) true := ⟨RX1, TX1, 12, tyX1, rfl, by decide, inX1, zmem 146 (by decide +kernel) rfl, tyX1_ok, nmX1, rfl, rfl, rfl⟩
theorem fl_X1_38 : zFld RX1 38 0 0 (.int) false := ⟨RX1, TX1, 12, tyX1, rfl, by decide, inX1, zmem 118 (by decide +kernel) rfl, tyX1_ok, nmX1, rfl, rfl, rfl⟩
theorem fl_X1_42 : zFld RX1 42 0 1 (.int) false := ⟨RX1, TX1, 12, tyX1, rfl, by decide, inX1, zmem 121 (by decide +kernel) rfl, tyX1_ok, nmX1, rfl, rfl, rfl⟩
theorem fl_X1_48 : zFld RX1 48 0 7 (.int) false := ⟨RX1, TX1, 12, tyX1, rfl, by decide, inX1, zmem 139 (by decide +kernel) rfl, tyX1_ok, nmX1, rfl, rfl, rfl⟩
theorem fl_X1_51 : zFld RX1 51 0 9 (.int) false := ⟨RX1, TX1, 12, tyX1, rfl, by decide, inX1, zmem 143 (by decide +kernel) rfl, tyX1_ok, nmX1, rfl, rfl, rfl⟩
theorem fl_X1_54 : zFld RX1 54 0 11 (.int) false := ⟨RX1, TX1, 12, tyX1, rfl, by decide, inX1, zmem 148 (by decide +kernel) rfl, tyX1_ok, nmX1, rfl, rfl, rfl⟩
theorem fl_X1_84 : zFld RX1 84 4 1 (.array .int) true := ⟨RX8, TX8, 4, tyX8, rfl, by decide, inX8, zmem 100 (by decide +kernel) rfl, tyX8_ok, nmX8, rfl, rfl, rfl⟩
theorem fl_X1_9 : zFld RX1 9 0 2 (.array .int) true := ⟨RX1, TX1, 12, tyX1, rfl, by decide, inX1, zmem 127 (by decide +kernel) rfl, tyX1_ok, nmX1, rfl, rfl, rfl⟩
theorem fl_X10_115 : zFld RX10 115 6 8 (.int) false := ⟨RX10, TX10, 19, tyX10, rfl, by decide, inX10, zmem 814 (by decide +kernel) rfl, tyX10_ok, nmX10, rfl, rfl, rfl⟩
theorem fl_X10_126 : zFld RX10 126 6 13 (.int) false := ⟨RX10, TX10, 19, tyX10, rfl, by decide, inX10, zmem 819 (by decide +kernel) rfl, tyX10_ok, nmX10, rfl, rfl, rfl⟩
theorem fl_X10_129 : zFld RX10 129 6 14 (.int) false := ⟨RX10, TX10, 19, tyX10, rfl, by decide, inX10, zmem 820 (by decide +kernel) rfl, tyX10_ok, nmX10, rfl, rfl, rfl⟩
theorem fl_X10_13 : zFld RX10 13 6 1 (.array .int) true := ⟨RX10, TX10, 19, tyX10, rfl, by decide, inX10, zmem 807 (by decide +kernel) rfl, tyX10_ok, nmX10, rfl, rfl, rfl⟩
theorem fl_X10_132 : zFld RX10 132 6 15 (.int) false := ⟨RX10, TX10, 19, tyX10, rfl, by decide, inX10, zmem 821 (by decide +kernel) rfl, tyX10_ok, nmX10, rfl, rfl, rfl⟩
theorem fl_X10_135 : zFld RX10 135 6 16 (.int) false := ⟨RX10, TX10, 19, tyX10, rfl, by decide, inX10, zmem 822 (by decide +kernel) rfl, tyX10_ok, nmX10, rfl, rfl, rfl⟩
theorem fl_X10_16 : zFld RX10 16 6 2 (.array .int) true := ⟨RX10, TX10, 19, tyX10, rfl, by decide, inX10, zmem 808 (by decide +kernel) rfl, tyX10_ok, nmX10, rfl, rfl, rfl⟩
theorem fl_X10_19 : zFld RX10 19 6 4 (.array .int) true := ⟨RX10, TX10, 19, tyX10, rfl, by decide, inX10, zmem 810 (by decide +kernel) rfl, tyX10_ok, nmX10, rfl, rfl, rfl⟩
theorem fl_X10_22 : zFld RX10 22 6 5 (.array .int) true := ⟨RX10, TX10, 19, tyX10, rfl, by decide, inX10, zmem 811 (by decide +kernel) rfl, tyX10_ok, nmX10, rfl, rfl, rfl⟩
theorem fl_X10_232 : zFld RX10 232 6 10 (.long) false := ⟨RX10, TX10, 19, tyX10, rfl, by decide, inX10, zmem 816 (by decide +kernel) rfl, tyX10_ok, nmX10, rfl, rfl, rfl⟩
theorem fl_X10_25 : zFld RX10 25 6 6 (.array .int) true := ⟨RX10, TX10, 19, tyX10, rfl, by decide, inX10, zmem 812 (by decide +kernel) rfl, tyX10_ok, nmX10, rfl, rfl, rfl⟩
theorem fl_X10_255 : zFld RX10 255 6 7 (.int) false := ⟨RX10, TX10, 19, tyX10, rfl, by decide, inX10, zmem 813 (by decide +kernel) rfl, tyX10_ok, nmX10, rfl, rfl, rfl⟩
theorem fl_X10_28 : zFld RX10 28 6 9 (.array .int) true := ⟨RX10, TX10, 19, tyX10, rfl, by decide, inX10, zmem 815 (by decide +kernel) rfl, tyX10_ok, nmX10, rfl, rfl, rfl⟩
theorem fl_X10_31 : zFld RX10 31 6 11 (.long) false := ⟨RX10, TX10, 19, tyX10, rfl, by decide, inX10, zmem 817 (by decide +kernel) rfl, tyX10_ok, nmX10, rfl, rfl, rfl⟩
theorem fl_X10_35 : zFld RX10 35 6 12 (.array .int) true := ⟨RX10, TX10, 19, tyX10, rfl, by decide, inX10, zmem 818 (by decide +kernel) rfl, tyX10_ok, nmX10, rfl, rfl, rfl⟩
theorem fl_X10_38 : zFld RX10 38 6 17 (.array .int) true := ⟨RX10, TX10, 19, tyX10, rfl, by decide, inX10, zmem 823 (by decide +kernel) rfl, tyX10_ok, nmX10, rfl, rfl, rfl⟩
theorem fl_X10_41 : zFld RX10 41 6 18 (.array .int) true := ⟨RX10, TX10, 19, tyX10, rfl, by decide, inX10, zmem 824 (by decide +kernel) rfl, tyX10_ok, nmX10, rfl, rfl, rfl⟩
theorem fl_X10_7 : zFld RX10 7 6 0 (.array .int) true := ⟨RX10, TX10, 19, tyX10, rfl, by decide, inX10, zmem 806 (by decide +kernel) rfl, tyX10_ok, nmX10, rfl, rfl, rfl⟩
theorem fl_X10_95 : zFld RX10 95 6 3 (.int) false := ⟨RX10, TX10, 19, tyX10, rfl, by decide, inX10, zmem 809 (by decide +kernel) rfl, tyX10_ok, nmX10, rfl, rfl, rfl⟩
theorem fl_X2_17 : zFld RX2 17 0 1 (.int) false := ⟨RX1, TX1, 12, tyX1, rfl, by decide, inX1, zmem 124 (by decide +kernel) rfl, tyX1_ok, nmX1, rfl, rfl, rfl⟩
theorem fl_X3_15 : zFld RX3 15 0 9 (.int) false := ⟨RX1, TX1, 12, tyX1, rfl, by decide, inX1, zmem 144 (by decide +kernel) rfl, tyX1_ok, nmX1, rfl, rfl, rfl⟩
theorem fl_X3_21 : zFld RX3 21 0 8 (.array .int) true := ⟨RX1, TX1, 12, tyX1, rfl, by decide, inX1, zmem 142 (by decide +kernel) rfl, tyX1_ok, nmX1, rfl, rfl, rfl⟩
theorem fl_X3_51 : zFld RX3 51 0 11 (.int) false := ⟨RX1, TX1, 12, tyX1, rfl, by decide, inX1, zmem 149 (by decide +kernel) rfl, tyX1_ok, nmX1, rfl, rfl, rfl⟩
theorem fl_X3_54 : zFld RX3 54 0 10 (.array .int) true := ⟨RX1, TX1, 12, tyX1, rfl, by decide, inX1, zmem 147 (by decide +kernel) rfl, tyX1_ok, nmX1, rfl, rfl, rfl⟩
theorem fl_X4_11 : zFld RX4 11 1 0 (.array .int) true := ⟨RX4, TX4, 2, tyX4, rfl, by decide, inX4, zmem 229 (by decide +kernel) rfl, tyX4_ok, nmX4, rfl, rfl, rfl⟩
theorem fl_X4_17 : zFld RX4 17 1 1 (.array (.object "PaperDolls$Wear")) true := ⟨RX4, TX4, 2, tyX4, rfl, by decide, inX4, zmem 231 (by decide +kernel) rfl, tyX4_ok, nmX4, rfl, rfl, rfl⟩
theorem fl_X4_22 : zFld RX4 22 0 5 (.object "PaperDolls$Wear") true := ⟨RX1, TX1, 12, tyX1, rfl, by decide, inX1, zmem 134 (by decide +kernel) rfl, tyX1_ok, nmX1, rfl, rfl, rfl⟩
theorem fl_X4_40 : zFld RX4 40 0 1 (.int) false := ⟨RX1, TX1, 12, tyX1, rfl, by decide, inX1, zmem 126 (by decide +kernel) rfl, tyX1_ok, nmX1, rfl, rfl, rfl⟩
theorem fl_X5_21 : zFld RX5 21 2 1 (.int) false := ⟨RX5, TX5, 6, tyX5, rfl, by decide, inX5, zmem 186 (by decide +kernel) rfl, tyX5_ok, nmX5, rfl, rfl, rfl⟩
theorem fl_X5_25 : zFld RX5 25 2 4 (.int) false := ⟨RX5, TX5, 6, tyX5, rfl, by decide, inX5, zmem 189 (by decide +kernel) rfl, tyX5_ok, nmX5, rfl, rfl, rfl⟩
theorem fl_X5_41 : zFld RX5 41 2 3 (.int) false := ⟨RX5, TX5, 6, tyX5, rfl, by decide, inX5, zmem 188 (by decide +kernel) rfl, tyX5_ok, nmX5, rfl, rfl, rfl⟩
theorem fl_X5_44 : zFld RX5 44 2 2 (.int) false := ⟨RX5, TX5, 6, tyX5, rfl, by decide, inX5, zmem 187 (by decide +kernel) rfl, tyX5_ok, nmX5, rfl, rfl, rfl⟩
theorem fl_X5_59 : zFld RX5 59 0 1 (.int) false := ⟨RX1, TX1, 12, tyX1, rfl, by decide, inX1, zmem 125 (by decide +kernel) rfl, tyX1_ok, nmX1, rfl, rfl, rfl⟩
theorem fl_X5_79 : zFld RX5 79 2 5 (.int) false := ⟨RX5, TX5, 6, tyX5, rfl, by decide, inX5, zmem 190 (by decide +kernel) rfl, tyX5_ok, nmX5, rfl, rfl, rfl⟩
theorem fl_X5_82 : zFld RX5 82 0 0 (.int) false := ⟨RX1, TX1, 12, tyX1, rfl, by decide, inX1, zmem 120 (by decide +kernel) rfl, tyX1_ok, nmX1, rfl, rfl, rfl⟩
theorem fl_X5_89 : zFld RX5 89 0 5 (.object "PaperDolls$Wear") true := ⟨RX1, TX1, 12, tyX1, rfl, by decide, inX1, zmem 136 (by decide +kernel) rfl, tyX1_ok, nmX1, rfl, rfl, rfl⟩
theorem fl_X5_9 : zFld RX5 9 2 0 (.array .byte) false := ⟨RX5, TX5, 6, tyX5, rfl, by decide, inX5, zmem 185 (by decide +kernel) rfl, tyX5_ok, nmX5, rfl, rfl, rfl⟩
theorem fl_X7_11 : zFld RX7 11 3 0 (.array .int) true := ⟨RX7, TX7, 2, tyX7, rfl, by decide, inX7, zmem 212 (by decide +kernel) rfl, tyX7_ok, nmX7, rfl, rfl, rfl⟩
theorem fl_X7_15 : zFld RX7 15 3 1 (.int) false := ⟨RX7, TX7, 2, tyX7, rfl, by decide, inX7, zmem 214 (by decide +kernel) rfl, tyX7_ok, nmX7, rfl, rfl, rfl⟩
theorem fl_X7_19 : zFld RX7 19 0 1 (.int) false := ⟨RX1, TX1, 12, tyX1, rfl, by decide, inX1, zmem 122 (by decide +kernel) rfl, tyX1_ok, nmX1, rfl, rfl, rfl⟩
theorem fl_X7_24 : zFld RX7 24 0 5 (.object "PaperDolls$Wear") true := ⟨RX1, TX1, 12, tyX1, rfl, by decide, inX1, zmem 135 (by decide +kernel) rfl, tyX1_ok, nmX1, rfl, rfl, rfl⟩
theorem fl_X8_15 : zFld RX8 15 4 1 (.array .int) true := ⟨RX8, TX8, 4, tyX8, rfl, by decide, inX8, zmem 98 (by decide +kernel) rfl, tyX8_ok, nmX8, rfl, rfl, rfl⟩
theorem fl_X8_18 : zFld RX8 18 4 2 (.int) false := ⟨RX8, TX8, 4, tyX8, rfl, by decide, inX8, zmem 101 (by decide +kernel) rfl, tyX8_ok, nmX8, rfl, rfl, rfl⟩
theorem fl_X8_22 : zFld RX8 22 4 3 (.int) false := ⟨RX8, TX8, 4, tyX8, rfl, by decide, inX8, zmem 104 (by decide +kernel) rfl, tyX8_ok, nmX8, rfl, rfl, rfl⟩
theorem fl_X8_9 : zFld RX8 9 4 0 (.array .int) true := ⟨RX8, TX8, 4, tyX8, rfl, by decide, inX8, zmem 95 (by decide +kernel) rfl, tyX8_ok, nmX8, rfl, rfl, rfl⟩
theorem fl_X9_108 : zFld RX9 108 0 5 (.object "PaperDolls$Wear") true := ⟨RX1, TX1, 12, tyX1, rfl, by decide, inX1, zmem 137 (by decide +kernel) rfl, tyX1_ok, nmX1, rfl, rfl, rfl⟩
theorem fl_X9_111 : zFld RX9 111 4 2 (.int) false := ⟨RX8, TX8, 4, tyX8, rfl, by decide, inX8, zmem 102 (by decide +kernel) rfl, tyX8_ok, nmX8, rfl, rfl, rfl⟩
theorem fl_X9_114 : zFld RX9 114 4 1 (.array .int) true := ⟨RX8, TX8, 4, tyX8, rfl, by decide, inX8, zmem 99 (by decide +kernel) rfl, tyX8_ok, nmX8, rfl, rfl, rfl⟩
theorem fl_X9_12 : zFld RX9 12 5 0 (.object "PaperDolls$Doll") true := ⟨RX9, TX9, 15, tyX9, rfl, by decide, inX9, zmem 237 (by decide +kernel) rfl, tyX9_ok, nmX9, rfl, rfl, rfl⟩
theorem fl_X9_121 : zFld RX9 121 4 3 (.int) false := ⟨RX8, TX8, 4, tyX8, rfl, by decide, inX8, zmem 105 (by decide +kernel) rfl, tyX8_ok, nmX8, rfl, rfl, rfl⟩
theorem fl_X9_128 : zFld RX9 128 0 2 (.array .int) true := ⟨RX1, TX1, 12, tyX1, rfl, by decide, inX1, zmem 128 (by decide +kernel) rfl, tyX1_ok, nmX1, rfl, rfl, rfl⟩
theorem fl_X9_131 : zFld RX9 131 0 3 (.array .int) true := ⟨RX1, TX1, 12, tyX1, rfl, by decide, inX1, zmem 130 (by decide +kernel) rfl, tyX1_ok, nmX1, rfl, rfl, rfl⟩
theorem fl_X9_134 : zFld RX9 134 0 4 (.array .int) true := ⟨RX1, TX1, 12, tyX1, rfl, by decide, inX1, zmem 132 (by decide +kernel) rfl, tyX1_ok, nmX1, rfl, rfl, rfl⟩
theorem fl_X9_147 : zFld RX9 147 4 0 (.array .int) true := ⟨RX8, TX8, 4, tyX8, rfl, by decide, inX8, zmem 96 (by decide +kernel) rfl, tyX8_ok, nmX8, rfl, rfl, rfl⟩
theorem fl_X9_159 : zFld RX9 159 3 1 (.int) false := ⟨RX7, TX7, 2, tyX7, rfl, by decide, inX7, zmem 215 (by decide +kernel) rfl, tyX7_ok, nmX7, rfl, rfl, rfl⟩
theorem fl_X9_16 : zFld RX9 16 5 1 (.object "PaperDolls$Doll") true := ⟨RX9, TX9, 15, tyX9, rfl, by decide, inX9, zmem 238 (by decide +kernel) rfl, tyX9_ok, nmX9, rfl, rfl, rfl⟩
theorem fl_X9_162 : zFld RX9 162 3 0 (.array .int) true := ⟨RX7, TX7, 2, tyX7, rfl, by decide, inX7, zmem 213 (by decide +kernel) rfl, tyX7_ok, nmX7, rfl, rfl, rfl⟩
theorem fl_X9_187 : zFld RX9 187 1 0 (.array .int) true := ⟨RX4, TX4, 2, tyX4, rfl, by decide, inX4, zmem 230 (by decide +kernel) rfl, tyX4_ok, nmX4, rfl, rfl, rfl⟩
theorem fl_X9_19 : zFld RX9 19 5 2 (.array (.object "PaperDolls$Doll")) true := ⟨RX9, TX9, 15, tyX9, rfl, by decide, inX9, zmem 239 (by decide +kernel) rfl, tyX9_ok, nmX9, rfl, rfl, rfl⟩
theorem fl_X9_190 : zFld RX9 190 0 9 (.int) false := ⟨RX1, TX1, 12, tyX1, rfl, by decide, inX1, zmem 145 (by decide +kernel) rfl, tyX1_ok, nmX1, rfl, rfl, rfl⟩
theorem fl_X9_196 : zFld RX9 196 0 11 (.int) false := ⟨RX1, TX1, 12, tyX1, rfl, by decide, inX1, zmem 150 (by decide +kernel) rfl, tyX1_ok, nmX1, rfl, rfl, rfl⟩
theorem fl_X9_23 : zFld RX9 23 5 3 (.array .boolean) true := ⟨RX9, TX9, 15, tyX9, rfl, by decide, inX9, zmem 240 (by decide +kernel) rfl, tyX9_ok, nmX9, rfl, rfl, rfl⟩
theorem fl_X9_263 : zFld RX9 263 5 10 (.long) false := ⟨RX9, TX9, 15, tyX9, rfl, by decide, inX9, zmem 247 (by decide +kernel) rfl, tyX9_ok, nmX9, rfl, rfl, rfl⟩
theorem fl_X9_266 : zFld RX9 266 5 12 (.int) false := ⟨RX9, TX9, 15, tyX9, rfl, by decide, inX9, zmem 249 (by decide +kernel) rfl, tyX9_ok, nmX9, rfl, rfl, rfl⟩
theorem fl_X9_269 : zFld RX9 269 5 13 (.int) false := ⟨RX9, TX9, 15, tyX9, rfl, by decide, inX9, zmem 250 (by decide +kernel) rfl, tyX9_ok, nmX9, rfl, rfl, rfl⟩
theorem fl_X9_272 : zFld RX9 272 5 14 (.int) false := ⟨RX9, TX9, 15, tyX9, rfl, by decide, inX9, zmem 251 (by decide +kernel) rfl, tyX9_ok, nmX9, rfl, rfl, rfl⟩
theorem fl_X9_30 : zFld RX9 30 5 4 (.object "PaperDolls$Wear") true := ⟨RX9, TX9, 15, tyX9, rfl, by decide, inX9, zmem 241 (by decide +kernel) rfl, tyX9_ok, nmX9, rfl, rfl, rfl⟩
theorem fl_X9_37 : zFld RX9 37 5 5 (.object "PaperDolls$Reader") true := ⟨RX9, TX9, 15, tyX9, rfl, by decide, inX9, zmem 242 (by decide +kernel) rfl, tyX9_ok, nmX9, rfl, rfl, rfl⟩
theorem fl_X9_44 : zFld RX9 44 5 6 (.object "PaperDolls$Wardrobe") true := ⟨RX9, TX9, 15, tyX9, rfl, by decide, inX9, zmem 243 (by decide +kernel) rfl, tyX9_ok, nmX9, rfl, rfl, rfl⟩
theorem fl_X9_51 : zFld RX9 51 5 7 (.object "PaperDolls$MoveSearch") true := ⟨RX9, TX9, 15, tyX9, rfl, by decide, inX9, zmem 244 (by decide +kernel) rfl, tyX9_ok, nmX9, rfl, rfl, rfl⟩
theorem fl_X9_55 : zFld RX9 55 5 8 (.array .byte) true := ⟨RX9, TX9, 15, tyX9, rfl, by decide, inX9, zmem 245 (by decide +kernel) rfl, tyX9_ok, nmX9, rfl, rfl, rfl⟩
theorem fl_X9_59 : zFld RX9 59 5 11 (.long) false := ⟨RX9, TX9, 15, tyX9, rfl, by decide, inX9, zmem 248 (by decide +kernel) rfl, tyX9_ok, nmX9, rfl, rfl, rfl⟩
theorem fl_X9_71 : zFld RX9 71 0 1 (.int) false := ⟨RX1, TX1, 12, tyX1, rfl, by decide, inX1, zmem 123 (by decide +kernel) rfl, tyX1_ok, nmX1, rfl, rfl, rfl⟩
theorem fl_X9_79 : zFld RX9 79 0 0 (.int) false := ⟨RX1, TX1, 12, tyX1, rfl, by decide, inX1, zmem 119 (by decide +kernel) rfl, tyX1_ok, nmX1, rfl, rfl, rfl⟩
theorem fl_X9_82 : zFld RX9 82 0 7 (.int) false := ⟨RX1, TX1, 12, tyX1, rfl, by decide, inX1, zmem 140 (by decide +kernel) rfl, tyX1_ok, nmX1, rfl, rfl, rfl⟩
theorem fl_X9_89 : zFld RX9 89 5 9 (.int) false := ⟨RX9, TX9, 15, tyX9, rfl, by decide, inX9, zmem 246 (by decide +kernel) rfl, tyX9_ok, nmX9, rfl, rfl, rfl⟩
theorem ql_L_100 : Cond.methodLink RL 100 yX10_note ∈ zTb := zmem 1104 (by decide +kernel) rfl
theorem ql_L_101 : Cond.methodLink RL 101 yX9_mark ∈ zTb := zmem 658 (by decide +kernel) rfl
theorem ql_L_105 : Cond.methodLink RL 105 yX10_mark ∈ zTb := zmem 1108 (by decide +kernel) rfl
theorem ql_L_106 : Cond.methodLink RL 106 yX9_forget ∈ zTb := zmem 666 (by decide +kernel) rfl
theorem ql_L_109 : Cond.methodLink RL 109 yX10_forget ∈ zTb := zmem 1115 (by decide +kernel) rfl
theorem ql_L_110 : Cond.methodLink RL 110 yX9_is ∈ zTb := zmem 670 (by decide +kernel) rfl
theorem ql_L_113 : Cond.methodLink RL 113 yX10_is ∈ zTb := zmem 1119 (by decide +kernel) rfl
theorem ql_L_114 : Cond.methodLink RL 114 yX9_look ∈ zTb := zmem 681 (by decide +kernel) rfl
theorem ql_L_117 : Cond.methodLink RL 117 yX10_look ∈ zTb := zmem 1123 (by decide +kernel) rfl
theorem ql_L_118 : Cond.methodLink RL 118 yX9_kinds ∈ zTb := zmem 693 (by decide +kernel) rfl
theorem ql_L_12 : Cond.methodLink RL 12 yX10_init ∈ zTb := zmem 802 (by decide +kernel) rfl
theorem ql_L_121 : Cond.methodLink RL 121 yX10_kinds ∈ zTb := zmem 1128 (by decide +kernel) rfl
theorem ql_L_122 : Cond.methodLink RL 122 yX9_ask ∈ zTb := zmem 704 (by decide +kernel) rfl
theorem ql_L_125 : Cond.methodLink RL 125 yX10_ask ∈ zTb := zmem 1136 (by decide +kernel) rfl
theorem ql_L_126 : Cond.methodLink RL 126 yX9_two ∈ zTb := zmem 717 (by decide +kernel) rfl
theorem ql_L_129 : Cond.methodLink RL 129 yX10_two ∈ zTb := zmem 1140 (by decide +kernel) rfl
theorem ql_L_13 : Cond.methodLink RL 13 yX9_doll ∈ zTb := zmem 283 (by decide +kernel) rfl
theorem ql_L_130 : Cond.methodLink RL 130 yX9_luck ∈ zTb := zmem 734 (by decide +kernel) rfl
theorem ql_L_133 : Cond.methodLink RL 133 yX10_luck ∈ zTb := zmem 1152 (by decide +kernel) rfl
theorem ql_L_134 : Cond.methodLink RL 134 yX9_evenings ∈ zTb := zmem 745 (by decide +kernel) rfl
theorem ql_L_137 : Cond.methodLink RL 137 yX10_evenings ∈ zTb := zmem 1161 (by decide +kernel) rfl
theorem ql_L_138 : Cond.methodLink RL 138 yX9_part ∈ zTb := zmem 761 (by decide +kernel) rfl
theorem ql_L_142 : Cond.methodLink RL 142 yX10_part ∈ zTb := zmem 1172 (by decide +kernel) rfl
theorem ql_L_143 : Cond.methodLink RL 143 yX9_image ∈ zTb := zmem 765 (by decide +kernel) rfl
theorem ql_L_146 : Cond.methodLink RL 146 yX10_image ∈ zTb := zmem 1176 (by decide +kernel) rfl
theorem ql_L_147 : Cond.methodLink RL 147 yX9_from ∈ zTb := zmem 769 (by decide +kernel) rfl
theorem ql_L_150 : Cond.methodLink RL 150 yX10_from ∈ zTb := zmem 1180 (by decide +kernel) rfl
theorem ql_L_151 : Cond.methodLink RL 151 yX9_status ∈ zTb := zmem 773 (by decide +kernel) rfl
theorem ql_L_154 : Cond.methodLink RL 154 yX10_status ∈ zTb := zmem 1184 (by decide +kernel) rfl
theorem ql_L_155 : Cond.methodLink RL 155 yX9_count ∈ zTb := zmem 777 (by decide +kernel) rfl
theorem ql_L_158 : Cond.methodLink RL 158 yX10_count ∈ zTb := zmem 1189 (by decide +kernel) rfl
theorem ql_L_159 : Cond.methodLink RL 159 yX9_digest ∈ zTb := zmem 789 (by decide +kernel) rfl
theorem ql_L_163 : Cond.methodLink RL 163 yX10_digest ∈ zTb := zmem 1202 (by decide +kernel) rfl
theorem ql_L_17 : Cond.methodLink RL 17 yX10_doll ∈ zTb := zmem 864 (by decide +kernel) rfl
theorem ql_L_18 : Cond.methodLink RL 18 yX9_child ∈ zTb := zmem 302 (by decide +kernel) rfl
theorem ql_L_21 : Cond.methodLink RL 21 yX10_child ∈ zTb := zmem 884 (by decide +kernel) rfl
theorem ql_L_22 : Cond.methodLink RL 22 yX9_piece ∈ zTb := zmem 306 (by decide +kernel) rfl
theorem ql_L_26 : Cond.methodLink RL 26 yX10_piece ∈ zTb := zmem 888 (by decide +kernel) rfl
theorem ql_L_27 : Cond.methodLink RL 27 yX9_type ∈ zTb := zmem 314 (by decide +kernel) rfl
theorem ql_L_30 : Cond.methodLink RL 30 yX10_type ∈ zTb := zmem 906 (by decide +kernel) rfl
theorem ql_L_31 : Cond.methodLink RL 31 yX9_clear ∈ zTb := zmem 318 (by decide +kernel) rfl
theorem ql_L_35 : Cond.methodLink RL 35 yX10_clear ∈ zTb := zmem 911 (by decide +kernel) rfl
theorem ql_L_36 : Cond.methodLink RL 36 yX9_read ∈ zTb := zmem 322 (by decide +kernel) rfl
theorem ql_L_39 : Cond.methodLink RL 39 yX10_read ∈ zTb := zmem 915 (by decide +kernel) rfl
theorem ql_L_40 : Cond.methodLink RL 40 yX9_puts ∈ zTb := zmem 483 (by decide +kernel) rfl
theorem ql_L_43 : Cond.methodLink RL 43 yX10_puts ∈ zTb := zmem 989 (by decide +kernel) rfl
theorem ql_L_44 : Cond.methodLink RL 44 yX9_takes ∈ zTb := zmem 502 (by decide +kernel) rfl
theorem ql_L_47 : Cond.methodLink RL 47 yX10_takes ∈ zTb := zmem 1009 (by decide +kernel) rfl
theorem ql_L_48 : Cond.methodLink RL 48 yX9_mends ∈ zTb := zmem 506 (by decide +kernel) rfl
theorem ql_L_51 : Cond.methodLink RL 51 yX10_mends ∈ zTb := zmem 1013 (by decide +kernel) rfl
theorem ql_L_52 : Cond.methodLink RL 52 yX9_undo ∈ zTb := zmem 510 (by decide +kernel) rfl
theorem ql_L_55 : Cond.methodLink RL 55 yX10_undo ∈ zTb := zmem 1017 (by decide +kernel) rfl
theorem ql_L_56 : Cond.methodLink RL 56 yX9_of ∈ zTb := zmem 518 (by decide +kernel) rfl
theorem ql_L_60 : Cond.methodLink RL 60 yX10_of ∈ zTb := zmem 1021 (by decide +kernel) rfl
theorem ql_L_61 : Cond.methodLink RL 61 yX9_seen ∈ zTb := zmem 528 (by decide +kernel) rfl
theorem ql_L_64 : Cond.methodLink RL 64 yX10_seen ∈ zTb := zmem 1026 (by decide +kernel) rfl
theorem ql_L_65 : Cond.methodLink RL 65 yX9_can ∈ zTb := zmem 532 (by decide +kernel) rfl
theorem ql_L_68 : Cond.methodLink RL 68 yX10_can ∈ zTb := zmem 1033 (by decide +kernel) rfl
theorem ql_L_69 : Cond.methodLink RL 69 yX9_off ∈ zTb := zmem 541 (by decide +kernel) rfl
theorem ql_L_72 : Cond.methodLink RL 72 yX10_off ∈ zTb := zmem 1041 (by decide +kernel) rfl
theorem ql_L_73 : Cond.methodLink RL 73 yX9_going ∈ zTb := zmem 545 (by decide +kernel) rfl
theorem ql_L_76 : Cond.methodLink RL 76 yX10_going ∈ zTb := zmem 1045 (by decide +kernel) rfl
theorem ql_L_77 : Cond.methodLink RL 77 yX9_outfits ∈ zTb := zmem 557 (by decide +kernel) rfl
theorem ql_L_80 : Cond.methodLink RL 80 yX10_outfits ∈ zTb := zmem 1053 (by decide +kernel) rfl
theorem ql_L_81 : Cond.methodLink RL 81 yX9_lean ∈ zTb := zmem 578 (by decide +kernel) rfl
theorem ql_L_84 : Cond.methodLink RL 84 yX10_lean ∈ zTb := zmem 1073 (by decide +kernel) rfl
theorem ql_L_85 : Cond.methodLink RL 85 yX9_days ∈ zTb := zmem 593 (by decide +kernel) rfl
theorem ql_L_88 : Cond.methodLink RL 88 yX10_days ∈ zTb := zmem 1080 (by decide +kernel) rfl
theorem ql_L_89 : Cond.methodLink RL 89 yX9_spared ∈ zTb := zmem 608 (by decide +kernel) rfl
theorem ql_L_9 : Cond.methodLink RL 9 yX9_init ∈ zTb := zmem 77 (by decide +kernel) rfl
theorem ql_L_92 : Cond.methodLink RL 92 yX10_spared ∈ zTb := zmem 1084 (by decide +kernel) rfl
theorem ql_L_93 : Cond.methodLink RL 93 yX9_few ∈ zTb := zmem 620 (by decide +kernel) rfl
theorem ql_L_96 : Cond.methodLink RL 96 yX10_few ∈ zTb := zmem 1088 (by decide +kernel) rfl
theorem ql_L_97 : Cond.methodLink RL 97 yX9_note ∈ zTb := zmem 650 (by decide +kernel) rfl
theorem ql_X1_101 : Cond.methodLink RX1 101 yX1_matchesOf ∈ zTb := zmem 577 (by decide +kernel) rfl
theorem ql_X1_104 : Cond.methodLink RX1 104 yX1_mayPut ∈ zTb := zmem 431 (by decide +kernel) rfl
theorem ql_X1_108 : Cond.methodLink RX1 108 yX1_mayTake ∈ zTb := zmem 445 (by decide +kernel) rfl
theorem ql_X1_111 : Cond.methodLink RX1 111 yX8_placeOf ∈ zTb := zmem 435 (by decide +kernel) rfl
theorem ql_X1_120 : Cond.methodLink RX1 120 yX1_spotsOf ∈ zTb := zmem 449 (by decide +kernel) rfl
theorem ql_X1_123 : Cond.methodLink RX1 123 yX1_mayMove ∈ zTb := zmem 540 (by decide +kernel) rfl
theorem ql_X1_127 : Cond.methodLink RX1 127 yX8_layOver ∈ zTb := zmem 460 (by decide +kernel) rfl
theorem ql_X1_131 : Cond.methodLink RX1 131 yX8_pullOut ∈ zTb := zmem 464 (by decide +kernel) rfl
theorem ql_X1_137 : Cond.methodLink RX1 137 yX1_keepPast ∈ zTb := zmem 497 (by decide +kernel) rfl
theorem ql_X1_140 : Cond.methodLink RX1 140 yX1_move ∈ zTb := zmem 501 (by decide +kernel) rfl
theorem ql_X1_3 : Cond.methodLink RX1 3 Lib.objectInit ∈ zTb := zmem 88 (by decide +kernel) rfl
theorem ql_X1_45 : Cond.methodLink RX1 45 yX8_begin ∈ zTb := zmem 298 (by decide +kernel) rfl
theorem ql_X1_57 : Cond.methodLink RX1 57 arraycopyName ∈ zTb := zmem 475 (by decide +kernel) rfl
theorem ql_X1_63 : Cond.methodLink RX1 63 yX8_copyFrom ∈ zTb := zmem 478 (by decide +kernel) rfl
theorem ql_X1_67 : Cond.methodLink RX1 67 yX1_has ∈ zTb := zmem 427 (by decide +kernel) rfl
theorem ql_X1_71 : Cond.methodLink RX1 71 yX0_covers ∈ zTb := zmem 453 (by decide +kernel) rfl
theorem ql_X1_77 : Cond.methodLink RX1 77 yX8_onSet ∈ zTb := zmem 632 (by decide +kernel) rfl
theorem ql_X1_81 : Cond.methodLink RX1 81 yX1_spotsOfSet ∈ zTb := zmem 636 (by decide +kernel) rfl
theorem ql_X1_87 : Cond.methodLink RX1 87 yX0_holds ∈ zTb := zmem 439 (by decide +kernel) rfl
theorem ql_X1_91 : Cond.methodLink RX1 91 yX6_allows ∈ zTb := zmem 442 (by decide +kernel) rfl
theorem ql_X1_97 : Cond.methodLink RX1 97 yX1_match ∈ zTb := zmem 553 (by decide +kernel) rfl
theorem ql_X10_1 : Cond.methodLink RX10 1 Lib.objectInit ∈ zTb := zmem 805 (by decide +kernel) rfl
theorem ql_X10_103 : Cond.methodLink RX10 103 yX10_full ∈ zTb := zmem 894 (by decide +kernel) rfl
theorem ql_X10_106 : Cond.methodLink RX10 106 yX10_aside ∈ zTb := zmem 898 (by decide +kernel) rfl
theorem ql_X10_109 : Cond.methodLink RX10 109 yX10_addPiece ∈ zTb := zmem 902 (by decide +kernel) rfl
theorem ql_X10_138 : Cond.methodLink RX10 138 yX10_isLetter ∈ zTb := zmem 923 (by decide +kernel) rfl
theorem ql_X10_141 : Cond.methodLink RX10 141 yX10_isFigure ∈ zTb := zmem 928 (by decide +kernel) rfl
theorem ql_X10_144 : Cond.methodLink RX10 144 yX10_next ∈ zTb := zmem 919 (by decide +kernel) rfl
theorem ql_X10_148 : Cond.methodLink RX10 148 yX10_isNumber ∈ zTb := zmem 938 (by decide +kernel) rfl
theorem ql_X10_152 : Cond.methodLink RX10 152 yX10_isEnd ∈ zTb := zmem 942 (by decide +kernel) rfl
theorem ql_X10_158 : Cond.methodLink RX10 158 yX10_goMove ∈ zTb := zmem 948 (by decide +kernel) rfl
theorem ql_X10_161 : Cond.methodLink RX10 161 yX10_item ∈ zTb := zmem 933 (by decide +kernel) rfl
theorem ql_X10_165 : Cond.methodLink RX10 165 yX10_isPiece ∈ zTb := zmem 997 (by decide +kernel) rfl
theorem ql_X10_168 : Cond.methodLink RX10 168 yX10_no ∈ zTb := zmem 1001 (by decide +kernel) rfl
theorem ql_X10_171 : Cond.methodLink RX10 171 yX10_remember ∈ zTb := zmem 1005 (by decide +kernel) rfl
theorem ql_X10_174 : Cond.methodLink RX10 174 yX10_move ∈ zTb := zmem 993 (by decide +kernel) rfl
theorem ql_X10_180 : Cond.methodLink RX10 180 yX10_has ∈ zTb := zmem 1030 (by decide +kernel) rfl
theorem ql_X10_183 : Cond.methodLink RX10 183 yX10_canSet ∈ zTb := zmem 1037 (by decide +kernel) rfl
theorem ql_X10_186 : Cond.methodLink RX10 186 yX10_areGoing ∈ zTb := zmem 1049 (by decide +kernel) rfl
theorem ql_X10_189 : Cond.methodLink RX10 189 yX10_coveredBy ∈ zTb := zmem 1069 (by decide +kernel) rfl
theorem ql_X10_192 : Cond.methodLink RX10 192 yX10_isOutfit ∈ zTb := zmem 1065 (by decide +kernel) rfl
theorem ql_X10_195 : Cond.methodLink RX10 195 yX10_outfitAt ∈ zTb := zmem 1061 (by decide +kernel) rfl
theorem ql_X10_198 : Cond.methodLink RX10 198 yX10_outfitMany ∈ zTb := zmem 1057 (by decide +kernel) rfl
theorem ql_X10_201 : Cond.methodLink RX10 201 yX10_ones ∈ zTb := zmem 1077 (by decide +kernel) rfl
theorem ql_X10_204 : Cond.methodLink RX10 204 yX10_goRow ∈ zTb := zmem 1092 (by decide +kernel) rfl
theorem ql_X10_207 : Cond.methodLink RX10 207 yX10_covered ∈ zTb := zmem 1096 (by decide +kernel) rfl
theorem ql_X10_210 : Cond.methodLink RX10 210 yX10_rowAt ∈ zTb := zmem 1100 (by decide +kernel) rfl
theorem ql_X10_219 : Cond.methodLink RX10 219 yX10_is ∈ zTb := zmem 1127 (by decide +kernel) rfl
theorem ql_X10_222 : Cond.methodLink RX10 222 yX10_kindSet ∈ zTb := zmem 1132 (by decide +kernel) rfl
theorem ql_X10_225 : Cond.methodLink RX10 225 yX10_getsOf ∈ zTb := zmem 1148 (by decide +kernel) rfl
theorem ql_X10_228 : Cond.methodLink RX10 228 yX10_rests ∈ zTb := zmem 1144 (by decide +kernel) rfl
theorem ql_X10_237 : Cond.methodLink RX10 237 yX10_fraction ∈ zTb := zmem 1157 (by decide +kernel) rfl
theorem ql_X10_260 : Cond.methodLink RX10 260 yX10_wornAll ∈ zTb := zmem 1198 (by decide +kernel) rfl
theorem ql_X10_265 : Cond.methodLink RX10 265 yX10_countOf ∈ zTb := zmem 1194 (by decide +kernel) rfl
theorem ql_X10_44 : Cond.methodLink RX10 44 yX10_goes ∈ zTb := zmem 967 (by decide +kernel) rfl
theorem ql_X10_48 : Cond.methodLink RX10 48 yX10_in ∈ zTb := zmem 869 (by decide +kernel) rfl
theorem ql_X10_52 : Cond.methodLink RX10 52 yX10_holds ∈ zTb := zmem 964 (by decide +kernel) rfl
theorem ql_X10_56 : Cond.methodLink RX10 56 yX10_placeOf ∈ zTb := zmem 956 (by decide +kernel) rfl
theorem ql_X10_60 : Cond.methodLink RX10 60 yX10_holdsOf ∈ zTb := zmem 960 (by decide +kernel) rfl
theorem ql_X10_63 : Cond.methodLink RX10 63 yX10_covers ∈ zTb := zmem 974 (by decide +kernel) rfl
theorem ql_X10_66 : Cond.methodLink RX10 66 yX10_canPut ∈ zTb := zmem 952 (by decide +kernel) rfl
theorem ql_X10_70 : Cond.methodLink RX10 70 yX10_canTake ∈ zTb := zmem 970 (by decide +kernel) rfl
theorem ql_X10_73 : Cond.methodLink RX10 73 yX10_goPut ∈ zTb := zmem 977 (by decide +kernel) rfl
theorem ql_X10_77 : Cond.methodLink RX10 77 yX10_goTake ∈ zTb := zmem 981 (by decide +kernel) rfl
theorem ql_X10_80 : Cond.methodLink RX10 80 yX10_goMend ∈ zTb := zmem 985 (by decide +kernel) rfl
theorem ql_X10_85 : Cond.methodLink RX10 85 yX10_bad ∈ zTb := zmem 872 (by decide +kernel) rfl
theorem ql_X10_89 : Cond.methodLink RX10 89 yX10_begin ∈ zTb := zmem 876 (by decide +kernel) rfl
theorem ql_X10_92 : Cond.methodLink RX10 92 yX10_take ∈ zTb := zmem 880 (by decide +kernel) rfl
theorem ql_X2_13 : Cond.methodLink RX2 13 yX2_gain ∈ zTb := zmem 728 (by decide +kernel) rfl
theorem ql_X2_23 : Cond.methodLink RX2 23 yX1_match ∈ zTb := zmem 731 (by decide +kernel) rfl
theorem ql_X2_27 : Cond.methodLink RX2 27 yX1_spotsOf ∈ zTb := zmem 732 (by decide +kernel) rfl
theorem ql_X2_31 : Cond.methodLink RX2 31 yJ6_bitCount_0f7a4 ∈ zTb := zmem 733 (by decide +kernel) rfl
theorem ql_X2_7 : Cond.methodLink RX2 7 yX2_noneIsBetter ∈ zTb := zmem 725 (by decide +kernel) rfl
theorem ql_X3_25 : Cond.methodLink RX3 25 yX6_allows ∈ zTb := zmem 680 (by decide +kernel) rfl
theorem ql_X3_31 : Cond.methodLink RX3 31 yX3_greaterPart ∈ zTb := zmem 688 (by decide +kernel) rfl
theorem ql_X3_35 : Cond.methodLink RX3 35 yJ6_bitCount_0f7a4 ∈ zTb := zmem 691 (by decide +kernel) rfl
theorem ql_X3_41 : Cond.methodLink RX3 41 yJ9_max_7cf53 ∈ zTb := zmem 692 (by decide +kernel) rfl
theorem ql_X3_47 : Cond.methodLink RX3 47 yX3_fitsMarks ∈ zTb := zmem 700 (by decide +kernel) rfl
theorem ql_X3_57 : Cond.methodLink RX3 57 yX0_holds ∈ zTb := zmem 703 (by decide +kernel) rfl
theorem ql_X3_62 : Cond.methodLink RX3 62 yX3_mostAlike ∈ zTb := zmem 711 (by decide +kernel) rfl
theorem ql_X3_65 : Cond.methodLink RX3 65 yX3_howManyHold ∈ zTb := zmem 714 (by decide +kernel) rfl
theorem ql_X3_9 : Cond.methodLink RX3 9 yX3_fitsNotes ∈ zTb := zmem 677 (by decide +kernel) rfl
theorem ql_X4_28 : Cond.methodLink RX4 28 yX1_isDressed ∈ zTb := zmem 628 (by decide +kernel) rfl
theorem ql_X4_3 : Cond.methodLink RX4 3 Lib.objectInit ∈ zTb := zmem 226 (by decide +kernel) rfl
theorem ql_X4_32 : Cond.methodLink RX4 32 yX4_dresses ∈ zTb := zmem 637 (by decide +kernel) rfl
theorem ql_X4_36 : Cond.methodLink RX4 36 yX4_dressesAtLast ∈ zTb := zmem 641 (by decide +kernel) rfl
theorem ql_X4_44 : Cond.methodLink RX4 44 yX1_mayMove ∈ zTb := zmem 647 (by decide +kernel) rfl
theorem ql_X4_48 : Cond.methodLink RX4 48 yX8_copyFrom ∈ zTb := zmem 648 (by decide +kernel) rfl
theorem ql_X4_52 : Cond.methodLink RX4 52 yX1_move ∈ zTb := zmem 649 (by decide +kernel) rfl
theorem ql_X4_56 : Cond.methodLink RX4 56 yX8_onSet ∈ zTb := zmem 645 (by decide +kernel) rfl
theorem ql_X4_60 : Cond.methodLink RX4 60 yX1_spotsOfSet ∈ zTb := zmem 646 (by decide +kernel) rfl
theorem ql_X5_114 : Cond.methodLink RX5 114 yX5_advanceOverWord ∈ zTb := zmem 339 (by decide +kernel) rfl
theorem ql_X5_117 : Cond.methodLink RX5 117 yX5_advanceOverNumber ∈ zTb := zmem 343 (by decide +kernel) rfl
theorem ql_X5_15 : Cond.methodLink RX5 15 yJ9_min_7cf53 ∈ zTb := zmem 330 (by decide +kernel) rfl
theorem ql_X5_28 : Cond.methodLink RX5 28 yX1_begin ∈ zTb := zmem 333 (by decide +kernel) rfl
theorem ql_X5_3 : Cond.methodLink RX5 3 Lib.objectInit ∈ zTb := zmem 184 (by decide +kernel) rfl
theorem ql_X5_34 : Cond.methodLink RX5 34 yX5_advance ∈ zTb := zmem 334 (by decide +kernel) rfl
theorem ql_X5_37 : Cond.methodLink RX5 37 yX5_readItem ∈ zTb := zmem 347 (by decide +kernel) rfl
theorem ql_X5_49 : Cond.methodLink RX5 49 yX5_isWord ∈ zTb := zmem 352 (by decide +kernel) rfl
theorem ql_X5_53 : Cond.methodLink RX5 53 yX5_readChild ∈ zTb := zmem 404 (by decide +kernel) rfl
theorem ql_X5_62 : Cond.methodLink RX5 62 yX5_readPiece ∈ zTb := zmem 413 (by decide +kernel) rfl
theorem ql_X5_67 : Cond.methodLink RX5 67 yX5_readMove ∈ zTb := zmem 419 (by decide +kernel) rfl
theorem ql_X5_75 : Cond.methodLink RX5 75 yX5_readNumber ∈ zTb := zmem 408 (by decide +kernel) rfl
theorem ql_X5_85 : Cond.methodLink RX5 85 yX1_addPiece ∈ zTb := zmem 417 (by decide +kernel) rfl
theorem ql_X5_93 : Cond.methodLink RX5 93 yX1_mayMove ∈ zTb := zmem 423 (by decide +kernel) rfl
theorem ql_X5_97 : Cond.methodLink RX5 97 yX1_move ∈ zTb := zmem 456 (by decide +kernel) rfl
theorem ql_X7_28 : Cond.methodLink RX7 28 yX1_holdOf ∈ zTb := zmem 565 (by decide +kernel) rfl
theorem ql_X7_3 : Cond.methodLink RX7 3 Lib.objectInit ∈ zTb := zmem 211 (by decide +kernel) rfl
theorem ql_X7_32 : Cond.methodLink RX7 32 yX7_isOutfit ∈ zTb := zmem 566 (by decide +kernel) rfl
theorem ql_X7_36 : Cond.methodLink RX7 36 yX1_spotsOfSet ∈ zTb := zmem 569 (by decide +kernel) rfl
theorem ql_X7_40 : Cond.methodLink RX7 40 yX1_allMatch ∈ zTb := zmem 573 (by decide +kernel) rfl
theorem ql_X7_44 : Cond.methodLink RX7 44 yJ6_bitCount_0f7a4 ∈ zTb := zmem 586 (by decide +kernel) rfl
theorem ql_X7_49 : Cond.methodLink RX7 49 yX7_mostApartFrom ∈ zTb := zmem 601 (by decide +kernel) rfl
theorem ql_X7_53 : Cond.methodLink RX7 53 yJ9_max_7cf53 ∈ zTb := zmem 605 (by decide +kernel) rfl
theorem ql_X8_25 : Cond.methodLink RX8 25 arraycopyName ∈ zTb := zmem 482 (by decide +kernel) rfl
theorem ql_X8_3 : Cond.methodLink RX8 3 Lib.objectInit ∈ zTb := zmem 94 (by decide +kernel) rfl
theorem ql_X8_31 : Cond.methodLink RX8 31 yX8_placeOf ∈ zTb := zmem 468 (by decide +kernel) rfl
theorem ql_X9_100 : Cond.methodLink RX9 100 yX9_whyNoMove ∈ zTb := zmem 487 (by decide +kernel) rfl
theorem ql_X9_104 : Cond.methodLink RX9 104 yX1_moveForGood ∈ zTb := zmem 493 (by decide +kernel) rfl
theorem ql_X9_11 : Cond.methodLink RX9 11 yX1_init ∈ zTb := zmem 85 (by decide +kernel) rfl
theorem ql_X9_118 : Cond.methodLink RX9 118 yX1_bringBack ∈ zTb := zmem 514 (by decide +kernel) rfl
theorem ql_X9_124 : Cond.methodLink RX9 124 yX1_has ∈ zTb := zmem 491 (by decide +kernel) rfl
theorem ql_X9_137 : Cond.methodLink RX9 137 yX8_placeOf ∈ zTb := zmem 522 (by decide +kernel) rfl
theorem ql_X9_140 : Cond.methodLink RX9 140 yX1_spotsOf ∈ zTb := zmem 523 (by decide +kernel) rfl
theorem ql_X9_143 : Cond.methodLink RX9 143 yX1_holdOf ∈ zTb := zmem 524 (by decide +kernel) rfl
theorem ql_X9_150 : Cond.methodLink RX9 150 yX1_setThatMay ∈ zTb := zmem 536 (by decide +kernel) rfl
theorem ql_X9_153 : Cond.methodLink RX9 153 yX1_matchesOf ∈ zTb := zmem 549 (by decide +kernel) rfl
theorem ql_X9_156 : Cond.methodLink RX9 156 yX7_findOutfits ∈ zTb := zmem 561 (by decide +kernel) rfl
theorem ql_X9_165 : Cond.methodLink RX9 165 yX7_smallest ∈ zTb := zmem 582 (by decide +kernel) rfl
theorem ql_X9_169 : Cond.methodLink RX9 169 yJ6_bitCount_0f7a4 ∈ zTb := zmem 592 (by decide +kernel) rfl
theorem ql_X9_174 : Cond.methodLink RX9 174 yX7_mostApart ∈ zTb := zmem 597 (by decide +kernel) rfl
theorem ql_X9_177 : Cond.methodLink RX9 177 yX1_allPieces ∈ zTb := zmem 612 (by decide +kernel) rfl
theorem ql_X9_180 : Cond.methodLink RX9 180 yX7_used ∈ zTb := zmem 616 (by decide +kernel) rfl
theorem ql_X9_183 : Cond.methodLink RX9 183 yX4_fewest ∈ zTb := zmem 624 (by decide +kernel) rfl
theorem ql_X9_193 : Cond.methodLink RX9 193 yX1_addNote ∈ zTb := zmem 654 (by decide +kernel) rfl
theorem ql_X9_199 : Cond.methodLink RX9 199 yX1_addMark ∈ zTb := zmem 662 (by decide +kernel) rfl
theorem ql_X9_203 : Cond.methodLink RX9 203 yX3_childKinds ∈ zTb := zmem 674 (by decide +kernel) rfl
theorem ql_X9_208 : Cond.methodLink RX9 208 yX3_bestPair ∈ zTb := zmem 685 (by decide +kernel) rfl
theorem ql_X9_211 : Cond.methodLink RX9 211 yX3_clothKinds ∈ zTb := zmem 697 (by decide +kernel) rfl
theorem ql_X9_215 : Cond.methodLink RX9 215 yX3_bestWear ∈ zTb := zmem 708 (by decide +kernel) rfl
theorem ql_X9_218 : Cond.methodLink RX9 218 yX8_onSet ∈ zTb := zmem 721 (by decide +kernel) rfl
theorem ql_X9_221 : Cond.methodLink RX9 221 yX2_rests ∈ zTb := zmem 722 (by decide +kernel) rfl
theorem ql_X9_227 : Cond.methodLink RX9 227 yJ9_min_7cf53 ∈ zTb := zmem 738 (by decide +kernel) rfl
theorem ql_X9_232 : Cond.methodLink RX9 232 yX1_spotsOfSet ∈ zTb := zmem 739 (by decide +kernel) rfl
theorem ql_X9_235 : Cond.methodLink RX9 235 yX1_allMatch ∈ zTb := zmem 740 (by decide +kernel) rfl
theorem ql_X9_238 : Cond.methodLink RX9 238 yX9_setFraction ∈ zTb := zmem 741 (by decide +kernel) rfl
theorem ql_X9_242 : Cond.methodLink RX9 242 yX8_copyFrom ∈ zTb := zmem 750 (by decide +kernel) rfl
theorem ql_X9_255 : Cond.methodLink RX9 255 yX1_playWith ∈ zTb := zmem 756 (by decide +kernel) rfl
theorem ql_X9_259 : Cond.methodLink RX9 259 yX1_isDressed ∈ zTb := zmem 760 (by decide +kernel) rfl
theorem ql_X9_275 : Cond.methodLink RX9 275 yX9_countOf ∈ zTb := zmem 781 (by decide +kernel) rfl
theorem ql_X9_282 : Cond.methodLink RX9 282 yX1_digestOn ∈ zTb := zmem 795 (by decide +kernel) rfl
theorem ql_X9_286 : Cond.methodLink RX9 286 yX1_mayMove ∈ zTb := zmem 492 (by decide +kernel) rfl
theorem ql_X9_290 : Cond.methodLink RX9 290 yX8_wornTogether ∈ zTb := zmem 785 (by decide +kernel) rfl
theorem ql_X9_3 : Cond.methodLink RX9 3 Lib.objectInit ∈ zTb := zmem 80 (by decide +kernel) rfl
theorem ql_X9_50 : Cond.methodLink RX9 50 yX4_init ∈ zTb := zmem 223 (by decide +kernel) rfl
theorem ql_X9_63 : Cond.methodLink RX9 63 yX9_within ∈ zTb := zmem 287 (by decide +kernel) rfl
theorem ql_X9_67 : Cond.methodLink RX9 67 yX9_refuse ∈ zTb := zmem 290 (by decide +kernel) rfl
theorem ql_X9_75 : Cond.methodLink RX9 75 yX1_begin ∈ zTb := zmem 294 (by decide +kernel) rfl
theorem ql_X9_85 : Cond.methodLink RX9 85 yX1_addPiece ∈ zTb := zmem 310 (by decide +kernel) rfl
theorem ql_X9_92 : Cond.methodLink RX9 92 yX5_readDoll ∈ zTb := zmem 326 (by decide +kernel) rfl
theorem ql_X9_96 : Cond.methodLink RX9 96 yX1_copyFrom ∈ zTb := zmem 471 (by decide +kernel) rfl
theorem qk_X1_144 : Cond.constantLong RX1 144 31 ∈ zTb := zmem 799 (by decide +kernel) rfl
theorem qk_X10_101 : Cond.constantLong RX10 101 9 ∈ zTb := zmem 893 (by decide +kernel) rfl
theorem qk_X10_113 : Cond.constantLong RX10 113 127 ∈ zTb := zmem 910 (by decide +kernel) rfl
theorem qk_X10_118 : Cond.constantLong RX10 118 97 ∈ zTb := zmem 926 (by decide +kernel) rfl
theorem qk_X10_120 : Cond.constantLong RX10 120 122 ∈ zTb := zmem 927 (by decide +kernel) rfl
theorem qk_X10_122 : Cond.constantLong RX10 122 48 ∈ zTb := zmem 931 (by decide +kernel) rfl
theorem qk_X10_124 : Cond.constantLong RX10 124 57 ∈ zTb := zmem 932 (by decide +kernel) rfl
theorem qk_X10_178 : Cond.constantLong RX10 178 6 ∈ zTb := zmem 1025 (by decide +kernel) rfl
theorem qk_X10_213 : Cond.constantLong RX10 213 99 ∈ zTb := zmem 1112 (by decide +kernel) rfl
theorem qk_X10_215 : Cond.constantLong RX10 215 (-99) ∈ zTb := zmem 1113 (by decide +kernel) rfl
theorem qk_X10_217 : Cond.constantLong RX10 217 40 ∈ zTb := zmem 1114 (by decide +kernel) rfl
theorem qk_X10_235 : Cond.constantLong RX10 235 4 ∈ zTb := zmem 1156 (by decide +kernel) rfl
theorem qk_X10_241 : Cond.constantLong RX10 241 999999 ∈ zTb := zmem 1165 (by decide +kernel) rfl
theorem qk_X10_243 : Cond.constantLong RX10 243 60 ∈ zTb := zmem 1166 (by decide +kernel) rfl
theorem qk_X10_245 : Cond.constantLong RX10 245 1103515245 ∈ zTb := zmem 1167 (by decide +kernel) rfl
theorem qk_X10_247 : Cond.constantLong RX10 247 12345 ∈ zTb := zmem 1168 (by decide +kernel) rfl
theorem qk_X10_249 : Cond.constantLong RX10 249 2147483648 ∈ zTb := zmem 1169 (by decide +kernel) rfl
theorem qk_X10_251 : Cond.constantLong RX10 251 65536 ∈ zTb := zmem 1170 (by decide +kernel) rfl
theorem qk_X10_253 : Cond.constantLong RX10 253 8 ∈ zTb := zmem 1171 (by decide +kernel) rfl
theorem qk_X10_258 : Cond.constantLong RX10 258 2 ∈ zTb := zmem 1188 (by decide +kernel) rfl
theorem qk_X10_263 : Cond.constantLong RX10 263 10 ∈ zTb := zmem 1193 (by decide +kernel) rfl
theorem qk_X10_268 : Cond.constantLong RX10 268 1867 ∈ zTb := zmem 1206 (by decide +kernel) rfl
theorem qk_X10_270 : Cond.constantLong RX10 270 31 ∈ zTb := zmem 1207 (by decide +kernel) rfl
theorem qk_X10_83 : Cond.constantLong RX10 83 5 ∈ zTb := zmem 868 (by decide +kernel) rfl
theorem qk_X10_99 : Cond.constantLong RX10 99 3 ∈ zTb := zmem 892 (by decide +kernel) rfl
theorem qk_X9_245 : Cond.constantLong RX9 245 1103515245 ∈ zTb := zmem 751 (by decide +kernel) rfl
theorem qk_X9_247 : Cond.constantLong RX9 247 12345 ∈ zTb := zmem 752 (by decide +kernel) rfl
theorem qk_X9_249 : Cond.constantLong RX9 249 2147483648 ∈ zTb := zmem 753 (by decide +kernel) rfl
theorem qk_X9_251 : Cond.constantLong RX9 251 65536 ∈ zTb := zmem 754 (by decide +kernel) rfl
theorem qk_X9_253 : Cond.constantLong RX9 253 8 ∈ zTb := zmem 755 (by decide +kernel) rfl
theorem qk_X9_278 : Cond.constantLong RX9 278 1867 ∈ zTb := zmem 793 (by decide +kernel) rfl
theorem qk_X9_280 : Cond.constantLong RX9 280 31 ∈ zTb := zmem 794 (by decide +kernel) rfl
theorem nw_L_10 : zNew RL 10 6 19 [.null, .null, .null, .int 0, .null, .null, .null, .int 0, .int 0, .null, .long 0, .long 0, .null, .int 0, .int 0, .int 0, .int 0, .null, .null] := ⟨RX10, TX10, tyX10, rfl, inX10, tyX10_ok, zmem 800 (by decide +kernel) rfl, zmem 801 (by decide +kernel) rfl, zmem 63 (by decide +kernel) rfl, by decide⟩
theorem nw_L_7 : zNew RL 7 5 15 [.null, .null, .null, .null, .null, .null, .null, .null, .null, .int 0, .long 0, .long 0, .int 0, .int 0, .int 0] := ⟨RX9, TX9, tyX9, rfl, inX9, tyX9_ok, zmem 75 (by decide +kernel) rfl, zmem 76 (by decide +kernel) rfl, zmem 57 (by decide +kernel) rfl, by decide⟩
theorem nw_X1_21 : zNew RX1 21 4 4 [.null, .null, .int 0, .int 0] := ⟨RX8, TX8, tyX8, rfl, inX8, tyX8_ok, zmem 89 (by decide +kernel) rfl, zmem 90 (by decide +kernel) rfl, zmem 59 (by decide +kernel) rfl, by decide⟩
theorem nw_X4_15 : zNew RX4 15 4 4 [.null, .null, .int 0, .int 0] := ⟨RX8, TX8, tyX8, rfl, inX8, tyX8_ok, zmem 227 (by decide +kernel) rfl, zmem 90 (by decide +kernel) rfl, zmem 59 (by decide +kernel) rfl, by decide⟩
theorem nw_X9_27 : zNew RX9 27 4 4 [.null, .null, .int 0, .int 0] := ⟨RX8, TX8, tyX8, rfl, inX8, tyX8_ok, zmem 177 (by decide +kernel) rfl, zmem 90 (by decide +kernel) rfl, zmem 59 (by decide +kernel) rfl, by decide⟩
theorem nw_X9_34 : zNew RX9 34 2 6 [.null, .int 0, .int 0, .int 0, .int 0, .int 0] := ⟨RX5, TX5, tyX5, rfl, inX5, tyX5_ok, zmem 179 (by decide +kernel) rfl, zmem 180 (by decide +kernel) rfl, zmem 60 (by decide +kernel) rfl, by decide⟩
theorem nw_X9_41 : zNew RX9 41 3 2 [.null, .int 0] := ⟨RX7, TX7, tyX7, rfl, inX7, tyX7_ok, zmem 206 (by decide +kernel) rfl, zmem 207 (by decide +kernel) rfl, zmem 61 (by decide +kernel) rfl, by decide⟩
theorem nw_X9_48 : zNew RX9 48 1 2 [.null, .null] := ⟨RX4, TX4, tyX4, rfl, inX4, tyX4_ok, zmem 221 (by decide +kernel) rfl, zmem 222 (by decide +kernel) rfl, zmem 62 (by decide +kernel) rfl, by decide⟩
theorem nw_X9_9 : zNew RX9 9 0 12 [.int 0, .int 0, .null, .null, .null, .null, .null, .int 0, .null, .int 0, .null, .int 0] := ⟨RX1, TX1, tyX1, rfl, inX1, tyX1_ok, zmem 83 (by decide +kernel) rfl, zmem 84 (by decide +kernel) rfl, zmem 58 (by decide +kernel) rfl, by decide⟩
theorem qo_inst : Cond.instanceMethod Lib.objectInit ∈ zTb := zmem 81 (by decide +kernel) rfl
theorem qo_code : Cond.code Lib.objectInit ⟨#[0xb1]⟩ 1 none ∈ zTb := zmem 82 (by decide +kernel) rfl
theorem qo_nat : Cond.native arraycopyName ∈ zTb := zmem 477 (by decide +kernel) rfl
theorem qo_cst : Cond.static arraycopyName ∈ zTb := zmem 476 (by decide +kernel) rfl
theorem qo_sys : Cond.initialized "java/lang/System" ∈ zTb := zmem 71 (by decide +kernel) rfl
end
section
/-! MORE ROWS: calls without new cells, calls with, new cells with names; decode rows; fuel -/
def zF : Nat := 20000
theorem zat {cc : ByteArray} {L : List (Nat × Instr × Nat)} (h : ∀ q ∈ L, decode cc q.1 = .ok q.2) (k : Nat) {pc n : Nat} {i : Instr} (hk : L[k]? = some (pc, i, n)) : decode cc pc = .ok (i, n) := h (pc, i, n) (List.mem_of_getElem? hk)
def zN (h : zH) (e : zE) (K : Nat → zH → zR) : zR := K h.1 (zpush h e)
section ZX
variable {Y : zY} {M : zM} {cells slots cells2 slots2 pc : Nat} {lv lv' : List (Nat × Value)} {st : List Value} {h : zH} {r r1 r2 : zR}
theorem z_newN {idx ci N : Nat} {fs : List Value} {K : Nat → zH → zR} (hN : zNew M.2.1 idx ci N fs) (hcells : cells + 1 ≤ M.2.2.2.2.2.2.1) (hslots : slots + N ≤ M.2.2.2.2.2.2.2) (hc : cells + 1 = cells2) (hs : slots + N = slots2) (hd : decode M.1 pc = .ok (.new idx, 3)) (k : ∀ a h1, Z Y M cells2 slots2 (pc + 3) lv (.ref a :: st) h1 (K a h1)) : Z Y M cells slots pc lv st h (zN h (.inr (ci, fs)) K) := by
  subst hc; subst hs
  exact z_new hN hcells hslots hd (k _ _)
theorem z_newA0 {n : Int32} {N : Nat} {K : Nat → zH → zR} (hw : Cond.arrayClass .int ∈ zTb) (hn : ¬ n < 0) (hN : n.toNatClampNeg = N) (hb : N * componentBytes .int ≤ 536870912) (hcells : cells + 1 ≤ M.2.2.2.2.2.2.1) (hslots : slots + N ≤ M.2.2.2.2.2.2.2) (hc : cells + 1 = cells2) (hs : slots + N = slots2) (hd : decode M.1 pc = .ok (.newarray .int, 2)) (k : ∀ a h1, Z Y M cells2 slots2 (pc + 2) lv (.ref a :: st) h1 (K a h1)) : Z Y M cells slots pc lv (.int n :: st) h (zN h (.inl (0, N, .inl fun _ => 0)) K) := by
  subst hc; subst hs
  exact z_newarr0 hw hn hN hb hcells hslots hd (k _ _)
theorem z_newA1 {n : Int32} {N : Nat} {K : Nat → zH → zR} (hw : Cond.arrayClass .byte ∈ zTb) (hn : ¬ n < 0) (hN : n.toNatClampNeg = N) (hb : N * componentBytes .byte ≤ 536870912) (hcells : cells + 1 ≤ M.2.2.2.2.2.2.1) (hslots : slots + N ≤ M.2.2.2.2.2.2.2) (hc : cells + 1 = cells2) (hs : slots + N = slots2) (hd : decode M.1 pc = .ok (.newarray .byte, 2)) (k : ∀ a h1, Z Y M cells2 slots2 (pc + 2) lv (.ref a :: st) h1 (K a h1)) : Z Y M cells slots pc lv (.int n :: st) h (zN h (.inl (1, N, .inl fun _ => 0)) K) := by
  subst hc; subst hs
  exact z_newarr1 hw hn hN hb hcells hslots hd (k _ _)
theorem z_newA2 {n : Int32} {N : Nat} {K : Nat → zH → zR} (hw : Cond.arrayClass .boolean ∈ zTb) (hn : ¬ n < 0) (hN : n.toNatClampNeg = N) (hb : N * componentBytes .boolean ≤ 536870912) (hcells : cells + 1 ≤ M.2.2.2.2.2.2.1) (hslots : slots + N ≤ M.2.2.2.2.2.2.2) (hc : cells + 1 = cells2) (hs : slots + N = slots2) (hd : decode M.1 pc = .ok (.newarray .boolean, 2)) (k : ∀ a h1, Z Y M cells2 slots2 (pc + 2) lv (.ref a :: st) h1 (K a h1)) : Z Y M cells slots pc lv (.int n :: st) h (zN h (.inl (2, N, .inl fun _ => 0)) K) := by
  subst hc; subst hs
  exact z_newarr2 hw hn hN hb hcells hslots hd (k _ _)
theorem z_newA3 {idx : Nat} {n : Int32} {N : Nat} {K : Nat → zH → zR} (hw : Cond.classLink M.2.1 idx "PaperDolls$Wear" ∈ zTb) (hn : ¬ n < 0) (hN : n.toNatClampNeg = N) (hb : N * 4 ≤ 536870912) (hcells : cells + 1 ≤ M.2.2.2.2.2.2.1) (hslots : slots + N ≤ M.2.2.2.2.2.2.2) (hc : cells + 1 = cells2) (hs : slots + N = slots2) (hd : decode M.1 pc = .ok (.anewarray idx, 3)) (k : ∀ a h1, Z Y M cells2 slots2 (pc + 3) lv (.ref a :: st) h1 (K a h1)) : Z Y M cells slots pc lv (.int n :: st) h (zN h (.inl (3, N, .inr fun _ => none)) K) := by
  subst hc; subst hs
  exact z_newarr3 hw hn hN hb hcells hslots hd (k _ _)
theorem z_newA4 {idx : Nat} {n : Int32} {N : Nat} {K : Nat → zH → zR} (hw : Cond.classLink M.2.1 idx "PaperDolls$Doll" ∈ zTb) (hn : ¬ n < 0) (hN : n.toNatClampNeg = N) (hb : N * 4 ≤ 536870912) (hcells : cells + 1 ≤ M.2.2.2.2.2.2.1) (hslots : slots + N ≤ M.2.2.2.2.2.2.2) (hc : cells + 1 = cells2) (hs : slots + N = slots2) (hd : decode M.1 pc = .ok (.anewarray idx, 3)) (k : ∀ a h1, Z Y M cells2 slots2 (pc + 3) lv (.ref a :: st) h1 (K a h1)) : Z Y M cells slots pc lv (.int n :: st) h (zN h (.inl (4, N, .inr fun _ => none)) K) := by
  subst hc; subst hs
  exact z_newarr4 hw hn hN hb hcells hslots hd (k _ _)
theorem z_icmp_ge_t {x y : Int32} {off : Int} {tgt : Nat} (hd : decode M.1 pc = .ok (.if_icmp .ge off, 3)) (ht : (pc : Int) + off = (tgt : Int)) (hc : y ≤ x) (k1 : Z Y M cells slots tgt lv st h r) : Z Y M cells slots pc lv (.int y :: .int x :: st) h r := by
  have := z_icmp_ge (x := x) (y := y) (r2 := none) hd ht k1 z_none
  rwa [if_pos hc] at this
theorem z_icmp_ge_f {x y : Int32} {off : Int} {tgt : Nat} (hd : decode M.1 pc = .ok (.if_icmp .ge off, 3)) (ht : (pc : Int) + off = (tgt : Int)) (hc : ¬ y ≤ x) (k2 : Z Y M cells slots (pc + 3) lv st h r) : Z Y M cells slots pc lv (.int y :: .int x :: st) h r := by
  have := z_icmp_ge (x := x) (y := y) (r1 := none) hd ht z_none k2
  rwa [if_neg hc] at this
theorem z_callS_I0 {y : MethodName} {M2 : zM} {n idx : Nat} {K : Int32 → zH → zR} (av : List Value) {st0 : List Value} (hM : ∀ (l : Launch) (D : zD), l = Y.1.2.1 → D = Y.2.1 → zMet l D y M2 av h r) (hu : zCal y M2 n) (hl : Cond.methodLink M.2.1 idx y ∈ zTb) (hsx : Cond.static y ∈ zTb) (hn : av.length = n) (hst0 : st0 = av.reverse ++ st) (hrm : (st.map fun v => v.category).sum ≤ 8) (hlev : M2.2.2.2.2.2.1 + 1 ≤ M.2.2.2.2.2.1) (hm0 : M2.2.2.2.2.2.2.1 = 0) (hm1 : M2.2.2.2.2.2.2.2 = 0) (hd : decode M.1 pc = .ok (.invokestatic idx, 3)) (kk : ∀ x h1, Z Y M 0 0 (pc + 3) lv (.int x :: st) h1 (K x h1)) : Z Y M 0 0 pc lv st0 h (zcI r K) := z_callS_I av hM hu hl hsx hn hst0 hrm hlev (by rw [hm0, hm1]; exact ⟨Nat.zero_le _, Nat.zero_le _⟩) hd (fun x h1 => by rw [hm0, hm1]; exact kk x h1)
theorem z_callS_J0 {y : MethodName} {M2 : zM} {n idx : Nat} {K : Int64 → zH → zR} (av : List Value) {st0 : List Value} (hM : ∀ (l : Launch) (D : zD), l = Y.1.2.1 → D = Y.2.1 → zMet l D y M2 av h r) (hu : zCal y M2 n) (hl : Cond.methodLink M.2.1 idx y ∈ zTb) (hsx : Cond.static y ∈ zTb) (hn : av.length = n) (hst0 : st0 = av.reverse ++ st) (hrm : (st.map fun v => v.category).sum ≤ 8) (hlev : M2.2.2.2.2.2.1 + 1 ≤ M.2.2.2.2.2.1) (hm0 : M2.2.2.2.2.2.2.1 = 0) (hm1 : M2.2.2.2.2.2.2.2 = 0) (hd : decode M.1 pc = .ok (.invokestatic idx, 3)) (kk : ∀ x h1, Z Y M 0 0 (pc + 3) lv (.long x :: st) h1 (K x h1)) : Z Y M 0 0 pc lv st0 h (zcJ r K) := z_callS_J av hM hu hl hsx hn hst0 hrm hlev (by rw [hm0, hm1]; exact ⟨Nat.zero_le _, Nat.zero_le _⟩) hd (fun x h1 => by rw [hm0, hm1]; exact kk x h1)
theorem z_callS_V0 {y : MethodName} {M2 : zM} {n idx : Nat} {K : zH → zR} (av : List Value) {st0 : List Value} (hM : ∀ (l : Launch) (D : zD), l = Y.1.2.1 → D = Y.2.1 → zMet l D y M2 av h r) (hu : zCal y M2 n) (hl : Cond.methodLink M.2.1 idx y ∈ zTb) (hsx : Cond.static y ∈ zTb) (hn : av.length = n) (hst0 : st0 = av.reverse ++ st) (hrm : (st.map fun v => v.category).sum ≤ 8) (hlev : M2.2.2.2.2.2.1 + 1 ≤ M.2.2.2.2.2.1) (hm0 : M2.2.2.2.2.2.2.1 = 0) (hm1 : M2.2.2.2.2.2.2.2 = 0) (hd : decode M.1 pc = .ok (.invokestatic idx, 3)) (kk : ∀ h1, Z Y M 0 0 (pc + 3) lv (st) h1 (K h1)) : Z Y M 0 0 pc lv st0 h (zcV r K) := z_callS_V av hM hu hl hsx hn hst0 hrm hlev (by rw [hm0, hm1]; exact ⟨Nat.zero_le _, Nat.zero_le _⟩) hd (fun h1 => by rw [hm0, hm1]; exact kk h1)
theorem z_callV_I0 {y : MethodName} {M2 : zM} {n idx : Nat} {b : Nat} {K : Int32 → zH → zR} (av : List Value) {st0 : List Value} (hM : ∀ (l : Launch) (D : zD), l = Y.1.2.1 → D = Y.2.1 → zMet l D y M2 (.ref b :: av) h r) (hu : zCal y M2 n) (hl : Cond.methodLink M.2.1 idx y ∈ zTb) (hsx : Cond.instanceMethod y ∈ zTb) (hse : Cond.selects y.cls y y ∈ zTb) {ci : Nat} {T : u_T} {N : Nat} (hci : vwCl[ci]? = some (y.cls, T, N)) (hn : av.length = n) (hst0 : st0 = av.reverse ++ .ref b :: st) (hrm : (st.map fun v => v.category).sum ≤ 8) (hlev : M2.2.2.2.2.2.1 + 1 ≤ M.2.2.2.2.2.1) (hm0 : M2.2.2.2.2.2.2.1 = 0) (hm1 : M2.2.2.2.2.2.2.2 = 0) (hd : decode M.1 pc = .ok (.invokevirtual idx, 3)) (kk : ∀ x h1, Z Y M 0 0 (pc + 3) lv (.int x :: st) h1 (K x h1)) : Z Y M 0 0 pc lv st0 h (zoc h b ci (zcI r K)) := z_callV_I av hM hu hl hsx hse hci hn hst0 hrm hlev (by rw [hm0, hm1]; exact ⟨Nat.zero_le _, Nat.zero_le _⟩) hd (fun x h1 => by rw [hm0, hm1]; exact kk x h1)
theorem z_callV_J0 {y : MethodName} {M2 : zM} {n idx : Nat} {b : Nat} {K : Int64 → zH → zR} (av : List Value) {st0 : List Value} (hM : ∀ (l : Launch) (D : zD), l = Y.1.2.1 → D = Y.2.1 → zMet l D y M2 (.ref b :: av) h r) (hu : zCal y M2 n) (hl : Cond.methodLink M.2.1 idx y ∈ zTb) (hsx : Cond.instanceMethod y ∈ zTb) (hse : Cond.selects y.cls y y ∈ zTb) {ci : Nat} {T : u_T} {N : Nat} (hci : vwCl[ci]? = some (y.cls, T, N)) (hn : av.length = n) (hst0 : st0 = av.reverse ++ .ref b :: st) (hrm : (st.map fun v => v.category).sum ≤ 8) (hlev : M2.2.2.2.2.2.1 + 1 ≤ M.2.2.2.2.2.1) (hm0 : M2.2.2.2.2.2.2.1 = 0) (hm1 : M2.2.2.2.2.2.2.2 = 0) (hd : decode M.1 pc = .ok (.invokevirtual idx, 3)) (kk : ∀ x h1, Z Y M 0 0 (pc + 3) lv (.long x :: st) h1 (K x h1)) : Z Y M 0 0 pc lv st0 h (zoc h b ci (zcJ r K)) := z_callV_J av hM hu hl hsx hse hci hn hst0 hrm hlev (by rw [hm0, hm1]; exact ⟨Nat.zero_le _, Nat.zero_le _⟩) hd (fun x h1 => by rw [hm0, hm1]; exact kk x h1)
theorem z_callV_V0 {y : MethodName} {M2 : zM} {n idx : Nat} {b : Nat} {K : zH → zR} (av : List Value) {st0 : List Value} (hM : ∀ (l : Launch) (D : zD), l = Y.1.2.1 → D = Y.2.1 → zMet l D y M2 (.ref b :: av) h r) (hu : zCal y M2 n) (hl : Cond.methodLink M.2.1 idx y ∈ zTb) (hsx : Cond.instanceMethod y ∈ zTb) (hse : Cond.selects y.cls y y ∈ zTb) {ci : Nat} {T : u_T} {N : Nat} (hci : vwCl[ci]? = some (y.cls, T, N)) (hn : av.length = n) (hst0 : st0 = av.reverse ++ .ref b :: st) (hrm : (st.map fun v => v.category).sum ≤ 8) (hlev : M2.2.2.2.2.2.1 + 1 ≤ M.2.2.2.2.2.1) (hm0 : M2.2.2.2.2.2.2.1 = 0) (hm1 : M2.2.2.2.2.2.2.2 = 0) (hd : decode M.1 pc = .ok (.invokevirtual idx, 3)) (kk : ∀ h1, Z Y M 0 0 (pc + 3) lv (st) h1 (K h1)) : Z Y M 0 0 pc lv st0 h (zoc h b ci (zcV r K)) := z_callV_V av hM hu hl hsx hse hci hn hst0 hrm hlev (by rw [hm0, hm1]; exact ⟨Nat.zero_le _, Nat.zero_le _⟩) hd (fun h1 => by rw [hm0, hm1]; exact kk h1)
theorem z_callI_VA {y : MethodName} {M2 : zM} {n idx : Nat} {b : Nat} {K : zH → zR} (av : List Value) {st0 : List Value} (hM : ∀ (l : Launch) (D : zD), l = Y.1.2.1 → D = Y.2.1 → zMet l D y M2 (.ref b :: av) h r) (hu : zCal y M2 n) (hl : Cond.methodLink M.2.1 idx y ∈ zTb) (hsx : Cond.instanceMethod y ∈ zTb) (hyi : y.name = "<init>") (hret : M2.2.2.2.2.1 = none) (hn : av.length = n) (hst0 : st0 = av.reverse ++ .ref b :: st) (hrm : (st.map fun v => v.category).sum ≤ 8) (hlev : M2.2.2.2.2.2.1 + 1 ≤ M.2.2.2.2.2.1) (hcs1 : cells + M2.2.2.2.2.2.2.1 ≤ M.2.2.2.2.2.2.1) (hcs2 : slots + M2.2.2.2.2.2.2.2 ≤ M.2.2.2.2.2.2.2) (hc : cells + M2.2.2.2.2.2.2.1 = cells2) (hs : slots + M2.2.2.2.2.2.2.2 = slots2) (hd : decode M.1 pc = .ok (.invokespecial idx, 3)) (kk : ∀ h1, Z Y M cells2 slots2 (pc + 3) lv (st) h1 (K h1)) : Z Y M cells slots pc lv st0 h (zcV r K) := z_callI_V av hM hu hl hsx hyi hret hn hst0 hrm hlev ⟨hcs1, hcs2⟩ hd (fun h1 => by rw [hc, hs]; exact kk h1)
theorem z_callIN_VA {y : MethodName} {M2 : zM} {n idx : Nat} {b : Nat} {K : zH → zR} (av : List Value) {st0 : List Value} (hM : ∀ (l : Launch) (D : zD), l = Y.1.2.1 → D = Y.2.1 → zMet l D y M2 (.ref b :: av) h r) (hu : zCal y M2 n) (hl : (M.2.1, idx, y) ∈ zNest) (hsx : Cond.instanceMethod y ∈ zTb) (hyi : y.name = "<init>") (hret : M2.2.2.2.2.1 = none) (hn : av.length = n) (hst0 : st0 = av.reverse ++ .ref b :: st) (hrm : (st.map fun v => v.category).sum ≤ 8) (hlev : M2.2.2.2.2.2.1 + 1 ≤ M.2.2.2.2.2.1) (hcs1 : cells + M2.2.2.2.2.2.2.1 ≤ M.2.2.2.2.2.2.1) (hcs2 : slots + M2.2.2.2.2.2.2.2 ≤ M.2.2.2.2.2.2.2) (hc : cells + M2.2.2.2.2.2.2.1 = cells2) (hs : slots + M2.2.2.2.2.2.2.2 = slots2) (hd : decode M.1 pc = .ok (.invokespecial idx, 3)) (kk : ∀ h1, Z Y M cells2 slots2 (pc + 3) lv (st) h1 (K h1)) : Z Y M cells slots pc lv st0 h (zcV r K) := z_callIN_V av hM hu hl hsx hyi hret hn hst0 hrm hlev ⟨hcs1, hcs2⟩ hd (fun h1 => by rw [hc, hs]; exact kk h1)
theorem z_callSN_I0 {y : MethodName} {M2 : zM} {n idx : Nat} {K : Int32 → zH → zR} (av : List Value) {st0 : List Value} (hM : ∀ (l : Launch) (D : zD), l = Y.1.2.1 → D = Y.2.1 → zMet l D y M2 av h r) (hu : zCal y M2 n) (hl : (M.2.1, idx, y) ∈ zNest) (hsx : Cond.static y ∈ zTb) (hn : av.length = n) (hst0 : st0 = av.reverse ++ st) (hrm : (st.map fun v => v.category).sum ≤ 8) (hlev : M2.2.2.2.2.2.1 + 1 ≤ M.2.2.2.2.2.1) (hm0 : M2.2.2.2.2.2.2.1 = 0) (hm1 : M2.2.2.2.2.2.2.2 = 0) (hd : decode M.1 pc = .ok (.invokestatic idx, 3)) (kk : ∀ x h1, Z Y M 0 0 (pc + 3) lv (.int x :: st) h1 (K x h1)) : Z Y M 0 0 pc lv st0 h (zcI r K) := z_callSN_I av hM hu hl hsx hn hst0 hrm hlev (by rw [hm0, hm1]; exact ⟨Nat.zero_le _, Nat.zero_le _⟩) hd (fun x h1 => by rw [hm0, hm1]; exact kk x h1)
end ZX
end
section
/-! PaperDolls$Cloth.covers(I)I -/
def L_X0_covers : List (Nat × Instr × Nat) := [(0, .bipush 6, 2), (2, .istore_n 1, 1), (3, .iload_n 0, 1), (4, .tableswitch 58 0 5 #[40, 42, 44, 48, 50, 53], 40), (44, .iconst 2, 1), (45, .ireturn, 1), (46, .iload_n 1, 1), (47, .ireturn, 1), (48, .iload_n 1, 1), (49, .iconst 1, 1), (50, .ior, 1), (51, .ireturn, 1), (52, .iconst 1, 1), (53, .ireturn, 1), (54, .bipush 8, 2), (56, .ireturn, 1), (57, .iload_n 1, 1), (58, .bipush 8, 2), (60, .ior, 1), (61, .ireturn, 1), (62, .iconst 0, 1), (63, .ireturn, 1)]
theorem dd_X0_covers : ∀ q ∈ L_X0_covers, decode cX0_covers q.1 = .ok q.2 := by decide +kernel
abbrev M_X0_covers : zM := (cX0_covers, RX0, "covers", 2, some .int, 0, 0, 0)
theorem u_X0_covers : zCal yX0_covers (M_X0_covers) 1 := ⟨zmem 455 (by decide +kernel) rfl, zmem 69 (by decide +kernel) rfl, by decide +kernel, by decide⟩
theorem qi_X0_covers : Cond.static yX0_covers ∈ zTb := zmem 454 (by decide +kernel) rfl
def f_X0_covers (v0 : Int32) (h : zH) : zR :=
  if v0 = 0 then
  zrI 2 h
  else
  if v0 = 1 then
  zrI 6 h
  else
  if v0 = 2 then
  zrI (6 ||| 1) h
  else
  if v0 = 3 then
  zrI 1 h
  else
  if v0 = 4 then
  zrI 8 h
  else
  if v0 = 5 then
  zrI (6 ||| 8) h
  else
  zrI 0 h
set_option maxRecDepth 100000 in
set_option maxHeartbeats 4000000 in
theorem m_X0_covers (l : Launch) (D : zD) (v0 : Int32) (h : zH) : zMet l D yX0_covers M_X0_covers [.int v0] h (f_X0_covers v0 h) := by
  refine zMet.of (by decide +kernel) ⟨rfl, rfl⟩ (Nat.le_of_ble_eq_true rfl) (fun Y hl hD => ?_)
  show Z Y M_X0_covers 0 0 0 [(0, .int v0)] [] h _
  rw [f_X0_covers]
  refine z_bipush (x := 6) (zat dd_X0_covers 0 rfl) (by decide) ?_
  refine z_istore_n (lv' := [(1, .int 6), (0, .int v0)]) (zat dd_X0_covers 1 rfl) rfl (by decide) rfl ?_
  refine z_iload_n 1 (zat dd_X0_covers 2 rfl) rfl rfl ?_
  refine z_ite (fun c0 => ?_) (fun c0 => ?_)
  · refine z_tabIn (tgt := 44) 0 c0 (zat dd_X0_covers 3 rfl) (by decide) (by decide) rfl (by decide) ?_
    refine z_iconst (x := 2) (zat dd_X0_covers 4 rfl) (by decide) ?_
    exact z_iret rfl (zat dd_X0_covers 5 rfl)
  refine z_ite (fun c1 => ?_) (fun c1 => ?_)
  · refine z_tabIn (tgt := 46) 1 c1 (zat dd_X0_covers 3 rfl) (by decide) (by decide) rfl (by decide) ?_
    refine z_iload_n 0 (zat dd_X0_covers 6 rfl) rfl rfl ?_
    exact z_iret rfl (zat dd_X0_covers 7 rfl)
  refine z_ite (fun c2 => ?_) (fun c2 => ?_)
  · refine z_tabIn (tgt := 48) 2 c2 (zat dd_X0_covers 3 rfl) (by decide) (by decide) rfl (by decide) ?_
    refine z_iload_n 0 (zat dd_X0_covers 8 rfl) rfl rfl ?_
    refine z_iconst (x := 1) (zat dd_X0_covers 9 rfl) (by decide) ?_
    refine z_ior (zat dd_X0_covers 10 rfl) ?_
    exact z_iret rfl (zat dd_X0_covers 11 rfl)
  refine z_ite (fun c3 => ?_) (fun c3 => ?_)
  · refine z_tabIn (tgt := 52) 3 c3 (zat dd_X0_covers 3 rfl) (by decide) (by decide) rfl (by decide) ?_
    refine z_iconst (x := 1) (zat dd_X0_covers 12 rfl) (by decide) ?_
    exact z_iret rfl (zat dd_X0_covers 13 rfl)
  refine z_ite (fun c4 => ?_) (fun c4 => ?_)
  · refine z_tabIn (tgt := 54) 4 c4 (zat dd_X0_covers 3 rfl) (by decide) (by decide) rfl (by decide) ?_
    refine z_bipush (x := 8) (zat dd_X0_covers 14 rfl) (by decide) ?_
    exact z_iret rfl (zat dd_X0_covers 15 rfl)
  refine z_ite (fun c5 => ?_) (fun c5 => ?_)
  · refine z_tabIn (tgt := 57) 5 c5 (zat dd_X0_covers 3 rfl) (by decide) (by decide) rfl (by decide) ?_
    refine z_iload_n 0 (zat dd_X0_covers 16 rfl) rfl rfl ?_
    refine z_bipush (x := 8) (zat dd_X0_covers 17 rfl) (by decide) ?_
    refine z_ior (zat dd_X0_covers 18 rfl) ?_
    exact z_iret rfl (zat dd_X0_covers 19 rfl)
  refine z_tabOut (tgt := 62) (zat dd_X0_covers 3 rfl) (by have g0 := lv_neT (a := 0) c0 rfl; have g1 := lv_neT (a := 1) c1 rfl; have g2 := lv_neT (a := 2) c2 rfl; have g3 := lv_neT (a := 3) c3 rfl; have g4 := lv_neT (a := 4) c4 rfl; have g5 := lv_neT (a := 5) c5 rfl; omega) (by decide) ?_
  refine z_iconst (x := 0) (zat dd_X0_covers 20 rfl) (by decide) ?_
  exact z_iret rfl (zat dd_X0_covers 21 rfl)
/-! PaperDolls$Cloth.holds(III)I -/
def L_X0_holds : List (Nat × Instr × Nat) := [(0, .iload_n 1, 1), (1, .iload_n 2, 1), (2, .iconst 3, 1), (3, .idiv, 1), (4, .isub, 1), (5, .istore_n 3, 1), (6, .iload_n 3, 1), (7, .iconst 1, 1), (8, .isub, 1), (9, .istore 4, 2), (11, .iload_n 3, 1), (12, .iconst 2, 1), (13, .iadd, 1), (14, .istore 5, 2), (16, .iload_n 0, 1), (17, .tableswitch 60 0 5 #[39, 41, 44, 47, 50, 55], 39), (56, .iload_n 3, 1), (57, .ireturn, 1), (58, .iload 4, 2), (60, .ireturn, 1), (61, .iload 4, 2), (63, .ireturn, 1), (64, .iload 5, 2), (66, .ireturn, 1), (67, .iload 5, 2), (69, .iload_n 2, 1), (70, .isub, 1), (71, .ireturn, 1), (72, .iconst 2, 1), (73, .iload 4, 2), (75, .imul, 1), (76, .ireturn, 1), (77, .iconst 0, 1), (78, .ireturn, 1)]
theorem dd_X0_holds : ∀ q ∈ L_X0_holds, decode cX0_holds q.1 = .ok q.2 := by decide +kernel
abbrev M_X0_holds : zM := (cX0_holds, RX0, "holds", 6, some .int, 0, 0, 0)
theorem u_X0_holds : zCal yX0_holds (M_X0_holds) 3 := ⟨zmem 441 (by decide +kernel) rfl, zmem 69 (by decide +kernel) rfl, by decide +kernel, by decide⟩
theorem qi_X0_holds : Cond.static yX0_holds ∈ zTb := zmem 440 (by decide +kernel) rfl
def f_X0_holds (v0 : Int32) (v1 : Int32) (v2 : Int32) (h : zH) : zR :=
  zdv 3 <|
  zlt (v1 - (v2 / 3)) fun x1 =>
  zlt (x1 - 1) fun x2 =>
  zlt (x1 + 2) fun x3 =>
  if v0 = 0 then
  zrI x1 h
  else
  if v0 = 1 then
  zrI x2 h
  else
  if v0 = 2 then
  zrI x2 h
  else
  if v0 = 3 then
  zrI x3 h
  else
  if v0 = 4 then
  zrI (x3 - v2) h
  else
  if v0 = 5 then
  zrI (2 * x2) h
  else
  zrI 0 h
set_option maxRecDepth 100000 in
set_option maxHeartbeats 4000000 in
theorem m_X0_holds (l : Launch) (D : zD) (v0 : Int32) (v1 : Int32) (v2 : Int32) (h : zH) : zMet l D yX0_holds M_X0_holds [.int v0, .int v1, .int v2] h (f_X0_holds v0 v1 v2 h) := by
  refine zMet.of (by decide +kernel) ⟨rfl, rfl⟩ (Nat.le_of_ble_eq_true rfl) (fun Y hl hD => ?_)
  show Z Y M_X0_holds 0 0 0 [(0, .int v0), (1, .int v1), (2, .int v2)] [] h _
  rw [f_X0_holds]
  refine z_iload_n 1 (zat dd_X0_holds 0 rfl) rfl rfl ?_
  refine z_iload_n 2 (zat dd_X0_holds 1 rfl) rfl rfl ?_
  refine z_iconst (x := 3) (zat dd_X0_holds 2 rfl) (by decide) ?_
  refine z_idiv (zat dd_X0_holds 3 rfl) ?_
  refine z_isub (zat dd_X0_holds 4 rfl) ?_
  refine z_let (fun x1 => ?_)
  refine z_istore_n (lv' := [(3, .int x1), (0, .int v0), (1, .int v1), (2, .int v2)]) (zat dd_X0_holds 5 rfl) rfl (by decide) rfl ?_
  refine z_iload_n 0 (zat dd_X0_holds 6 rfl) rfl rfl ?_
  refine z_iconst (x := 1) (zat dd_X0_holds 7 rfl) (by decide) ?_
  refine z_isub (zat dd_X0_holds 8 rfl) ?_
  refine z_let (fun x2 => ?_)
  refine z_istore (lv' := [(4, .int x2), (3, .int x1), (0, .int v0), (1, .int v1), (2, .int v2)]) (zat dd_X0_holds 9 rfl) (by decide) rfl ?_
  refine z_iload_n 1 (zat dd_X0_holds 10 rfl) rfl rfl ?_
  refine z_iconst (x := 2) (zat dd_X0_holds 11 rfl) (by decide) ?_
  refine z_iadd (zat dd_X0_holds 12 rfl) ?_
  refine z_let (fun x3 => ?_)
  refine z_istore (lv' := [(5, .int x3), (4, .int x2), (3, .int x1), (0, .int v0), (1, .int v1), (2, .int v2)]) (zat dd_X0_holds 13 rfl) (by decide) rfl ?_
  refine z_iload_n 3 (zat dd_X0_holds 14 rfl) rfl rfl ?_
  refine z_ite (fun c0 => ?_) (fun c0 => ?_)
  · refine z_tabIn (tgt := 56) 0 c0 (zat dd_X0_holds 15 rfl) (by decide) (by decide) rfl (by decide) ?_
    refine z_iload_n 2 (zat dd_X0_holds 16 rfl) rfl rfl ?_
    exact z_iret rfl (zat dd_X0_holds 17 rfl)
  refine z_ite (fun c1 => ?_) (fun c1 => ?_)
  · refine z_tabIn (tgt := 58) 1 c1 (zat dd_X0_holds 15 rfl) (by decide) (by decide) rfl (by decide) ?_
    refine z_iload 1 (zat dd_X0_holds 18 rfl) rfl ?_
    exact z_iret rfl (zat dd_X0_holds 19 rfl)
  refine z_ite (fun c2 => ?_) (fun c2 => ?_)
  · refine z_tabIn (tgt := 61) 2 c2 (zat dd_X0_holds 15 rfl) (by decide) (by decide) rfl (by decide) ?_
    refine z_iload 1 (zat dd_X0_holds 20 rfl) rfl ?_
    exact z_iret rfl (zat dd_X0_holds 21 rfl)
  refine z_ite (fun c3 => ?_) (fun c3 => ?_)
  · refine z_tabIn (tgt := 64) 3 c3 (zat dd_X0_holds 15 rfl) (by decide) (by decide) rfl (by decide) ?_
    refine z_iload 0 (zat dd_X0_holds 22 rfl) rfl ?_
    exact z_iret rfl (zat dd_X0_holds 23 rfl)
  refine z_ite (fun c4 => ?_) (fun c4 => ?_)
  · refine z_tabIn (tgt := 67) 4 c4 (zat dd_X0_holds 15 rfl) (by decide) (by decide) rfl (by decide) ?_
    refine z_iload 0 (zat dd_X0_holds 24 rfl) rfl ?_
    refine z_iload_n 5 (zat dd_X0_holds 25 rfl) rfl rfl ?_
    refine z_isub (zat dd_X0_holds 26 rfl) ?_
    exact z_iret rfl (zat dd_X0_holds 27 rfl)
  refine z_ite (fun c5 => ?_) (fun c5 => ?_)
  · refine z_tabIn (tgt := 72) 5 c5 (zat dd_X0_holds 15 rfl) (by decide) (by decide) rfl (by decide) ?_
    refine z_iconst (x := 2) (zat dd_X0_holds 28 rfl) (by decide) ?_
    refine z_iload 1 (zat dd_X0_holds 29 rfl) rfl ?_
    refine z_imul (zat dd_X0_holds 30 rfl) ?_
    exact z_iret rfl (zat dd_X0_holds 31 rfl)
  refine z_tabOut (tgt := 77) (zat dd_X0_holds 15 rfl) (by have g0 := lv_neT (a := 0) c0 rfl; have g1 := lv_neT (a := 1) c1 rfl; have g2 := lv_neT (a := 2) c2 rfl; have g3 := lv_neT (a := 3) c3 rfl; have g4 := lv_neT (a := 4) c4 rfl; have g5 := lv_neT (a := 5) c5 rfl; omega) (by decide) ?_
  refine z_iconst (x := 0) (zat dd_X0_holds 32 rfl) (by decide) ?_
  exact z_iret rfl (zat dd_X0_holds 33 rfl)
/-! PaperDolls$Wear.<init>()V -/
def L_X8_init : List (Nat × Instr × Nat) := [(0, .aload_n 0, 1), (1, .invokespecial 3, 3), (4, .aload_n 0, 1), (5, .bipush 8, 2), (7, .newarray .int, 2), (9, .putfield 9, 3), (12, .aload_n 0, 1), (13, .bipush 8, 2), (15, .newarray .int, 2), (17, .putfield 15, 3), (20, .return_, 1)]
theorem dd_X8_init : ∀ q ∈ L_X8_init, decode cX8_init q.1 = .ok q.2 := by decide +kernel
abbrev M_X8_init : zM := (cX8_init, RX8, "<init>", 1, none, 0, 2, 16)
theorem u_X8_init : zCal yX8_init (M_X8_init) 0 := ⟨zmem 93 (by decide +kernel) rfl, zmem 59 (by decide +kernel) rfl, by decide +kernel, by decide⟩
theorem qi_X8_init : Cond.instanceMethod yX8_init ∈ zTb := zmem 92 (by decide +kernel) rfl
def f_X8_init (v0 : Nat) (h : zH) : zR :=
  zN h (.inl (0, 8, .inl fun _ => 0)) fun a1 h2 =>
  zpV h2 v0 4 0 (.ref a1) fun h3 =>
  zN h3 (.inl (0, 8, .inl fun _ => 0)) fun a4 h5 =>
  zpV h5 v0 4 1 (.ref a4) fun h6 =>
  zrV h6
set_option maxRecDepth 100000 in
set_option maxHeartbeats 4000000 in
theorem m_X8_init (l : Launch) (D : zD) (v0 : Nat) (h : zH) : zMet l D yX8_init M_X8_init [.ref v0] h (f_X8_init v0 h) := by
  refine zMet.of (by decide +kernel) ⟨rfl, rfl⟩ (Nat.le_of_ble_eq_true rfl) (fun Y hl hD => ?_)
  show Z Y M_X8_init 0 0 0 [(0, .ref v0)] [] h _
  rw [f_X8_init]
  refine z_aload_n 0 (zat dd_X8_init 0 rfl) rfl rfl ?_
  refine z_objInit ql_X8_3 qo_inst qo_code (by decide) (zat dd_X8_init 1 rfl) ?_
  refine z_aload_n 0 (zat dd_X8_init 2 rfl) rfl rfl ?_
  refine z_bipush (x := 8) (zat dd_X8_init 3 rfl) (by decide) ?_
  refine z_newA0 (cells2 := 1) (slots2 := 8) qa_int (by decide) (by decide) (by decide) (by decide) (by decide) rfl rfl (zat dd_X8_init 4 rfl) (fun a1 h2 => ?_)
  refine z_putF fl_X8_9 rfl rfl rfl rfl (zat dd_X8_init 5 rfl) (fun h3 => ?_)
  refine z_aload_n 0 (zat dd_X8_init 6 rfl) rfl rfl ?_
  refine z_bipush (x := 8) (zat dd_X8_init 7 rfl) (by decide) ?_
  refine z_newA0 (cells2 := 2) (slots2 := 16) qa_int (by decide) (by decide) (by decide) (by decide) (by decide) rfl rfl (zat dd_X8_init 8 rfl) (fun a4 h5 => ?_)
  refine z_putF fl_X8_15 rfl rfl rfl rfl (zat dd_X8_init 9 rfl) (fun h6 => ?_)
  exact z_vret rfl (zat dd_X8_init 10 rfl)
/-! PaperDolls$Wear.begin()V -/
def L_X8_begin : List (Nat × Instr × Nat) := [(0, .aload_n 0, 1), (1, .iconst 0, 1), (2, .putfield 18, 3), (5, .aload_n 0, 1), (6, .iconst 0, 1), (7, .putfield 22, 3), (10, .iconst 0, 1), (11, .istore_n 1, 1), (12, .iload_n 1, 1), (13, .bipush 8, 2), (15, .if_icmp .ge 16, 3), (18, .aload_n 0, 1), (19, .getfield 15, 3), (22, .iload_n 1, 1), (23, .iconst 0, 1), (24, .iastore, 1), (25, .iinc 1 1, 3), (28, .goto (-16), 3), (31, .return_, 1)]
theorem dd_X8_begin : ∀ q ∈ L_X8_begin, decode cX8_begin q.1 = .ok q.2 := by decide +kernel
abbrev M_X8_begin : zM := (cX8_begin, RX8, "begin", 2, none, 0, 0, 0)
theorem u_X8_begin : zCal yX8_begin (M_X8_begin) 0 := ⟨zmem 301 (by decide +kernel) rfl, zmem 59 (by decide +kernel) rfl, by decide +kernel, by decide⟩
theorem qi_X8_begin : Cond.instanceMethod yX8_begin ∈ zTb := zmem 299 (by decide +kernel) rfl
theorem qs_X8_begin : Cond.selects yX8_begin.cls yX8_begin yX8_begin ∈ zTb := zmem 300 (by decide +kernel) rfl
def f_X8_begin_12 : Nat → Nat → Int32 → zH → zR
  | 0, _, _, _ => none
  | n + 1, v0, v1, h =>
  if 8 ≤ v1 then
  zrV h
  else
  zgR h v0 4 1 fun a1 =>
  zsI h a1 0 v1 0 fun h2 =>
  f_X8_begin_12 n v0 (v1 + 1) h2
set_option maxRecDepth 100000 in
set_option maxHeartbeats 4000000 in
theorem zb_X8_begin_12 (Y : zY) : ∀ (n : Nat) (v0 : Nat) (v1 : Int32) (h : zH), Z Y M_X8_begin 0 0 12 [(0, .ref v0), (1, .int v1)] [] h (f_X8_begin_12 n v0 v1 h) := by
  intro n
  induction n with
  | zero =>
    intro v0 v1 h
    rw [f_X8_begin_12]
    exact z_none
  | succ n ih =>
    intro v0 v1 h
    rw [f_X8_begin_12]
    refine z_iload_n 1 (zat dd_X8_begin 8 rfl) rfl rfl ?_
    refine z_bipush (x := 8) (zat dd_X8_begin 9 rfl) (by decide) ?_
    refine z_icmp_ge (tgt := 31) (zat dd_X8_begin 10 rfl) (by decide) ?_ ?_
    · exact z_vret rfl (zat dd_X8_begin 18 rfl)
    · refine z_aload_n 0 (zat dd_X8_begin 11 rfl) rfl rfl ?_
      refine z_getR fl_X8_15 (zat dd_X8_begin 12 rfl) (fun a1 => ?_)
      refine z_iload_n 1 (zat dd_X8_begin 13 rfl) rfl rfl ?_
      refine z_iconst (x := 0) (zat dd_X8_begin 14 rfl) (by decide) ?_
      refine z_iast (zat dd_X8_begin 15 rfl) (fun h2 => ?_)
      refine z_iinc (y := v1 + 1) (lv' := [(1, .int (v1 + 1)), (0, .ref v0)]) 1 (zat dd_X8_begin 16 rfl) rfl rfl (by decide) rfl ?_
      refine z_goto (tgt := 12) (zat dd_X8_begin 17 rfl) (by decide) ?_
      refine z_sub [1, 0] rfl ?_
      exact ih v0 (v1 + 1) h2
def f_X8_begin (v0 : Nat) (h : zH) : zR :=
  zpV h v0 4 2 (.int 0) fun h1 =>
  zpV h1 v0 4 3 (.int 0) fun h2 =>
  f_X8_begin_12 zF v0 0 h2
set_option maxRecDepth 100000 in
set_option maxHeartbeats 4000000 in
theorem m_X8_begin (l : Launch) (D : zD) (v0 : Nat) (h : zH) : zMet l D yX8_begin M_X8_begin [.ref v0] h (f_X8_begin v0 h) := by
  refine zMet.of (by decide +kernel) ⟨rfl, rfl⟩ (Nat.le_of_ble_eq_true rfl) (fun Y hl hD => ?_)
  show Z Y M_X8_begin 0 0 0 [(0, .ref v0)] [] h _
  rw [f_X8_begin]
  refine z_aload_n 0 (zat dd_X8_begin 0 rfl) rfl rfl ?_
  refine z_iconst (x := 0) (zat dd_X8_begin 1 rfl) (by decide) ?_
  refine z_put fl_X8_18 rfl rfl (zat dd_X8_begin 2 rfl) (fun h1 => ?_)
  refine z_aload_n 0 (zat dd_X8_begin 3 rfl) rfl rfl ?_
  refine z_iconst (x := 0) (zat dd_X8_begin 4 rfl) (by decide) ?_
  refine z_put fl_X8_22 rfl rfl (zat dd_X8_begin 5 rfl) (fun h2 => ?_)
  refine z_iconst (x := 0) (zat dd_X8_begin 6 rfl) (by decide) ?_
  refine z_istore_n (lv' := [(1, .int 0), (0, .ref v0)]) (zat dd_X8_begin 7 rfl) rfl (by decide) rfl ?_
  refine z_sub [1, 0] rfl ?_
  exact zb_X8_begin_12 Y zF v0 0 h2
/-! PaperDolls$Wear.copyFrom(LPaperDolls$Wear;)V -/
def L_X8_copyFrom : List (Nat × Instr × Nat) := [(0, .aload_n 1, 1), (1, .getfield 9, 3), (4, .iconst 0, 1), (5, .aload_n 0, 1), (6, .getfield 9, 3), (9, .iconst 0, 1), (10, .bipush 8, 2), (12, .invokestatic 25, 3), (15, .aload_n 1, 1), (16, .getfield 15, 3), (19, .iconst 0, 1), (20, .aload_n 0, 1), (21, .getfield 15, 3), (24, .iconst 0, 1), (25, .bipush 8, 2), (27, .invokestatic 25, 3), (30, .aload_n 0, 1), (31, .aload_n 1, 1), (32, .getfield 18, 3), (35, .putfield 18, 3), (38, .aload_n 0, 1), (39, .aload_n 1, 1), (40, .getfield 22, 3), (43, .putfield 22, 3), (46, .return_, 1)]
theorem dd_X8_copyFrom : ∀ q ∈ L_X8_copyFrom, decode cX8_copyFrom q.1 = .ok q.2 := by decide +kernel
abbrev M_X8_copyFrom : zM := (cX8_copyFrom, RX8, "copyFrom", 2, none, 0, 0, 0)
theorem u_X8_copyFrom : zCal yX8_copyFrom (M_X8_copyFrom) 1 := ⟨zmem 481 (by decide +kernel) rfl, zmem 59 (by decide +kernel) rfl, by decide +kernel, by decide⟩
theorem qi_X8_copyFrom : Cond.instanceMethod yX8_copyFrom ∈ zTb := zmem 479 (by decide +kernel) rfl
theorem qs_X8_copyFrom : Cond.selects yX8_copyFrom.cls yX8_copyFrom yX8_copyFrom ∈ zTb := zmem 480 (by decide +kernel) rfl
def f_X8_copyFrom (v0 : Nat) (v1 : Nat) (h : zH) : zR :=
  zgR h v1 4 0 fun a1 =>
  zgR h v0 4 0 fun a2 =>
  zcp h a1 0 a2 0 8 fun h3 =>
  zgR h3 v1 4 1 fun a4 =>
  zgR h3 v0 4 1 fun a5 =>
  zcp h3 a4 0 a5 0 8 fun h6 =>
  zgI h6 v1 4 2 fun x7 =>
  zpV h6 v0 4 2 (.int x7) fun h8 =>
  zgI h8 v1 4 3 fun x9 =>
  zpV h8 v0 4 3 (.int x9) fun h10 =>
  zrV h10
set_option maxRecDepth 100000 in
set_option maxHeartbeats 4000000 in
theorem m_X8_copyFrom (l : Launch) (D : zD) (v0 : Nat) (v1 : Nat) (h : zH) : zMet l D yX8_copyFrom M_X8_copyFrom [.ref v0, .ref v1] h (f_X8_copyFrom v0 v1 h) := by
  refine zMet.of (by decide +kernel) ⟨rfl, rfl⟩ (Nat.le_of_ble_eq_true rfl) (fun Y hl hD => ?_)
  show Z Y M_X8_copyFrom 0 0 0 [(0, .ref v0), (1, .ref v1)] [] h _
  rw [f_X8_copyFrom]
  refine z_aload_n 1 (zat dd_X8_copyFrom 0 rfl) rfl rfl ?_
  refine z_getR fl_X8_9 (zat dd_X8_copyFrom 1 rfl) (fun a1 => ?_)
  refine z_iconst (x := 0) (zat dd_X8_copyFrom 2 rfl) (by decide) ?_
  refine z_aload_n 0 (zat dd_X8_copyFrom 3 rfl) rfl rfl ?_
  refine z_getR fl_X8_9 (zat dd_X8_copyFrom 4 rfl) (fun a2 => ?_)
  refine z_iconst (x := 0) (zat dd_X8_copyFrom 5 rfl) (by decide) ?_
  refine z_bipush (x := 8) (zat dd_X8_copyFrom 6 rfl) (by decide) ?_
  refine z_copy ql_X8_25 qo_nat qo_cst qo_sys (by decide) (zat dd_X8_copyFrom 7 rfl) (fun h3 => ?_)
  refine z_aload_n 1 (zat dd_X8_copyFrom 8 rfl) rfl rfl ?_
  refine z_getR fl_X8_15 (zat dd_X8_copyFrom 9 rfl) (fun a4 => ?_)
  refine z_iconst (x := 0) (zat dd_X8_copyFrom 10 rfl) (by decide) ?_
  refine z_aload_n 0 (zat dd_X8_copyFrom 11 rfl) rfl rfl ?_
  refine z_getR fl_X8_15 (zat dd_X8_copyFrom 12 rfl) (fun a5 => ?_)
  refine z_iconst (x := 0) (zat dd_X8_copyFrom 13 rfl) (by decide) ?_
  refine z_bipush (x := 8) (zat dd_X8_copyFrom 14 rfl) (by decide) ?_
  refine z_copy ql_X8_25 qo_nat qo_cst qo_sys (by decide) (zat dd_X8_copyFrom 15 rfl) (fun h6 => ?_)
  refine z_aload_n 0 (zat dd_X8_copyFrom 16 rfl) rfl rfl ?_
  refine z_aload_n 1 (zat dd_X8_copyFrom 17 rfl) rfl rfl ?_
  refine z_getI fl_X8_18 (zat dd_X8_copyFrom 18 rfl) (fun x7 => ?_)
  refine z_put fl_X8_18 rfl rfl (zat dd_X8_copyFrom 19 rfl) (fun h8 => ?_)
  refine z_aload_n 0 (zat dd_X8_copyFrom 20 rfl) rfl rfl ?_
  refine z_aload_n 1 (zat dd_X8_copyFrom 21 rfl) rfl rfl ?_
  refine z_getI fl_X8_22 (zat dd_X8_copyFrom 22 rfl) (fun x9 => ?_)
  refine z_put fl_X8_22 rfl rfl (zat dd_X8_copyFrom 23 rfl) (fun h10 => ?_)
  exact z_vret rfl (zat dd_X8_copyFrom 24 rfl)
/-! PaperDolls$Wear.onSet()I -/
def L_X8_onSet : List (Nat × Instr × Nat) := [(0, .iconst 0, 1), (1, .istore_n 1, 1), (2, .iconst 0, 1), (3, .istore_n 2, 1), (4, .iload_n 2, 1), (5, .aload_n 0, 1), (6, .getfield 18, 3), (9, .if_icmp .ge 20, 3), (12, .iload_n 1, 1), (13, .iconst 1, 1), (14, .aload_n 0, 1), (15, .getfield 9, 3), (18, .iload_n 2, 1), (19, .iaload, 1), (20, .ishl, 1), (21, .ior, 1), (22, .istore_n 1, 1), (23, .iinc 2 1, 3), (26, .goto (-22), 3), (29, .iload_n 1, 1), (30, .ireturn, 1)]
theorem dd_X8_onSet : ∀ q ∈ L_X8_onSet, decode cX8_onSet q.1 = .ok q.2 := by decide +kernel
abbrev M_X8_onSet : zM := (cX8_onSet, RX8, "onSet", 3, some .int, 0, 0, 0)
theorem u_X8_onSet : zCal yX8_onSet (M_X8_onSet) 0 := ⟨zmem 635 (by decide +kernel) rfl, zmem 59 (by decide +kernel) rfl, by decide +kernel, by decide⟩
theorem qi_X8_onSet : Cond.instanceMethod yX8_onSet ∈ zTb := zmem 633 (by decide +kernel) rfl
theorem qs_X8_onSet : Cond.selects yX8_onSet.cls yX8_onSet yX8_onSet ∈ zTb := zmem 634 (by decide +kernel) rfl
def f_X8_onSet_4 : Nat → Nat → Int32 → Int32 → zH → zR
  | 0, _, _, _, _ => none
  | n + 1, v0, v1, v2, h =>
  zgI h v0 4 2 fun x1 =>
  if x1 ≤ v2 then
  zrI v1 h
  else
  zgR h v0 4 0 fun a2 =>
  zaI h a2 0 v2 fun x3 =>
  zlt (v1 ||| (1 <<< (x3 &&& 31))) fun x4 =>
  f_X8_onSet_4 n v0 x4 (v2 + 1) h
set_option maxRecDepth 100000 in
set_option maxHeartbeats 4000000 in
theorem zb_X8_onSet_4 (Y : zY) : ∀ (n : Nat) (v0 : Nat) (v1 : Int32) (v2 : Int32) (h : zH), Z Y M_X8_onSet 0 0 4 [(0, .ref v0), (1, .int v1), (2, .int v2)] [] h (f_X8_onSet_4 n v0 v1 v2 h) := by
  intro n
  induction n with
  | zero =>
    intro v0 v1 v2 h
    rw [f_X8_onSet_4]
    exact z_none
  | succ n ih =>
    intro v0 v1 v2 h
    rw [f_X8_onSet_4]
    refine z_iload_n 2 (zat dd_X8_onSet 4 rfl) rfl rfl ?_
    refine z_aload_n 0 (zat dd_X8_onSet 5 rfl) rfl rfl ?_
    refine z_getI fl_X8_18 (zat dd_X8_onSet 6 rfl) (fun x1 => ?_)
    refine z_icmp_ge (tgt := 29) (zat dd_X8_onSet 7 rfl) (by decide) ?_ ?_
    · refine z_iload_n 1 (zat dd_X8_onSet 19 rfl) rfl rfl ?_
      exact z_iret rfl (zat dd_X8_onSet 20 rfl)
    · refine z_iload_n 1 (zat dd_X8_onSet 8 rfl) rfl rfl ?_
      refine z_iconst (x := 1) (zat dd_X8_onSet 9 rfl) (by decide) ?_
      refine z_aload_n 0 (zat dd_X8_onSet 10 rfl) rfl rfl ?_
      refine z_getR fl_X8_9 (zat dd_X8_onSet 11 rfl) (fun a2 => ?_)
      refine z_iload_n 2 (zat dd_X8_onSet 12 rfl) rfl rfl ?_
      refine z_iald (zat dd_X8_onSet 13 rfl) (fun x3 => ?_)
      refine z_ishl (zat dd_X8_onSet 14 rfl) ?_
      refine z_ior (zat dd_X8_onSet 15 rfl) ?_
      refine z_let (fun x4 => ?_)
      refine z_istore_n (lv' := [(1, .int x4), (0, .ref v0), (2, .int v2)]) (zat dd_X8_onSet 16 rfl) rfl (by decide) rfl ?_
      refine z_iinc (y := v2 + 1) (lv' := [(2, .int (v2 + 1)), (1, .int x4), (0, .ref v0)]) 2 (zat dd_X8_onSet 17 rfl) rfl rfl (by decide) rfl ?_
      refine z_goto (tgt := 4) (zat dd_X8_onSet 18 rfl) (by decide) ?_
      refine z_sub [2, 1, 0] rfl ?_
      exact ih v0 x4 (v2 + 1) h
def f_X8_onSet (v0 : Nat) (h : zH) : zR :=
  f_X8_onSet_4 zF v0 0 0 h
set_option maxRecDepth 100000 in
set_option maxHeartbeats 4000000 in
theorem m_X8_onSet (l : Launch) (D : zD) (v0 : Nat) (h : zH) : zMet l D yX8_onSet M_X8_onSet [.ref v0] h (f_X8_onSet v0 h) := by
  refine zMet.of (by decide +kernel) ⟨rfl, rfl⟩ (Nat.le_of_ble_eq_true rfl) (fun Y hl hD => ?_)
  show Z Y M_X8_onSet 0 0 0 [(0, .ref v0)] [] h _
  rw [f_X8_onSet]
  refine z_iconst (x := 0) (zat dd_X8_onSet 0 rfl) (by decide) ?_
  refine z_istore_n (lv' := [(1, .int 0), (0, .ref v0)]) (zat dd_X8_onSet 1 rfl) rfl (by decide) rfl ?_
  refine z_iconst (x := 0) (zat dd_X8_onSet 2 rfl) (by decide) ?_
  refine z_istore_n (lv' := [(2, .int 0), (1, .int 0), (0, .ref v0)]) (zat dd_X8_onSet 3 rfl) rfl (by decide) rfl ?_
  refine z_sub [2, 1, 0] rfl ?_
  exact zb_X8_onSet_4 Y zF v0 0 0 h
/-! PaperDolls$Taste.allows(III)Z -/
def L_X6_allows : List (Nat × Instr × Nat) := [(0, .iload_n 1, 1), (1, .iload_n 2, 1), (2, .if_icmp .ge 7, 3), (5, .iload_n 1, 1), (6, .goto 4, 3), (9, .iload_n 2, 1), (10, .istore_n 3, 1), (11, .iload_n 1, 1), (12, .iload_n 2, 1), (13, .if_icmp .ge 7, 3), (16, .iload_n 2, 1), (17, .goto 4, 3), (20, .iload_n 1, 1), (21, .istore 4, 2), (23, .iload 4, 2), (25, .iload_n 3, 1), (26, .if_icmp .ne 7, 3), (29, .iconst 1, 1), (30, .goto 4, 3), (33, .iconst 0, 1), (34, .istore 5, 2), (36, .iload 5, 2), (38, .ifCond .ne 11, 3), (41, .iload 4, 2), (43, .iload_n 3, 1), (44, .iconst 1, 1), (45, .iadd, 1), (46, .if_icmp .ne 7, 3), (49, .iconst 1, 1), (50, .goto 4, 3), (53, .iconst 0, 1), (54, .istore 6, 2), (56, .iload_n 0, 1), (57, .tableswitch 107 0 5 #[39, 42, 45, 56, 75, 92], 39), (96, .iload 6, 2), (98, .ireturn, 1), (99, .iload 5, 2), (101, .ireturn, 1), (102, .iload 6, 2), (104, .ifCond .ne 7, 3), (107, .iconst 1, 1), (108, .goto 4, 3), (111, .iconst 0, 1), (112, .ireturn, 1), (113, .iload 5, 2), (115, .ifCond .ne 11, 3), (118, .iload_n 3, 1), (119, .iload 4, 2), (121, .iadd, 1), (122, .iconst 3, 1), (123, .if_icmp .ne 7, 3), (126, .iconst 1, 1), (127, .goto 4, 3), (130, .iconst 0, 1), (131, .ireturn, 1), (132, .iload 6, 2), (134, .ifCond .eq 13, 3), (137, .iload 4, 2), (139, .iconst 3, 1), (140, .if_icmp .eq 7, 3), (143, .iconst 1, 1), (144, .goto 4, 3), (147, .iconst 0, 1), (148, .ireturn, 1), (149, .iload 6, 2), (151, .ifCond .eq 7, 3), (154, .iload_n 3, 1), (155, .ifCond .ne 7, 3), (158, .iconst 1, 1), (159, .goto 4, 3), (162, .iconst 0, 1), (163, .ireturn, 1), (164, .iconst 0, 1), (165, .ireturn, 1)]
theorem dd_X6_allows : ∀ q ∈ L_X6_allows, decode cX6_allows q.1 = .ok q.2 := by decide +kernel
abbrev M_X6_allows : zM := (cX6_allows, RX6, "allows", 7, some .boolean, 0, 0, 0)
theorem u_X6_allows : zCal yX6_allows (M_X6_allows) 3 := ⟨zmem 444 (by decide +kernel) rfl, zmem 70 (by decide +kernel) rfl, by decide +kernel, by decide⟩
theorem qi_X6_allows : Cond.static yX6_allows ∈ zTb := zmem 443 (by decide +kernel) rfl
def f_X6_allows_163 (t0 : Int32) (h : zH) : zR :=
  zrZ t0 h
set_option maxRecDepth 100000 in
set_option maxHeartbeats 4000000 in
theorem zb_X6_allows_163 (Y : zY) (t0 : Int32) (h : zH) : Z Y M_X6_allows 0 0 163 [] [.int t0] h (f_X6_allows_163 t0 h) := by
  rw [f_X6_allows_163]
  exact z_zret rfl (zat dd_X6_allows 71 rfl)
def f_X6_allows_158 (h : zH) : zR :=
  f_X6_allows_163 1 h
set_option maxRecDepth 100000 in
set_option maxHeartbeats 4000000 in
theorem zb_X6_allows_158 (Y : zY) (h : zH) : Z Y M_X6_allows 0 0 158 [] [] h (f_X6_allows_158  h) := by
  rw [f_X6_allows_158]
  refine z_iconst (x := 1) (zat dd_X6_allows 68 rfl) (by decide) ?_
  refine z_goto (tgt := 163) (zat dd_X6_allows 69 rfl) (by decide) ?_
  exact zb_X6_allows_163 Y 1 h
def f_X6_allows_148 (t0 : Int32) (h : zH) : zR :=
  zrZ t0 h
set_option maxRecDepth 100000 in
set_option maxHeartbeats 4000000 in
theorem zb_X6_allows_148 (Y : zY) (t0 : Int32) (h : zH) : Z Y M_X6_allows 0 0 148 [] [.int t0] h (f_X6_allows_148 t0 h) := by
  rw [f_X6_allows_148]
  exact z_zret rfl (zat dd_X6_allows 63 rfl)
def f_X6_allows_147 (h : zH) : zR :=
  f_X6_allows_148 0 h
set_option maxRecDepth 100000 in
set_option maxHeartbeats 4000000 in
theorem zb_X6_allows_147 (Y : zY) (h : zH) : Z Y M_X6_allows 0 0 147 [] [] h (f_X6_allows_147  h) := by
  rw [f_X6_allows_147]
  refine z_iconst (x := 0) (zat dd_X6_allows 62 rfl) (by decide) ?_
  exact zb_X6_allows_148 Y 0 h
def f_X6_allows_131 (t0 : Int32) (h : zH) : zR :=
  zrZ t0 h
set_option maxRecDepth 100000 in
set_option maxHeartbeats 4000000 in
theorem zb_X6_allows_131 (Y : zY) (t0 : Int32) (h : zH) : Z Y M_X6_allows 0 0 131 [] [.int t0] h (f_X6_allows_131 t0 h) := by
  rw [f_X6_allows_131]
  exact z_zret rfl (zat dd_X6_allows 54 rfl)
def f_X6_allows_126 (h : zH) : zR :=
  f_X6_allows_131 1 h
set_option maxRecDepth 100000 in
set_option maxHeartbeats 4000000 in
theorem zb_X6_allows_126 (Y : zY) (h : zH) : Z Y M_X6_allows 0 0 126 [] [] h (f_X6_allows_126  h) := by
  rw [f_X6_allows_126]
  refine z_iconst (x := 1) (zat dd_X6_allows 51 rfl) (by decide) ?_
  refine z_goto (tgt := 131) (zat dd_X6_allows 52 rfl) (by decide) ?_
  exact zb_X6_allows_131 Y 1 h
def f_X6_allows_112 (t0 : Int32) (h : zH) : zR :=
  zrZ t0 h
set_option maxRecDepth 100000 in
set_option maxHeartbeats 4000000 in
theorem zb_X6_allows_112 (Y : zY) (t0 : Int32) (h : zH) : Z Y M_X6_allows 0 0 112 [] [.int t0] h (f_X6_allows_112 t0 h) := by
  rw [f_X6_allows_112]
  exact z_zret rfl (zat dd_X6_allows 43 rfl)
def f_X6_allows_54 (v0 : Int32) (v3 : Int32) (v4 : Int32) (v5 : Int32) (t0 : Int32) (h : zH) : zR :=
  if v0 = 0 then
  zrZ t0 h
  else
  if v0 = 1 then
  zrZ v5 h
  else
  if v0 = 2 then
  if t0 = 0 then
  f_X6_allows_112 1 h
  else
  f_X6_allows_112 0 h
  else
  if v0 = 3 then
  if v5 = 0 then
  if (v3 + v4) = 3 then
  f_X6_allows_126 h
  else
  f_X6_allows_131 0 h
  else
  f_X6_allows_126 h
  else
  if v0 = 4 then
  if t0 = 0 then
  f_X6_allows_147 h
  else
  if v4 = 3 then
  f_X6_allows_147 h
  else
  f_X6_allows_148 1 h
  else
  if v0 = 5 then
  if t0 = 0 then
  f_X6_allows_158 h
  else
  if v3 = 0 then
  f_X6_allows_158 h
  else
  f_X6_allows_163 0 h
  else
  zrZ 0 h
set_option maxRecDepth 100000 in
set_option maxHeartbeats 4000000 in
theorem zb_X6_allows_54 (Y : zY) (v0 : Int32) (v3 : Int32) (v4 : Int32) (v5 : Int32) (t0 : Int32) (h : zH) : Z Y M_X6_allows 0 0 54 [(0, .int v0), (3, .int v3), (4, .int v4), (5, .int v5)] [.int t0] h (f_X6_allows_54 v0 v3 v4 v5 t0 h) := by
  rw [f_X6_allows_54]
  refine z_istore (lv' := [(6, .int t0), (0, .int v0), (3, .int v3), (4, .int v4), (5, .int v5)]) (zat dd_X6_allows 31 rfl) (by decide) rfl ?_
  refine z_iload_n 1 (zat dd_X6_allows 32 rfl) rfl rfl ?_
  refine z_ite (fun c0 => ?_) (fun c0 => ?_)
  · refine z_tabIn (tgt := 96) 0 c0 (zat dd_X6_allows 33 rfl) (by decide) (by decide) rfl (by decide) ?_
    refine z_iload 0 (zat dd_X6_allows 34 rfl) rfl ?_
    exact z_zret rfl (zat dd_X6_allows 35 rfl)
  refine z_ite (fun c1 => ?_) (fun c1 => ?_)
  · refine z_tabIn (tgt := 99) 1 c1 (zat dd_X6_allows 33 rfl) (by decide) (by decide) rfl (by decide) ?_
    refine z_iload 4 (zat dd_X6_allows 36 rfl) rfl ?_
    exact z_zret rfl (zat dd_X6_allows 37 rfl)
  refine z_ite (fun c2 => ?_) (fun c2 => ?_)
  · refine z_tabIn (tgt := 102) 2 c2 (zat dd_X6_allows 33 rfl) (by decide) (by decide) rfl (by decide) ?_
    refine z_iload 0 (zat dd_X6_allows 38 rfl) rfl ?_
    refine z_if_ne (tgt := 111) (zat dd_X6_allows 39 rfl) (by decide) ?_ ?_
    · refine z_iconst (x := 0) (zat dd_X6_allows 42 rfl) (by decide) ?_
      refine z_sub [] rfl ?_
      exact zb_X6_allows_112 Y 0 h
    · refine z_iconst (x := 1) (zat dd_X6_allows 40 rfl) (by decide) ?_
      refine z_goto (tgt := 112) (zat dd_X6_allows 41 rfl) (by decide) ?_
      refine z_sub [] rfl ?_
      exact zb_X6_allows_112 Y 1 h
  refine z_ite (fun c3 => ?_) (fun c3 => ?_)
  · refine z_tabIn (tgt := 113) 3 c3 (zat dd_X6_allows 33 rfl) (by decide) (by decide) rfl (by decide) ?_
    refine z_iload 4 (zat dd_X6_allows 44 rfl) rfl ?_
    refine z_if_ne (tgt := 126) (zat dd_X6_allows 45 rfl) (by decide) ?_ ?_
    · refine z_sub [] rfl ?_
      exact zb_X6_allows_126 Y h
    · refine z_iload_n 2 (zat dd_X6_allows 46 rfl) rfl rfl ?_
      refine z_iload 3 (zat dd_X6_allows 47 rfl) rfl ?_
      refine z_iadd (zat dd_X6_allows 48 rfl) ?_
      refine z_iconst (x := 3) (zat dd_X6_allows 49 rfl) (by decide) ?_
      refine z_icmp_ne (tgt := 130) (zat dd_X6_allows 50 rfl) (by decide) ?_ ?_
      · refine z_iconst (x := 0) (zat dd_X6_allows 53 rfl) (by decide) ?_
        refine z_sub [] rfl ?_
        exact zb_X6_allows_131 Y 0 h
      · refine z_sub [] rfl ?_
        exact zb_X6_allows_126 Y h
  refine z_ite (fun c4 => ?_) (fun c4 => ?_)
  · refine z_tabIn (tgt := 132) 4 c4 (zat dd_X6_allows 33 rfl) (by decide) (by decide) rfl (by decide) ?_
    refine z_iload 0 (zat dd_X6_allows 55 rfl) rfl ?_
    refine z_if_eq (tgt := 147) (zat dd_X6_allows 56 rfl) (by decide) ?_ ?_
    · refine z_sub [] rfl ?_
      exact zb_X6_allows_147 Y h
    · refine z_iload 3 (zat dd_X6_allows 57 rfl) rfl ?_
      refine z_iconst (x := 3) (zat dd_X6_allows 58 rfl) (by decide) ?_
      refine z_icmp_eq (tgt := 147) (zat dd_X6_allows 59 rfl) (by decide) ?_ ?_
      · refine z_sub [] rfl ?_
        exact zb_X6_allows_147 Y h
      · refine z_iconst (x := 1) (zat dd_X6_allows 60 rfl) (by decide) ?_
        refine z_goto (tgt := 148) (zat dd_X6_allows 61 rfl) (by decide) ?_
        refine z_sub [] rfl ?_
        exact zb_X6_allows_148 Y 1 h
  refine z_ite (fun c5 => ?_) (fun c5 => ?_)
  · refine z_tabIn (tgt := 149) 5 c5 (zat dd_X6_allows 33 rfl) (by decide) (by decide) rfl (by decide) ?_
    refine z_iload 0 (zat dd_X6_allows 64 rfl) rfl ?_
    refine z_if_eq (tgt := 158) (zat dd_X6_allows 65 rfl) (by decide) ?_ ?_
    · refine z_sub [] rfl ?_
      exact zb_X6_allows_158 Y h
    · refine z_iload_n 2 (zat dd_X6_allows 66 rfl) rfl rfl ?_
      refine z_if_ne (tgt := 162) (zat dd_X6_allows 67 rfl) (by decide) ?_ ?_
      · refine z_iconst (x := 0) (zat dd_X6_allows 70 rfl) (by decide) ?_
        refine z_sub [] rfl ?_
        exact zb_X6_allows_163 Y 0 h
      · refine z_sub [] rfl ?_
        exact zb_X6_allows_158 Y h
  refine z_tabOut (tgt := 164) (zat dd_X6_allows 33 rfl) (by have g0 := lv_neT (a := 0) c0 rfl; have g1 := lv_neT (a := 1) c1 rfl; have g2 := lv_neT (a := 2) c2 rfl; have g3 := lv_neT (a := 3) c3 rfl; have g4 := lv_neT (a := 4) c4 rfl; have g5 := lv_neT (a := 5) c5 rfl; omega) (by decide) ?_
  refine z_iconst (x := 0) (zat dd_X6_allows 72 rfl) (by decide) ?_
  exact z_zret rfl (zat dd_X6_allows 73 rfl)
def f_X6_allows_49 (v0 : Int32) (v3 : Int32) (v4 : Int32) (v5 : Int32) (h : zH) : zR :=
  f_X6_allows_54 v0 v3 v4 v5 1 h
set_option maxRecDepth 100000 in
set_option maxHeartbeats 4000000 in
theorem zb_X6_allows_49 (Y : zY) (v0 : Int32) (v3 : Int32) (v4 : Int32) (v5 : Int32) (h : zH) : Z Y M_X6_allows 0 0 49 [(0, .int v0), (3, .int v3), (4, .int v4), (5, .int v5)] [] h (f_X6_allows_49 v0 v3 v4 v5 h) := by
  rw [f_X6_allows_49]
  refine z_iconst (x := 1) (zat dd_X6_allows 28 rfl) (by decide) ?_
  refine z_goto (tgt := 54) (zat dd_X6_allows 29 rfl) (by decide) ?_
  exact zb_X6_allows_54 Y v0 v3 v4 v5 1 h
def f_X6_allows_34 (v0 : Int32) (v3 : Int32) (v4 : Int32) (t0 : Int32) (h : zH) : zR :=
  if t0 = 0 then
  if v4 = (v3 + 1) then
  f_X6_allows_49 v0 v3 v4 t0 h
  else
  f_X6_allows_54 v0 v3 v4 t0 0 h
  else
  f_X6_allows_49 v0 v3 v4 t0 h
set_option maxRecDepth 100000 in
set_option maxHeartbeats 4000000 in
theorem zb_X6_allows_34 (Y : zY) (v0 : Int32) (v3 : Int32) (v4 : Int32) (t0 : Int32) (h : zH) : Z Y M_X6_allows 0 0 34 [(0, .int v0), (3, .int v3), (4, .int v4)] [.int t0] h (f_X6_allows_34 v0 v3 v4 t0 h) := by
  rw [f_X6_allows_34]
  refine z_istore (lv' := [(5, .int t0), (0, .int v0), (3, .int v3), (4, .int v4)]) (zat dd_X6_allows 20 rfl) (by decide) rfl ?_
  refine z_iload 0 (zat dd_X6_allows 21 rfl) rfl ?_
  refine z_if_ne (tgt := 49) (zat dd_X6_allows 22 rfl) (by decide) ?_ ?_
  · refine z_sub [1, 2, 3, 0] rfl ?_
    exact zb_X6_allows_49 Y v0 v3 v4 t0 h
  · refine z_iload 3 (zat dd_X6_allows 23 rfl) rfl ?_
    refine z_iload_n 2 (zat dd_X6_allows 24 rfl) rfl rfl ?_
    refine z_iconst (x := 1) (zat dd_X6_allows 25 rfl) (by decide) ?_
    refine z_iadd (zat dd_X6_allows 26 rfl) ?_
    refine z_icmp_ne (tgt := 53) (zat dd_X6_allows 27 rfl) (by decide) ?_ ?_
    · refine z_iconst (x := 0) (zat dd_X6_allows 30 rfl) (by decide) ?_
      refine z_sub [1, 2, 3, 0] rfl ?_
      exact zb_X6_allows_54 Y v0 v3 v4 t0 0 h
    · refine z_sub [1, 2, 3, 0] rfl ?_
      exact zb_X6_allows_49 Y v0 v3 v4 t0 h
def f_X6_allows_21 (v0 : Int32) (v3 : Int32) (t0 : Int32) (h : zH) : zR :=
  if t0 = v3 then
  f_X6_allows_34 v0 v3 t0 1 h
  else
  f_X6_allows_34 v0 v3 t0 0 h
set_option maxRecDepth 100000 in
set_option maxHeartbeats 4000000 in
theorem zb_X6_allows_21 (Y : zY) (v0 : Int32) (v3 : Int32) (t0 : Int32) (h : zH) : Z Y M_X6_allows 0 0 21 [(0, .int v0), (3, .int v3)] [.int t0] h (f_X6_allows_21 v0 v3 t0 h) := by
  rw [f_X6_allows_21]
  refine z_istore (lv' := [(4, .int t0), (0, .int v0), (3, .int v3)]) (zat dd_X6_allows 13 rfl) (by decide) rfl ?_
  refine z_iload 0 (zat dd_X6_allows 14 rfl) rfl ?_
  refine z_iload_n 2 (zat dd_X6_allows 15 rfl) rfl rfl ?_
  refine z_icmp_ne (tgt := 33) (zat dd_X6_allows 16 rfl) (by decide) ?_ ?_
  · refine z_iconst (x := 0) (zat dd_X6_allows 19 rfl) (by decide) ?_
    refine z_sub [1, 2, 0] rfl ?_
    exact zb_X6_allows_34 Y v0 v3 t0 0 h
  · refine z_iconst (x := 1) (zat dd_X6_allows 17 rfl) (by decide) ?_
    refine z_goto (tgt := 34) (zat dd_X6_allows 18 rfl) (by decide) ?_
    refine z_sub [1, 2, 0] rfl ?_
    exact zb_X6_allows_34 Y v0 v3 t0 1 h
def f_X6_allows_10 (v0 : Int32) (v1 : Int32) (v2 : Int32) (t0 : Int32) (h : zH) : zR :=
  if v2 ≤ v1 then
  f_X6_allows_21 v0 t0 v1 h
  else
  f_X6_allows_21 v0 t0 v2 h
set_option maxRecDepth 100000 in
set_option maxHeartbeats 4000000 in
theorem zb_X6_allows_10 (Y : zY) (v0 : Int32) (v1 : Int32) (v2 : Int32) (t0 : Int32) (h : zH) : Z Y M_X6_allows 0 0 10 [(0, .int v0), (1, .int v1), (2, .int v2)] [.int t0] h (f_X6_allows_10 v0 v1 v2 t0 h) := by
  rw [f_X6_allows_10]
  refine z_istore_n (lv' := [(3, .int t0), (0, .int v0), (1, .int v1), (2, .int v2)]) (zat dd_X6_allows 6 rfl) rfl (by decide) rfl ?_
  refine z_iload_n 2 (zat dd_X6_allows 7 rfl) rfl rfl ?_
  refine z_iload_n 3 (zat dd_X6_allows 8 rfl) rfl rfl ?_
  refine z_icmp_ge (tgt := 20) (zat dd_X6_allows 9 rfl) (by decide) ?_ ?_
  · refine z_iload_n 2 (zat dd_X6_allows 12 rfl) rfl rfl ?_
    refine z_sub [1, 0] rfl ?_
    exact zb_X6_allows_21 Y v0 t0 v1 h
  · refine z_iload_n 3 (zat dd_X6_allows 10 rfl) rfl rfl ?_
    refine z_goto (tgt := 21) (zat dd_X6_allows 11 rfl) (by decide) ?_
    refine z_sub [1, 0] rfl ?_
    exact zb_X6_allows_21 Y v0 t0 v2 h
def f_X6_allows (v0 : Int32) (v1 : Int32) (v2 : Int32) (h : zH) : zR :=
  if v2 ≤ v1 then
  f_X6_allows_10 v0 v1 v2 v2 h
  else
  f_X6_allows_10 v0 v1 v2 v1 h
set_option maxRecDepth 100000 in
set_option maxHeartbeats 4000000 in
theorem m_X6_allows (l : Launch) (D : zD) (v0 : Int32) (v1 : Int32) (v2 : Int32) (h : zH) : zMet l D yX6_allows M_X6_allows [.int v0, .int v1, .int v2] h (f_X6_allows v0 v1 v2 h) := by
  refine zMet.of (by decide +kernel) ⟨rfl, rfl⟩ (Nat.le_of_ble_eq_true rfl) (fun Y hl hD => ?_)
  show Z Y M_X6_allows 0 0 0 [(0, .int v0), (1, .int v1), (2, .int v2)] [] h _
  rw [f_X6_allows]
  refine z_iload_n 1 (zat dd_X6_allows 0 rfl) rfl rfl ?_
  refine z_iload_n 2 (zat dd_X6_allows 1 rfl) rfl rfl ?_
  refine z_icmp_ge (tgt := 9) (zat dd_X6_allows 2 rfl) (by decide) ?_ ?_
  · refine z_iload_n 2 (zat dd_X6_allows 5 rfl) rfl rfl ?_
    exact zb_X6_allows_10 Y v0 v1 v2 v2 h
  · refine z_iload_n 1 (zat dd_X6_allows 3 rfl) rfl rfl ?_
    refine z_goto (tgt := 10) (zat dd_X6_allows 4 rfl) (by decide) ?_
    exact zb_X6_allows_10 Y v0 v1 v2 v1 h
/-! PaperDolls$Wear.placeOf(I)I -/
def L_X8_placeOf : List (Nat × Instr × Nat) := [(0, .iconst 0, 1), (1, .istore_n 2, 1), (2, .iload_n 2, 1), (3, .aload_n 0, 1), (4, .getfield 18, 3), (7, .if_icmp .ge 21, 3), (10, .aload_n 0, 1), (11, .getfield 9, 3), (14, .iload_n 2, 1), (15, .iaload, 1), (16, .iload_n 1, 1), (17, .if_icmp .ne 5, 3), (20, .iload_n 2, 1), (21, .ireturn, 1), (22, .iinc 2 1, 3), (25, .goto (-23), 3), (28, .bipush (-101), 2), (30, .ireturn, 1)]
theorem dd_X8_placeOf : ∀ q ∈ L_X8_placeOf, decode cX8_placeOf q.1 = .ok q.2 := by decide +kernel
abbrev M_X8_placeOf : zM := (cX8_placeOf, RX8, "placeOf", 3, some .int, 0, 0, 0)
theorem u_X8_placeOf : zCal yX8_placeOf (M_X8_placeOf) 1 := ⟨zmem 438 (by decide +kernel) rfl, zmem 59 (by decide +kernel) rfl, by decide +kernel, by decide⟩
theorem qi_X8_placeOf : Cond.instanceMethod yX8_placeOf ∈ zTb := zmem 436 (by decide +kernel) rfl
theorem qs_X8_placeOf : Cond.selects yX8_placeOf.cls yX8_placeOf yX8_placeOf ∈ zTb := zmem 437 (by decide +kernel) rfl
def f_X8_placeOf_2 : Nat → Nat → Int32 → Int32 → zH → zR
  | 0, _, _, _, _ => none
  | n + 1, v0, v1, v2, h =>
  zgI h v0 4 2 fun x1 =>
  if x1 ≤ v2 then
  zrI (-101) h
  else
  zgR h v0 4 0 fun a2 =>
  zaI h a2 0 v2 fun x3 =>
  if x3 = v1 then
  zrI v2 h
  else
  f_X8_placeOf_2 n v0 v1 (v2 + 1) h
set_option maxRecDepth 100000 in
set_option maxHeartbeats 4000000 in
theorem zb_X8_placeOf_2 (Y : zY) : ∀ (n : Nat) (v0 : Nat) (v1 : Int32) (v2 : Int32) (h : zH), Z Y M_X8_placeOf 0 0 2 [(0, .ref v0), (1, .int v1), (2, .int v2)] [] h (f_X8_placeOf_2 n v0 v1 v2 h) := by
  intro n
  induction n with
  | zero =>
    intro v0 v1 v2 h
    rw [f_X8_placeOf_2]
    exact z_none
  | succ n ih =>
    intro v0 v1 v2 h
    rw [f_X8_placeOf_2]
    refine z_iload_n 2 (zat dd_X8_placeOf 2 rfl) rfl rfl ?_
    refine z_aload_n 0 (zat dd_X8_placeOf 3 rfl) rfl rfl ?_
    refine z_getI fl_X8_18 (zat dd_X8_placeOf 4 rfl) (fun x1 => ?_)
    refine z_icmp_ge (tgt := 28) (zat dd_X8_placeOf 5 rfl) (by decide) ?_ ?_
    · refine z_bipush (x := (-101)) (zat dd_X8_placeOf 16 rfl) (by decide) ?_
      exact z_iret rfl (zat dd_X8_placeOf 17 rfl)
    · refine z_aload_n 0 (zat dd_X8_placeOf 6 rfl) rfl rfl ?_
      refine z_getR fl_X8_9 (zat dd_X8_placeOf 7 rfl) (fun a2 => ?_)
      refine z_iload_n 2 (zat dd_X8_placeOf 8 rfl) rfl rfl ?_
      refine z_iald (zat dd_X8_placeOf 9 rfl) (fun x3 => ?_)
      refine z_iload_n 1 (zat dd_X8_placeOf 10 rfl) rfl rfl ?_
      refine z_icmp_ne (tgt := 22) (zat dd_X8_placeOf 11 rfl) (by decide) ?_ ?_
      · refine z_iinc (y := v2 + 1) (lv' := [(2, .int (v2 + 1)), (0, .ref v0), (1, .int v1)]) 2 (zat dd_X8_placeOf 14 rfl) rfl rfl (by decide) rfl ?_
        refine z_goto (tgt := 2) (zat dd_X8_placeOf 15 rfl) (by decide) ?_
        refine z_sub [1, 2, 0] rfl ?_
        exact ih v0 v1 (v2 + 1) h
      · refine z_iload_n 2 (zat dd_X8_placeOf 12 rfl) rfl rfl ?_
        exact z_iret rfl (zat dd_X8_placeOf 13 rfl)
def f_X8_placeOf (v0 : Nat) (v1 : Int32) (h : zH) : zR :=
  f_X8_placeOf_2 zF v0 v1 0 h
set_option maxRecDepth 100000 in
set_option maxHeartbeats 4000000 in
theorem m_X8_placeOf (l : Launch) (D : zD) (v0 : Nat) (v1 : Int32) (h : zH) : zMet l D yX8_placeOf M_X8_placeOf [.ref v0, .int v1] h (f_X8_placeOf v0 v1 h) := by
  refine zMet.of (by decide +kernel) ⟨rfl, rfl⟩ (Nat.le_of_ble_eq_true rfl) (fun Y hl hD => ?_)
  show Z Y M_X8_placeOf 0 0 0 [(0, .ref v0), (1, .int v1)] [] h _
  rw [f_X8_placeOf]
  refine z_iconst (x := 0) (zat dd_X8_placeOf 0 rfl) (by decide) ?_
  refine z_istore_n (lv' := [(2, .int 0), (0, .ref v0), (1, .int v1)]) (zat dd_X8_placeOf 1 rfl) rfl (by decide) rfl ?_
  refine z_sub [1, 2, 0] rfl ?_
  exact zb_X8_placeOf_2 Y zF v0 v1 0 h
/-! PaperDolls$Wear.layOver(I)V -/
def L_X8_layOver : List (Nat × Instr × Nat) := [(0, .aload_n 0, 1), (1, .getfield 18, 3), (4, .bipush 8, 2), (6, .if_icmp .ge 33, 3), (9, .aload_n 0, 1), (10, .getfield 9, 3), (13, .aload_n 0, 1), (14, .getfield 18, 3), (17, .iload_n 1, 1), (18, .iastore, 1), (19, .aload_n 0, 1), (20, .dup, 1), (21, .getfield 18, 3), (24, .iconst 1, 1), (25, .iadd, 1), (26, .putfield 18, 3), (29, .aload_n 0, 1), (30, .getfield 15, 3), (33, .iload_n 1, 1), (34, .dup2, 1), (35, .iaload, 1), (36, .iconst 1, 1), (37, .iadd, 1), (38, .iastore, 1), (39, .return_, 1)]
theorem dd_X8_layOver : ∀ q ∈ L_X8_layOver, decode cX8_layOver q.1 = .ok q.2 := by decide +kernel
abbrev M_X8_layOver : zM := (cX8_layOver, RX8, "layOver", 2, none, 0, 0, 0)
theorem u_X8_layOver : zCal yX8_layOver (M_X8_layOver) 1 := ⟨zmem 463 (by decide +kernel) rfl, zmem 59 (by decide +kernel) rfl, by decide +kernel, by decide⟩
theorem qi_X8_layOver : Cond.instanceMethod yX8_layOver ∈ zTb := zmem 461 (by decide +kernel) rfl
theorem qs_X8_layOver : Cond.selects yX8_layOver.cls yX8_layOver yX8_layOver ∈ zTb := zmem 462 (by decide +kernel) rfl
def f_X8_layOver_39 (h : zH) : zR :=
  zrV h
set_option maxRecDepth 100000 in
set_option maxHeartbeats 4000000 in
theorem zb_X8_layOver_39 (Y : zY) (h : zH) : Z Y M_X8_layOver 0 0 39 [] [] h (f_X8_layOver_39  h) := by
  rw [f_X8_layOver_39]
  exact z_vret rfl (zat dd_X8_layOver 24 rfl)
def f_X8_layOver (v0 : Nat) (v1 : Int32) (h : zH) : zR :=
  zgI h v0 4 2 fun x1 =>
  if 8 ≤ x1 then
  f_X8_layOver_39 h
  else
  zgR h v0 4 0 fun a2 =>
  zgI h v0 4 2 fun x3 =>
  zsI h a2 0 x3 v1 fun h4 =>
  zgI h4 v0 4 2 fun x5 =>
  zpV h4 v0 4 2 (.int (x5 + 1)) fun h6 =>
  zgR h6 v0 4 1 fun a7 =>
  zaI h6 a7 0 v1 fun x8 =>
  zsI h6 a7 0 v1 (x8 + 1) fun h9 =>
  f_X8_layOver_39 h9
set_option maxRecDepth 100000 in
set_option maxHeartbeats 4000000 in
theorem m_X8_layOver (l : Launch) (D : zD) (v0 : Nat) (v1 : Int32) (h : zH) : zMet l D yX8_layOver M_X8_layOver [.ref v0, .int v1] h (f_X8_layOver v0 v1 h) := by
  refine zMet.of (by decide +kernel) ⟨rfl, rfl⟩ (Nat.le_of_ble_eq_true rfl) (fun Y hl hD => ?_)
  show Z Y M_X8_layOver 0 0 0 [(0, .ref v0), (1, .int v1)] [] h _
  rw [f_X8_layOver]
  refine z_aload_n 0 (zat dd_X8_layOver 0 rfl) rfl rfl ?_
  refine z_getI fl_X8_18 (zat dd_X8_layOver 1 rfl) (fun x1 => ?_)
  refine z_bipush (x := 8) (zat dd_X8_layOver 2 rfl) (by decide) ?_
  refine z_icmp_ge (tgt := 39) (zat dd_X8_layOver 3 rfl) (by decide) ?_ ?_
  · refine z_sub [] rfl ?_
    exact zb_X8_layOver_39 Y h
  · refine z_aload_n 0 (zat dd_X8_layOver 4 rfl) rfl rfl ?_
    refine z_getR fl_X8_9 (zat dd_X8_layOver 5 rfl) (fun a2 => ?_)
    refine z_aload_n 0 (zat dd_X8_layOver 6 rfl) rfl rfl ?_
    refine z_getI fl_X8_18 (zat dd_X8_layOver 7 rfl) (fun x3 => ?_)
    refine z_iload_n 1 (zat dd_X8_layOver 8 rfl) rfl rfl ?_
    refine z_iast (zat dd_X8_layOver 9 rfl) (fun h4 => ?_)
    refine z_aload_n 0 (zat dd_X8_layOver 10 rfl) rfl rfl ?_
    refine z_dup (zat dd_X8_layOver 11 rfl) rfl ?_
    refine z_getI fl_X8_18 (zat dd_X8_layOver 12 rfl) (fun x5 => ?_)
    refine z_iconst (x := 1) (zat dd_X8_layOver 13 rfl) (by decide) ?_
    refine z_iadd (zat dd_X8_layOver 14 rfl) ?_
    refine z_put fl_X8_18 rfl rfl (zat dd_X8_layOver 15 rfl) (fun h6 => ?_)
    refine z_aload_n 0 (zat dd_X8_layOver 16 rfl) rfl rfl ?_
    refine z_getR fl_X8_15 (zat dd_X8_layOver 17 rfl) (fun a7 => ?_)
    refine z_iload_n 1 (zat dd_X8_layOver 18 rfl) rfl rfl ?_
    refine z_dup2 (zat dd_X8_layOver 19 rfl) rfl rfl ?_
    refine z_iald (zat dd_X8_layOver 20 rfl) (fun x8 => ?_)
    refine z_iconst (x := 1) (zat dd_X8_layOver 21 rfl) (by decide) ?_
    refine z_iadd (zat dd_X8_layOver 22 rfl) ?_
    refine z_iast (zat dd_X8_layOver 23 rfl) (fun h9 => ?_)
    refine z_sub [] rfl ?_
    exact zb_X8_layOver_39 Y h9
/-! PaperDolls$Wear.pullOut(I)V -/
def L_X8_pullOut : List (Nat × Instr × Nat) := [(0, .aload_n 0, 1), (1, .iload_n 1, 1), (2, .invokevirtual 31, 3), (5, .istore_n 2, 1), (6, .iload_n 2, 1), (7, .bipush (-101), 2), (9, .if_icmp .ne 4, 3), (12, .return_, 1), (13, .aload_n 0, 1), (14, .dup, 1), (15, .getfield 18, 3), (18, .iconst 1, 1), (19, .isub, 1), (20, .putfield 18, 3), (23, .iload_n 2, 1), (24, .istore_n 3, 1), (25, .iload_n 3, 1), (26, .aload_n 0, 1), (27, .getfield 18, 3), (30, .if_icmp .ge 23, 3), (33, .aload_n 0, 1), (34, .getfield 9, 3), (37, .iload_n 3, 1), (38, .aload_n 0, 1), (39, .getfield 9, 3), (42, .iload_n 3, 1), (43, .iconst 1, 1), (44, .iadd, 1), (45, .iaload, 1), (46, .iastore, 1), (47, .iinc 3 1, 3), (50, .goto (-25), 3), (53, .return_, 1)]
theorem dd_X8_pullOut : ∀ q ∈ L_X8_pullOut, decode cX8_pullOut q.1 = .ok q.2 := by decide +kernel
abbrev M_X8_pullOut : zM := (cX8_pullOut, RX8, "pullOut", 4, none, 1, 0, 0)
theorem u_X8_pullOut : zCal yX8_pullOut (M_X8_pullOut) 1 := ⟨zmem 467 (by decide +kernel) rfl, zmem 59 (by decide +kernel) rfl, by decide +kernel, by decide⟩
theorem qi_X8_pullOut : Cond.instanceMethod yX8_pullOut ∈ zTb := zmem 465 (by decide +kernel) rfl
theorem qs_X8_pullOut : Cond.selects yX8_pullOut.cls yX8_pullOut yX8_pullOut ∈ zTb := zmem 466 (by decide +kernel) rfl
def f_X8_pullOut_25 : Nat → Nat → Int32 → zH → zR
  | 0, _, _, _ => none
  | n + 1, v0, v3, h =>
  zgI h v0 4 2 fun x1 =>
  if x1 ≤ v3 then
  zrV h
  else
  zgR h v0 4 0 fun a2 =>
  zgR h v0 4 0 fun a3 =>
  zaI h a3 0 (v3 + 1) fun x4 =>
  zsI h a2 0 v3 x4 fun h5 =>
  f_X8_pullOut_25 n v0 (v3 + 1) h5
set_option maxRecDepth 100000 in
set_option maxHeartbeats 4000000 in
theorem zb_X8_pullOut_25 (Y : zY) : ∀ (n : Nat) (v0 : Nat) (v3 : Int32) (h : zH), Z Y M_X8_pullOut 0 0 25 [(0, .ref v0), (3, .int v3)] [] h (f_X8_pullOut_25 n v0 v3 h) := by
  intro n
  induction n with
  | zero =>
    intro v0 v3 h
    rw [f_X8_pullOut_25]
    exact z_none
  | succ n ih =>
    intro v0 v3 h
    rw [f_X8_pullOut_25]
    refine z_iload_n 1 (zat dd_X8_pullOut 16 rfl) rfl rfl ?_
    refine z_aload_n 0 (zat dd_X8_pullOut 17 rfl) rfl rfl ?_
    refine z_getI fl_X8_18 (zat dd_X8_pullOut 18 rfl) (fun x1 => ?_)
    refine z_icmp_ge (tgt := 53) (zat dd_X8_pullOut 19 rfl) (by decide) ?_ ?_
    · exact z_vret rfl (zat dd_X8_pullOut 32 rfl)
    · refine z_aload_n 0 (zat dd_X8_pullOut 20 rfl) rfl rfl ?_
      refine z_getR fl_X8_9 (zat dd_X8_pullOut 21 rfl) (fun a2 => ?_)
      refine z_iload_n 1 (zat dd_X8_pullOut 22 rfl) rfl rfl ?_
      refine z_aload_n 0 (zat dd_X8_pullOut 23 rfl) rfl rfl ?_
      refine z_getR fl_X8_9 (zat dd_X8_pullOut 24 rfl) (fun a3 => ?_)
      refine z_iload_n 1 (zat dd_X8_pullOut 25 rfl) rfl rfl ?_
      refine z_iconst (x := 1) (zat dd_X8_pullOut 26 rfl) (by decide) ?_
      refine z_iadd (zat dd_X8_pullOut 27 rfl) ?_
      refine z_iald (zat dd_X8_pullOut 28 rfl) (fun x4 => ?_)
      refine z_iast (zat dd_X8_pullOut 29 rfl) (fun h5 => ?_)
      refine z_iinc (y := v3 + 1) (lv' := [(3, .int (v3 + 1)), (0, .ref v0)]) 1 (zat dd_X8_pullOut 30 rfl) rfl rfl (by decide) rfl ?_
      refine z_goto (tgt := 25) (zat dd_X8_pullOut 31 rfl) (by decide) ?_
      refine z_sub [1, 0] rfl ?_
      exact ih v0 (v3 + 1) h5
def f_X8_pullOut (v0 : Nat) (v1 : Int32) (h : zH) : zR :=
  zoc h v0 4 <|
  zcI (f_X8_placeOf v0 v1 h) fun x1 h2 =>
  if x1 = (-101) then
  zrV h2
  else
  zgI h2 v0 4 2 fun x3 =>
  zpV h2 v0 4 2 (.int (x3 - 1)) fun h4 =>
  f_X8_pullOut_25 zF v0 x1 h4
set_option maxRecDepth 100000 in
set_option maxHeartbeats 4000000 in
theorem m_X8_pullOut (l : Launch) (D : zD) (v0 : Nat) (v1 : Int32) (h : zH) : zMet l D yX8_pullOut M_X8_pullOut [.ref v0, .int v1] h (f_X8_pullOut v0 v1 h) := by
  refine zMet.of (by decide +kernel) ⟨rfl, rfl⟩ (Nat.le_of_ble_eq_true rfl) (fun Y hl hD => ?_)
  show Z Y M_X8_pullOut 0 0 0 [(0, .ref v0), (1, .int v1)] [] h _
  rw [f_X8_pullOut]
  refine z_aload_n 0 (zat dd_X8_pullOut 0 rfl) rfl rfl ?_
  refine z_iload_n 1 (zat dd_X8_pullOut 1 rfl) rfl rfl ?_
  refine z_callV_I0 (M2 := M_X8_placeOf) [.int v1] (fun l D _ _ => m_X8_placeOf l D v0 v1 h) u_X8_placeOf ql_X8_31 qi_X8_placeOf qs_X8_placeOf (ci := 4) rfl rfl rfl (by decide) (by decide) rfl rfl (zat dd_X8_pullOut 2 rfl) (fun x1 h2 => ?_)
  refine z_istore_n (lv' := [(2, .int x1), (0, .ref v0), (1, .int v1)]) (zat dd_X8_pullOut 3 rfl) rfl (by decide) rfl ?_
  refine z_iload_n 0 (zat dd_X8_pullOut 4 rfl) rfl rfl ?_
  refine z_bipush (x := (-101)) (zat dd_X8_pullOut 5 rfl) (by decide) ?_
  refine z_icmp_ne (tgt := 13) (zat dd_X8_pullOut 6 rfl) (by decide) ?_ ?_
  · refine z_aload_n 1 (zat dd_X8_pullOut 8 rfl) rfl rfl ?_
    refine z_dup (zat dd_X8_pullOut 9 rfl) rfl ?_
    refine z_getI fl_X8_18 (zat dd_X8_pullOut 10 rfl) (fun x3 => ?_)
    refine z_iconst (x := 1) (zat dd_X8_pullOut 11 rfl) (by decide) ?_
    refine z_isub (zat dd_X8_pullOut 12 rfl) ?_
    refine z_put fl_X8_18 rfl rfl (zat dd_X8_pullOut 13 rfl) (fun h4 => ?_)
    refine z_iload_n 0 (zat dd_X8_pullOut 14 rfl) rfl rfl ?_
    refine z_istore_n (lv' := [(3, .int x1), (2, .int x1), (0, .ref v0), (1, .int v1)]) (zat dd_X8_pullOut 15 rfl) rfl (by decide) rfl ?_
    refine z_sub [2, 0] rfl ?_
    exact zb_X8_pullOut_25 Y zF v0 x1 h4
  · exact z_vret rfl (zat dd_X8_pullOut 7 rfl)
/-! java/lang/Integer.bitCount(I)I -/
def L_J6_bitCount_0f7a4 : List (Nat × Instr × Nat) := [(0, .iload_n 0, 1), (1, .iload_n 0, 1), (2, .iconst 1, 1), (3, .iushr, 1), (4, .ldc_w 265, 3), (7, .iand, 1), (8, .isub, 1), (9, .istore_n 0, 1), (10, .iload_n 0, 1), (11, .ldc_w 266, 3), (14, .iand, 1), (15, .iload_n 0, 1), (16, .iconst 2, 1), (17, .iushr, 1), (18, .ldc_w 266, 3), (21, .iand, 1), (22, .iadd, 1), (23, .istore_n 0, 1), (24, .iload_n 0, 1), (25, .iload_n 0, 1), (26, .iconst 4, 1), (27, .iushr, 1), (28, .iadd, 1), (29, .ldc_w 267, 3), (32, .iand, 1), (33, .istore_n 0, 1), (34, .iload_n 0, 1), (35, .iload_n 0, 1), (36, .bipush 8, 2), (38, .iushr, 1), (39, .iadd, 1), (40, .istore_n 0, 1), (41, .iload_n 0, 1), (42, .iload_n 0, 1), (43, .bipush 16, 2), (45, .iushr, 1), (46, .iadd, 1), (47, .istore_n 0, 1), (48, .iload_n 0, 1), (49, .bipush 63, 2), (51, .iand, 1), (52, .ireturn, 1)]
theorem dd_J6_bitCount_0f7a4 : ∀ q ∈ L_J6_bitCount_0f7a4, decode cJ6_bitCount_0f7a4 q.1 = .ok q.2 := by decide +kernel
abbrev M_J6_bitCount_0f7a4 : zM := (cJ6_bitCount_0f7a4, RJ6, "bitCount", 1, some .int, 0, 0, 0)
theorem u_J6_bitCount_0f7a4 : zCal yJ6_bitCount_0f7a4 (M_J6_bitCount_0f7a4) 1 := ⟨zmem 588 (by decide +kernel) rfl, zmem 72 (by decide +kernel) rfl, by decide +kernel, by decide⟩
theorem qi_J6_bitCount_0f7a4 : Cond.static yJ6_bitCount_0f7a4 ∈ zTb := zmem 587 (by decide +kernel) rfl
def f_J6_bitCount_0f7a4 (v0 : Int32) (h : zH) : zR :=
  zlt (v0 - ((((v0 : Int32).toUInt32 >>> ((1 : Int32).toUInt32 &&& Int32.toUInt32 31)).toInt32) &&& 1431655765)) fun x1 =>
  zlt ((x1 &&& 858993459) + ((((x1 : Int32).toUInt32 >>> ((2 : Int32).toUInt32 &&& Int32.toUInt32 31)).toInt32) &&& 858993459)) fun x2 =>
  zlt ((x2 + (((x2 : Int32).toUInt32 >>> ((4 : Int32).toUInt32 &&& Int32.toUInt32 31)).toInt32)) &&& 252645135) fun x3 =>
  zlt (x3 + (((x3 : Int32).toUInt32 >>> ((8 : Int32).toUInt32 &&& Int32.toUInt32 31)).toInt32)) fun x4 =>
  zlt (x4 + (((x4 : Int32).toUInt32 >>> ((16 : Int32).toUInt32 &&& Int32.toUInt32 31)).toInt32)) fun x5 =>
  zrI (x5 &&& 63) h
set_option maxRecDepth 100000 in
set_option maxHeartbeats 4000000 in
theorem m_J6_bitCount_0f7a4 (l : Launch) (D : zD) (v0 : Int32) (h : zH) : zMet l D yJ6_bitCount_0f7a4 M_J6_bitCount_0f7a4 [.int v0] h (f_J6_bitCount_0f7a4 v0 h) := by
  refine zMet.of (by decide +kernel) ⟨rfl, rfl⟩ (Nat.le_of_ble_eq_true rfl) (fun Y hl hD => ?_)
  show Z Y M_J6_bitCount_0f7a4 0 0 0 [(0, .int v0)] [] h _
  rw [f_J6_bitCount_0f7a4]
  refine z_iload_n 0 (zat dd_J6_bitCount_0f7a4 0 rfl) rfl rfl ?_
  refine z_iload_n 0 (zat dd_J6_bitCount_0f7a4 1 rfl) rfl rfl ?_
  refine z_iconst (x := 1) (zat dd_J6_bitCount_0f7a4 2 rfl) (by decide) ?_
  refine z_iushr (zat dd_J6_bitCount_0f7a4 3 rfl) ?_
  refine z_ldcw (x := 1431655765) qk_J6_265 (zat dd_J6_bitCount_0f7a4 4 rfl) ?_
  refine z_iand (zat dd_J6_bitCount_0f7a4 5 rfl) ?_
  refine z_isub (zat dd_J6_bitCount_0f7a4 6 rfl) ?_
  refine z_let (fun x1 => ?_)
  refine z_istore_n (lv' := [(0, .int x1)]) (zat dd_J6_bitCount_0f7a4 7 rfl) rfl (by decide) rfl ?_
  refine z_iload_n 0 (zat dd_J6_bitCount_0f7a4 8 rfl) rfl rfl ?_
  refine z_ldcw (x := 858993459) qk_J6_266 (zat dd_J6_bitCount_0f7a4 9 rfl) ?_
  refine z_iand (zat dd_J6_bitCount_0f7a4 10 rfl) ?_
  refine z_iload_n 0 (zat dd_J6_bitCount_0f7a4 11 rfl) rfl rfl ?_
  refine z_iconst (x := 2) (zat dd_J6_bitCount_0f7a4 12 rfl) (by decide) ?_
  refine z_iushr (zat dd_J6_bitCount_0f7a4 13 rfl) ?_
  refine z_ldcw (x := 858993459) qk_J6_266 (zat dd_J6_bitCount_0f7a4 14 rfl) ?_
  refine z_iand (zat dd_J6_bitCount_0f7a4 15 rfl) ?_
  refine z_iadd (zat dd_J6_bitCount_0f7a4 16 rfl) ?_
  refine z_let (fun x2 => ?_)
  refine z_istore_n (lv' := [(0, .int x2)]) (zat dd_J6_bitCount_0f7a4 17 rfl) rfl (by decide) rfl ?_
  refine z_iload_n 0 (zat dd_J6_bitCount_0f7a4 18 rfl) rfl rfl ?_
  refine z_iload_n 0 (zat dd_J6_bitCount_0f7a4 19 rfl) rfl rfl ?_
  refine z_iconst (x := 4) (zat dd_J6_bitCount_0f7a4 20 rfl) (by decide) ?_
  refine z_iushr (zat dd_J6_bitCount_0f7a4 21 rfl) ?_
  refine z_iadd (zat dd_J6_bitCount_0f7a4 22 rfl) ?_
  refine z_ldcw (x := 252645135) qk_J6_267 (zat dd_J6_bitCount_0f7a4 23 rfl) ?_
  refine z_iand (zat dd_J6_bitCount_0f7a4 24 rfl) ?_
  refine z_let (fun x3 => ?_)
  refine z_istore_n (lv' := [(0, .int x3)]) (zat dd_J6_bitCount_0f7a4 25 rfl) rfl (by decide) rfl ?_
  refine z_iload_n 0 (zat dd_J6_bitCount_0f7a4 26 rfl) rfl rfl ?_
  refine z_iload_n 0 (zat dd_J6_bitCount_0f7a4 27 rfl) rfl rfl ?_
  refine z_bipush (x := 8) (zat dd_J6_bitCount_0f7a4 28 rfl) (by decide) ?_
  refine z_iushr (zat dd_J6_bitCount_0f7a4 29 rfl) ?_
  refine z_iadd (zat dd_J6_bitCount_0f7a4 30 rfl) ?_
  refine z_let (fun x4 => ?_)
  refine z_istore_n (lv' := [(0, .int x4)]) (zat dd_J6_bitCount_0f7a4 31 rfl) rfl (by decide) rfl ?_
  refine z_iload_n 0 (zat dd_J6_bitCount_0f7a4 32 rfl) rfl rfl ?_
  refine z_iload_n 0 (zat dd_J6_bitCount_0f7a4 33 rfl) rfl rfl ?_
  refine z_bipush (x := 16) (zat dd_J6_bitCount_0f7a4 34 rfl) (by decide) ?_
  refine z_iushr (zat dd_J6_bitCount_0f7a4 35 rfl) ?_
  refine z_iadd (zat dd_J6_bitCount_0f7a4 36 rfl) ?_
  refine z_let (fun x5 => ?_)
  refine z_istore_n (lv' := [(0, .int x5)]) (zat dd_J6_bitCount_0f7a4 37 rfl) rfl (by decide) rfl ?_
  refine z_iload_n 0 (zat dd_J6_bitCount_0f7a4 38 rfl) rfl rfl ?_
  refine z_bipush (x := 63) (zat dd_J6_bitCount_0f7a4 39 rfl) (by decide) ?_
  refine z_iand (zat dd_J6_bitCount_0f7a4 40 rfl) ?_
  exact z_iret rfl (zat dd_J6_bitCount_0f7a4 41 rfl)
/-! java/lang/Math.max(II)I -/
def L_J9_max_7cf53 : List (Nat × Instr × Nat) := [(0, .iload_n 0, 1), (1, .iload_n 1, 1), (2, .if_icmp .lt 7, 3), (5, .iload_n 0, 1), (6, .goto 4, 3), (9, .iload_n 1, 1), (10, .ireturn, 1)]
theorem dd_J9_max_7cf53 : ∀ q ∈ L_J9_max_7cf53, decode cJ9_max_7cf53 q.1 = .ok q.2 := by decide +kernel
abbrev M_J9_max_7cf53 : zM := (cJ9_max_7cf53, RJ9, "max", 2, some .int, 0, 0, 0)
theorem u_J9_max_7cf53 : zCal yJ9_max_7cf53 (M_J9_max_7cf53) 2 := ⟨zmem 607 (by decide +kernel) rfl, zmem 64 (by decide +kernel) rfl, by decide +kernel, by decide⟩
theorem qi_J9_max_7cf53 : Cond.static yJ9_max_7cf53 ∈ zTb := zmem 606 (by decide +kernel) rfl
def f_J9_max_7cf53_10 (t0 : Int32) (h : zH) : zR :=
  zrI t0 h
set_option maxRecDepth 100000 in
set_option maxHeartbeats 4000000 in
theorem zb_J9_max_7cf53_10 (Y : zY) (t0 : Int32) (h : zH) : Z Y M_J9_max_7cf53 0 0 10 [] [.int t0] h (f_J9_max_7cf53_10 t0 h) := by
  rw [f_J9_max_7cf53_10]
  exact z_iret rfl (zat dd_J9_max_7cf53 6 rfl)
def f_J9_max_7cf53 (v0 : Int32) (v1 : Int32) (h : zH) : zR :=
  if v0 < v1 then
  f_J9_max_7cf53_10 v1 h
  else
  f_J9_max_7cf53_10 v0 h
set_option maxRecDepth 100000 in
set_option maxHeartbeats 4000000 in
theorem m_J9_max_7cf53 (l : Launch) (D : zD) (v0 : Int32) (v1 : Int32) (h : zH) : zMet l D yJ9_max_7cf53 M_J9_max_7cf53 [.int v0, .int v1] h (f_J9_max_7cf53 v0 v1 h) := by
  refine zMet.of (by decide +kernel) ⟨rfl, rfl⟩ (Nat.le_of_ble_eq_true rfl) (fun Y hl hD => ?_)
  show Z Y M_J9_max_7cf53 0 0 0 [(0, .int v0), (1, .int v1)] [] h _
  rw [f_J9_max_7cf53]
  refine z_iload_n 0 (zat dd_J9_max_7cf53 0 rfl) rfl rfl ?_
  refine z_iload_n 1 (zat dd_J9_max_7cf53 1 rfl) rfl rfl ?_
  refine z_icmp_lt (tgt := 9) (zat dd_J9_max_7cf53 2 rfl) (by decide) ?_ ?_
  · refine z_iload_n 1 (zat dd_J9_max_7cf53 5 rfl) rfl rfl ?_
    refine z_sub [] rfl ?_
    exact zb_J9_max_7cf53_10 Y v1 h
  · refine z_iload_n 0 (zat dd_J9_max_7cf53 3 rfl) rfl rfl ?_
    refine z_goto (tgt := 10) (zat dd_J9_max_7cf53 4 rfl) (by decide) ?_
    refine z_sub [] rfl ?_
    exact zb_J9_max_7cf53_10 Y v0 h
/-! java/lang/Math.min(II)I -/
def L_J9_min_7cf53 : List (Nat × Instr × Nat) := [(0, .iload_n 0, 1), (1, .iload_n 1, 1), (2, .if_icmp .gt 7, 3), (5, .iload_n 0, 1), (6, .goto 4, 3), (9, .iload_n 1, 1), (10, .ireturn, 1)]
theorem dd_J9_min_7cf53 : ∀ q ∈ L_J9_min_7cf53, decode cJ9_min_7cf53 q.1 = .ok q.2 := by decide +kernel
abbrev M_J9_min_7cf53 : zM := (cJ9_min_7cf53, RJ9, "min", 2, some .int, 0, 0, 0)
theorem u_J9_min_7cf53 : zCal yJ9_min_7cf53 (M_J9_min_7cf53) 2 := ⟨zmem 332 (by decide +kernel) rfl, zmem 64 (by decide +kernel) rfl, by decide +kernel, by decide⟩
theorem qi_J9_min_7cf53 : Cond.static yJ9_min_7cf53 ∈ zTb := zmem 331 (by decide +kernel) rfl
def f_J9_min_7cf53_10 (t0 : Int32) (h : zH) : zR :=
  zrI t0 h
set_option maxRecDepth 100000 in
set_option maxHeartbeats 4000000 in
theorem zb_J9_min_7cf53_10 (Y : zY) (t0 : Int32) (h : zH) : Z Y M_J9_min_7cf53 0 0 10 [] [.int t0] h (f_J9_min_7cf53_10 t0 h) := by
  rw [f_J9_min_7cf53_10]
  exact z_iret rfl (zat dd_J9_min_7cf53 6 rfl)
def f_J9_min_7cf53 (v0 : Int32) (v1 : Int32) (h : zH) : zR :=
  if v1 < v0 then
  f_J9_min_7cf53_10 v1 h
  else
  f_J9_min_7cf53_10 v0 h
set_option maxRecDepth 100000 in
set_option maxHeartbeats 4000000 in
theorem m_J9_min_7cf53 (l : Launch) (D : zD) (v0 : Int32) (v1 : Int32) (h : zH) : zMet l D yJ9_min_7cf53 M_J9_min_7cf53 [.int v0, .int v1] h (f_J9_min_7cf53 v0 v1 h) := by
  refine zMet.of (by decide +kernel) ⟨rfl, rfl⟩ (Nat.le_of_ble_eq_true rfl) (fun Y hl hD => ?_)
  show Z Y M_J9_min_7cf53 0 0 0 [(0, .int v0), (1, .int v1)] [] h _
  rw [f_J9_min_7cf53]
  refine z_iload_n 0 (zat dd_J9_min_7cf53 0 rfl) rfl rfl ?_
  refine z_iload_n 1 (zat dd_J9_min_7cf53 1 rfl) rfl rfl ?_
  refine z_icmp_gt (tgt := 9) (zat dd_J9_min_7cf53 2 rfl) (by decide) ?_ ?_
  · refine z_iload_n 1 (zat dd_J9_min_7cf53 5 rfl) rfl rfl ?_
    refine z_sub [] rfl ?_
    exact zb_J9_min_7cf53_10 Y v1 h
  · refine z_iload_n 0 (zat dd_J9_min_7cf53 3 rfl) rfl rfl ?_
    refine z_goto (tgt := 10) (zat dd_J9_min_7cf53 4 rfl) (by decide) ?_
    refine z_sub [] rfl ?_
    exact zb_J9_min_7cf53_10 Y v0 h
/-! PaperDolls$Wear.wornTogether()I -/
def L_X8_wornTogether : List (Nat × Instr × Nat) := [(0, .iconst 0, 1), (1, .istore_n 1, 1), (2, .iconst 0, 1), (3, .istore_n 2, 1), (4, .iload_n 2, 1), (5, .bipush 8, 2), (7, .if_icmp .ge 18, 3), (10, .iload_n 1, 1), (11, .aload_n 0, 1), (12, .getfield 15, 3), (15, .iload_n 2, 1), (16, .iaload, 1), (17, .iadd, 1), (18, .istore_n 1, 1), (19, .iinc 2 1, 3), (22, .goto (-18), 3), (25, .iload_n 1, 1), (26, .ireturn, 1)]
theorem dd_X8_wornTogether : ∀ q ∈ L_X8_wornTogether, decode cX8_wornTogether q.1 = .ok q.2 := by decide +kernel
abbrev M_X8_wornTogether : zM := (cX8_wornTogether, RX8, "wornTogether", 3, some .int, 0, 0, 0)
theorem u_X8_wornTogether : zCal yX8_wornTogether (M_X8_wornTogether) 0 := ⟨zmem 788 (by decide +kernel) rfl, zmem 59 (by decide +kernel) rfl, by decide +kernel, by decide⟩
theorem qi_X8_wornTogether : Cond.instanceMethod yX8_wornTogether ∈ zTb := zmem 786 (by decide +kernel) rfl
theorem qs_X8_wornTogether : Cond.selects yX8_wornTogether.cls yX8_wornTogether yX8_wornTogether ∈ zTb := zmem 787 (by decide +kernel) rfl
def f_X8_wornTogether_4 : Nat → Nat → Int32 → Int32 → zH → zR
  | 0, _, _, _, _ => none
  | n + 1, v0, v1, v2, h =>
  if 8 ≤ v2 then
  zrI v1 h
  else
  zgR h v0 4 1 fun a1 =>
  zaI h a1 0 v2 fun x2 =>
  zlt (v1 + x2) fun x3 =>
  f_X8_wornTogether_4 n v0 x3 (v2 + 1) h
set_option maxRecDepth 100000 in
set_option maxHeartbeats 4000000 in
theorem zb_X8_wornTogether_4 (Y : zY) : ∀ (n : Nat) (v0 : Nat) (v1 : Int32) (v2 : Int32) (h : zH), Z Y M_X8_wornTogether 0 0 4 [(0, .ref v0), (1, .int v1), (2, .int v2)] [] h (f_X8_wornTogether_4 n v0 v1 v2 h) := by
  intro n
  induction n with
  | zero =>
    intro v0 v1 v2 h
    rw [f_X8_wornTogether_4]
    exact z_none
  | succ n ih =>
    intro v0 v1 v2 h
    rw [f_X8_wornTogether_4]
    refine z_iload_n 2 (zat dd_X8_wornTogether 4 rfl) rfl rfl ?_
    refine z_bipush (x := 8) (zat dd_X8_wornTogether 5 rfl) (by decide) ?_
    refine z_icmp_ge (tgt := 25) (zat dd_X8_wornTogether 6 rfl) (by decide) ?_ ?_
    · refine z_iload_n 1 (zat dd_X8_wornTogether 16 rfl) rfl rfl ?_
      exact z_iret rfl (zat dd_X8_wornTogether 17 rfl)
    · refine z_iload_n 1 (zat dd_X8_wornTogether 7 rfl) rfl rfl ?_
      refine z_aload_n 0 (zat dd_X8_wornTogether 8 rfl) rfl rfl ?_
      refine z_getR fl_X8_15 (zat dd_X8_wornTogether 9 rfl) (fun a1 => ?_)
      refine z_iload_n 2 (zat dd_X8_wornTogether 10 rfl) rfl rfl ?_
      refine z_iald (zat dd_X8_wornTogether 11 rfl) (fun x2 => ?_)
      refine z_iadd (zat dd_X8_wornTogether 12 rfl) ?_
      refine z_let (fun x3 => ?_)
      refine z_istore_n (lv' := [(1, .int x3), (0, .ref v0), (2, .int v2)]) (zat dd_X8_wornTogether 13 rfl) rfl (by decide) rfl ?_
      refine z_iinc (y := v2 + 1) (lv' := [(2, .int (v2 + 1)), (1, .int x3), (0, .ref v0)]) 2 (zat dd_X8_wornTogether 14 rfl) rfl rfl (by decide) rfl ?_
      refine z_goto (tgt := 4) (zat dd_X8_wornTogether 15 rfl) (by decide) ?_
      refine z_sub [2, 1, 0] rfl ?_
      exact ih v0 x3 (v2 + 1) h
def f_X8_wornTogether (v0 : Nat) (h : zH) : zR :=
  f_X8_wornTogether_4 zF v0 0 0 h
set_option maxRecDepth 100000 in
set_option maxHeartbeats 4000000 in
theorem m_X8_wornTogether (l : Launch) (D : zD) (v0 : Nat) (h : zH) : zMet l D yX8_wornTogether M_X8_wornTogether [.ref v0] h (f_X8_wornTogether v0 h) := by
  refine zMet.of (by decide +kernel) ⟨rfl, rfl⟩ (Nat.le_of_ble_eq_true rfl) (fun Y hl hD => ?_)
  show Z Y M_X8_wornTogether 0 0 0 [(0, .ref v0)] [] h _
  rw [f_X8_wornTogether]
  refine z_iconst (x := 0) (zat dd_X8_wornTogether 0 rfl) (by decide) ?_
  refine z_istore_n (lv' := [(1, .int 0), (0, .ref v0)]) (zat dd_X8_wornTogether 1 rfl) rfl (by decide) rfl ?_
  refine z_iconst (x := 0) (zat dd_X8_wornTogether 2 rfl) (by decide) ?_
  refine z_istore_n (lv' := [(2, .int 0), (1, .int 0), (0, .ref v0)]) (zat dd_X8_wornTogether 3 rfl) rfl (by decide) rfl ?_
  refine z_sub [2, 1, 0] rfl ?_
  exact zb_X8_wornTogether_4 Y zF v0 0 0 h
end
