section
-- ===== PART A: goes FIRST, ahead of the names: the tables' words, and 'selects' of the private methods out of them =====
/-- a private method of a class that the tables say can be made, by its rows of tables_1 -/
def lw_okq (q : MethodName × Nat) : Prop := (q.1.cls ≠ "java/lang/invoke/MethodHandle" ∧ q.1.cls ≠ "java/lang/invoke/VarHandle") ∧ Cond.instantiable q.1.cls q.2 ∈ tables_1 ∧ Cond.privateMethod q.1 ∈ tables_1 ∧ Cond.instanceMethod q.1 ∈ tables_1
theorem lw_p0 : lw_okq (⟨"WetPrints", "whyNoBlock", "(IIII)I"⟩, 8) := ⟨⟨by decide +kernel, by decide +kernel⟩, List.mem_of_getElem? (i := 18) (by decide +kernel), List.mem_of_getElem? (i := 322) (by decide +kernel), List.mem_of_getElem? (i := 323) (by decide +kernel)⟩
theorem lw_p1 : lw_okq (⟨"WetPrints", "refuse", "(I)I"⟩, 8) := ⟨⟨by decide +kernel, by decide +kernel⟩, List.mem_of_getElem? (i := 18) (by decide +kernel), List.mem_of_getElem? (i := 330) (by decide +kernel), List.mem_of_getElem? (i := 331) (by decide +kernel)⟩
theorem lw_p2 : lw_okq (⟨"WetPrints$History", "keptAt", "(I)LWetPrints$State;"⟩, 3) := ⟨⟨by decide +kernel, by decide +kernel⟩, List.mem_of_getElem? (i := 148) (by decide +kernel), List.mem_of_getElem? (i := 338) (by decide +kernel), List.mem_of_getElem? (i := 339) (by decide +kernel)⟩
theorem lw_p3 : lw_okq (⟨"WetPrints", "whyNoShift", "(III)I"⟩, 8) := ⟨⟨by decide +kernel, by decide +kernel⟩, List.mem_of_getElem? (i := 18) (by decide +kernel), List.mem_of_getElem? (i := 391) (by decide +kernel), List.mem_of_getElem? (i := 392) (by decide +kernel)⟩
theorem lw_p4 : lw_okq (⟨"WetPrints", "whyNoBehind", "(III)I"⟩, 8) := ⟨⟨by decide +kernel, by decide +kernel⟩, List.mem_of_getElem? (i := 18) (by decide +kernel), List.mem_of_getElem? (i := 414) (by decide +kernel), List.mem_of_getElem? (i := 415) (by decide +kernel)⟩
theorem lw_p5 : lw_okq (⟨"WetPrints$Search", "waysTo", "(I)I"⟩, 11) := ⟨⟨by decide +kernel, by decide +kernel⟩, List.mem_of_getElem? (i := 168) (by decide +kernel), List.mem_of_getElem? (i := 469) (by decide +kernel), List.mem_of_getElem? (i := 470) (by decide +kernel)⟩
theorem lw_p6 : lw_okq (⟨"WetPrints", "refuseOrder", "(I)I"⟩, 8) := ⟨⟨by decide +kernel, by decide +kernel⟩, List.mem_of_getElem? (i := 18) (by decide +kernel), List.mem_of_getElem? (i := 482) (by decide +kernel), List.mem_of_getElem? (i := 483) (by decide +kernel)⟩
theorem lw_p7 : lw_okq (⟨"WetPrints$Search", "judge", "(JI)V"⟩, 11) := ⟨⟨by decide +kernel, by decide +kernel⟩, List.mem_of_getElem? (i := 168) (by decide +kernel), List.mem_of_getElem? (i := 501) (by decide +kernel), List.mem_of_getElem? (i := 502) (by decide +kernel)⟩
theorem lw_p8 : lw_okq (⟨"WetPrints$Sheet", "cover", "(IJ)V"⟩, 3) := ⟨⟨by decide +kernel, by decide +kernel⟩, List.mem_of_getElem? (i := 83) (by decide +kernel), List.mem_of_getElem? (i := 546) (by decide +kernel), List.mem_of_getElem? (i := 547) (by decide +kernel)⟩
theorem lw_p9 : lw_okq (⟨"WetPrints$Sheet", "mix", "(IJ)V"⟩, 3) := ⟨⟨by decide +kernel, by decide +kernel⟩, List.mem_of_getElem? (i := 83) (by decide +kernel), List.mem_of_getElem? (i := 552) (by decide +kernel), List.mem_of_getElem? (i := 553) (by decide +kernel)⟩
theorem lw_p10 : lw_okq (⟨"WetPrints$Sheet", "polish", "(J)V"⟩, 3) := ⟨⟨by decide +kernel, by decide +kernel⟩, List.mem_of_getElem? (i := 83) (by decide +kernel), List.mem_of_getElem? (i := 557) (by decide +kernel), List.mem_of_getElem? (i := 558) (by decide +kernel)⟩
theorem lw_p11 : lw_okq (⟨"WetPrints$Search", "smearOf", "(IIJ)I"⟩, 11) := ⟨⟨by decide +kernel, by decide +kernel⟩, List.mem_of_getElem? (i := 168) (by decide +kernel), List.mem_of_getElem? (i := 561) (by decide +kernel), List.mem_of_getElem? (i := 562) (by decide +kernel)⟩
theorem lw_p12 : lw_okq (⟨"WetPrints", "blockOfBest", "(I)I"⟩, 8) := ⟨⟨by decide +kernel, by decide +kernel⟩, List.mem_of_getElem? (i := 18) (by decide +kernel), List.mem_of_getElem? (i := 573) (by decide +kernel), List.mem_of_getElem? (i := 574) (by decide +kernel)⟩
theorem lw_p13 : lw_okq (⟨"WetPrints", "whyNoPrint", "(II)I"⟩, 8) := ⟨⟨by decide +kernel, by decide +kernel⟩, List.mem_of_getElem? (i := 18) (by decide +kernel), List.mem_of_getElem? (i := 589) (by decide +kernel), List.mem_of_getElem? (i := 590) (by decide +kernel)⟩
theorem lw_p14 : lw_okq (⟨"WetPrints$HandWork", "smearOn", "(LWetPrints$Blocks;I)I"⟩, 7) := ⟨⟨by decide +kernel, by decide +kernel⟩, List.mem_of_getElem? (i := 77) (by decide +kernel), List.mem_of_getElem? (i := 604) (by decide +kernel), List.mem_of_getElem? (i := 605) (by decide +kernel)⟩
theorem lw_p15 : lw_okq (⟨"WetPrints", "faultOfText", "()I"⟩, 8) := ⟨⟨by decide +kernel, by decide +kernel⟩, List.mem_of_getElem? (i := 18) (by decide +kernel), List.mem_of_getElem? (i := 664) (by decide +kernel), List.mem_of_getElem? (i := 665) (by decide +kernel)⟩
def lw_privs_1 : List (MethodName × Nat) := [(⟨"WetPrints", "whyNoBlock", "(IIII)I"⟩, 8), (⟨"WetPrints", "refuse", "(I)I"⟩, 8), (⟨"WetPrints$History", "keptAt", "(I)LWetPrints$State;"⟩, 3), (⟨"WetPrints", "whyNoShift", "(III)I"⟩, 8), (⟨"WetPrints", "whyNoBehind", "(III)I"⟩, 8), (⟨"WetPrints$Search", "waysTo", "(I)I"⟩, 11), (⟨"WetPrints", "refuseOrder", "(I)I"⟩, 8), (⟨"WetPrints$Search", "judge", "(JI)V"⟩, 11), (⟨"WetPrints$Sheet", "cover", "(IJ)V"⟩, 3), (⟨"WetPrints$Sheet", "mix", "(IJ)V"⟩, 3), (⟨"WetPrints$Sheet", "polish", "(J)V"⟩, 3), (⟨"WetPrints$Search", "smearOf", "(IIJ)I"⟩, 11), (⟨"WetPrints", "blockOfBest", "(I)I"⟩, 8), (⟨"WetPrints", "whyNoPrint", "(II)I"⟩, 8), (⟨"WetPrints$HandWork", "smearOn", "(LWetPrints$Blocks;I)I"⟩, 7), (⟨"WetPrints", "faultOfText", "()I"⟩, 8)]
theorem lw_r1 : ∀ q ∈ lw_privs_1, lw_okq q := List.forall_mem_cons.mpr ⟨lw_p0, List.forall_mem_cons.mpr ⟨lw_p1, List.forall_mem_cons.mpr ⟨lw_p2, List.forall_mem_cons.mpr ⟨lw_p3, List.forall_mem_cons.mpr ⟨lw_p4, List.forall_mem_cons.mpr ⟨lw_p5, List.forall_mem_cons.mpr ⟨lw_p6, List.forall_mem_cons.mpr ⟨lw_p7, List.forall_mem_cons.mpr ⟨lw_p8, List.forall_mem_cons.mpr ⟨lw_p9, List.forall_mem_cons.mpr ⟨lw_p10, List.forall_mem_cons.mpr ⟨lw_p11, List.forall_mem_cons.mpr ⟨lw_p12, List.forall_mem_cons.mpr ⟨lw_p13, List.forall_mem_cons.mpr ⟨lw_p14, List.forall_mem_cons.mpr ⟨lw_p15, fun _ h => absurd h List.not_mem_nil⟩⟩⟩⟩⟩⟩⟩⟩⟩⟩⟩⟩⟩⟩⟩⟩
theorem lw_p16 : lw_okq (⟨"WetPrints$OrderReader", "begins", "(I)Z"⟩, 10) := ⟨⟨by decide +kernel, by decide +kernel⟩, List.mem_of_getElem? (i := 253) (by decide +kernel), List.mem_of_getElem? (i := 676) (by decide +kernel), List.mem_of_getElem? (i := 677) (by decide +kernel)⟩
theorem lw_p17 : lw_okq (⟨"WetPrints$OrderReader", "startNumber", "()V"⟩, 10) := ⟨⟨by decide +kernel, by decide +kernel⟩, List.mem_of_getElem? (i := 253) (by decide +kernel), List.mem_of_getElem? (i := 683) (by decide +kernel), List.mem_of_getElem? (i := 684) (by decide +kernel)⟩
theorem lw_p18 : lw_okq (⟨"WetPrints$OrderReader", "figure", "(I)Z"⟩, 10) := ⟨⟨by decide +kernel, by decide +kernel⟩, List.mem_of_getElem? (i := 253) (by decide +kernel), List.mem_of_getElem? (i := 687) (by decide +kernel), List.mem_of_getElem? (i := 688) (by decide +kernel)⟩
theorem lw_p19 : lw_okq (⟨"WetPrints$OrderReader", "endNumber", "()V"⟩, 10) := ⟨⟨by decide +kernel, by decide +kernel⟩, List.mem_of_getElem? (i := 253) (by decide +kernel), List.mem_of_getElem? (i := 691) (by decide +kernel), List.mem_of_getElem? (i := 692) (by decide +kernel)⟩
theorem lw_p20 : lw_okq (⟨"WetPrints$OrderReader", "minus", "()Z"⟩, 10) := ⟨⟨by decide +kernel, by decide +kernel⟩, List.mem_of_getElem? (i := 253) (by decide +kernel), List.mem_of_getElem? (i := 696) (by decide +kernel), List.mem_of_getElem? (i := 697) (by decide +kernel)⟩
theorem lw_p21 : lw_okq (⟨"WetPrints$OrderReader", "endOrder", "()Z"⟩, 10) := ⟨⟨by decide +kernel, by decide +kernel⟩, List.mem_of_getElem? (i := 253) (by decide +kernel), List.mem_of_getElem? (i := 700) (by decide +kernel), List.mem_of_getElem? (i := 701) (by decide +kernel)⟩
theorem lw_p22 : lw_okq (⟨"WetPrints", "doText", "()I"⟩, 8) := ⟨⟨by decide +kernel, by decide +kernel⟩, List.mem_of_getElem? (i := 18) (by decide +kernel), List.mem_of_getElem? (i := 708) (by decide +kernel), List.mem_of_getElem? (i := 709) (by decide +kernel)⟩
theorem lw_p23 : lw_okq (⟨"WetPrints", "doOrder", "()Z"⟩, 8) := ⟨⟨by decide +kernel, by decide +kernel⟩, List.mem_of_getElem? (i := 18) (by decide +kernel), List.mem_of_getElem? (i := 712) (by decide +kernel), List.mem_of_getElem? (i := 713) (by decide +kernel)⟩
theorem lw_p24 : lw_okq (⟨"WetPrintsModel", "refuses", "(I)I"⟩, 24) := ⟨⟨by decide +kernel, by decide +kernel⟩, List.mem_of_getElem? (i := 740) (by decide +kernel), List.mem_of_getElem? (i := 823) (by decide +kernel), List.mem_of_getElem? (i := 824) (by decide +kernel)⟩
theorem lw_p25 : lw_okq (⟨"WetPrintsModel", "hold", "()V"⟩, 24) := ⟨⟨by decide +kernel, by decide +kernel⟩, List.mem_of_getElem? (i := 740) (by decide +kernel), List.mem_of_getElem? (i := 831) (by decide +kernel), List.mem_of_getElem? (i := 832) (by decide +kernel)⟩
theorem lw_p26 : lw_okq (⟨"WetPrintsModel", "doBlock", "(IIII)I"⟩, 24) := ⟨⟨by decide +kernel, by decide +kernel⟩, List.mem_of_getElem? (i := 740) (by decide +kernel), List.mem_of_getElem? (i := 835) (by decide +kernel), List.mem_of_getElem? (i := 836) (by decide +kernel)⟩
theorem lw_p27 : lw_okq (⟨"WetPrintsModel", "ends", "(I)I"⟩, 24) := ⟨⟨by decide +kernel, by decide +kernel⟩, List.mem_of_getElem? (i := 740) (by decide +kernel), List.mem_of_getElem? (i := 843) (by decide +kernel), List.mem_of_getElem? (i := 844) (by decide +kernel)⟩
theorem lw_p28 : lw_okq (⟨"WetPrintsModel", "push", "()V"⟩, 24) := ⟨⟨by decide +kernel, by decide +kernel⟩, List.mem_of_getElem? (i := 740) (by decide +kernel), List.mem_of_getElem? (i := 847) (by decide +kernel), List.mem_of_getElem? (i := 848) (by decide +kernel)⟩
theorem lw_p29 : lw_okq (⟨"WetPrintsModel", "doShifts", "(III)I"⟩, 24) := ⟨⟨by decide +kernel, by decide +kernel⟩, List.mem_of_getElem? (i := 740) (by decide +kernel), List.mem_of_getElem? (i := 855) (by decide +kernel), List.mem_of_getElem? (i := 856) (by decide +kernel)⟩
theorem lw_p30 : lw_okq (⟨"WetPrintsModel", "isBlock", "(I)Z"⟩, 24) := ⟨⟨by decide +kernel, by decide +kernel⟩, List.mem_of_getElem? (i := 740) (by decide +kernel), List.mem_of_getElem? (i := 859) (by decide +kernel), List.mem_of_getElem? (i := 860) (by decide +kernel)⟩
theorem lw_p31 : lw_okq (⟨"WetPrintsModel", "placeOf", "(I)I"⟩, 24) := ⟨⟨by decide +kernel, by decide +kernel⟩, List.mem_of_getElem? (i := 740) (by decide +kernel), List.mem_of_getElem? (i := 863) (by decide +kernel), List.mem_of_getElem? (i := 864) (by decide +kernel)⟩
def lw_privs_2 : List (MethodName × Nat) := [(⟨"WetPrints$OrderReader", "begins", "(I)Z"⟩, 10), (⟨"WetPrints$OrderReader", "startNumber", "()V"⟩, 10), (⟨"WetPrints$OrderReader", "figure", "(I)Z"⟩, 10), (⟨"WetPrints$OrderReader", "endNumber", "()V"⟩, 10), (⟨"WetPrints$OrderReader", "minus", "()Z"⟩, 10), (⟨"WetPrints$OrderReader", "endOrder", "()Z"⟩, 10), (⟨"WetPrints", "doText", "()I"⟩, 8), (⟨"WetPrints", "doOrder", "()Z"⟩, 8), (⟨"WetPrintsModel", "refuses", "(I)I"⟩, 24), (⟨"WetPrintsModel", "hold", "()V"⟩, 24), (⟨"WetPrintsModel", "doBlock", "(IIII)I"⟩, 24), (⟨"WetPrintsModel", "ends", "(I)I"⟩, 24), (⟨"WetPrintsModel", "push", "()V"⟩, 24), (⟨"WetPrintsModel", "doShifts", "(III)I"⟩, 24), (⟨"WetPrintsModel", "isBlock", "(I)Z"⟩, 24), (⟨"WetPrintsModel", "placeOf", "(I)I"⟩, 24)]
theorem lw_r2 : ∀ q ∈ lw_privs_2, lw_okq q := List.forall_mem_cons.mpr ⟨lw_p16, List.forall_mem_cons.mpr ⟨lw_p17, List.forall_mem_cons.mpr ⟨lw_p18, List.forall_mem_cons.mpr ⟨lw_p19, List.forall_mem_cons.mpr ⟨lw_p20, List.forall_mem_cons.mpr ⟨lw_p21, List.forall_mem_cons.mpr ⟨lw_p22, List.forall_mem_cons.mpr ⟨lw_p23, List.forall_mem_cons.mpr ⟨lw_p24, List.forall_mem_cons.mpr ⟨lw_p25, List.forall_mem_cons.mpr ⟨lw_p26, List.forall_mem_cons.mpr ⟨lw_p27, List.forall_mem_cons.mpr ⟨lw_p28, List.forall_mem_cons.mpr ⟨lw_p29, List.forall_mem_cons.mpr ⟨lw_p30, List.forall_mem_cons.mpr ⟨lw_p31, fun _ h => absurd h List.not_mem_nil⟩⟩⟩⟩⟩⟩⟩⟩⟩⟩⟩⟩⟩⟩⟩⟩
theorem lw_p32 : lw_okq (⟨"WetPrintsModel", "ofBlock", "(II)I"⟩, 24) := ⟨⟨by decide +kernel, by decide +kernel⟩, List.mem_of_getElem? (i := 740) (by decide +kernel), List.mem_of_getElem? (i := 867) (by decide +kernel), List.mem_of_getElem? (i := 868) (by decide +kernel)⟩
theorem lw_p33 : lw_okq (⟨"WetPrintsModel", "doBehind", "(III)I"⟩, 24) := ⟨⟨by decide +kernel, by decide +kernel⟩, List.mem_of_getElem? (i := 740) (by decide +kernel), List.mem_of_getElem? (i := 884) (by decide +kernel), List.mem_of_getElem? (i := 885) (by decide +kernel)⟩
theorem lw_p34 : lw_okq (⟨"WetPrintsModel", "ofAll", "(II)I"⟩, 24) := ⟨⟨by decide +kernel, by decide +kernel⟩, List.mem_of_getElem? (i := 740) (by decide +kernel), List.mem_of_getElem? (i := 896) (by decide +kernel), List.mem_of_getElem? (i := 897) (by decide +kernel)⟩
theorem lw_p35 : lw_okq (⟨"WetPrintsModel", "more", "(II)I"⟩, 24) := ⟨⟨by decide +kernel, by decide +kernel⟩, List.mem_of_getElem? (i := 740) (by decide +kernel), List.mem_of_getElem? (i := 908) (by decide +kernel), List.mem_of_getElem? (i := 909) (by decide +kernel)⟩
theorem lw_p36 : lw_okq (⟨"WetPrintsModel", "begin", "()V"⟩, 24) := ⟨⟨by decide +kernel, by decide +kernel⟩, List.mem_of_getElem? (i := 740) (by decide +kernel), List.mem_of_getElem? (i := 916) (by decide +kernel), List.mem_of_getElem? (i := 917) (by decide +kernel)⟩
theorem lw_p37 : lw_okq (⟨"WetPrintsModel", "isLawful", "()Z"⟩, 24) := ⟨⟨by decide +kernel, by decide +kernel⟩, List.mem_of_getElem? (i := 740) (by decide +kernel), List.mem_of_getElem? (i := 920) (by decide +kernel), List.mem_of_getElem? (i := 921) (by decide +kernel)⟩
theorem lw_p38 : lw_okq (⟨"WetPrintsModel", "goesOn", "()Z"⟩, 24) := ⟨⟨by decide +kernel, by decide +kernel⟩, List.mem_of_getElem? (i := 740) (by decide +kernel), List.mem_of_getElem? (i := 924) (by decide +kernel), List.mem_of_getElem? (i := 925) (by decide +kernel)⟩
theorem lw_p39 : lw_okq (⟨"WetPrintsModel", "exchange", "(II)V"⟩, 24) := ⟨⟨by decide +kernel, by decide +kernel⟩, List.mem_of_getElem? (i := 740) (by decide +kernel), List.mem_of_getElem? (i := 928) (by decide +kernel), List.mem_of_getElem? (i := 929) (by decide +kernel)⟩
theorem lw_p40 : lw_okq (⟨"WetPrintsModel", "asked", "(IIZ)I"⟩, 24) := ⟨⟨by decide +kernel, by decide +kernel⟩, List.mem_of_getElem? (i := 740) (by decide +kernel), List.mem_of_getElem? (i := 936) (by decide +kernel), List.mem_of_getElem? (i := 937) (by decide +kernel)⟩
theorem lw_p41 : lw_okq (⟨"WetPrintsModel", "isFound", "(IZ)Z"⟩, 24) := ⟨⟨by decide +kernel, by decide +kernel⟩, List.mem_of_getElem? (i := 740) (by decide +kernel), List.mem_of_getElem? (i := 940) (by decide +kernel), List.mem_of_getElem? (i := 941) (by decide +kernel)⟩
theorem lw_p42 : lw_okq (⟨"WetPrintsModel", "smearBy", "(I)I"⟩, 24) := ⟨⟨by decide +kernel, by decide +kernel⟩, List.mem_of_getElem? (i := 740) (by decide +kernel), List.mem_of_getElem? (i := 944) (by decide +kernel), List.mem_of_getElem? (i := 945) (by decide +kernel)⟩
theorem lw_p43 : lw_okq (⟨"WetPrintsModel", "printAll", "()V"⟩, 24) := ⟨⟨by decide +kernel, by decide +kernel⟩, List.mem_of_getElem? (i := 740) (by decide +kernel), List.mem_of_getElem? (i := 948) (by decide +kernel), List.mem_of_getElem? (i := 949) (by decide +kernel)⟩
theorem lw_p44 : lw_okq (⟨"WetPrintsModel", "clearSheet", "()V"⟩, 24) := ⟨⟨by decide +kernel, by decide +kernel⟩, List.mem_of_getElem? (i := 740) (by decide +kernel), List.mem_of_getElem? (i := 952) (by decide +kernel), List.mem_of_getElem? (i := 953) (by decide +kernel)⟩
theorem lw_p45 : lw_okq (⟨"WetPrintsModel", "printOn", "(II)V"⟩, 24) := ⟨⟨by decide +kernel, by decide +kernel⟩, List.mem_of_getElem? (i := 740) (by decide +kernel), List.mem_of_getElem? (i := 956) (by decide +kernel), List.mem_of_getElem? (i := 957) (by decide +kernel)⟩
theorem lw_p46 : lw_okq (⟨"WetPrintsModel", "hits", "()I"⟩, 24) := ⟨⟨by decide +kernel, by decide +kernel⟩, List.mem_of_getElem? (i := 740) (by decide +kernel), List.mem_of_getElem? (i := 960) (by decide +kernel), List.mem_of_getElem? (i := 961) (by decide +kernel)⟩
theorem lw_p47 : lw_okq (⟨"WetPrintsModel", "isNew", "(I)Z"⟩, 24) := ⟨⟨by decide +kernel, by decide +kernel⟩, List.mem_of_getElem? (i := 740) (by decide +kernel), List.mem_of_getElem? (i := 972) (by decide +kernel), List.mem_of_getElem? (i := 973) (by decide +kernel)⟩
def lw_privs_3 : List (MethodName × Nat) := [(⟨"WetPrintsModel", "ofBlock", "(II)I"⟩, 24), (⟨"WetPrintsModel", "doBehind", "(III)I"⟩, 24), (⟨"WetPrintsModel", "ofAll", "(II)I"⟩, 24), (⟨"WetPrintsModel", "more", "(II)I"⟩, 24), (⟨"WetPrintsModel", "begin", "()V"⟩, 24), (⟨"WetPrintsModel", "isLawful", "()Z"⟩, 24), (⟨"WetPrintsModel", "goesOn", "()Z"⟩, 24), (⟨"WetPrintsModel", "exchange", "(II)V"⟩, 24), (⟨"WetPrintsModel", "asked", "(IIZ)I"⟩, 24), (⟨"WetPrintsModel", "isFound", "(IZ)Z"⟩, 24), (⟨"WetPrintsModel", "smearBy", "(I)I"⟩, 24), (⟨"WetPrintsModel", "printAll", "()V"⟩, 24), (⟨"WetPrintsModel", "clearSheet", "()V"⟩, 24), (⟨"WetPrintsModel", "printOn", "(II)V"⟩, 24), (⟨"WetPrintsModel", "hits", "()I"⟩, 24), (⟨"WetPrintsModel", "isNew", "(I)Z"⟩, 24)]
theorem lw_r3 : ∀ q ∈ lw_privs_3, lw_okq q := List.forall_mem_cons.mpr ⟨lw_p32, List.forall_mem_cons.mpr ⟨lw_p33, List.forall_mem_cons.mpr ⟨lw_p34, List.forall_mem_cons.mpr ⟨lw_p35, List.forall_mem_cons.mpr ⟨lw_p36, List.forall_mem_cons.mpr ⟨lw_p37, List.forall_mem_cons.mpr ⟨lw_p38, List.forall_mem_cons.mpr ⟨lw_p39, List.forall_mem_cons.mpr ⟨lw_p40, List.forall_mem_cons.mpr ⟨lw_p41, List.forall_mem_cons.mpr ⟨lw_p42, List.forall_mem_cons.mpr ⟨lw_p43, List.forall_mem_cons.mpr ⟨lw_p44, List.forall_mem_cons.mpr ⟨lw_p45, List.forall_mem_cons.mpr ⟨lw_p46, List.forall_mem_cons.mpr ⟨lw_p47, fun _ h => absurd h List.not_mem_nil⟩⟩⟩⟩⟩⟩⟩⟩⟩⟩⟩⟩⟩⟩⟩⟩
theorem lw_p48 : lw_okq (⟨"WetPrintsModel", "doPrints", "(II)I"⟩, 24) := ⟨⟨by decide +kernel, by decide +kernel⟩, List.mem_of_getElem? (i := 740) (by decide +kernel), List.mem_of_getElem? (i := 980) (by decide +kernel), List.mem_of_getElem? (i := 981) (by decide +kernel)⟩
theorem lw_p49 : lw_okq (⟨"WetPrintsModel", "takeSheet", "()V"⟩, 24) := ⟨⟨by decide +kernel, by decide +kernel⟩, List.mem_of_getElem? (i := 740) (by decide +kernel), List.mem_of_getElem? (i := 984) (by decide +kernel), List.mem_of_getElem? (i := 985) (by decide +kernel)⟩
theorem lw_p50 : lw_okq (⟨"WetPrintsModel", "giveSheet", "()V"⟩, 24) := ⟨⟨by decide +kernel, by decide +kernel⟩, List.mem_of_getElem? (i := 740) (by decide +kernel), List.mem_of_getElem? (i := 988) (by decide +kernel), List.mem_of_getElem? (i := 989) (by decide +kernel)⟩
theorem lw_p51 : lw_okq (⟨"WetPrintsModel", "doNews", "()I"⟩, 24) := ⟨⟨by decide +kernel, by decide +kernel⟩, List.mem_of_getElem? (i := 740) (by decide +kernel), List.mem_of_getElem? (i := 996) (by decide +kernel), List.mem_of_getElem? (i := 997) (by decide +kernel)⟩
theorem lw_p52 : lw_okq (⟨"WetPrintsModel", "ofCell", "(II)I"⟩, 24) := ⟨⟨by decide +kernel, by decide +kernel⟩, List.mem_of_getElem? (i := 740) (by decide +kernel), List.mem_of_getElem? (i := 1004) (by decide +kernel), List.mem_of_getElem? (i := 1005) (by decide +kernel)⟩
theorem lw_p53 : lw_okq (⟨"WetPrintsModel", "wet", "(I)I"⟩, 24) := ⟨⟨by decide +kernel, by decide +kernel⟩, List.mem_of_getElem? (i := 740) (by decide +kernel), List.mem_of_getElem? (i := 1008) (by decide +kernel), List.mem_of_getElem? (i := 1009) (by decide +kernel)⟩
theorem lw_p54 : lw_okq (⟨"WetPrintsModel", "ofHand", "(I)I"⟩, 24) := ⟨⟨by decide +kernel, by decide +kernel⟩, List.mem_of_getElem? (i := 740) (by decide +kernel), List.mem_of_getElem? (i := 1016) (by decide +kernel), List.mem_of_getElem? (i := 1017) (by decide +kernel)⟩
theorem lw_p55 : lw_okq (⟨"WetPrintsModel", "here", "()I"⟩, 24) := ⟨⟨by decide +kernel, by decide +kernel⟩, List.mem_of_getElem? (i := 740) (by decide +kernel), List.mem_of_getElem? (i := 1036) (by decide +kernel), List.mem_of_getElem? (i := 1037) (by decide +kernel)⟩
theorem lw_p56 : lw_okq (⟨"WetPrintsModel", "must", "(Z)V"⟩, 24) := ⟨⟨by decide +kernel, by decide +kernel⟩, List.mem_of_getElem? (i := 740) (by decide +kernel), List.mem_of_getElem? (i := 1040) (by decide +kernel), List.mem_of_getElem? (i := 1041) (by decide +kernel)⟩
theorem lw_p57 : lw_okq (⟨"WetPrintsModel", "readOrder", "()V"⟩, 24) := ⟨⟨by decide +kernel, by decide +kernel⟩, List.mem_of_getElem? (i := 740) (by decide +kernel), List.mem_of_getElem? (i := 1044) (by decide +kernel), List.mem_of_getElem? (i := 1045) (by decide +kernel)⟩
theorem lw_p58 : lw_okq (⟨"WetPrintsModel", "number", "(Z)I"⟩, 24) := ⟨⟨by decide +kernel, by decide +kernel⟩, List.mem_of_getElem? (i := 740) (by decide +kernel), List.mem_of_getElem? (i := 1051) (by decide +kernel), List.mem_of_getElem? (i := 1052) (by decide +kernel)⟩
theorem lw_p59 : lw_okq (⟨"WetPrintsModel", "isFigure", "()Z"⟩, 24) := ⟨⟨by decide +kernel, by decide +kernel⟩, List.mem_of_getElem? (i := 740) (by decide +kernel), List.mem_of_getElem? (i := 1055) (by decide +kernel), List.mem_of_getElem? (i := 1056) (by decide +kernel)⟩
theorem lw_p60 : lw_okq (⟨"WetPrintsModel", "doOrder", "(I)I"⟩, 24) := ⟨⟨by decide +kernel, by decide +kernel⟩, List.mem_of_getElem? (i := 740) (by decide +kernel), List.mem_of_getElem? (i := 1059) (by decide +kernel), List.mem_of_getElem? (i := 1060) (by decide +kernel)⟩
theorem lw_p61 : lw_okq (⟨"WetPrintsModel", "toldOf", "(I)I"⟩, 24) := ⟨⟨by decide +kernel, by decide +kernel⟩, List.mem_of_getElem? (i := 740) (by decide +kernel), List.mem_of_getElem? (i := 1067) (by decide +kernel), List.mem_of_getElem? (i := 1068) (by decide +kernel)⟩
theorem lw_p62 : lw_okq (⟨"WetPrintsModel", "mix", "(I)V"⟩, 24) := ⟨⟨by decide +kernel, by decide +kernel⟩, List.mem_of_getElem? (i := 740) (by decide +kernel), List.mem_of_getElem? (i := 1076) (by decide +kernel), List.mem_of_getElem? (i := 1077) (by decide +kernel)⟩
def lw_privs_4 : List (MethodName × Nat) := [(⟨"WetPrintsModel", "doPrints", "(II)I"⟩, 24), (⟨"WetPrintsModel", "takeSheet", "()V"⟩, 24), (⟨"WetPrintsModel", "giveSheet", "()V"⟩, 24), (⟨"WetPrintsModel", "doNews", "()I"⟩, 24), (⟨"WetPrintsModel", "ofCell", "(II)I"⟩, 24), (⟨"WetPrintsModel", "wet", "(I)I"⟩, 24), (⟨"WetPrintsModel", "ofHand", "(I)I"⟩, 24), (⟨"WetPrintsModel", "here", "()I"⟩, 24), (⟨"WetPrintsModel", "must", "(Z)V"⟩, 24), (⟨"WetPrintsModel", "readOrder", "()V"⟩, 24), (⟨"WetPrintsModel", "number", "(Z)I"⟩, 24), (⟨"WetPrintsModel", "isFigure", "()Z"⟩, 24), (⟨"WetPrintsModel", "doOrder", "(I)I"⟩, 24), (⟨"WetPrintsModel", "toldOf", "(I)I"⟩, 24), (⟨"WetPrintsModel", "mix", "(I)V"⟩, 24)]
theorem lw_r4 : ∀ q ∈ lw_privs_4, lw_okq q := List.forall_mem_cons.mpr ⟨lw_p48, List.forall_mem_cons.mpr ⟨lw_p49, List.forall_mem_cons.mpr ⟨lw_p50, List.forall_mem_cons.mpr ⟨lw_p51, List.forall_mem_cons.mpr ⟨lw_p52, List.forall_mem_cons.mpr ⟨lw_p53, List.forall_mem_cons.mpr ⟨lw_p54, List.forall_mem_cons.mpr ⟨lw_p55, List.forall_mem_cons.mpr ⟨lw_p56, List.forall_mem_cons.mpr ⟨lw_p57, List.forall_mem_cons.mpr ⟨lw_p58, List.forall_mem_cons.mpr ⟨lw_p59, List.forall_mem_cons.mpr ⟨lw_p60, List.forall_mem_cons.mpr ⟨lw_p61, List.forall_mem_cons.mpr ⟨lw_p62, fun _ h => absurd h List.not_mem_nil⟩⟩⟩⟩⟩⟩⟩⟩⟩⟩⟩⟩⟩⟩⟩
def lw_privs : List (MethodName × Nat) := lw_privs_1 ++ (lw_privs_2 ++ (lw_privs_3 ++ (lw_privs_4)))
def lw_tbl : List Cond := k2_sels lw_privs ++ tables_1
theorem lw_privs_ok : ∀ q ∈ lw_privs, lw_okq q := by
  show ∀ q ∈ lw_privs_1 ++ (lw_privs_2 ++ (lw_privs_3 ++ (lw_privs_4))), lw_okq q
  exact List.forall_mem_append.mpr ⟨lw_r1, List.forall_mem_append.mpr ⟨lw_r2, List.forall_mem_append.mpr ⟨lw_r3, lw_r4⟩⟩⟩
end
section
/-! ===== BEGIN words of one list among another's, by their places ===== -/
theorem goodIn_r {big : List Cond} (ws : List Cond) (ps : List Nat) (hp : ws = ps.filterMap (fun i => big[i]?)) (h : ws.all goodWord = true) : GoodIn big ws := by
  intro w hw
  have h1 := List.all_eq_true.mp h w hw
  rw [hp] at hw
  obtain ⟨i, -, hi⟩ := List.mem_filterMap.mp hw
  have hm : w ∈ big := by first | exact List.mem_of_getElem? hi | exact List.getElem?_mem hi
  exact ⟨hm, good_of_word h1⟩
theorem goodIn_app {big a b : List Cond} (ha : GoodIn big a) (hb : GoodIn big b) : GoodIn big (a ++ b) := fun w h => (List.mem_append.mp h).elim (ha w) (hb w)
theorem goodIn_ca {big a b : List Cond} {c : Cond} (ha : GoodIn big (c :: a)) (hb : GoodIn big b) : GoodIn big (c :: (a ++ b)) := fun w h => (List.mem_cons.mp h).elim (fun e => ha w (List.mem_cons.mpr (Or.inl e))) (fun h => (List.mem_append.mp h).elim (fun h => ha w (List.mem_cons.mpr (Or.inr h))) (hb w))
theorem goodIn_sub {big ws : List Cond} (hm : ∀ w ∈ ws, w ∈ big) (h : ws.all goodWord = true) : GoodIn big ws := fun w hw => ⟨hm w hw, good_of_word (List.all_eq_true.mp h w hw)⟩
/-! ===== END ===== -/

/-! ===== BEGIN printed: names, fields, word lists, decode rows ===== -/
def RX0 : String := "WetPrints$Blocks"
def TX0 : u_T := fun k => match k with
  | 0 => ("WetPrints$Blocks", "count", "I", false)
  | 1 => ("WetPrints$Blocks", "kinds", "[I", true)
  | 2 => ("WetPrints$Blocks", "colours", "[I", true)
  | 3 => ("WetPrints$Blocks", "drys", "[I", true)
  | 4 => ("WetPrints$Blocks", "areas", "[I", true)
  | 5 => ("WetPrints$Blocks", "xs", "[I", true)
  | 6 => ("WetPrints$Blocks", "ys", "[I", true)
  | 7 => ("WetPrints$Blocks", "places", "[I", true)
  | _ => ("WetPrints$Blocks", "behinds", "[I", true)
def tyX0 : Nat → FieldType := fun k => match k with
  | 0 => .int
  | 1 => .array .int
  | 2 => .array .int
  | 3 => .array .int
  | 4 => .array .int
  | 5 => .array .int
  | 6 => .array .int
  | 7 => .array .int
  | _ => .array .int
abbrev wsX00 : List Cond := u_ws RX0 TX0 9
theorem nmX0 : ∀ a, a < 9 → ∀ b, b < 9 → a ≠ b → (TX0 a).2.1 ≠ (TX0 b).2.1 := by decide +kernel
theorem tyX0_ok : ∀ k, k < 9 → parseFieldDescriptor (TX0 k).2.2.1 = some (tyX0 k) := by decide +kernel
abbrev cX0_init : ByteArray := prog_2_method_1_code
def yX0_init : MethodName := ⟨RX0, "<init>", "()V"⟩
abbrev cX0_has : ByteArray := prog_2_method_2_code
def yX0_has : MethodName := ⟨RX0, "has", "(I)Z"⟩
abbrev cX0_areUnlike : ByteArray := prog_2_method_3_code
def yX0_areUnlike : MethodName := ⟨RX0, "areUnlike", "(II)Z"⟩
abbrev cX0_placeOf : ByteArray := prog_2_method_4_code
def yX0_placeOf : MethodName := ⟨RX0, "placeOf", "(I)I"⟩
abbrev cX0_add : ByteArray := prog_2_method_5_code
def yX0_add : MethodName := ⟨RX0, "add", "(IIII)I"⟩
abbrev cX0_move : ByteArray := prog_2_method_6_code
def yX0_move : MethodName := ⟨RX0, "move", "(III)V"⟩
abbrev cX0_tellBehind : ByteArray := prog_2_method_7_code
def yX0_tellBehind : MethodName := ⟨RX0, "tellBehind", "(III)I"⟩
abbrev cX0_mayFollow : ByteArray := prog_2_method_8_code
def yX0_mayFollow : MethodName := ⟨RX0, "mayFollow", "(II)Z"⟩
abbrev cX0_printOn : ByteArray := prog_2_method_9_code
def yX0_printOn : MethodName := ⟨RX0, "printOn", "(LWetPrints$Sheet;I)V"⟩
abbrev cX0_smearBy : ByteArray := prog_2_method_10_code
def yX0_smearBy : MethodName := ⟨RX0, "smearBy", "(III)I"⟩
abbrev cX0_copyFrom : ByteArray := prog_2_method_11_code
def yX0_copyFrom : MethodName := ⟨RX0, "copyFrom", "(LWetPrints$Blocks;)V"⟩
def RX1 : String := "WetPrints$Cells"
def TX1 : u_T := fun k => match k with
  | _ => ("", "", "", false)
def tyX1 : Nat → FieldType := fun k => match k with
  | _ => .int
abbrev wsX10 : List Cond := u_ws RX1 TX1 0
theorem nmX1 : ∀ a, a < 0 → ∀ b, b < 0 → a ≠ b → (TX1 a).2.1 ≠ (TX1 b).2.1 := by decide +kernel
theorem tyX1_ok : ∀ k, k < 0 → parseFieldDescriptor (TX1 k).2.2.1 = some (tyX1 k) := by decide +kernel
abbrev cX1_nibble : ByteArray := prog_3_method_2_code
def yX1_nibble : MethodName := ⟨RX1, "nibble", "(JI)I"⟩
abbrev cX1_withNibble : ByteArray := prog_3_method_3_code
def yX1_withNibble : MethodName := ⟨RX1, "withNibble", "(JII)J"⟩
abbrev cX1_spread : ByteArray := prog_3_method_4_code
def yX1_spread : MethodName := ⟨RX1, "spread", "(I)J"⟩
abbrev cX1_filled : ByteArray := prog_3_method_5_code
def yX1_filled : MethodName := ⟨RX1, "filled", "(J)J"⟩
abbrev cX1_alike : ByteArray := prog_3_method_6_code
def yX1_alike : MethodName := ⟨RX1, "alike", "(JI)I"⟩
abbrev cX1_moved : ByteArray := prog_3_method_7_code
def yX1_moved : MethodName := ⟨RX1, "moved", "(III)I"⟩
def RX2 : String := "WetPrints$HandWork"
def TX2 : u_T := fun k => match k with
  | 0 => ("WetPrints$HandWork", "sheet", "LWetPrints$Sheet;", true)
  | 1 => ("WetPrints$HandWork", "hour", "I", false)
  | 2 => ("WetPrints$HandWork", "count", "I", false)
  | 3 => ("WetPrints$HandWork", "allSmear", "I", false)
  | 4 => ("WetPrints$HandWork", "numbers", "[I", true)
  | 5 => ("WetPrints$HandWork", "hours", "[I", true)
  | _ => ("WetPrints$HandWork", "places", "[I", true)
def tyX2 : Nat → FieldType := fun k => match k with
  | 0 => .object "WetPrints$Sheet"
  | 1 => .int
  | 2 => .int
  | 3 => .int
  | 4 => .array .int
  | 5 => .array .int
  | _ => .array .int
abbrev wsX20 : List Cond := u_ws RX2 TX2 7
theorem nmX2 : ∀ a, a < 7 → ∀ b, b < 7 → a ≠ b → (TX2 a).2.1 ≠ (TX2 b).2.1 := by decide +kernel
theorem tyX2_ok : ∀ k, k < 7 → parseFieldDescriptor (TX2 k).2.2.1 = some (tyX2 k) := by decide +kernel
abbrev cX2_init : ByteArray := prog_4_method_1_code
def yX2_init : MethodName := ⟨RX2, "<init>", "()V"⟩
abbrev cX2_printNext : ByteArray := prog_4_method_2_code
def yX2_printNext : MethodName := ⟨RX2, "printNext", "(LWetPrints$Blocks;II)I"⟩
abbrev cX2_smearOn : ByteArray := prog_4_method_3_code
def yX2_smearOn : MethodName := ⟨RX2, "smearOn", "(LWetPrints$Blocks;I)I"⟩
abbrev cX2_printed : ByteArray := prog_4_method_4_code
def yX2_printed : MethodName := ⟨RX2, "printed", "()I"⟩
abbrev cX2_wetHours : ByteArray := prog_4_method_5_code
def yX2_wetHours : MethodName := ⟨RX2, "wetHours", "(LWetPrints$Blocks;I)I"⟩
abbrev cX2_wetCells : ByteArray := prog_4_method_6_code
def yX2_wetCells : MethodName := ⟨RX2, "wetCells", "(LWetPrints$Blocks;)I"⟩
abbrev cX2_renew : ByteArray := prog_4_method_7_code
def yX2_renew : MethodName := ⟨RX2, "renew", "()I"⟩
abbrev cX2_copyFrom : ByteArray := prog_4_method_8_code
def yX2_copyFrom : MethodName := ⟨RX2, "copyFrom", "(LWetPrints$HandWork;)V"⟩
def RX3 : String := "WetPrints$History"
def TX3 : u_T := fun k => match k with
  | 0 => ("WetPrints$History", "ring", "[LWetPrints$State;", true)
  | 1 => ("WetPrints$History", "next", "I", false)
  | _ => ("WetPrints$History", "count", "I", false)
def tyX3 : Nat → FieldType := fun k => match k with
  | 0 => .array (.object "WetPrints$State")
  | 1 => .int
  | _ => .int
abbrev wsX30 : List Cond := u_ws RX3 TX3 3
theorem nmX3 : ∀ a, a < 3 → ∀ b, b < 3 → a ≠ b → (TX3 a).2.1 ≠ (TX3 b).2.1 := by decide +kernel
theorem tyX3_ok : ∀ k, k < 3 → parseFieldDescriptor (TX3 k).2.2.1 = some (tyX3 k) := by decide +kernel
abbrev cX3_init : ByteArray := prog_5_method_1_code
def yX3_init : MethodName := ⟨RX3, "<init>", "()V"⟩
abbrev cX3_keep : ByteArray := prog_5_method_2_code
def yX3_keep : MethodName := ⟨RX3, "keep", "(LWetPrints$State;)V"⟩
abbrev cX3_keptAt : ByteArray := prog_5_method_3_code
def yX3_keptAt : MethodName := ⟨RX3, "keptAt", "(I)LWetPrints$State;"⟩
abbrev cX3_restore : ByteArray := prog_5_method_4_code
def yX3_restore : MethodName := ⟨RX3, "restore", "(LWetPrints$State;)V"⟩
def RX4 : String := "WetPrints$OrderReader"
def TX4 : u_T := fun k => match k with
  | 0 => ("WetPrints$OrderReader", "letter", "I", false)
  | 1 => ("WetPrints$OrderReader", "numbers", "[I", true)
  | 2 => ("WetPrints$OrderReader", "hasOrder", "Z", false)
  | 3 => ("WetPrints$OrderReader", "inside", "Z", false)
  | 4 => ("WetPrints$OrderReader", "any", "Z", false)
  | 5 => ("WetPrints$OrderReader", "wanted", "I", false)
  | 6 => ("WetPrints$OrderReader", "ended", "I", false)
  | 7 => ("WetPrints$OrderReader", "value", "I", false)
  | 8 => ("WetPrints$OrderReader", "figures", "I", false)
  | _ => ("WetPrints$OrderReader", "negative", "Z", false)
def tyX4 : Nat → FieldType := fun k => match k with
  | 0 => .int
  | 1 => .array .int
  | 2 => .boolean
  | 3 => .boolean
  | 4 => .boolean
  | 5 => .int
  | 6 => .int
  | 7 => .int
  | 8 => .int
  | _ => .boolean
abbrev wsX40 : List Cond := u_ws RX4 TX4 10
theorem nmX4 : ∀ a, a < 10 → ∀ b, b < 10 → a ≠ b → (TX4 a).2.1 ≠ (TX4 b).2.1 := by decide +kernel
theorem tyX4_ok : ∀ k, k < 10 → parseFieldDescriptor (TX4 k).2.2.1 = some (tyX4 k) := by decide +kernel
abbrev cX4_init : ByteArray := prog_6_method_1_code
def yX4_init : MethodName := ⟨RX4, "<init>", "()V"⟩
abbrev cX4_restart : ByteArray := prog_6_method_2_code
def yX4_restart : MethodName := ⟨RX4, "restart", "()V"⟩
abbrev cX4_mayEnd : ByteArray := prog_6_method_3_code
def yX4_mayEnd : MethodName := ⟨RX4, "mayEnd", "()Z"⟩
abbrev cX4_takes : ByteArray := prog_6_method_4_code
def yX4_takes : MethodName := ⟨RX4, "takes", "(I)Z"⟩
abbrev cX4_begins : ByteArray := prog_6_method_5_code
def yX4_begins : MethodName := ⟨RX4, "begins", "(I)Z"⟩
abbrev cX4_numbersBehind : ByteArray := prog_6_method_6_code
def yX4_numbersBehind : MethodName := ⟨RX4, "numbersBehind", "(I)I"⟩
abbrev cX4_startNumber : ByteArray := prog_6_method_7_code
def yX4_startNumber : MethodName := ⟨RX4, "startNumber", "()V"⟩
abbrev cX4_figure : ByteArray := prog_6_method_8_code
def yX4_figure : MethodName := ⟨RX4, "figure", "(I)Z"⟩
abbrev cX4_endNumber : ByteArray := prog_6_method_9_code
def yX4_endNumber : MethodName := ⟨RX4, "endNumber", "()V"⟩
abbrev cX4_minus : ByteArray := prog_6_method_10_code
def yX4_minus : MethodName := ⟨RX4, "minus", "()Z"⟩
abbrev cX4_endOrder : ByteArray := prog_6_method_11_code
def yX4_endOrder : MethodName := ⟨RX4, "endOrder", "()Z"⟩
def RX5 : String := "WetPrints$Rows"
def TX5 : u_T := fun k => match k with
  | _ => ("", "", "", false)
def tyX5 : Nat → FieldType := fun k => match k with
  | _ => .int
abbrev wsX50 : List Cond := u_ws RX5 TX5 0
theorem nmX5 : ∀ a, a < 0 → ∀ b, b < 0 → a ≠ b → (TX5 a).2.1 ≠ (TX5 b).2.1 := by decide +kernel
theorem tyX5_ok : ∀ k, k < 0 → parseFieldDescriptor (TX5 k).2.2.1 = some (tyX5 k) := by decide +kernel
abbrev cX5_at : ByteArray := prog_7_method_2_code
def yX5_at : MethodName := ⟨RX5, "at", "([II)I"⟩
abbrev cX5_put : ByteArray := prog_7_method_3_code
def yX5_put : MethodName := ⟨RX5, "put", "([III)V"⟩
abbrev cX5_copy : ByteArray := prog_7_method_4_code
def yX5_copy : MethodName := ⟨RX5, "copy", "([I[I)V"⟩
def RX6 : String := "WetPrints$Search"
def TX6 : u_T := fun k => match k with
  | 0 => ("WetPrints$Search", "blocks", "LWetPrints$Blocks;", true)
  | 1 => ("WetPrints$Search", "sheet", "LWetPrints$Sheet;", true)
  | 2 => ("WetPrints$Search", "unlike", "LWetPrints$SheetSet;", true)
  | 3 => ("WetPrints$Search", "ways", "[I", true)
  | 4 => ("WetPrints$Search", "goal", "I", false)
  | 5 => ("WetPrints$Search", "gap", "I", false)
  | 6 => ("WetPrints$Search", "plan", "J", false)
  | 7 => ("WetPrints$Search", "found", "Z", false)
  | 8 => ("WetPrints$Search", "bestHits", "I", false)
  | 9 => ("WetPrints$Search", "bestSmear", "I", false)
  | _ => ("WetPrints$Search", "bestOrder", "J", false)
def tyX6 : Nat → FieldType := fun k => match k with
  | 0 => .object "WetPrints$Blocks"
  | 1 => .object "WetPrints$Sheet"
  | 2 => .object "WetPrints$SheetSet"
  | 3 => .array .int
  | 4 => .int
  | 5 => .int
  | 6 => .long
  | 7 => .boolean
  | 8 => .int
  | 9 => .int
  | _ => .long
abbrev wsX60 : List Cond := u_ws RX6 TX6 11
theorem nmX6 : ∀ a, a < 11 → ∀ b, b < 11 → a ≠ b → (TX6 a).2.1 ≠ (TX6 b).2.1 := by decide +kernel
theorem tyX6_ok : ∀ k, k < 11 → parseFieldDescriptor (TX6 k).2.2.1 = some (tyX6 k) := by decide +kernel
abbrev cX6_init : ByteArray := prog_8_method_1_code
def yX6_init : MethodName := ⟨RX6, "<init>", "(LWetPrints$Blocks;)V"⟩
abbrev cX6_countLawful : ByteArray := prog_8_method_2_code
def yX6_countLawful : MethodName := ⟨RX6, "countLawful", "()I"⟩
abbrev cX6_waysTo : ByteArray := prog_8_method_3_code
def yX6_waysTo : MethodName := ⟨RX6, "waysTo", "(I)I"⟩
abbrev cX6_run : ByteArray := prog_8_method_4_code
def yX6_run : MethodName := ⟨RX6, "run", "(IIJ)V"⟩
abbrev cX6_extend : ByteArray := prog_8_method_5_code
def yX6_extend : MethodName := ⟨RX6, "extend", "(LWetPrints$Search;IIJI)V"⟩
abbrev cX6_smearOf : ByteArray := prog_8_method_6_code
def yX6_smearOf : MethodName := ⟨RX6, "smearOf", "(IIJ)I"⟩
abbrev cX6_judge : ByteArray := prog_8_method_7_code
def yX6_judge : MethodName := ⟨RX6, "judge", "(JI)V"⟩
def RX7 : String := "WetPrints$Sheet"
def TX7 : u_T := fun k => match k with
  | 0 => ("WetPrints$Sheet", "colours", "J", false)
  | 1 => ("WetPrints$Sheet", "shines", "J", false)
  | _ => ("WetPrints$Sheet", "closed", "I", false)
def tyX7 : Nat → FieldType := fun k => match k with
  | 0 => .long
  | 1 => .long
  | _ => .int
abbrev wsX70 : List Cond := u_ws RX7 TX7 3
theorem nmX7 : ∀ a, a < 3 → ∀ b, b < 3 → a ≠ b → (TX7 a).2.1 ≠ (TX7 b).2.1 := by decide +kernel
theorem tyX7_ok : ∀ k, k < 3 → parseFieldDescriptor (TX7 k).2.2.1 = some (tyX7 k) := by decide +kernel
abbrev cX7_init : ByteArray := prog_9_method_1_code
def yX7_init : MethodName := ⟨RX7, "<init>", "()V"⟩
abbrev cX7_wipe : ByteArray := prog_9_method_2_code
def yX7_wipe : MethodName := ⟨RX7, "wipe", "()V"⟩
abbrev cX7_copyFrom : ByteArray := prog_9_method_3_code
def yX7_copyFrom : MethodName := ⟨RX7, "copyFrom", "(LWetPrints$Sheet;)V"⟩
abbrev cX7_lay : ByteArray := prog_9_method_4_code
def yX7_lay : MethodName := ⟨RX7, "lay", "(JJI)V"⟩
abbrev cX7_take : ByteArray := prog_9_method_5_code
def yX7_take : MethodName := ⟨RX7, "take", "(III)V"⟩
abbrev cX7_cover : ByteArray := prog_9_method_6_code
def yX7_cover : MethodName := ⟨RX7, "cover", "(IJ)V"⟩
abbrev cX7_mix : ByteArray := prog_9_method_7_code
def yX7_mix : MethodName := ⟨RX7, "mix", "(IJ)V"⟩
abbrev cX7_polish : ByteArray := prog_9_method_8_code
def yX7_polish : MethodName := ⟨RX7, "polish", "(J)V"⟩
abbrev cX7_hits : ByteArray := prog_9_method_9_code
def yX7_hits : MethodName := ⟨RX7, "hits", "(J)I"⟩
abbrev cX7_coloursAndClosed : ByteArray := prog_9_method_10_code
def yX7_coloursAndClosed : MethodName := ⟨RX7, "coloursAndClosed", "()J"⟩
def RX8 : String := "WetPrints$SheetSet"
def TX8 : u_T := fun k => match k with
  | 0 => ("WetPrints$SheetSet", "faces", "[J", true)
  | 1 => ("WetPrints$SheetSet", "shines", "[J", true)
  | 2 => ("WetPrints$SheetSet", "rounds", "[I", true)
  | 3 => ("WetPrints$SheetSet", "round", "I", false)
  | _ => ("WetPrints$SheetSet", "size", "I", false)
def tyX8 : Nat → FieldType := fun k => match k with
  | 0 => .array .long
  | 1 => .array .long
  | 2 => .array .int
  | 3 => .int
  | _ => .int
abbrev wsX80 : List Cond := u_ws RX8 TX8 5
theorem nmX8 : ∀ a, a < 5 → ∀ b, b < 5 → a ≠ b → (TX8 a).2.1 ≠ (TX8 b).2.1 := by decide +kernel
theorem tyX8_ok : ∀ k, k < 5 → parseFieldDescriptor (TX8 k).2.2.1 = some (tyX8 k) := by decide +kernel
abbrev cX8_init : ByteArray := prog_10_method_1_code
def yX8_init : MethodName := ⟨RX8, "<init>", "()V"⟩
abbrev cX8_empty : ByteArray := prog_10_method_2_code
def yX8_empty : MethodName := ⟨RX8, "empty", "()V"⟩
abbrev cX8_add : ByteArray := prog_10_method_3_code
def yX8_add : MethodName := ⟨RX8, "add", "(LWetPrints$Sheet;)V"⟩
def RX9 : String := "WetPrints$State"
def TX9 : u_T := fun k => match k with
  | 0 => ("WetPrints$State", "blocks", "LWetPrints$Blocks;", true)
  | 1 => ("WetPrints$State", "work", "LWetPrints$HandWork;", true)
  | _ => ("WetPrints$State", "plan", "J", false)
def tyX9 : Nat → FieldType := fun k => match k with
  | 0 => .object "WetPrints$Blocks"
  | 1 => .object "WetPrints$HandWork"
  | _ => .long
abbrev wsX90 : List Cond := u_ws RX9 TX9 3
theorem nmX9 : ∀ a, a < 3 → ∀ b, b < 3 → a ≠ b → (TX9 a).2.1 ≠ (TX9 b).2.1 := by decide +kernel
theorem tyX9_ok : ∀ k, k < 3 → parseFieldDescriptor (TX9 k).2.2.1 = some (tyX9 k) := by decide +kernel
abbrev cX9_init : ByteArray := prog_11_method_1_code
def yX9_init : MethodName := ⟨RX9, "<init>", "()V"⟩
abbrev cX9_copyFrom : ByteArray := prog_11_method_2_code
def yX9_copyFrom : MethodName := ⟨RX9, "copyFrom", "(LWetPrints$State;)V"⟩
def RX10 : String := "WetPrints$Text"
def TX10 : u_T := fun k => match k with
  | 0 => ("WetPrints$Text", "bytes", "[I", true)
  | _ => ("WetPrints$Text", "length", "I", false)
def tyX10 : Nat → FieldType := fun k => match k with
  | 0 => .array .int
  | _ => .int
abbrev wsX100 : List Cond := u_ws RX10 TX10 2
theorem nmX10 : ∀ a, a < 2 → ∀ b, b < 2 → a ≠ b → (TX10 a).2.1 ≠ (TX10 b).2.1 := by decide +kernel
theorem tyX10_ok : ∀ k, k < 2 → parseFieldDescriptor (TX10 k).2.2.1 = some (tyX10 k) := by decide +kernel
abbrev cX10_init : ByteArray := prog_12_method_1_code
def yX10_init : MethodName := ⟨RX10, "<init>", "()V"⟩
abbrev cX10_add : ByteArray := prog_12_method_2_code
def yX10_add : MethodName := ⟨RX10, "add", "(I)V"⟩
def RX11 : String := "WetPrints"
def TX11 : u_T := fun k => match k with
  | 0 => ("WetPrints", "now", "LWetPrints$State;", true)
  | 1 => ("WetPrints", "history", "LWetPrints$History;", true)
  | 2 => ("WetPrints", "search", "LWetPrints$Search;", true)
  | 3 => ("WetPrints", "text", "LWetPrints$Text;", true)
  | 4 => ("WetPrints", "reader", "LWetPrints$OrderReader;", true)
  | 5 => ("WetPrints", "bads", "I", false)
  | 6 => ("WetPrints", "nos", "I", false)
  | _ => ("WetPrints", "fulls", "I", false)
def tyX11 : Nat → FieldType := fun k => match k with
  | 0 => .object "WetPrints$State"
  | 1 => .object "WetPrints$History"
  | 2 => .object "WetPrints$Search"
  | 3 => .object "WetPrints$Text"
  | 4 => .object "WetPrints$OrderReader"
  | 5 => .int
  | 6 => .int
  | _ => .int
abbrev wsX110 : List Cond := u_ws RX11 TX11 8
theorem nmX11 : ∀ a, a < 8 → ∀ b, b < 8 → a ≠ b → (TX11 a).2.1 ≠ (TX11 b).2.1 := by decide +kernel
theorem tyX11_ok : ∀ k, k < 8 → parseFieldDescriptor (TX11 k).2.2.1 = some (tyX11 k) := by decide +kernel
abbrev cX11_init : ByteArray := prog_1_method_1_code
def yX11_init : MethodName := ⟨RX11, "<init>", "()V"⟩
abbrev cX11_block : ByteArray := prog_1_method_2_code
def yX11_block : MethodName := ⟨RX11, "block", "(IIII)I"⟩
abbrev cX11_shifts : ByteArray := prog_1_method_3_code
def yX11_shifts : MethodName := ⟨RX11, "shifts", "(III)I"⟩
abbrev cX11_behind : ByteArray := prog_1_method_4_code
def yX11_behind : MethodName := ⟨RX11, "behind", "(III)I"⟩
abbrev cX11_plans : ByteArray := prog_1_method_5_code
def yX11_plans : MethodName := ⟨RX11, "plans", "(II)I"⟩
abbrev cX11_of : ByteArray := prog_1_method_6_code
def yX11_of : MethodName := ⟨RX11, "of", "(II)I"⟩
abbrev cX11_common : ByteArray := prog_1_method_7_code
def yX11_common : MethodName := ⟨RX11, "common", "(III)I"⟩
abbrev cX11_fit : ByteArray := prog_1_method_8_code
def yX11_fit : MethodName := ⟨RX11, "fit", "(II)I"⟩
abbrev cX11_lawful : ByteArray := prog_1_method_9_code
def yX11_lawful : MethodName := ⟨RX11, "lawful", "()I"⟩
abbrev cX11_least : ByteArray := prog_1_method_10_code
def yX11_least : MethodName := ⟨RX11, "least", "(II)I"⟩
abbrev cX11_nearest : ByteArray := prog_1_method_11_code
def yX11_nearest : MethodName := ⟨RX11, "nearest", "(II)I"⟩
abbrev cX11_sheets : ByteArray := prog_1_method_12_code
def yX11_sheets : MethodName := ⟨RX11, "sheets", "()I"⟩
abbrev cX11_prints : ByteArray := prog_1_method_13_code
def yX11_prints : MethodName := ⟨RX11, "prints", "(II)I"⟩
abbrev cX11_news : ByteArray := prog_1_method_14_code
def yX11_news : MethodName := ⟨RX11, "news", "()I"⟩
abbrev cX11_cell : ByteArray := prog_1_method_15_code
def yX11_cell : MethodName := ⟨RX11, "cell", "(II)I"⟩
abbrev cX11_hand : ByteArray := prog_1_method_16_code
def yX11_hand : MethodName := ⟨RX11, "hand", "(I)I"⟩
abbrev cX11_print : ByteArray := prog_1_method_17_code
def yX11_print : MethodName := ⟨RX11, "print", "(II)I"⟩
abbrev cX11_type : ByteArray := prog_1_method_18_code
def yX11_type : MethodName := ⟨RX11, "type", "(I)I"⟩
abbrev cX11_clear : ByteArray := prog_1_method_19_code
def yX11_clear : MethodName := ⟨RX11, "clear", "()I"⟩
abbrev cX11_reads : ByteArray := prog_1_method_20_code
def yX11_reads : MethodName := ⟨RX11, "reads", "()I"⟩
abbrev cX11_back : ByteArray := prog_1_method_21_code
def yX11_back : MethodName := ⟨RX11, "back", "()I"⟩
abbrev cX11_told : ByteArray := prog_1_method_22_code
def yX11_told : MethodName := ⟨RX11, "told", "(I)I"⟩
abbrev cX11_digest : ByteArray := prog_1_method_23_code
def yX11_digest : MethodName := ⟨RX11, "digest", "()J"⟩
abbrev cX11_within : ByteArray := prog_1_method_24_code
def yX11_within : MethodName := ⟨RX11, "within", "(III)Z"⟩
abbrev cX11_refuse : ByteArray := prog_1_method_25_code
def yX11_refuse : MethodName := ⟨RX11, "refuse", "(I)I"⟩
abbrev cX11_refuseOrder : ByteArray := prog_1_method_26_code
def yX11_refuseOrder : MethodName := ⟨RX11, "refuseOrder", "(I)I"⟩
abbrev cX11_whyNoBlock : ByteArray := prog_1_method_27_code
def yX11_whyNoBlock : MethodName := ⟨RX11, "whyNoBlock", "(IIII)I"⟩
abbrev cX11_whyNoShift : ByteArray := prog_1_method_28_code
def yX11_whyNoShift : MethodName := ⟨RX11, "whyNoShift", "(III)I"⟩
abbrev cX11_whyNoBehind : ByteArray := prog_1_method_29_code
def yX11_whyNoBehind : MethodName := ⟨RX11, "whyNoBehind", "(III)I"⟩
abbrev cX11_whyNoPrint : ByteArray := prog_1_method_30_code
def yX11_whyNoPrint : MethodName := ⟨RX11, "whyNoPrint", "(II)I"⟩
abbrev cX11_gainOf : ByteArray := prog_1_method_31_code
def yX11_gainOf : MethodName := ⟨RX11, "gainOf", "(II)I"⟩
abbrev cX11_blockOfBest : ByteArray := prog_1_method_32_code
def yX11_blockOfBest : MethodName := ⟨RX11, "blockOfBest", "(I)I"⟩
abbrev cX11_faultOfText : ByteArray := prog_1_method_33_code
def yX11_faultOfText : MethodName := ⟨RX11, "faultOfText", "()I"⟩
abbrev cX11_doText : ByteArray := prog_1_method_34_code
def yX11_doText : MethodName := ⟨RX11, "doText", "()I"⟩
abbrev cX11_doOrder : ByteArray := prog_1_method_35_code
def yX11_doOrder : MethodName := ⟨RX11, "doOrder", "()Z"⟩
def RX12 : String := "WetPrintsModel"
def TX12 : u_T := fun k => match k with
  | 0 => ("WetPrintsModel", "now", "[I", true)
  | 1 => ("WetPrintsModel", "held", "[I", true)
  | 2 => ("WetPrintsModel", "past", "[I", true)
  | 3 => ("WetPrintsModel", "pasts", "I", false)
  | 4 => ("WetPrintsModel", "refused", "[I", true)
  | 5 => ("WetPrintsModel", "colour", "[I", true)
  | 6 => ("WetPrintsModel", "shine", "[I", true)
  | 7 => ("WetPrintsModel", "closed", "I", false)
  | 8 => ("WetPrintsModel", "order", "[I", true)
  | 9 => ("WetPrintsModel", "best", "[I", true)
  | 10 => ("WetPrintsModel", "bestSmear", "I", false)
  | 11 => ("WetPrintsModel", "bestHits", "I", false)
  | 12 => ("WetPrintsModel", "places", "[I", true)
  | 13 => ("WetPrintsModel", "colours", "[J", true)
  | 14 => ("WetPrintsModel", "shines", "[J", true)
  | 15 => ("WetPrintsModel", "closes", "[I", true)
  | 16 => ("WetPrintsModel", "text", "[I", true)
  | 17 => ("WetPrintsModel", "typed", "I", false)
  | 18 => ("WetPrintsModel", "at", "I", false)
  | 19 => ("WetPrintsModel", "fault", "I", false)
  | 20 => ("WetPrintsModel", "orders", "I", false)
  | 21 => ("WetPrintsModel", "letters", "[I", true)
  | 22 => ("WetPrintsModel", "numbers", "[I", true)
  | _ => ("WetPrintsModel", "h", "J", false)
def tyX12 : Nat → FieldType := fun k => match k with
  | 0 => .array .int
  | 1 => .array .int
  | 2 => .array .int
  | 3 => .int
  | 4 => .array .int
  | 5 => .array .int
  | 6 => .array .int
  | 7 => .int
  | 8 => .array .int
  | 9 => .array .int
  | 10 => .int
  | 11 => .int
  | 12 => .array .int
  | 13 => .array .long
  | 14 => .array .long
  | 15 => .array .int
  | 16 => .array .int
  | 17 => .int
  | 18 => .int
  | 19 => .int
  | 20 => .int
  | 21 => .array .int
  | 22 => .array .int
  | _ => .long
abbrev wsX120 : List Cond := u_ws RX12 TX12 24
theorem nmX12 : ∀ a, a < 24 → ∀ b, b < 24 → a ≠ b → (TX12 a).2.1 ≠ (TX12 b).2.1 := by decide +kernel
theorem tyX12_ok : ∀ k, k < 24 → parseFieldDescriptor (TX12 k).2.2.1 = some (tyX12 k) := by decide +kernel
abbrev cX12_init : ByteArray := prog_14_method_1_code
def yX12_init : MethodName := ⟨RX12, "<init>", "()V"⟩
abbrev cX12_in : ByteArray := prog_14_method_2_code
def yX12_in : MethodName := ⟨RX12, "in", "(III)Z"⟩
abbrev cX12_has : ByteArray := prog_14_method_3_code
def yX12_has : MethodName := ⟨RX12, "has", "(II)Z"⟩
abbrev cX12_bits : ByteArray := prog_14_method_4_code
def yX12_bits : MethodName := ⟨RX12, "bits", "(I)I"⟩
abbrev cX12_refuses : ByteArray := prog_14_method_5_code
def yX12_refuses : MethodName := ⟨RX12, "refuses", "(I)I"⟩
abbrev cX12_hold : ByteArray := prog_14_method_6_code
def yX12_hold : MethodName := ⟨RX12, "hold", "()V"⟩
abbrev cX12_push : ByteArray := prog_14_method_7_code
def yX12_push : MethodName := ⟨RX12, "push", "()V"⟩
abbrev cX12_ends : ByteArray := prog_14_method_8_code
def yX12_ends : MethodName := ⟨RX12, "ends", "(I)I"⟩
abbrev cX12_back : ByteArray := prog_14_method_9_code
def yX12_back : MethodName := ⟨RX12, "back", "()I"⟩
abbrev cX12_isBlock : ByteArray := prog_14_method_10_code
def yX12_isBlock : MethodName := ⟨RX12, "isBlock", "(I)Z"⟩
abbrev cX12_ofBlock : ByteArray := prog_14_method_11_code
def yX12_ofBlock : MethodName := ⟨RX12, "ofBlock", "(II)I"⟩
abbrev cX12_moved : ByteArray := prog_14_method_12_code
def yX12_moved : MethodName := ⟨RX12, "moved", "(III)I"⟩
abbrev cX12_placeOf : ByteArray := prog_14_method_13_code
def yX12_placeOf : MethodName := ⟨RX12, "placeOf", "(I)I"⟩
abbrev cX12_doBlock : ByteArray := prog_14_method_14_code
def yX12_doBlock : MethodName := ⟨RX12, "doBlock", "(IIII)I"⟩
abbrev cX12_doShifts : ByteArray := prog_14_method_15_code
def yX12_doShifts : MethodName := ⟨RX12, "doShifts", "(III)I"⟩
abbrev cX12_doBehind : ByteArray := prog_14_method_16_code
def yX12_doBehind : MethodName := ⟨RX12, "doBehind", "(III)I"⟩
abbrev cX12_block : ByteArray := prog_14_method_17_code
def yX12_block : MethodName := ⟨RX12, "block", "(IIII)I"⟩
abbrev cX12_shifts : ByteArray := prog_14_method_18_code
def yX12_shifts : MethodName := ⟨RX12, "shifts", "(III)I"⟩
abbrev cX12_behind : ByteArray := prog_14_method_19_code
def yX12_behind : MethodName := ⟨RX12, "behind", "(III)I"⟩
abbrev cX12_plans : ByteArray := prog_14_method_20_code
def yX12_plans : MethodName := ⟨RX12, "plans", "(II)I"⟩
abbrev cX12_ofAll : ByteArray := prog_14_method_21_code
def yX12_ofAll : MethodName := ⟨RX12, "ofAll", "(II)I"⟩
abbrev cX12_of : ByteArray := prog_14_method_22_code
def yX12_of : MethodName := ⟨RX12, "of", "(II)I"⟩
abbrev cX12_common : ByteArray := prog_14_method_23_code
def yX12_common : MethodName := ⟨RX12, "common", "(III)I"⟩
abbrev cX12_more : ByteArray := prog_14_method_24_code
def yX12_more : MethodName := ⟨RX12, "more", "(II)I"⟩
abbrev cX12_fit : ByteArray := prog_14_method_25_code
def yX12_fit : MethodName := ⟨RX12, "fit", "(II)I"⟩
abbrev cX12_printOn : ByteArray := prog_14_method_26_code
def yX12_printOn : MethodName := ⟨RX12, "printOn", "(II)V"⟩
abbrev cX12_clearSheet : ByteArray := prog_14_method_27_code
def yX12_clearSheet : MethodName := ⟨RX12, "clearSheet", "()V"⟩
abbrev cX12_hits : ByteArray := prog_14_method_28_code
def yX12_hits : MethodName := ⟨RX12, "hits", "()I"⟩
abbrev cX12_begin : ByteArray := prog_14_method_29_code
def yX12_begin : MethodName := ⟨RX12, "begin", "()V"⟩
abbrev cX12_goesOn : ByteArray := prog_14_method_30_code
def yX12_goesOn : MethodName := ⟨RX12, "goesOn", "()Z"⟩
abbrev cX12_exchange : ByteArray := prog_14_method_31_code
def yX12_exchange : MethodName := ⟨RX12, "exchange", "(II)V"⟩
abbrev cX12_isLawful : ByteArray := prog_14_method_32_code
def yX12_isLawful : MethodName := ⟨RX12, "isLawful", "()Z"⟩
abbrev cX12_smearBy : ByteArray := prog_14_method_33_code
def yX12_smearBy : MethodName := ⟨RX12, "smearBy", "(I)I"⟩
abbrev cX12_printAll : ByteArray := prog_14_method_34_code
def yX12_printAll : MethodName := ⟨RX12, "printAll", "()V"⟩
abbrev cX12_lawful : ByteArray := prog_14_method_35_code
def yX12_lawful : MethodName := ⟨RX12, "lawful", "()I"⟩
abbrev cX12_isFound : ByteArray := prog_14_method_36_code
def yX12_isFound : MethodName := ⟨RX12, "isFound", "(IZ)Z"⟩
abbrev cX12_asked : ByteArray := prog_14_method_37_code
def yX12_asked : MethodName := ⟨RX12, "asked", "(IIZ)I"⟩
abbrev cX12_least : ByteArray := prog_14_method_38_code
def yX12_least : MethodName := ⟨RX12, "least", "(II)I"⟩
abbrev cX12_nearest : ByteArray := prog_14_method_39_code
def yX12_nearest : MethodName := ⟨RX12, "nearest", "(II)I"⟩
abbrev cX12_sheets : ByteArray := prog_14_method_40_code
def yX12_sheets : MethodName := ⟨RX12, "sheets", "()I"⟩
abbrev cX12_isNew : ByteArray := prog_14_method_41_code
def yX12_isNew : MethodName := ⟨RX12, "isNew", "(I)Z"⟩
abbrev cX12_doPrints : ByteArray := prog_14_method_42_code
def yX12_doPrints : MethodName := ⟨RX12, "doPrints", "(II)I"⟩
abbrev cX12_takeSheet : ByteArray := prog_14_method_43_code
def yX12_takeSheet : MethodName := ⟨RX12, "takeSheet", "()V"⟩
abbrev cX12_giveSheet : ByteArray := prog_14_method_44_code
def yX12_giveSheet : MethodName := ⟨RX12, "giveSheet", "()V"⟩
abbrev cX12_doNews : ByteArray := prog_14_method_45_code
def yX12_doNews : MethodName := ⟨RX12, "doNews", "()I"⟩
abbrev cX12_prints : ByteArray := prog_14_method_46_code
def yX12_prints : MethodName := ⟨RX12, "prints", "(II)I"⟩
abbrev cX12_news : ByteArray := prog_14_method_47_code
def yX12_news : MethodName := ⟨RX12, "news", "()I"⟩
abbrev cX12_wet : ByteArray := prog_14_method_48_code
def yX12_wet : MethodName := ⟨RX12, "wet", "(I)I"⟩
abbrev cX12_ofCell : ByteArray := prog_14_method_49_code
def yX12_ofCell : MethodName := ⟨RX12, "ofCell", "(II)I"⟩
abbrev cX12_cell : ByteArray := prog_14_method_50_code
def yX12_cell : MethodName := ⟨RX12, "cell", "(II)I"⟩
abbrev cX12_ofHand : ByteArray := prog_14_method_51_code
def yX12_ofHand : MethodName := ⟨RX12, "ofHand", "(I)I"⟩
abbrev cX12_hand : ByteArray := prog_14_method_52_code
def yX12_hand : MethodName := ⟨RX12, "hand", "(I)I"⟩
abbrev cX12_print : ByteArray := prog_14_method_53_code
def yX12_print : MethodName := ⟨RX12, "print", "(II)I"⟩
abbrev cX12_type : ByteArray := prog_14_method_54_code
def yX12_type : MethodName := ⟨RX12, "type", "(I)I"⟩
abbrev cX12_clear : ByteArray := prog_14_method_55_code
def yX12_clear : MethodName := ⟨RX12, "clear", "()I"⟩
abbrev cX12_here : ByteArray := prog_14_method_56_code
def yX12_here : MethodName := ⟨RX12, "here", "()I"⟩
abbrev cX12_must : ByteArray := prog_14_method_57_code
def yX12_must : MethodName := ⟨RX12, "must", "(Z)V"⟩
abbrev cX12_isFigure : ByteArray := prog_14_method_58_code
def yX12_isFigure : MethodName := ⟨RX12, "isFigure", "()Z"⟩
abbrev cX12_number : ByteArray := prog_14_method_59_code
def yX12_number : MethodName := ⟨RX12, "number", "(Z)I"⟩
abbrev cX12_numbersOf : ByteArray := prog_14_method_60_code
def yX12_numbersOf : MethodName := ⟨RX12, "numbersOf", "(I)I"⟩
abbrev cX12_readOrder : ByteArray := prog_14_method_61_code
def yX12_readOrder : MethodName := ⟨RX12, "readOrder", "()V"⟩
abbrev cX12_doOrder : ByteArray := prog_14_method_62_code
def yX12_doOrder : MethodName := ⟨RX12, "doOrder", "(I)I"⟩
abbrev cX12_reads : ByteArray := prog_14_method_63_code
def yX12_reads : MethodName := ⟨RX12, "reads", "()I"⟩
abbrev cX12_toldOf : ByteArray := prog_14_method_64_code
def yX12_toldOf : MethodName := ⟨RX12, "toldOf", "(I)I"⟩
abbrev cX12_told : ByteArray := prog_14_method_65_code
def yX12_told : MethodName := ⟨RX12, "told", "(I)I"⟩
abbrev cX12_mix : ByteArray := prog_14_method_66_code
def yX12_mix : MethodName := ⟨RX12, "mix", "(I)V"⟩
abbrev cX12_digest : ByteArray := prog_14_method_67_code
def yX12_digest : MethodName := ⟨RX12, "digest", "()J"⟩
def RJ6 : String := "java/lang/Integer"
def TJ6 : u_T := fun k => match k with
  | _ => ("", "", "", false)
def tyJ6 : Nat → FieldType := fun k => match k with
  | _ => .int
abbrev wsJ60 : List Cond := u_ws RJ6 TJ6 0
theorem nmJ6 : ∀ a, a < 0 → ∀ b, b < 0 → a ≠ b → (TJ6 a).2.1 ≠ (TJ6 b).2.1 := by decide +kernel
theorem tyJ6_ok : ∀ k, k < 0 → parseFieldDescriptor (TJ6 k).2.2.1 = some (tyJ6 k) := by decide +kernel
abbrev cJ6_bitCount_0f7a4 : ByteArray := prog_15_method_49_code
def yJ6_bitCount_0f7a4 : MethodName := ⟨RJ6, "bitCount", "(I)I"⟩
def RJ13 : String := "java/lang/Long"
def TJ13 : u_T := fun k => match k with
  | _ => ("", "", "", false)
def tyJ13 : Nat → FieldType := fun k => match k with
  | _ => .int
abbrev wsJ130 : List Cond := u_ws RJ13 TJ13 0
theorem nmJ13 : ∀ a, a < 0 → ∀ b, b < 0 → a ≠ b → (TJ13 a).2.1 ≠ (TJ13 b).2.1 := by decide +kernel
theorem tyJ13_ok : ∀ k, k < 0 → parseFieldDescriptor (TJ13 k).2.2.1 = some (tyJ13 k) := by decide +kernel
abbrev cJ13_bitCount_95d88 : ByteArray := prog_16_method_50_code
def yJ13_bitCount_95d88 : MethodName := ⟨RJ13, "bitCount", "(J)I"⟩
def RJ9 : String := "java/lang/Math"
def TJ9 : u_T := fun k => match k with
  | _ => ("", "", "", false)
def tyJ9 : Nat → FieldType := fun k => match k with
  | _ => .int
abbrev wsJ90 : List Cond := u_ws RJ9 TJ9 0
theorem nmJ9 : ∀ a, a < 0 → ∀ b, b < 0 → a ≠ b → (TJ9 a).2.1 ≠ (TJ9 b).2.1 := by decide +kernel
theorem tyJ9_ok : ∀ k, k < 0 → parseFieldDescriptor (TJ9 k).2.2.1 = some (tyJ9 k) := by decide +kernel
abbrev cJ9_max_7cf53 : ByteArray := prog_17_method_65_code
def yJ9_max_7cf53 : MethodName := ⟨RJ9, "max", "(II)I"⟩
abbrev cJ9_min_7cf53 : ByteArray := prog_17_method_69_code
def yJ9_min_7cf53 : MethodName := ⟨RJ9, "min", "(II)I"⟩
def RL : String := "WetPrintsLaw"
abbrev cL_law : ByteArray := code
def yL_law : MethodName := ⟨RL, "law", "([I)Z"⟩
def wsL_law_r1 : List Cond := [Cond.classLink RL 7 RX11, Cond.instantiable RX11 8, Cond.initialized RX11, Cond.classLink RL 10 RX12, Cond.instantiable RX12 24, Cond.initialized RX12, Cond.methodLink RL 9 yX11_init, Cond.instanceMethod yX11_init, Cond.code yX11_init cX11_init 1 none, Cond.methodLink RX11 1 objectInit, Cond.instanceMethod objectInit, Cond.code objectInit ⟨#[0xb1]⟩ 1 none, Cond.classLink RX11 7 RX9, Cond.instantiable RX9 3, Cond.initialized RX9, Cond.fieldLink RX11 10 "WetPrints" "now" "LWetPrints$State;", Cond.classLink RX11 16 RX3, Cond.instantiable RX3 3, Cond.initialized RX3, Cond.fieldLink RX11 19 "WetPrints" "history" "LWetPrints$History;", Cond.classLink RX11 23 RX6, Cond.instantiable RX6 11, Cond.initialized RX6, Cond.fieldLink RX11 25 "WetPrints$State" "blocks" "LWetPrints$Blocks;"]
def wsL_law_r2 : List Cond := [Cond.fieldLink RX11 32 "WetPrints" "search" "LWetPrints$Search;", Cond.classLink RX11 36 RX10, Cond.instantiable RX10 2, Cond.initialized RX10, Cond.fieldLink RX11 39 "WetPrints" "text" "LWetPrints$Text;", Cond.classLink RX11 43 RX4, Cond.instantiable RX4 10, Cond.initialized RX4, Cond.fieldLink RX11 46 "WetPrints" "reader" "LWetPrints$OrderReader;", Cond.fieldLink RX11 50 "WetPrints" "bads" "I", Cond.fieldLink RX11 54 "WetPrints" "nos" "I", Cond.fieldLink RX11 57 "WetPrints" "fulls" "I", Cond.instanceMethod yX9_init, Cond.code yX9_init cX9_init 1 none, Cond.methodLink RX9 1 objectInit, Cond.classLink RX9 7 RX0, Cond.instantiable RX0 9, Cond.initialized RX0, Cond.fieldLink RX9 10 "WetPrints$State" "blocks" "LWetPrints$Blocks;", Cond.classLink RX9 16 RX2, Cond.instantiable RX2 7, Cond.initialized RX2, Cond.fieldLink RX9 19 "WetPrints$State" "work" "LWetPrints$HandWork;", Cond.fieldLink RX9 23 "WetPrints$State" "plan" "J"]
def wsL_law_r3 : List Cond := [Cond.instanceMethod yX0_init, Cond.code yX0_init cX0_init 1 none, Cond.methodLink RX0 3 objectInit, Cond.fieldLink RX0 9 "WetPrints$Blocks" "count" "I", Cond.arrayClass .int, Cond.fieldLink RX0 15 "WetPrints$Blocks" "kinds" "[I", Cond.fieldLink RX0 19 "WetPrints$Blocks" "colours" "[I", Cond.fieldLink RX0 22 "WetPrints$Blocks" "drys" "[I", Cond.fieldLink RX0 25 "WetPrints$Blocks" "areas" "[I", Cond.fieldLink RX0 28 "WetPrints$Blocks" "xs" "[I", Cond.fieldLink RX0 31 "WetPrints$Blocks" "ys" "[I", Cond.fieldLink RX0 34 "WetPrints$Blocks" "places" "[I", Cond.fieldLink RX0 37 "WetPrints$Blocks" "behinds" "[I", Cond.instanceMethod yX2_init, Cond.code yX2_init cX2_init 1 none, Cond.methodLink RX2 3 objectInit, Cond.classLink RX2 9 RX7, Cond.instantiable RX7 3, Cond.initialized RX7, Cond.fieldLink RX2 12 "WetPrints$HandWork" "sheet" "LWetPrints$Sheet;", Cond.fieldLink RX2 18 "WetPrints$HandWork" "hour" "I", Cond.fieldLink RX2 22 "WetPrints$HandWork" "count" "I", Cond.fieldLink RX2 25 "WetPrints$HandWork" "allSmear" "I", Cond.fieldLink RX2 28 "WetPrints$HandWork" "numbers" "[I"]
def wsL_law_r4 : List Cond := [Cond.fieldLink RX2 32 "WetPrints$HandWork" "hours" "[I", Cond.fieldLink RX2 35 "WetPrints$HandWork" "places" "[I", Cond.instanceMethod yX7_init, Cond.code yX7_init cX7_init 1 none, Cond.methodLink RX7 3 objectInit, Cond.fieldLink RX7 9 "WetPrints$Sheet" "colours" "J", Cond.fieldLink RX7 15 "WetPrints$Sheet" "shines" "J", Cond.fieldLink RX7 18 "WetPrints$Sheet" "closed" "I", Cond.methodLink RX11 18 yX3_init, Cond.instanceMethod yX3_init, Cond.code yX3_init cX3_init 2 none, Cond.methodLink RX3 3 objectInit, Cond.classLink RX3 9 RX9, Cond.fieldLink RX3 11 "WetPrints$History" "ring" "[LWetPrints$State;", Cond.fieldLink RX3 17 "WetPrints$History" "next" "I", Cond.fieldLink RX3 21 "WetPrints$History" "count" "I", Cond.methodLink RX11 29 yX6_init, Cond.instanceMethod yX6_init, Cond.code yX6_init cX6_init 2 none, Cond.methodLink RX6 3 objectInit, Cond.classLink RX6 9 RX7, Cond.fieldLink RX6 12 "WetPrints$Search" "sheet" "LWetPrints$Sheet;", Cond.classLink RX6 18 RX8, Cond.instantiable RX8 5]
def wsL_law_r5 : List Cond := [Cond.initialized RX8, Cond.fieldLink RX6 21 "WetPrints$Search" "unlike" "LWetPrints$SheetSet;", Cond.fieldLink RX6 25 "WetPrints$Search" "ways" "[I", Cond.fieldLink RX6 29 "WetPrints$Search" "goal" "I", Cond.fieldLink RX6 33 "WetPrints$Search" "gap" "I", Cond.fieldLink RX6 36 "WetPrints$Search" "plan" "J", Cond.fieldLink RX6 40 "WetPrints$Search" "found" "Z", Cond.fieldLink RX6 44 "WetPrints$Search" "bestHits" "I", Cond.fieldLink RX6 47 "WetPrints$Search" "bestSmear" "I", Cond.fieldLink RX6 50 "WetPrints$Search" "bestOrder" "J", Cond.fieldLink RX6 53 "WetPrints$Search" "blocks" "LWetPrints$Blocks;", Cond.instanceMethod yX8_init, Cond.code yX8_init cX8_init 1 none, Cond.methodLink RX8 1 objectInit, Cond.arrayClass .long, Cond.fieldLink RX8 9 "WetPrints$SheetSet" "faces" "[J", Cond.fieldLink RX8 13 "WetPrints$SheetSet" "shines" "[J", Cond.fieldLink RX8 16 "WetPrints$SheetSet" "rounds" "[I", Cond.fieldLink RX8 20 "WetPrints$SheetSet" "round" "I", Cond.fieldLink RX8 24 "WetPrints$SheetSet" "size" "I", Cond.instanceMethod yX10_init, Cond.code yX10_init cX10_init 1 none, Cond.methodLink RX10 3 objectInit, Cond.fieldLink RX10 9 "WetPrints$Text" "bytes" "[I"]
def wsL_law_r6 : List Cond := [Cond.fieldLink RX10 15 "WetPrints$Text" "length" "I", Cond.instanceMethod yX4_init, Cond.code yX4_init cX4_init 1 none, Cond.methodLink RX4 3 objectInit, Cond.fieldLink RX4 9 "WetPrints$OrderReader" "letter" "I", Cond.fieldLink RX4 15 "WetPrints$OrderReader" "numbers" "[I", Cond.fieldLink RX4 19 "WetPrints$OrderReader" "hasOrder" "Z", Cond.fieldLink RX4 23 "WetPrints$OrderReader" "inside" "Z", Cond.fieldLink RX4 26 "WetPrints$OrderReader" "any" "Z", Cond.fieldLink RX4 29 "WetPrints$OrderReader" "wanted" "I", Cond.fieldLink RX4 32 "WetPrints$OrderReader" "ended" "I", Cond.fieldLink RX4 35 "WetPrints$OrderReader" "value" "I", Cond.fieldLink RX4 38 "WetPrints$OrderReader" "figures" "I", Cond.fieldLink RX4 41 "WetPrints$OrderReader" "negative" "Z", Cond.methodLink RL 12 yX12_init, Cond.instanceMethod yX12_init, Cond.code yX12_init cX12_init 1 none, Cond.methodLink RX12 1 objectInit, Cond.fieldLink RX12 7 "WetPrintsModel" "now" "[I", Cond.fieldLink RX12 13 "WetPrintsModel" "held" "[I", Cond.fieldLink RX12 16 "WetPrintsModel" "past" "[I", Cond.fieldLink RX12 19 "WetPrintsModel" "refused" "[I", Cond.fieldLink RX12 22 "WetPrintsModel" "colour" "[I", Cond.fieldLink RX12 25 "WetPrintsModel" "shine" "[I"]
def wsL_law_r7 : List Cond := [Cond.fieldLink RX12 28 "WetPrintsModel" "order" "[I", Cond.fieldLink RX12 31 "WetPrintsModel" "best" "[I", Cond.fieldLink RX12 34 "WetPrintsModel" "places" "[I", Cond.fieldLink RX12 37 "WetPrintsModel" "colours" "[J", Cond.fieldLink RX12 41 "WetPrintsModel" "shines" "[J", Cond.fieldLink RX12 44 "WetPrintsModel" "closes" "[I", Cond.fieldLink RX12 47 "WetPrintsModel" "text" "[I", Cond.fieldLink RX12 50 "WetPrintsModel" "letters" "[I", Cond.fieldLink RX12 53 "WetPrintsModel" "numbers" "[I", Cond.fieldLink RX12 56 "WetPrintsModel" "pasts" "I", Cond.methodLink RL 13 yX11_block, Cond.instanceMethod yX11_block, Cond.selects RX11 yX11_block yX11_block, Cond.code yX11_block cX11_block 6 (some .int), Cond.methodLink RX11 60 yX11_whyNoBlock, Cond.instanceMethod yX11_whyNoBlock, Cond.selects RX11 yX11_whyNoBlock yX11_whyNoBlock, Cond.code yX11_whyNoBlock cX11_whyNoBlock 5 (some .int), Cond.constant RX11 299 (65535), Cond.fieldLink RX11 276 "WetPrints$Blocks" "count" "I", Cond.methodLink RX11 99 yX11_within, Cond.static yX11_within, Cond.code yX11_within cX11_within 3 (some .boolean), Cond.methodLink RX11 64 yX11_refuse]
def wsL_law_r8 : List Cond := [Cond.instanceMethod yX11_refuse, Cond.selects RX11 yX11_refuse yX11_refuse, Cond.code yX11_refuse cX11_refuse 2 (some .int), Cond.methodLink RX11 68 yX3_keep, Cond.instanceMethod yX3_keep, Cond.selects RX3 yX3_keep yX3_keep, Cond.code yX3_keep cX3_keep 3 none, Cond.methodLink RX3 33 Lib.Math.min.name, Cond.static Lib.Math.min.name, Cond.initialized "java/lang/Math", Cond.code Lib.Math.min.name Lib.Math.min.code 2 (some .int), Cond.methodLink RX3 25 yX3_keptAt, Cond.instanceMethod yX3_keptAt, Cond.selects RX3 yX3_keptAt yX3_keptAt, Cond.code yX3_keptAt cX3_keptAt 2 (some (.object "WetPrints$State")), Cond.methodLink RX3 29 yX9_copyFrom, Cond.instanceMethod yX9_copyFrom, Cond.selects RX9 yX9_copyFrom yX9_copyFrom, Cond.code yX9_copyFrom cX9_copyFrom 2 none, Cond.methodLink RX9 27 yX0_copyFrom, Cond.instanceMethod yX0_copyFrom, Cond.selects RX0 yX0_copyFrom yX0_copyFrom, Cond.code yX0_copyFrom cX0_copyFrom 2 none, Cond.methodLink RX0 78 yX5_copy]
def wsL_law_r9 : List Cond := [Cond.static yX5_copy, Cond.initialized RX5, Cond.code yX5_copy cX5_copy 3 none, Cond.methodLink RX9 31 yX2_copyFrom, Cond.instanceMethod yX2_copyFrom, Cond.selects RX2 yX2_copyFrom yX2_copyFrom, Cond.code yX2_copyFrom cX2_copyFrom 2 none, Cond.methodLink RX2 81 yX7_copyFrom, Cond.instanceMethod yX7_copyFrom, Cond.selects RX7 yX7_copyFrom yX7_copyFrom, Cond.code yX7_copyFrom cX7_copyFrom 2 none, Cond.methodLink RX7 22 yX7_lay, Cond.instanceMethod yX7_lay, Cond.selects RX7 yX7_lay yX7_lay, Cond.code yX7_lay cX7_lay 6 none, Cond.methodLink RX2 85 yX5_copy, Cond.methodLink RX11 72 yX0_add, Cond.instanceMethod yX0_add, Cond.selects RX0 yX0_add yX0_add, Cond.code yX0_add cX0_add 6 (some .int), Cond.methodLink RX0 50 yX5_put, Cond.static yX5_put, Cond.code yX5_put cX5_put 3 none, Cond.methodLink RX0 54 yX0_move]
def wsL_law_r10 : List Cond := [Cond.instanceMethod yX0_move, Cond.selects RX0 yX0_move yX0_move, Cond.code yX0_move cX0_move 4 none, Cond.methodLink RX0 44 yX5_at, Cond.static yX5_at, Cond.code yX5_at cX5_at 2 (some .int), Cond.methodLink RX0 58 yX1_moved, Cond.static yX1_moved, Cond.initialized RX1, Cond.code yX1_moved cX1_moved 8 (some .int), Cond.methodLink RL 17 yX12_block, Cond.instanceMethod yX12_block, Cond.selects RX12 yX12_block yX12_block, Cond.code yX12_block cX12_block 5 (some .int), Cond.methodLink RX12 94 yX12_hold, Cond.instanceMethod yX12_hold, Cond.selects RX12 yX12_hold yX12_hold, Cond.code yX12_hold cX12_hold 2 none, Cond.methodLink RX12 97 yX12_doBlock, Cond.instanceMethod yX12_doBlock, Cond.selects RX12 yX12_doBlock yX12_doBlock, Cond.code yX12_doBlock cX12_doBlock 6 (some .int), Cond.constant RX12 83 (65535), Cond.methodLink RX12 67 yX12_in]
def wsL_law_r11 : List Cond := [Cond.static yX12_in, Cond.code yX12_in cX12_in 3 (some .boolean), Cond.methodLink RX12 101 yX12_ends, Cond.instanceMethod yX12_ends, Cond.selects RX12 yX12_ends yX12_ends, Cond.code yX12_ends cX12_ends 2 (some .int), Cond.methodLink RX12 60 yX12_refuses, Cond.instanceMethod yX12_refuses, Cond.selects RX12 yX12_refuses yX12_refuses, Cond.code yX12_refuses cX12_refuses 2 (some .int), Cond.methodLink RX12 64 yX12_push, Cond.instanceMethod yX12_push, Cond.selects RX12 yX12_push yX12_push, Cond.code yX12_push cX12_push 2 none, Cond.methodLink RL 18 yX11_shifts, Cond.instanceMethod yX11_shifts, Cond.selects RX11 yX11_shifts yX11_shifts, Cond.code yX11_shifts cX11_shifts 5 (some .int), Cond.methodLink RX11 77 yX11_whyNoShift, Cond.instanceMethod yX11_whyNoShift, Cond.selects RX11 yX11_whyNoShift yX11_whyNoShift, Cond.code yX11_whyNoShift cX11_whyNoShift 4 (some .int), Cond.methodLink RX11 117 yX0_has, Cond.instanceMethod yX0_has]
def wsL_law_r12 : List Cond := [Cond.selects RX0 yX0_has yX0_has, Cond.code yX0_has cX0_has 2 (some .boolean), Cond.methodLink RX11 81 yX0_move, Cond.methodLink RX11 85 yX0_placeOf, Cond.instanceMethod yX0_placeOf, Cond.selects RX0 yX0_placeOf yX0_placeOf, Cond.code yX0_placeOf cX0_placeOf 2 (some .int), Cond.methodLink RX11 88 yJ6_bitCount_0f7a4, Cond.static yJ6_bitCount_0f7a4, Cond.initialized RJ6, Cond.code yJ6_bitCount_0f7a4 cJ6_bitCount_0f7a4 1 (some .int), Cond.constant RJ6 265 (1431655765), Cond.constant RJ6 266 (858993459), Cond.constant RJ6 267 (252645135), Cond.methodLink RL 22 yX12_shifts, Cond.instanceMethod yX12_shifts, Cond.selects RX12 yX12_shifts yX12_shifts, Cond.code yX12_shifts cX12_shifts 4 (some .int), Cond.methodLink RX12 104 yX12_doShifts, Cond.instanceMethod yX12_doShifts, Cond.selects RX12 yX12_doShifts yX12_doShifts, Cond.code yX12_doShifts cX12_doShifts 4 (some .int), Cond.methodLink RX12 84 yX12_isBlock, Cond.instanceMethod yX12_isBlock]
def wsL_law_r13 : List Cond := [Cond.selects RX12 yX12_isBlock yX12_isBlock, Cond.code yX12_isBlock cX12_isBlock 2 (some .boolean), Cond.methodLink RX12 88 yX12_placeOf, Cond.instanceMethod yX12_placeOf, Cond.selects RX12 yX12_placeOf yX12_placeOf, Cond.code yX12_placeOf cX12_placeOf 2 (some .int), Cond.methodLink RX12 75 yX12_ofBlock, Cond.instanceMethod yX12_ofBlock, Cond.selects RX12 yX12_ofBlock yX12_ofBlock, Cond.code yX12_ofBlock cX12_ofBlock 3 (some .int), Cond.methodLink RX12 79 yX12_moved, Cond.static yX12_moved, Cond.code yX12_moved cX12_moved 7 (some .int), Cond.methodLink RX12 71 yX12_has, Cond.static yX12_has, Cond.code yX12_has cX12_has 2 (some .boolean), Cond.methodLink RX12 91 yX12_bits, Cond.static yX12_bits, Cond.code yX12_bits cX12_bits 3 (some .int), Cond.methodLink RL 23 yX11_behind, Cond.instanceMethod yX11_behind, Cond.selects RX11 yX11_behind yX11_behind, Cond.code yX11_behind cX11_behind 5 (some .int), Cond.methodLink RX11 93 yX11_whyNoBehind]
def wsL_law_r14 : List Cond := [Cond.instanceMethod yX11_whyNoBehind, Cond.selects RX11 yX11_whyNoBehind yX11_whyNoBehind, Cond.code yX11_whyNoBehind cX11_whyNoBehind 4 (some .int), Cond.methodLink RX11 149 yX0_areUnlike, Cond.instanceMethod yX0_areUnlike, Cond.selects RX0 yX0_areUnlike yX0_areUnlike, Cond.code yX0_areUnlike cX0_areUnlike 3 (some .boolean), Cond.methodLink RX0 40 yX0_has, Cond.methodLink RX11 96 yX0_tellBehind, Cond.instanceMethod yX0_tellBehind, Cond.selects RX0 yX0_tellBehind yX0_tellBehind, Cond.code yX0_tellBehind cX0_tellBehind 5 (some .int), Cond.methodLink RL 26 yX12_behind, Cond.instanceMethod yX12_behind, Cond.selects RX12 yX12_behind yX12_behind, Cond.code yX12_behind cX12_behind 4 (some .int), Cond.methodLink RX12 107 yX12_doBehind, Cond.instanceMethod yX12_doBehind, Cond.selects RX12 yX12_doBehind yX12_doBehind, Cond.code yX12_doBehind cX12_doBehind 6 (some .int), Cond.methodLink RL 27 yX11_plans, Cond.instanceMethod yX11_plans, Cond.selects RX11 yX11_plans yX11_plans, Cond.code yX11_plans cX11_plans 4 (some .int)]
def wsL_law_r15 : List Cond := [Cond.fieldLink RX11 103 "WetPrints$State" "plan" "J", Cond.methodLink RX11 107 yX1_nibble, Cond.static yX1_nibble, Cond.code yX1_nibble cX1_nibble 3 (some .int), Cond.methodLink RX11 113 yX1_withNibble, Cond.static yX1_withNibble, Cond.code yX1_withNibble cX1_withNibble 4 (some .long), Cond.constantLong RX1 9 (15), Cond.constantLong RX1 11 (-1), Cond.methodLink RL 31 yX12_plans, Cond.instanceMethod yX12_plans, Cond.selects RX12 yX12_plans yX12_plans, Cond.code yX12_plans cX12_plans 4 (some .int), Cond.methodLink RL 32 yX11_of, Cond.instanceMethod yX11_of, Cond.selects RX11 yX11_of yX11_of, Cond.code yX11_of cX11_of 3 (some .int), Cond.fieldLink RX11 121 "WetPrints$Blocks" "kinds" "[I", Cond.fieldLink RX11 131 "WetPrints$Blocks" "colours" "[I", Cond.fieldLink RX11 134 "WetPrints$Blocks" "drys" "[I", Cond.fieldLink RX11 137 "WetPrints$Blocks" "areas" "[I", Cond.fieldLink RX11 140 "WetPrints$Blocks" "xs" "[I", Cond.fieldLink RX11 143 "WetPrints$Blocks" "ys" "[I", Cond.fieldLink RX11 146 "WetPrints$Blocks" "behinds" "[I"]
def wsL_law_r16 : List Cond := [Cond.methodLink RX11 125 yX5_at, Cond.methodLink RL 35 yX12_of, Cond.instanceMethod yX12_of, Cond.selects RX12 yX12_of yX12_of, Cond.code yX12_of cX12_of 3 (some .int), Cond.methodLink RX12 110 yX12_ofAll, Cond.instanceMethod yX12_ofAll, Cond.selects RX12 yX12_ofAll yX12_ofAll, Cond.code yX12_ofAll cX12_ofAll 3 (some .int), Cond.methodLink RL 36 yX11_common, Cond.instanceMethod yX11_common, Cond.selects RX11 yX11_common yX11_common, Cond.code yX11_common cX11_common 5 (some .int), Cond.methodLink RL 39 yX12_common, Cond.instanceMethod yX12_common, Cond.selects RX12 yX12_common yX12_common, Cond.code yX12_common cX12_common 5 (some .int), Cond.methodLink RL 40 yX11_fit, Cond.instanceMethod yX11_fit, Cond.selects RX11 yX11_fit yX11_fit, Cond.code yX11_fit cX11_fit 11 (some .int), Cond.methodLink RX11 153 yX1_alike, Cond.static yX1_alike, Cond.code yX1_alike cX1_alike 5 (some .int)]
def wsL_law_r17 : List Cond := [Cond.methodLink RX1 24 yX1_nibble, Cond.methodLink RX11 156 yX1_moved, Cond.methodLink RX11 159 yX11_gainOf, Cond.static yX11_gainOf, Cond.code yX11_gainOf cX11_gainOf 2 (some .int), Cond.methodLink RL 43 yX12_fit, Cond.instanceMethod yX12_fit, Cond.selects RX12 yX12_fit yX12_fit, Cond.code yX12_fit cX12_fit 7 (some .int), Cond.methodLink RX12 113 yX12_more, Cond.instanceMethod yX12_more, Cond.selects RX12 yX12_more yX12_more, Cond.code yX12_more cX12_more 5 (some .int), Cond.methodLink RL 44 yX11_lawful, Cond.instanceMethod yX11_lawful, Cond.selects RX11 yX11_lawful yX11_lawful, Cond.code yX11_lawful cX11_lawful 1 (some .int), Cond.methodLink RX11 163 yX6_countLawful, Cond.instanceMethod yX6_countLawful, Cond.selects RX6 yX6_countLawful yX6_countLawful, Cond.code yX6_countLawful cX6_countLawful 3 (some .int), Cond.fieldLink RX6 57 "WetPrints$Blocks" "count" "I", Cond.methodLink RX6 62 yX5_put, Cond.methodLink RX6 68 yX6_waysTo]
def wsL_law_r18 : List Cond := [Cond.instanceMethod yX6_waysTo, Cond.selects RX6 yX6_waysTo yX6_waysTo, Cond.code yX6_waysTo cX6_waysTo 5 (some .int), Cond.methodLink RX6 76 yX0_mayFollow, Cond.instanceMethod yX0_mayFollow, Cond.selects RX0 yX0_mayFollow yX0_mayFollow, Cond.code yX0_mayFollow cX0_mayFollow 3 (some .boolean), Cond.methodLink RX6 72 yX5_at, Cond.methodLink RL 48 yX12_lawful, Cond.instanceMethod yX12_lawful, Cond.selects RX12 yX12_lawful yX12_lawful, Cond.code yX12_lawful cX12_lawful 3 (some .int), Cond.methodLink RX12 129 yX12_begin, Cond.instanceMethod yX12_begin, Cond.selects RX12 yX12_begin yX12_begin, Cond.code yX12_begin cX12_begin 2 none, Cond.methodLink RX12 132 yX12_isLawful, Cond.instanceMethod yX12_isLawful, Cond.selects RX12 yX12_isLawful yX12_isLawful, Cond.code yX12_isLawful cX12_isLawful 4 (some .boolean), Cond.methodLink RX12 136 yX12_goesOn, Cond.instanceMethod yX12_goesOn, Cond.selects RX12 yX12_goesOn yX12_goesOn, Cond.code yX12_goesOn cX12_goesOn 5 (some .boolean)]
def wsL_law_r19 : List Cond := [Cond.methodLink RX12 119 yX12_exchange, Cond.instanceMethod yX12_exchange, Cond.selects RX12 yX12_exchange yX12_exchange, Cond.code yX12_exchange cX12_exchange 4 none, Cond.methodLink RL 49 yX11_least, Cond.instanceMethod yX11_least, Cond.selects RX11 yX11_least yX11_least, Cond.code yX11_least cX11_least 3 (some .int), Cond.fieldLink RX11 174 "WetPrints$Search" "bestSmear" "I", Cond.methodLink RX11 167 yX11_refuseOrder, Cond.instanceMethod yX11_refuseOrder, Cond.selects RX11 yX11_refuseOrder yX11_refuseOrder, Cond.code yX11_refuseOrder cX11_refuseOrder 2 (some .int), Cond.methodLink RX11 170 yX6_run, Cond.instanceMethod yX6_run, Cond.selects RX6 yX6_run yX6_run, Cond.code yX6_run cX6_run 5 none, Cond.methodLink RX6 80 yX8_empty, Cond.instanceMethod yX8_empty, Cond.selects RX8 yX8_empty yX8_empty, Cond.code yX8_empty cX8_empty 1 none, Cond.methodLink RX6 83 yX7_wipe, Cond.instanceMethod yX7_wipe, Cond.selects RX7 yX7_wipe yX7_wipe]
def wsL_law_r20 : List Cond := [Cond.code yX7_wipe cX7_wipe 1 none, Cond.methodLink RX6 86 yX6_extend, Cond.static yX6_extend, Cond.code yX6_extend cX6_extend 14 none, Cond.fieldLink RX6 94 "WetPrints$Sheet" "colours" "J", Cond.fieldLink RX6 97 "WetPrints$Sheet" "shines" "J", Cond.fieldLink RX6 100 "WetPrints$Sheet" "closed" "I", Cond.methodLink RX6 90 yX6_judge, Cond.instanceMethod yX6_judge, Cond.selects RX6 yX6_judge yX6_judge, Cond.code yX6_judge cX6_judge 6 none, Cond.methodLink RX6 132 yX8_add, Cond.instanceMethod yX8_add, Cond.selects RX8 yX8_add yX8_add, Cond.code yX8_add cX8_add 11 none, Cond.fieldLink RX8 33 "WetPrints$Sheet" "shines" "J", Cond.constantLong RX8 36 (-7046029254386353131), Cond.constantLong RX8 38 (-4417276706812531889), Cond.methodLink RX8 27 yX7_coloursAndClosed, Cond.instanceMethod yX7_coloursAndClosed, Cond.selects RX7 yX7_coloursAndClosed yX7_coloursAndClosed, Cond.code yX7_coloursAndClosed cX7_coloursAndClosed 1 (some .long), Cond.methodLink RX7 26 yX1_spread, Cond.static yX1_spread]
def wsL_law_r21 : List Cond := [Cond.code yX1_spread cX1_spread 3 (some .long), Cond.constant RX1 13 (65535), Cond.constantLong RX1 14 (1095216660735), Cond.constantLong RX1 16 (4222189076152335), Cond.constantLong RX1 18 (217020518514230019), Cond.constantLong RX1 22 (1229782938247303441), Cond.methodLink RX6 136 yX7_hits, Cond.instanceMethod yX7_hits, Cond.selects RX7 yX7_hits yX7_hits, Cond.code yX7_hits cX7_hits 3 (some .int), Cond.methodLink RX7 49 yX1_filled, Cond.static yX1_filled, Cond.code yX1_filled cX1_filled 2 (some .long), Cond.methodLink RX7 53 yJ13_bitCount_95d88, Cond.static yJ13_bitCount_95d88, Cond.initialized RJ13, Cond.code yJ13_bitCount_95d88 cJ13_bitCount_95d88 2 (some .int), Cond.constantLong RJ13 314 (6148914691236517205), Cond.constantLong RJ13 316 (3689348814741910323), Cond.constantLong RJ13 318 (1085102592571150095), Cond.methodLink RX6 103 yX7_lay, Cond.methodLink RX6 107 yX0_printOn, Cond.instanceMethod yX0_printOn, Cond.selects RX0 yX0_printOn yX0_printOn]
def wsL_law_r22 : List Cond := [Cond.code yX0_printOn cX0_printOn 3 none, Cond.methodLink RX0 64 yX0_placeOf, Cond.methodLink RX0 68 yX7_take, Cond.instanceMethod yX7_take, Cond.selects RX7 yX7_take yX7_take, Cond.code yX7_take cX7_take 6 none, Cond.methodLink RX7 32 yX7_cover, Cond.instanceMethod yX7_cover, Cond.selects RX7 yX7_cover yX7_cover, Cond.code yX7_cover cX7_cover 4 none, Cond.constantLong RX7 43 (15), Cond.constantLong RX7 45 (-1), Cond.methodLink RX7 36 yX7_mix, Cond.instanceMethod yX7_mix, Cond.selects RX7 yX7_mix yX7_mix, Cond.code yX7_mix cX7_mix 6 none, Cond.constantLong RX7 47 (8608480567731124087), Cond.methodLink RX7 39 yX7_polish, Cond.instanceMethod yX7_polish, Cond.selects RX7 yX7_polish yX7_polish, Cond.code yX7_polish cX7_polish 5 none, Cond.methodLink RX6 111 yX6_smearOf, Cond.instanceMethod yX6_smearOf, Cond.selects RX6 yX6_smearOf yX6_smearOf]
def wsL_law_r23 : List Cond := [Cond.code yX6_smearOf cX6_smearOf 9 (some .int), Cond.methodLink RX6 121 yX0_placeOf, Cond.methodLink RX6 124 yX1_nibble, Cond.methodLink RX6 128 yX0_smearBy, Cond.instanceMethod yX0_smearBy, Cond.selects RX0 yX0_smearBy yX0_smearBy, Cond.code yX0_smearBy cX0_smearBy 5 (some .int), Cond.methodLink RX0 73 yJ6_bitCount_0f7a4, Cond.methodLink RX6 115 yX1_withNibble, Cond.methodLink RX11 177 yX11_blockOfBest, Cond.instanceMethod yX11_blockOfBest, Cond.selects RX11 yX11_blockOfBest yX11_blockOfBest, Cond.code yX11_blockOfBest cX11_blockOfBest 2 (some .int), Cond.fieldLink RX11 306 "WetPrints$Search" "bestOrder" "J", Cond.methodLink RL 52 yX12_least, Cond.instanceMethod yX12_least, Cond.selects RX12 yX12_least yX12_least, Cond.code yX12_least cX12_least 3 (some .int), Cond.methodLink RX12 159 yX12_asked, Cond.instanceMethod yX12_asked, Cond.selects RX12 yX12_asked yX12_asked, Cond.code yX12_asked cX12_asked 4 (some .int), Cond.fieldLink RX12 149 "WetPrintsModel" "bestHits" "I", Cond.fieldLink RX12 152 "WetPrintsModel" "bestSmear" "I"]
def wsL_law_r24 : List Cond := [Cond.methodLink RX12 155 yX12_isFound, Cond.instanceMethod yX12_isFound, Cond.selects RX12 yX12_isFound yX12_isFound, Cond.code yX12_isFound cX12_isFound 8 (some .boolean), Cond.methodLink RX12 139 yX12_smearBy, Cond.instanceMethod yX12_smearBy, Cond.selects RX12 yX12_smearBy yX12_smearBy, Cond.code yX12_smearBy cX12_smearBy 6 (some .int), Cond.methodLink RX12 142 yX12_printAll, Cond.instanceMethod yX12_printAll, Cond.selects RX12 yX12_printAll yX12_printAll, Cond.code yX12_printAll cX12_printAll 2 none, Cond.methodLink RX12 123 yX12_clearSheet, Cond.instanceMethod yX12_clearSheet, Cond.selects RX12 yX12_clearSheet yX12_clearSheet, Cond.code yX12_clearSheet cX12_clearSheet 2 none, Cond.fieldLink RX12 116 "WetPrintsModel" "closed" "I", Cond.methodLink RX12 126 yX12_printOn, Cond.instanceMethod yX12_printOn, Cond.selects RX12 yX12_printOn yX12_printOn, Cond.code yX12_printOn cX12_printOn 7 none, Cond.methodLink RX12 145 yX12_hits, Cond.instanceMethod yX12_hits, Cond.selects RX12 yX12_hits yX12_hits]
def wsL_law_r25 : List Cond := [Cond.code yX12_hits cX12_hits 3 (some .int), Cond.methodLink RL 53 yX11_nearest, Cond.instanceMethod yX11_nearest, Cond.selects RX11 yX11_nearest yX11_nearest, Cond.code yX11_nearest cX11_nearest 3 (some .int), Cond.fieldLink RX11 180 "WetPrints$Search" "bestHits" "I", Cond.methodLink RL 56 yX12_nearest, Cond.instanceMethod yX12_nearest, Cond.selects RX12 yX12_nearest yX12_nearest, Cond.code yX12_nearest cX12_nearest 3 (some .int), Cond.methodLink RL 57 yX11_sheets, Cond.instanceMethod yX11_sheets, Cond.selects RX11 yX11_sheets yX11_sheets, Cond.code yX11_sheets cX11_sheets 1 (some .int), Cond.fieldLink RX11 183 "WetPrints$Search" "unlike" "LWetPrints$SheetSet;", Cond.fieldLink RX11 187 "WetPrints$SheetSet" "size" "I", Cond.methodLink RL 60 yX12_sheets, Cond.instanceMethod yX12_sheets, Cond.selects RX12 yX12_sheets yX12_sheets, Cond.code yX12_sheets cX12_sheets 3 (some .int), Cond.methodLink RX12 163 yX12_isNew, Cond.instanceMethod yX12_isNew, Cond.selects RX12 yX12_isNew yX12_isNew, Cond.code yX12_isNew cX12_isNew 8 (some .boolean)]
def wsL_law_r26 : List Cond := [Cond.methodLink RL 61 yX11_prints, Cond.instanceMethod yX11_prints, Cond.selects RX11 yX11_prints yX11_prints, Cond.code yX11_prints cX11_prints 4 (some .int), Cond.fieldLink RX11 195 "WetPrints$State" "work" "LWetPrints$HandWork;", Cond.methodLink RX11 192 yX11_whyNoPrint, Cond.instanceMethod yX11_whyNoPrint, Cond.selects RX11 yX11_whyNoPrint yX11_whyNoPrint, Cond.code yX11_whyNoPrint cX11_whyNoPrint 3 (some .int), Cond.fieldLink RX11 229 "WetPrints$HandWork" "count" "I", Cond.methodLink RX11 300 yX2_printed, Cond.instanceMethod yX2_printed, Cond.selects RX2 yX2_printed yX2_printed, Cond.code yX2_printed cX2_printed 3 (some .int), Cond.methodLink RX2 58 yX5_at, Cond.methodLink RX11 303 yX0_mayFollow, Cond.methodLink RX11 199 yX2_printNext, Cond.instanceMethod yX2_printNext, Cond.selects RX2 yX2_printNext yX2_printNext, Cond.code yX2_printNext cX2_printNext 6 (some .int), Cond.methodLink RX2 38 yX0_placeOf, Cond.methodLink RX2 44 yX2_smearOn, Cond.instanceMethod yX2_smearOn, Cond.selects RX2 yX2_smearOn yX2_smearOn]
def wsL_law_r27 : List Cond := [Cond.code yX2_smearOn cX2_smearOn 6 (some .int), Cond.methodLink RX2 62 yX0_smearBy, Cond.methodLink RX2 48 yX0_printOn, Cond.methodLink RX2 52 yX5_put, Cond.methodLink RL 64 yX12_prints, Cond.instanceMethod yX12_prints, Cond.selects RX12 yX12_prints yX12_prints, Cond.code yX12_prints cX12_prints 3 (some .int), Cond.methodLink RX12 172 yX12_doPrints, Cond.instanceMethod yX12_doPrints, Cond.selects RX12 yX12_doPrints yX12_doPrints, Cond.code yX12_doPrints cX12_doPrints 8 (some .int), Cond.methodLink RX12 166 yX12_takeSheet, Cond.instanceMethod yX12_takeSheet, Cond.selects RX12 yX12_takeSheet yX12_takeSheet, Cond.code yX12_takeSheet cX12_takeSheet 2 none, Cond.methodLink RX12 169 yX12_giveSheet, Cond.instanceMethod yX12_giveSheet, Cond.selects RX12 yX12_giveSheet yX12_giveSheet, Cond.code yX12_giveSheet cX12_giveSheet 2 none, Cond.methodLink RL 65 yX11_news, Cond.instanceMethod yX11_news, Cond.selects RX11 yX11_news yX11_news, Cond.code yX11_news cX11_news 1 (some .int)]
def wsL_law_r28 : List Cond := [Cond.methodLink RX11 205 yX2_renew, Cond.instanceMethod yX2_renew, Cond.selects RX2 yX2_renew yX2_renew, Cond.code yX2_renew cX2_renew 2 (some .int), Cond.methodLink RX2 78 yX7_wipe, Cond.methodLink RL 68 yX12_news, Cond.instanceMethod yX12_news, Cond.selects RX12 yX12_news yX12_news, Cond.code yX12_news cX12_news 1 (some .int), Cond.methodLink RX12 175 yX12_doNews, Cond.instanceMethod yX12_doNews, Cond.selects RX12 yX12_doNews yX12_doNews, Cond.code yX12_doNews cX12_doNews 2 (some .int), Cond.methodLink RL 69 yX11_cell, Cond.instanceMethod yX11_cell, Cond.selects RX11 yX11_cell yX11_cell, Cond.code yX11_cell cX11_cell 4 (some .int), Cond.fieldLink RX11 208 "WetPrints$HandWork" "sheet" "LWetPrints$Sheet;", Cond.fieldLink RX11 212 "WetPrints$Sheet" "colours" "J", Cond.fieldLink RX11 216 "WetPrints$Sheet" "shines" "J", Cond.fieldLink RX11 219 "WetPrints$Sheet" "closed" "I", Cond.methodLink RX11 222 yX2_wetHours, Cond.instanceMethod yX2_wetHours, Cond.selects RX2 yX2_wetHours yX2_wetHours]
def wsL_law_r29 : List Cond := [Cond.code yX2_wetHours cX2_wetHours 6 (some .int), Cond.fieldLink RX2 66 "WetPrints$Blocks" "drys" "[I", Cond.methodLink RX2 69 Lib.Math.max.name, Cond.static Lib.Math.max.name, Cond.code Lib.Math.max.name Lib.Math.max.code 2 (some .int), Cond.methodLink RL 72 yX12_cell, Cond.instanceMethod yX12_cell, Cond.selects RX12 yX12_cell yX12_cell, Cond.code yX12_cell cX12_cell 3 (some .int), Cond.methodLink RX12 181 yX12_ofCell, Cond.instanceMethod yX12_ofCell, Cond.selects RX12 yX12_ofCell yX12_ofCell, Cond.code yX12_ofCell cX12_ofCell 3 (some .int), Cond.methodLink RX12 178 yX12_wet, Cond.instanceMethod yX12_wet, Cond.selects RX12 yX12_wet yX12_wet, Cond.code yX12_wet cX12_wet 5 (some .int), Cond.methodLink RL 73 yX11_hand, Cond.instanceMethod yX11_hand, Cond.selects RX11 yX11_hand yX11_hand, Cond.code yX11_hand cX11_hand 3 (some .int), Cond.fieldLink RX11 226 "WetPrints$HandWork" "hour" "I", Cond.fieldLink RX11 232 "WetPrints$HandWork" "allSmear" "I", Cond.methodLink RX11 235 yX7_hits]
def wsL_law_r30 : List Cond := [Cond.methodLink RX11 239 yX2_wetCells, Cond.instanceMethod yX2_wetCells, Cond.selects RX2 yX2_wetCells yX2_wetCells, Cond.code yX2_wetCells cX2_wetCells 4 (some .int), Cond.methodLink RX2 75 yX2_wetHours, Cond.methodLink RX11 243 yX1_filled, Cond.methodLink RX11 247 yJ13_bitCount_95d88, Cond.methodLink RL 77 yX12_hand, Cond.instanceMethod yX12_hand, Cond.selects RX12 yX12_hand yX12_hand, Cond.code yX12_hand cX12_hand 2 (some .int), Cond.methodLink RX12 184 yX12_ofHand, Cond.instanceMethod yX12_ofHand, Cond.selects RX12 yX12_ofHand yX12_ofHand, Cond.code yX12_ofHand cX12_ofHand 4 (some .int), Cond.methodLink RL 78 yX11_print, Cond.instanceMethod yX11_print, Cond.selects RX11 yX11_print yX11_print, Cond.code yX11_print cX11_print 3 (some .int), Cond.fieldLink RX11 251 "WetPrints$HandWork" "numbers" "[I", Cond.fieldLink RX11 254 "WetPrints$HandWork" "hours" "[I", Cond.fieldLink RX11 257 "WetPrints$HandWork" "places" "[I", Cond.methodLink RL 81 yX12_print, Cond.instanceMethod yX12_print]
def wsL_law_r31 : List Cond := [Cond.selects RX12 yX12_print yX12_print, Cond.code yX12_print cX12_print 3 (some .int), Cond.methodLink RL 82 yX11_type, Cond.instanceMethod yX11_type, Cond.selects RX11 yX11_type yX11_type, Cond.code yX11_type cX11_type 2 (some .int), Cond.fieldLink RX11 260 "WetPrints$Text" "length" "I", Cond.methodLink RX11 263 yX10_add, Cond.instanceMethod yX10_add, Cond.selects RX10 yX10_add yX10_add, Cond.code yX10_add cX10_add 2 none, Cond.methodLink RX10 19 yX5_put, Cond.methodLink RL 85 yX12_type, Cond.instanceMethod yX12_type, Cond.selects RX12 yX12_type yX12_type, Cond.code yX12_type cX12_type 2 (some .int), Cond.fieldLink RX12 187 "WetPrintsModel" "typed" "I", Cond.methodLink RL 86 yX11_clear, Cond.instanceMethod yX11_clear, Cond.selects RX11 yX11_clear yX11_clear, Cond.code yX11_clear cX11_clear 2 (some .int), Cond.methodLink RL 89 yX12_clear, Cond.instanceMethod yX12_clear, Cond.selects RX12 yX12_clear yX12_clear]
def wsL_law_r32 : List Cond := [Cond.code yX12_clear cX12_clear 2 (some .int), Cond.methodLink RL 90 yX11_reads, Cond.instanceMethod yX11_reads, Cond.selects RX11 yX11_reads yX11_reads, Cond.code yX11_reads cX11_reads 2 (some .int), Cond.methodLink RX11 266 yX11_faultOfText, Cond.instanceMethod yX11_faultOfText, Cond.selects RX11 yX11_faultOfText yX11_faultOfText, Cond.code yX11_faultOfText cX11_faultOfText 2 (some .int), Cond.fieldLink RX11 312 "WetPrints$Text" "bytes" "[I", Cond.methodLink RX11 309 yX4_restart, Cond.instanceMethod yX4_restart, Cond.selects RX4 yX4_restart yX4_restart, Cond.code yX4_restart cX4_restart 1 none, Cond.methodLink RX11 315 yX4_takes, Cond.instanceMethod yX4_takes, Cond.selects RX4 yX4_takes yX4_takes, Cond.code yX4_takes cX4_takes 2 (some .boolean), Cond.methodLink RX4 44 yX4_begins, Cond.instanceMethod yX4_begins, Cond.selects RX4 yX4_begins yX4_begins, Cond.code yX4_begins cX4_begins 2 (some .boolean), Cond.methodLink RX4 61 yX4_numbersBehind, Cond.static yX4_numbersBehind]
def wsL_law_r33 : List Cond := [Cond.code yX4_numbersBehind cX4_numbersBehind 1 (some .int), Cond.methodLink RX4 65 yX4_startNumber, Cond.instanceMethod yX4_startNumber, Cond.selects RX4 yX4_startNumber yX4_startNumber, Cond.code yX4_startNumber cX4_startNumber 1 none, Cond.methodLink RX4 48 yX4_figure, Cond.instanceMethod yX4_figure, Cond.selects RX4 yX4_figure yX4_figure, Cond.code yX4_figure cX4_figure 2 (some .boolean), Cond.methodLink RX4 51 yX4_endNumber, Cond.instanceMethod yX4_endNumber, Cond.selects RX4 yX4_endNumber yX4_endNumber, Cond.code yX4_endNumber cX4_endNumber 1 none, Cond.methodLink RX4 68 yX5_put, Cond.methodLink RX4 54 yX4_minus, Cond.instanceMethod yX4_minus, Cond.selects RX4 yX4_minus yX4_minus, Cond.code yX4_minus cX4_minus 1 (some .boolean), Cond.methodLink RX4 58 yX4_endOrder, Cond.instanceMethod yX4_endOrder, Cond.selects RX4 yX4_endOrder yX4_endOrder, Cond.code yX4_endOrder cX4_endOrder 1 (some .boolean), Cond.methodLink RX11 318 yX4_mayEnd, Cond.instanceMethod yX4_mayEnd]
def wsL_law_r34 : List Cond := [Cond.selects RX4 yX4_mayEnd yX4_mayEnd, Cond.code yX4_mayEnd cX4_mayEnd 1 (some .boolean), Cond.methodLink RX11 269 yX11_doText, Cond.instanceMethod yX11_doText, Cond.selects RX11 yX11_doText yX11_doText, Cond.code yX11_doText cX11_doText 3 (some .int), Cond.fieldLink RX11 322 "WetPrints$OrderReader" "hasOrder" "Z", Cond.methodLink RX11 326 yX11_doOrder, Cond.instanceMethod yX11_doOrder, Cond.selects RX11 yX11_doOrder yX11_doOrder, Cond.code yX11_doOrder cX11_doOrder 5 (some .boolean), Cond.fieldLink RX11 329 "WetPrints$OrderReader" "numbers" "[I", Cond.fieldLink RX11 330 "WetPrints$OrderReader" "letter" "I", Cond.methodLink RL 93 yX12_reads, Cond.instanceMethod yX12_reads, Cond.selects RX12 yX12_reads yX12_reads, Cond.code yX12_reads cX12_reads 3 (some .int), Cond.fieldLink RX12 190 "WetPrintsModel" "at" "I", Cond.fieldLink RX12 193 "WetPrintsModel" "fault" "I", Cond.fieldLink RX12 209 "WetPrintsModel" "orders" "I", Cond.methodLink RX12 196 yX12_here, Cond.instanceMethod yX12_here, Cond.selects RX12 yX12_here yX12_here, Cond.code yX12_here cX12_here 1 (some .int)]
def wsL_law_r35 : List Cond := [Cond.methodLink RX12 202 yX12_must, Cond.instanceMethod yX12_must, Cond.selects RX12 yX12_must yX12_must, Cond.code yX12_must cX12_must 2 none, Cond.methodLink RX12 216 yX12_readOrder, Cond.instanceMethod yX12_readOrder, Cond.selects RX12 yX12_readOrder yX12_readOrder, Cond.code yX12_readOrder cX12_readOrder 4 none, Cond.methodLink RX12 206 yX12_numbersOf, Cond.static yX12_numbersOf, Cond.code yX12_numbersOf cX12_numbersOf 1 (some .int), Cond.methodLink RX12 212 yX12_number, Cond.instanceMethod yX12_number, Cond.selects RX12 yX12_number yX12_number, Cond.code yX12_number cX12_number 5 (some .int), Cond.methodLink RX12 199 yX12_isFigure, Cond.instanceMethod yX12_isFigure, Cond.selects RX12 yX12_isFigure yX12_isFigure, Cond.code yX12_isFigure cX12_isFigure 1 (some .boolean), Cond.methodLink RX12 219 yX12_doOrder, Cond.instanceMethod yX12_doOrder, Cond.selects RX12 yX12_doOrder yX12_doOrder, Cond.code yX12_doOrder cX12_doOrder 5 (some .int), Cond.methodLink RL 94 yX11_back]
def wsL_law_r36 : List Cond := [Cond.instanceMethod yX11_back, Cond.selects RX11 yX11_back yX11_back, Cond.code yX11_back cX11_back 1 (some .int), Cond.fieldLink RX11 272 "WetPrints$History" "count" "I", Cond.methodLink RX11 273 yX3_restore, Cond.instanceMethod yX3_restore, Cond.selects RX3 yX3_restore yX3_restore, Cond.code yX3_restore cX3_restore 4 none, Cond.methodLink RL 97 yX12_back, Cond.instanceMethod yX12_back, Cond.selects RX12 yX12_back yX12_back, Cond.code yX12_back cX12_back 2 (some .int), Cond.methodLink RL 98 yX11_told, Cond.instanceMethod yX11_told, Cond.selects RX11 yX11_told yX11_told, Cond.code yX11_told cX11_told 2 (some .int), Cond.methodLink RL 101 yX12_told, Cond.instanceMethod yX12_told, Cond.selects RX12 yX12_told yX12_told, Cond.code yX12_told cX12_told 2 (some .int), Cond.methodLink RX12 222 yX12_toldOf, Cond.instanceMethod yX12_toldOf, Cond.selects RX12 yX12_toldOf yX12_toldOf, Cond.code yX12_toldOf cX12_toldOf 2 (some .int)]
def wsL_law_r37 : List Cond := [Cond.methodLink RL 102 yX11_digest, Cond.instanceMethod yX11_digest, Cond.selects RX11 yX11_digest yX11_digest, Cond.code yX11_digest cX11_digest 5 (some .long), Cond.constantLong RX11 277 (2393), Cond.constantLong RX11 279 (31), Cond.methodLink RX11 281 yX11_told, Cond.methodLink RX11 284 yX11_of, Cond.methodLink RX11 287 yX11_lawful, Cond.methodLink RX11 290 yX11_hand, Cond.methodLink RX11 293 yX11_cell, Cond.methodLink RX11 296 yX11_print, Cond.methodLink RL 106 yX12_digest, Cond.instanceMethod yX12_digest, Cond.selects RX12 yX12_digest yX12_digest, Cond.code yX12_digest cX12_digest 2 (some .long), Cond.constantLong RX12 231 (2393), Cond.fieldLink RX12 227 "WetPrintsModel" "h" "J", Cond.methodLink RX12 233 yX12_mix, Cond.instanceMethod yX12_mix, Cond.selects RX12 yX12_mix yX12_mix, Cond.code yX12_mix cX12_mix 2 none, Cond.constantLong RX12 225 (31), Cond.methodLink RX12 237 yX12_lawful]
def wsL_law : List Cond := (wsL_law_r1 ++ (wsL_law_r2 ++ (wsL_law_r3 ++ (wsL_law_r4 ++ (wsL_law_r5 ++ (wsL_law_r6 ++ (wsL_law_r7 ++ (wsL_law_r8 ++ (wsL_law_r9 ++ (wsL_law_r10 ++ (wsL_law_r11 ++ (wsL_law_r12 ++ (wsL_law_r13 ++ (wsL_law_r14 ++ (wsL_law_r15 ++ (wsL_law_r16 ++ (wsL_law_r17 ++ (wsL_law_r18 ++ (wsL_law_r19 ++ (wsL_law_r20 ++ (wsL_law_r21 ++ (wsL_law_r22 ++ (wsL_law_r23 ++ (wsL_law_r24 ++ (wsL_law_r25 ++ (wsL_law_r26 ++ (wsL_law_r27 ++ (wsL_law_r28 ++ (wsL_law_r29 ++ (wsL_law_r30 ++ (wsL_law_r31 ++ (wsL_law_r32 ++ (wsL_law_r33 ++ (wsL_law_r34 ++ (wsL_law_r35 ++ (wsL_law_r36 ++ wsL_law_r37)))))))))))))))))))))))))))))))))))) ++ wsX110 ++ wsX120 ++ wsX90 ++ wsX30 ++ wsX60 ++ wsX100 ++ wsX40 ++ wsX00 ++ wsX20 ++ wsX70 ++ wsX80 ++ ([] : List Cond)
theorem inlX0 : ∀ w ∈ wsX00, w ∈ wsL_law := fun _ h => List.mem_append_left _ (List.mem_append_left _ (List.mem_append_left _ (List.mem_append_left _ (List.mem_append_right _ h))))
theorem inlX2 : ∀ w ∈ wsX20, w ∈ wsL_law := fun _ h => List.mem_append_left _ (List.mem_append_left _ (List.mem_append_left _ (List.mem_append_right _ h)))
theorem inlX3 : ∀ w ∈ wsX30, w ∈ wsL_law := fun _ h => List.mem_append_left _ (List.mem_append_left _ (List.mem_append_left _ (List.mem_append_left _ (List.mem_append_left _ (List.mem_append_left _ (List.mem_append_left _ (List.mem_append_left _ (List.mem_append_right _ h))))))))
theorem inlX4 : ∀ w ∈ wsX40, w ∈ wsL_law := fun _ h => List.mem_append_left _ (List.mem_append_left _ (List.mem_append_left _ (List.mem_append_left _ (List.mem_append_left _ (List.mem_append_right _ h)))))
theorem inlX6 : ∀ w ∈ wsX60, w ∈ wsL_law := fun _ h => List.mem_append_left _ (List.mem_append_left _ (List.mem_append_left _ (List.mem_append_left _ (List.mem_append_left _ (List.mem_append_left _ (List.mem_append_left _ (List.mem_append_right _ h)))))))
theorem inlX7 : ∀ w ∈ wsX70, w ∈ wsL_law := fun _ h => List.mem_append_left _ (List.mem_append_left _ (List.mem_append_right _ h))
theorem inlX8 : ∀ w ∈ wsX80, w ∈ wsL_law := fun _ h => List.mem_append_left _ (List.mem_append_right _ h)
theorem inlX9 : ∀ w ∈ wsX90, w ∈ wsL_law := fun _ h => List.mem_append_left _ (List.mem_append_left _ (List.mem_append_left _ (List.mem_append_left _ (List.mem_append_left _ (List.mem_append_left _ (List.mem_append_left _ (List.mem_append_left _ (List.mem_append_left _ (List.mem_append_right _ h)))))))))
theorem inlX10 : ∀ w ∈ wsX100, w ∈ wsL_law := fun _ h => List.mem_append_left _ (List.mem_append_left _ (List.mem_append_left _ (List.mem_append_left _ (List.mem_append_left _ (List.mem_append_left _ (List.mem_append_right _ h))))))
theorem inlX11 : ∀ w ∈ wsX110, w ∈ wsL_law := fun _ h => List.mem_append_left _ (List.mem_append_left _ (List.mem_append_left _ (List.mem_append_left _ (List.mem_append_left _ (List.mem_append_left _ (List.mem_append_left _ (List.mem_append_left _ (List.mem_append_left _ (List.mem_append_left _ (List.mem_append_left _ (List.mem_append_right _ h)))))))))))
theorem inlX12 : ∀ w ∈ wsX120, w ∈ wsL_law := fun _ h => List.mem_append_left _ (List.mem_append_left _ (List.mem_append_left _ (List.mem_append_left _ (List.mem_append_left _ (List.mem_append_left _ (List.mem_append_left _ (List.mem_append_left _ (List.mem_append_left _ (List.mem_append_left _ (List.mem_append_right _ h))))))))))
abbrev vwCl : List vw_C := [(RX0, TX0, 9), (RX2, TX2, 7), (RX3, TX3, 3), (RX4, TX4, 10), (RX6, TX6, 11), (RX7, TX7, 3), (RX8, TX8, 5), (RX9, TX9, 3), (RX10, TX10, 2), (RX11, TX11, 8), (RX12, TX12, 24)]
theorem wm_1 : ∀ w ∈ wsL_law_r1, w ∈ wsL_law := fun _ h => (List.mem_append_left _ (List.mem_append_left _ (List.mem_append_left _ (List.mem_append_left _ (List.mem_append_left _ (List.mem_append_left _ (List.mem_append_left _ (List.mem_append_left _ (List.mem_append_left _ (List.mem_append_left _ (List.mem_append_left _ (List.mem_append_left _ (List.mem_append_left _ h)))))))))))))
theorem wm_2 : ∀ w ∈ wsL_law_r2, w ∈ wsL_law := fun _ h => (List.mem_append_left _ (List.mem_append_left _ (List.mem_append_left _ (List.mem_append_left _ (List.mem_append_left _ (List.mem_append_left _ (List.mem_append_left _ (List.mem_append_left _ (List.mem_append_left _ (List.mem_append_left _ (List.mem_append_left _ (List.mem_append_left _ (List.mem_append_right _ (List.mem_append_left _ h))))))))))))))
theorem wm_3 : ∀ w ∈ wsL_law_r3, w ∈ wsL_law := fun _ h => (List.mem_append_left _ (List.mem_append_left _ (List.mem_append_left _ (List.mem_append_left _ (List.mem_append_left _ (List.mem_append_left _ (List.mem_append_left _ (List.mem_append_left _ (List.mem_append_left _ (List.mem_append_left _ (List.mem_append_left _ (List.mem_append_left _ (List.mem_append_right _ (List.mem_append_right _ (List.mem_append_left _ h)))))))))))))))
theorem wm_4 : ∀ w ∈ wsL_law_r4, w ∈ wsL_law := fun _ h => (List.mem_append_left _ (List.mem_append_left _ (List.mem_append_left _ (List.mem_append_left _ (List.mem_append_left _ (List.mem_append_left _ (List.mem_append_left _ (List.mem_append_left _ (List.mem_append_left _ (List.mem_append_left _ (List.mem_append_left _ (List.mem_append_left _ (List.mem_append_right _ (List.mem_append_right _ (List.mem_append_right _ (List.mem_append_left _ h))))))))))))))))
theorem wm_5 : ∀ w ∈ wsL_law_r5, w ∈ wsL_law := fun _ h => (List.mem_append_left _ (List.mem_append_left _ (List.mem_append_left _ (List.mem_append_left _ (List.mem_append_left _ (List.mem_append_left _ (List.mem_append_left _ (List.mem_append_left _ (List.mem_append_left _ (List.mem_append_left _ (List.mem_append_left _ (List.mem_append_left _ (List.mem_append_right _ (List.mem_append_right _ (List.mem_append_right _ (List.mem_append_right _ (List.mem_append_left _ h)))))))))))))))))
theorem wm_6 : ∀ w ∈ wsL_law_r6, w ∈ wsL_law := fun _ h => (List.mem_append_left _ (List.mem_append_left _ (List.mem_append_left _ (List.mem_append_left _ (List.mem_append_left _ (List.mem_append_left _ (List.mem_append_left _ (List.mem_append_left _ (List.mem_append_left _ (List.mem_append_left _ (List.mem_append_left _ (List.mem_append_left _ (List.mem_append_right _ (List.mem_append_right _ (List.mem_append_right _ (List.mem_append_right _ (List.mem_append_right _ (List.mem_append_left _ h))))))))))))))))))
theorem wm_7 : ∀ w ∈ wsL_law_r7, w ∈ wsL_law := fun _ h => (List.mem_append_left _ (List.mem_append_left _ (List.mem_append_left _ (List.mem_append_left _ (List.mem_append_left _ (List.mem_append_left _ (List.mem_append_left _ (List.mem_append_left _ (List.mem_append_left _ (List.mem_append_left _ (List.mem_append_left _ (List.mem_append_left _ (List.mem_append_right _ (List.mem_append_right _ (List.mem_append_right _ (List.mem_append_right _ (List.mem_append_right _ (List.mem_append_right _ (List.mem_append_left _ h)))))))))))))))))))
theorem wm_8 : ∀ w ∈ wsL_law_r8, w ∈ wsL_law := fun _ h => (List.mem_append_left _ (List.mem_append_left _ (List.mem_append_left _ (List.mem_append_left _ (List.mem_append_left _ (List.mem_append_left _ (List.mem_append_left _ (List.mem_append_left _ (List.mem_append_left _ (List.mem_append_left _ (List.mem_append_left _ (List.mem_append_left _ (List.mem_append_right _ (List.mem_append_right _ (List.mem_append_right _ (List.mem_append_right _ (List.mem_append_right _ (List.mem_append_right _ (List.mem_append_right _ (List.mem_append_left _ h))))))))))))))))))))
theorem wm_9 : ∀ w ∈ wsL_law_r9, w ∈ wsL_law := fun _ h => (List.mem_append_left _ (List.mem_append_left _ (List.mem_append_left _ (List.mem_append_left _ (List.mem_append_left _ (List.mem_append_left _ (List.mem_append_left _ (List.mem_append_left _ (List.mem_append_left _ (List.mem_append_left _ (List.mem_append_left _ (List.mem_append_left _ (List.mem_append_right _ (List.mem_append_right _ (List.mem_append_right _ (List.mem_append_right _ (List.mem_append_right _ (List.mem_append_right _ (List.mem_append_right _ (List.mem_append_right _ (List.mem_append_left _ h)))))))))))))))))))))
theorem wm_10 : ∀ w ∈ wsL_law_r10, w ∈ wsL_law := fun _ h => (List.mem_append_left _ (List.mem_append_left _ (List.mem_append_left _ (List.mem_append_left _ (List.mem_append_left _ (List.mem_append_left _ (List.mem_append_left _ (List.mem_append_left _ (List.mem_append_left _ (List.mem_append_left _ (List.mem_append_left _ (List.mem_append_left _ (List.mem_append_right _ (List.mem_append_right _ (List.mem_append_right _ (List.mem_append_right _ (List.mem_append_right _ (List.mem_append_right _ (List.mem_append_right _ (List.mem_append_right _ (List.mem_append_right _ (List.mem_append_left _ h))))))))))))))))))))))
theorem wm_11 : ∀ w ∈ wsL_law_r11, w ∈ wsL_law := fun _ h => (List.mem_append_left _ (List.mem_append_left _ (List.mem_append_left _ (List.mem_append_left _ (List.mem_append_left _ (List.mem_append_left _ (List.mem_append_left _ (List.mem_append_left _ (List.mem_append_left _ (List.mem_append_left _ (List.mem_append_left _ (List.mem_append_left _ (List.mem_append_right _ (List.mem_append_right _ (List.mem_append_right _ (List.mem_append_right _ (List.mem_append_right _ (List.mem_append_right _ (List.mem_append_right _ (List.mem_append_right _ (List.mem_append_right _ (List.mem_append_right _ (List.mem_append_left _ h)))))))))))))))))))))))
theorem wm_12 : ∀ w ∈ wsL_law_r12, w ∈ wsL_law := fun _ h => (List.mem_append_left _ (List.mem_append_left _ (List.mem_append_left _ (List.mem_append_left _ (List.mem_append_left _ (List.mem_append_left _ (List.mem_append_left _ (List.mem_append_left _ (List.mem_append_left _ (List.mem_append_left _ (List.mem_append_left _ (List.mem_append_left _ (List.mem_append_right _ (List.mem_append_right _ (List.mem_append_right _ (List.mem_append_right _ (List.mem_append_right _ (List.mem_append_right _ (List.mem_append_right _ (List.mem_append_right _ (List.mem_append_right _ (List.mem_append_right _ (List.mem_append_right _ (List.mem_append_left _ h))))))))))))))))))))))))
theorem wm_13 : ∀ w ∈ wsL_law_r13, w ∈ wsL_law := fun _ h => (List.mem_append_left _ (List.mem_append_left _ (List.mem_append_left _ (List.mem_append_left _ (List.mem_append_left _ (List.mem_append_left _ (List.mem_append_left _ (List.mem_append_left _ (List.mem_append_left _ (List.mem_append_left _ (List.mem_append_left _ (List.mem_append_left _ (List.mem_append_right _ (List.mem_append_right _ (List.mem_append_right _ (List.mem_append_right _ (List.mem_append_right _ (List.mem_append_right _ (List.mem_append_right _ (List.mem_append_right _ (List.mem_append_right _ (List.mem_append_right _ (List.mem_append_right _ (List.mem_append_right _ (List.mem_append_left _ h)))))))))))))))))))))))))
theorem wm_14 : ∀ w ∈ wsL_law_r14, w ∈ wsL_law := fun _ h => (List.mem_append_left _ (List.mem_append_left _ (List.mem_append_left _ (List.mem_append_left _ (List.mem_append_left _ (List.mem_append_left _ (List.mem_append_left _ (List.mem_append_left _ (List.mem_append_left _ (List.mem_append_left _ (List.mem_append_left _ (List.mem_append_left _ (List.mem_append_right _ (List.mem_append_right _ (List.mem_append_right _ (List.mem_append_right _ (List.mem_append_right _ (List.mem_append_right _ (List.mem_append_right _ (List.mem_append_right _ (List.mem_append_right _ (List.mem_append_right _ (List.mem_append_right _ (List.mem_append_right _ (List.mem_append_right _ (List.mem_append_left _ h))))))))))))))))))))))))))
theorem wm_15 : ∀ w ∈ wsL_law_r15, w ∈ wsL_law := fun _ h => (List.mem_append_left _ (List.mem_append_left _ (List.mem_append_left _ (List.mem_append_left _ (List.mem_append_left _ (List.mem_append_left _ (List.mem_append_left _ (List.mem_append_left _ (List.mem_append_left _ (List.mem_append_left _ (List.mem_append_left _ (List.mem_append_left _ (List.mem_append_right _ (List.mem_append_right _ (List.mem_append_right _ (List.mem_append_right _ (List.mem_append_right _ (List.mem_append_right _ (List.mem_append_right _ (List.mem_append_right _ (List.mem_append_right _ (List.mem_append_right _ (List.mem_append_right _ (List.mem_append_right _ (List.mem_append_right _ (List.mem_append_right _ (List.mem_append_left _ h)))))))))))))))))))))))))))
theorem wm_16 : ∀ w ∈ wsL_law_r16, w ∈ wsL_law := fun _ h => (List.mem_append_left _ (List.mem_append_left _ (List.mem_append_left _ (List.mem_append_left _ (List.mem_append_left _ (List.mem_append_left _ (List.mem_append_left _ (List.mem_append_left _ (List.mem_append_left _ (List.mem_append_left _ (List.mem_append_left _ (List.mem_append_left _ (List.mem_append_right _ (List.mem_append_right _ (List.mem_append_right _ (List.mem_append_right _ (List.mem_append_right _ (List.mem_append_right _ (List.mem_append_right _ (List.mem_append_right _ (List.mem_append_right _ (List.mem_append_right _ (List.mem_append_right _ (List.mem_append_right _ (List.mem_append_right _ (List.mem_append_right _ (List.mem_append_right _ (List.mem_append_left _ h))))))))))))))))))))))))))))
theorem wm_17 : ∀ w ∈ wsL_law_r17, w ∈ wsL_law := fun _ h => (List.mem_append_left _ (List.mem_append_left _ (List.mem_append_left _ (List.mem_append_left _ (List.mem_append_left _ (List.mem_append_left _ (List.mem_append_left _ (List.mem_append_left _ (List.mem_append_left _ (List.mem_append_left _ (List.mem_append_left _ (List.mem_append_left _ (List.mem_append_right _ (List.mem_append_right _ (List.mem_append_right _ (List.mem_append_right _ (List.mem_append_right _ (List.mem_append_right _ (List.mem_append_right _ (List.mem_append_right _ (List.mem_append_right _ (List.mem_append_right _ (List.mem_append_right _ (List.mem_append_right _ (List.mem_append_right _ (List.mem_append_right _ (List.mem_append_right _ (List.mem_append_right _ (List.mem_append_left _ h)))))))))))))))))))))))))))))
theorem wm_18 : ∀ w ∈ wsL_law_r18, w ∈ wsL_law := fun _ h => (List.mem_append_left _ (List.mem_append_left _ (List.mem_append_left _ (List.mem_append_left _ (List.mem_append_left _ (List.mem_append_left _ (List.mem_append_left _ (List.mem_append_left _ (List.mem_append_left _ (List.mem_append_left _ (List.mem_append_left _ (List.mem_append_left _ (List.mem_append_right _ (List.mem_append_right _ (List.mem_append_right _ (List.mem_append_right _ (List.mem_append_right _ (List.mem_append_right _ (List.mem_append_right _ (List.mem_append_right _ (List.mem_append_right _ (List.mem_append_right _ (List.mem_append_right _ (List.mem_append_right _ (List.mem_append_right _ (List.mem_append_right _ (List.mem_append_right _ (List.mem_append_right _ (List.mem_append_right _ (List.mem_append_left _ h))))))))))))))))))))))))))))))
theorem wm_19 : ∀ w ∈ wsL_law_r19, w ∈ wsL_law := fun _ h => (List.mem_append_left _ (List.mem_append_left _ (List.mem_append_left _ (List.mem_append_left _ (List.mem_append_left _ (List.mem_append_left _ (List.mem_append_left _ (List.mem_append_left _ (List.mem_append_left _ (List.mem_append_left _ (List.mem_append_left _ (List.mem_append_left _ (List.mem_append_right _ (List.mem_append_right _ (List.mem_append_right _ (List.mem_append_right _ (List.mem_append_right _ (List.mem_append_right _ (List.mem_append_right _ (List.mem_append_right _ (List.mem_append_right _ (List.mem_append_right _ (List.mem_append_right _ (List.mem_append_right _ (List.mem_append_right _ (List.mem_append_right _ (List.mem_append_right _ (List.mem_append_right _ (List.mem_append_right _ (List.mem_append_right _ (List.mem_append_left _ h)))))))))))))))))))))))))))))))
theorem wm_20 : ∀ w ∈ wsL_law_r20, w ∈ wsL_law := fun _ h => (List.mem_append_left _ (List.mem_append_left _ (List.mem_append_left _ (List.mem_append_left _ (List.mem_append_left _ (List.mem_append_left _ (List.mem_append_left _ (List.mem_append_left _ (List.mem_append_left _ (List.mem_append_left _ (List.mem_append_left _ (List.mem_append_left _ (List.mem_append_right _ (List.mem_append_right _ (List.mem_append_right _ (List.mem_append_right _ (List.mem_append_right _ (List.mem_append_right _ (List.mem_append_right _ (List.mem_append_right _ (List.mem_append_right _ (List.mem_append_right _ (List.mem_append_right _ (List.mem_append_right _ (List.mem_append_right _ (List.mem_append_right _ (List.mem_append_right _ (List.mem_append_right _ (List.mem_append_right _ (List.mem_append_right _ (List.mem_append_right _ (List.mem_append_left _ h))))))))))))))))))))))))))))))))
theorem wm_21 : ∀ w ∈ wsL_law_r21, w ∈ wsL_law := fun _ h => (List.mem_append_left _ (List.mem_append_left _ (List.mem_append_left _ (List.mem_append_left _ (List.mem_append_left _ (List.mem_append_left _ (List.mem_append_left _ (List.mem_append_left _ (List.mem_append_left _ (List.mem_append_left _ (List.mem_append_left _ (List.mem_append_left _ (List.mem_append_right _ (List.mem_append_right _ (List.mem_append_right _ (List.mem_append_right _ (List.mem_append_right _ (List.mem_append_right _ (List.mem_append_right _ (List.mem_append_right _ (List.mem_append_right _ (List.mem_append_right _ (List.mem_append_right _ (List.mem_append_right _ (List.mem_append_right _ (List.mem_append_right _ (List.mem_append_right _ (List.mem_append_right _ (List.mem_append_right _ (List.mem_append_right _ (List.mem_append_right _ (List.mem_append_right _ (List.mem_append_left _ h)))))))))))))))))))))))))))))))))
theorem wm_22 : ∀ w ∈ wsL_law_r22, w ∈ wsL_law := fun _ h => (List.mem_append_left _ (List.mem_append_left _ (List.mem_append_left _ (List.mem_append_left _ (List.mem_append_left _ (List.mem_append_left _ (List.mem_append_left _ (List.mem_append_left _ (List.mem_append_left _ (List.mem_append_left _ (List.mem_append_left _ (List.mem_append_left _ (List.mem_append_right _ (List.mem_append_right _ (List.mem_append_right _ (List.mem_append_right _ (List.mem_append_right _ (List.mem_append_right _ (List.mem_append_right _ (List.mem_append_right _ (List.mem_append_right _ (List.mem_append_right _ (List.mem_append_right _ (List.mem_append_right _ (List.mem_append_right _ (List.mem_append_right _ (List.mem_append_right _ (List.mem_append_right _ (List.mem_append_right _ (List.mem_append_right _ (List.mem_append_right _ (List.mem_append_right _ (List.mem_append_right _ (List.mem_append_left _ h))))))))))))))))))))))))))))))))))
theorem wm_23 : ∀ w ∈ wsL_law_r23, w ∈ wsL_law := fun _ h => (List.mem_append_left _ (List.mem_append_left _ (List.mem_append_left _ (List.mem_append_left _ (List.mem_append_left _ (List.mem_append_left _ (List.mem_append_left _ (List.mem_append_left _ (List.mem_append_left _ (List.mem_append_left _ (List.mem_append_left _ (List.mem_append_left _ (List.mem_append_right _ (List.mem_append_right _ (List.mem_append_right _ (List.mem_append_right _ (List.mem_append_right _ (List.mem_append_right _ (List.mem_append_right _ (List.mem_append_right _ (List.mem_append_right _ (List.mem_append_right _ (List.mem_append_right _ (List.mem_append_right _ (List.mem_append_right _ (List.mem_append_right _ (List.mem_append_right _ (List.mem_append_right _ (List.mem_append_right _ (List.mem_append_right _ (List.mem_append_right _ (List.mem_append_right _ (List.mem_append_right _ (List.mem_append_right _ (List.mem_append_left _ h)))))))))))))))))))))))))))))))))))
theorem wm_24 : ∀ w ∈ wsL_law_r24, w ∈ wsL_law := fun _ h => (List.mem_append_left _ (List.mem_append_left _ (List.mem_append_left _ (List.mem_append_left _ (List.mem_append_left _ (List.mem_append_left _ (List.mem_append_left _ (List.mem_append_left _ (List.mem_append_left _ (List.mem_append_left _ (List.mem_append_left _ (List.mem_append_left _ (List.mem_append_right _ (List.mem_append_right _ (List.mem_append_right _ (List.mem_append_right _ (List.mem_append_right _ (List.mem_append_right _ (List.mem_append_right _ (List.mem_append_right _ (List.mem_append_right _ (List.mem_append_right _ (List.mem_append_right _ (List.mem_append_right _ (List.mem_append_right _ (List.mem_append_right _ (List.mem_append_right _ (List.mem_append_right _ (List.mem_append_right _ (List.mem_append_right _ (List.mem_append_right _ (List.mem_append_right _ (List.mem_append_right _ (List.mem_append_right _ (List.mem_append_right _ (List.mem_append_left _ h))))))))))))))))))))))))))))))))))))
theorem wm_25 : ∀ w ∈ wsL_law_r25, w ∈ wsL_law := fun _ h => (List.mem_append_left _ (List.mem_append_left _ (List.mem_append_left _ (List.mem_append_left _ (List.mem_append_left _ (List.mem_append_left _ (List.mem_append_left _ (List.mem_append_left _ (List.mem_append_left _ (List.mem_append_left _ (List.mem_append_left _ (List.mem_append_left _ (List.mem_append_right _ (List.mem_append_right _ (List.mem_append_right _ (List.mem_append_right _ (List.mem_append_right _ (List.mem_append_right _ (List.mem_append_right _ (List.mem_append_right _ (List.mem_append_right _ (List.mem_append_right _ (List.mem_append_right _ (List.mem_append_right _ (List.mem_append_right _ (List.mem_append_right _ (List.mem_append_right _ (List.mem_append_right _ (List.mem_append_right _ (List.mem_append_right _ (List.mem_append_right _ (List.mem_append_right _ (List.mem_append_right _ (List.mem_append_right _ (List.mem_append_right _ (List.mem_append_right _ (List.mem_append_left _ h)))))))))))))))))))))))))))))))))))))
theorem wm_26 : ∀ w ∈ wsL_law_r26, w ∈ wsL_law := fun _ h => (List.mem_append_left _ (List.mem_append_left _ (List.mem_append_left _ (List.mem_append_left _ (List.mem_append_left _ (List.mem_append_left _ (List.mem_append_left _ (List.mem_append_left _ (List.mem_append_left _ (List.mem_append_left _ (List.mem_append_left _ (List.mem_append_left _ (List.mem_append_right _ (List.mem_append_right _ (List.mem_append_right _ (List.mem_append_right _ (List.mem_append_right _ (List.mem_append_right _ (List.mem_append_right _ (List.mem_append_right _ (List.mem_append_right _ (List.mem_append_right _ (List.mem_append_right _ (List.mem_append_right _ (List.mem_append_right _ (List.mem_append_right _ (List.mem_append_right _ (List.mem_append_right _ (List.mem_append_right _ (List.mem_append_right _ (List.mem_append_right _ (List.mem_append_right _ (List.mem_append_right _ (List.mem_append_right _ (List.mem_append_right _ (List.mem_append_right _ (List.mem_append_right _ (List.mem_append_left _ h))))))))))))))))))))))))))))))))))))))
theorem wm_27 : ∀ w ∈ wsL_law_r27, w ∈ wsL_law := fun _ h => (List.mem_append_left _ (List.mem_append_left _ (List.mem_append_left _ (List.mem_append_left _ (List.mem_append_left _ (List.mem_append_left _ (List.mem_append_left _ (List.mem_append_left _ (List.mem_append_left _ (List.mem_append_left _ (List.mem_append_left _ (List.mem_append_left _ (List.mem_append_right _ (List.mem_append_right _ (List.mem_append_right _ (List.mem_append_right _ (List.mem_append_right _ (List.mem_append_right _ (List.mem_append_right _ (List.mem_append_right _ (List.mem_append_right _ (List.mem_append_right _ (List.mem_append_right _ (List.mem_append_right _ (List.mem_append_right _ (List.mem_append_right _ (List.mem_append_right _ (List.mem_append_right _ (List.mem_append_right _ (List.mem_append_right _ (List.mem_append_right _ (List.mem_append_right _ (List.mem_append_right _ (List.mem_append_right _ (List.mem_append_right _ (List.mem_append_right _ (List.mem_append_right _ (List.mem_append_right _ (List.mem_append_left _ h)))))))))))))))))))))))))))))))))))))))
theorem wm_28 : ∀ w ∈ wsL_law_r28, w ∈ wsL_law := fun _ h => (List.mem_append_left _ (List.mem_append_left _ (List.mem_append_left _ (List.mem_append_left _ (List.mem_append_left _ (List.mem_append_left _ (List.mem_append_left _ (List.mem_append_left _ (List.mem_append_left _ (List.mem_append_left _ (List.mem_append_left _ (List.mem_append_left _ (List.mem_append_right _ (List.mem_append_right _ (List.mem_append_right _ (List.mem_append_right _ (List.mem_append_right _ (List.mem_append_right _ (List.mem_append_right _ (List.mem_append_right _ (List.mem_append_right _ (List.mem_append_right _ (List.mem_append_right _ (List.mem_append_right _ (List.mem_append_right _ (List.mem_append_right _ (List.mem_append_right _ (List.mem_append_right _ (List.mem_append_right _ (List.mem_append_right _ (List.mem_append_right _ (List.mem_append_right _ (List.mem_append_right _ (List.mem_append_right _ (List.mem_append_right _ (List.mem_append_right _ (List.mem_append_right _ (List.mem_append_right _ (List.mem_append_right _ (List.mem_append_left _ h))))))))))))))))))))))))))))))))))))))))
theorem wm_29 : ∀ w ∈ wsL_law_r29, w ∈ wsL_law := fun _ h => (List.mem_append_left _ (List.mem_append_left _ (List.mem_append_left _ (List.mem_append_left _ (List.mem_append_left _ (List.mem_append_left _ (List.mem_append_left _ (List.mem_append_left _ (List.mem_append_left _ (List.mem_append_left _ (List.mem_append_left _ (List.mem_append_left _ (List.mem_append_right _ (List.mem_append_right _ (List.mem_append_right _ (List.mem_append_right _ (List.mem_append_right _ (List.mem_append_right _ (List.mem_append_right _ (List.mem_append_right _ (List.mem_append_right _ (List.mem_append_right _ (List.mem_append_right _ (List.mem_append_right _ (List.mem_append_right _ (List.mem_append_right _ (List.mem_append_right _ (List.mem_append_right _ (List.mem_append_right _ (List.mem_append_right _ (List.mem_append_right _ (List.mem_append_right _ (List.mem_append_right _ (List.mem_append_right _ (List.mem_append_right _ (List.mem_append_right _ (List.mem_append_right _ (List.mem_append_right _ (List.mem_append_right _ (List.mem_append_right _ (List.mem_append_left _ h)))))))))))))))))))))))))))))))))))))))))
theorem wm_30 : ∀ w ∈ wsL_law_r30, w ∈ wsL_law := fun _ h => (List.mem_append_left _ (List.mem_append_left _ (List.mem_append_left _ (List.mem_append_left _ (List.mem_append_left _ (List.mem_append_left _ (List.mem_append_left _ (List.mem_append_left _ (List.mem_append_left _ (List.mem_append_left _ (List.mem_append_left _ (List.mem_append_left _ (List.mem_append_right _ (List.mem_append_right _ (List.mem_append_right _ (List.mem_append_right _ (List.mem_append_right _ (List.mem_append_right _ (List.mem_append_right _ (List.mem_append_right _ (List.mem_append_right _ (List.mem_append_right _ (List.mem_append_right _ (List.mem_append_right _ (List.mem_append_right _ (List.mem_append_right _ (List.mem_append_right _ (List.mem_append_right _ (List.mem_append_right _ (List.mem_append_right _ (List.mem_append_right _ (List.mem_append_right _ (List.mem_append_right _ (List.mem_append_right _ (List.mem_append_right _ (List.mem_append_right _ (List.mem_append_right _ (List.mem_append_right _ (List.mem_append_right _ (List.mem_append_right _ (List.mem_append_right _ (List.mem_append_left _ h))))))))))))))))))))))))))))))))))))))))))
theorem wm_31 : ∀ w ∈ wsL_law_r31, w ∈ wsL_law := fun _ h => (List.mem_append_left _ (List.mem_append_left _ (List.mem_append_left _ (List.mem_append_left _ (List.mem_append_left _ (List.mem_append_left _ (List.mem_append_left _ (List.mem_append_left _ (List.mem_append_left _ (List.mem_append_left _ (List.mem_append_left _ (List.mem_append_left _ (List.mem_append_right _ (List.mem_append_right _ (List.mem_append_right _ (List.mem_append_right _ (List.mem_append_right _ (List.mem_append_right _ (List.mem_append_right _ (List.mem_append_right _ (List.mem_append_right _ (List.mem_append_right _ (List.mem_append_right _ (List.mem_append_right _ (List.mem_append_right _ (List.mem_append_right _ (List.mem_append_right _ (List.mem_append_right _ (List.mem_append_right _ (List.mem_append_right _ (List.mem_append_right _ (List.mem_append_right _ (List.mem_append_right _ (List.mem_append_right _ (List.mem_append_right _ (List.mem_append_right _ (List.mem_append_right _ (List.mem_append_right _ (List.mem_append_right _ (List.mem_append_right _ (List.mem_append_right _ (List.mem_append_right _ (List.mem_append_left _ h)))))))))))))))))))))))))))))))))))))))))))
theorem wm_32 : ∀ w ∈ wsL_law_r32, w ∈ wsL_law := fun _ h => (List.mem_append_left _ (List.mem_append_left _ (List.mem_append_left _ (List.mem_append_left _ (List.mem_append_left _ (List.mem_append_left _ (List.mem_append_left _ (List.mem_append_left _ (List.mem_append_left _ (List.mem_append_left _ (List.mem_append_left _ (List.mem_append_left _ (List.mem_append_right _ (List.mem_append_right _ (List.mem_append_right _ (List.mem_append_right _ (List.mem_append_right _ (List.mem_append_right _ (List.mem_append_right _ (List.mem_append_right _ (List.mem_append_right _ (List.mem_append_right _ (List.mem_append_right _ (List.mem_append_right _ (List.mem_append_right _ (List.mem_append_right _ (List.mem_append_right _ (List.mem_append_right _ (List.mem_append_right _ (List.mem_append_right _ (List.mem_append_right _ (List.mem_append_right _ (List.mem_append_right _ (List.mem_append_right _ (List.mem_append_right _ (List.mem_append_right _ (List.mem_append_right _ (List.mem_append_right _ (List.mem_append_right _ (List.mem_append_right _ (List.mem_append_right _ (List.mem_append_right _ (List.mem_append_right _ (List.mem_append_left _ h))))))))))))))))))))))))))))))))))))))))))))
theorem wm_33 : ∀ w ∈ wsL_law_r33, w ∈ wsL_law := fun _ h => (List.mem_append_left _ (List.mem_append_left _ (List.mem_append_left _ (List.mem_append_left _ (List.mem_append_left _ (List.mem_append_left _ (List.mem_append_left _ (List.mem_append_left _ (List.mem_append_left _ (List.mem_append_left _ (List.mem_append_left _ (List.mem_append_left _ (List.mem_append_right _ (List.mem_append_right _ (List.mem_append_right _ (List.mem_append_right _ (List.mem_append_right _ (List.mem_append_right _ (List.mem_append_right _ (List.mem_append_right _ (List.mem_append_right _ (List.mem_append_right _ (List.mem_append_right _ (List.mem_append_right _ (List.mem_append_right _ (List.mem_append_right _ (List.mem_append_right _ (List.mem_append_right _ (List.mem_append_right _ (List.mem_append_right _ (List.mem_append_right _ (List.mem_append_right _ (List.mem_append_right _ (List.mem_append_right _ (List.mem_append_right _ (List.mem_append_right _ (List.mem_append_right _ (List.mem_append_right _ (List.mem_append_right _ (List.mem_append_right _ (List.mem_append_right _ (List.mem_append_right _ (List.mem_append_right _ (List.mem_append_right _ (List.mem_append_left _ h)))))))))))))))))))))))))))))))))))))))))))))
theorem wm_34 : ∀ w ∈ wsL_law_r34, w ∈ wsL_law := fun _ h => (List.mem_append_left _ (List.mem_append_left _ (List.mem_append_left _ (List.mem_append_left _ (List.mem_append_left _ (List.mem_append_left _ (List.mem_append_left _ (List.mem_append_left _ (List.mem_append_left _ (List.mem_append_left _ (List.mem_append_left _ (List.mem_append_left _ (List.mem_append_right _ (List.mem_append_right _ (List.mem_append_right _ (List.mem_append_right _ (List.mem_append_right _ (List.mem_append_right _ (List.mem_append_right _ (List.mem_append_right _ (List.mem_append_right _ (List.mem_append_right _ (List.mem_append_right _ (List.mem_append_right _ (List.mem_append_right _ (List.mem_append_right _ (List.mem_append_right _ (List.mem_append_right _ (List.mem_append_right _ (List.mem_append_right _ (List.mem_append_right _ (List.mem_append_right _ (List.mem_append_right _ (List.mem_append_right _ (List.mem_append_right _ (List.mem_append_right _ (List.mem_append_right _ (List.mem_append_right _ (List.mem_append_right _ (List.mem_append_right _ (List.mem_append_right _ (List.mem_append_right _ (List.mem_append_right _ (List.mem_append_right _ (List.mem_append_right _ (List.mem_append_left _ h))))))))))))))))))))))))))))))))))))))))))))))
theorem wm_35 : ∀ w ∈ wsL_law_r35, w ∈ wsL_law := fun _ h => (List.mem_append_left _ (List.mem_append_left _ (List.mem_append_left _ (List.mem_append_left _ (List.mem_append_left _ (List.mem_append_left _ (List.mem_append_left _ (List.mem_append_left _ (List.mem_append_left _ (List.mem_append_left _ (List.mem_append_left _ (List.mem_append_left _ (List.mem_append_right _ (List.mem_append_right _ (List.mem_append_right _ (List.mem_append_right _ (List.mem_append_right _ (List.mem_append_right _ (List.mem_append_right _ (List.mem_append_right _ (List.mem_append_right _ (List.mem_append_right _ (List.mem_append_right _ (List.mem_append_right _ (List.mem_append_right _ (List.mem_append_right _ (List.mem_append_right _ (List.mem_append_right _ (List.mem_append_right _ (List.mem_append_right _ (List.mem_append_right _ (List.mem_append_right _ (List.mem_append_right _ (List.mem_append_right _ (List.mem_append_right _ (List.mem_append_right _ (List.mem_append_right _ (List.mem_append_right _ (List.mem_append_right _ (List.mem_append_right _ (List.mem_append_right _ (List.mem_append_right _ (List.mem_append_right _ (List.mem_append_right _ (List.mem_append_right _ (List.mem_append_right _ (List.mem_append_left _ h)))))))))))))))))))))))))))))))))))))))))))))))
theorem wm_36 : ∀ w ∈ wsL_law_r36, w ∈ wsL_law := fun _ h => (List.mem_append_left _ (List.mem_append_left _ (List.mem_append_left _ (List.mem_append_left _ (List.mem_append_left _ (List.mem_append_left _ (List.mem_append_left _ (List.mem_append_left _ (List.mem_append_left _ (List.mem_append_left _ (List.mem_append_left _ (List.mem_append_left _ (List.mem_append_right _ (List.mem_append_right _ (List.mem_append_right _ (List.mem_append_right _ (List.mem_append_right _ (List.mem_append_right _ (List.mem_append_right _ (List.mem_append_right _ (List.mem_append_right _ (List.mem_append_right _ (List.mem_append_right _ (List.mem_append_right _ (List.mem_append_right _ (List.mem_append_right _ (List.mem_append_right _ (List.mem_append_right _ (List.mem_append_right _ (List.mem_append_right _ (List.mem_append_right _ (List.mem_append_right _ (List.mem_append_right _ (List.mem_append_right _ (List.mem_append_right _ (List.mem_append_right _ (List.mem_append_right _ (List.mem_append_right _ (List.mem_append_right _ (List.mem_append_right _ (List.mem_append_right _ (List.mem_append_right _ (List.mem_append_right _ (List.mem_append_right _ (List.mem_append_right _ (List.mem_append_right _ (List.mem_append_right _ (List.mem_append_left _ h))))))))))))))))))))))))))))))))))))))))))))))))
theorem wm_37 : ∀ w ∈ wsL_law_r37, w ∈ wsL_law := fun _ h => (List.mem_append_left _ (List.mem_append_left _ (List.mem_append_left _ (List.mem_append_left _ (List.mem_append_left _ (List.mem_append_left _ (List.mem_append_left _ (List.mem_append_left _ (List.mem_append_left _ (List.mem_append_left _ (List.mem_append_left _ (List.mem_append_left _ (List.mem_append_right _ (List.mem_append_right _ (List.mem_append_right _ (List.mem_append_right _ (List.mem_append_right _ (List.mem_append_right _ (List.mem_append_right _ (List.mem_append_right _ (List.mem_append_right _ (List.mem_append_right _ (List.mem_append_right _ (List.mem_append_right _ (List.mem_append_right _ (List.mem_append_right _ (List.mem_append_right _ (List.mem_append_right _ (List.mem_append_right _ (List.mem_append_right _ (List.mem_append_right _ (List.mem_append_right _ (List.mem_append_right _ (List.mem_append_right _ (List.mem_append_right _ (List.mem_append_right _ (List.mem_append_right _ (List.mem_append_right _ (List.mem_append_right _ (List.mem_append_right _ (List.mem_append_right _ (List.mem_append_right _ (List.mem_append_right _ (List.mem_append_right _ (List.mem_append_right _ (List.mem_append_right _ (List.mem_append_right _ (List.mem_append_right _ h))))))))))))))))))))))))))))))))))))))))))))))))
set_option maxRecDepth 20000 in
theorem xT_all : wsL_law.all goodWord = true := by decide +kernel
theorem xT_good : ∀ w ∈ wsL_law, (w.onTables && w.keeps) = true ∨ ∃ ty, w = .arrayClass ty := fun w h => good_of_word (List.all_eq_true.mp xT_all w h)
end
section
theorem dX0_init_0 : decode cX0_init 0 = .ok (.aload_n 0, 1) := by decide +kernel
theorem dX0_init_1 : decode cX0_init 1 = .ok (.invokespecial 3, 3) := by decide +kernel
theorem dX0_init_4 : decode cX0_init 4 = .ok (.aload_n 0, 1) := by decide +kernel
theorem dX0_init_5 : decode cX0_init 5 = .ok (.iconst 0, 1) := by decide +kernel
theorem dX0_init_6 : decode cX0_init 6 = .ok (.putfield 9, 3) := by decide +kernel
theorem dX0_init_9 : decode cX0_init 9 = .ok (.aload_n 0, 1) := by decide +kernel
theorem dX0_init_10 : decode cX0_init 10 = .ok (.bipush 6, 2) := by decide +kernel
theorem dX0_init_12 : decode cX0_init 12 = .ok (.newarray .int, 2) := by decide +kernel
theorem dX0_init_14 : decode cX0_init 14 = .ok (.putfield 15, 3) := by decide +kernel
theorem dX0_init_17 : decode cX0_init 17 = .ok (.aload_n 0, 1) := by decide +kernel
theorem dX0_init_18 : decode cX0_init 18 = .ok (.bipush 6, 2) := by decide +kernel
theorem dX0_init_20 : decode cX0_init 20 = .ok (.newarray .int, 2) := by decide +kernel
theorem dX0_init_22 : decode cX0_init 22 = .ok (.putfield 19, 3) := by decide +kernel
theorem dX0_init_25 : decode cX0_init 25 = .ok (.aload_n 0, 1) := by decide +kernel
theorem dX0_init_26 : decode cX0_init 26 = .ok (.bipush 6, 2) := by decide +kernel
theorem dX0_init_28 : decode cX0_init 28 = .ok (.newarray .int, 2) := by decide +kernel
theorem dX0_init_30 : decode cX0_init 30 = .ok (.putfield 22, 3) := by decide +kernel
theorem dX0_init_33 : decode cX0_init 33 = .ok (.aload_n 0, 1) := by decide +kernel
theorem dX0_init_34 : decode cX0_init 34 = .ok (.bipush 6, 2) := by decide +kernel
theorem dX0_init_36 : decode cX0_init 36 = .ok (.newarray .int, 2) := by decide +kernel
theorem dX0_init_38 : decode cX0_init 38 = .ok (.putfield 25, 3) := by decide +kernel
theorem dX0_init_41 : decode cX0_init 41 = .ok (.aload_n 0, 1) := by decide +kernel
theorem dX0_init_42 : decode cX0_init 42 = .ok (.bipush 6, 2) := by decide +kernel
theorem dX0_init_44 : decode cX0_init 44 = .ok (.newarray .int, 2) := by decide +kernel
theorem dX0_init_46 : decode cX0_init 46 = .ok (.putfield 28, 3) := by decide +kernel
theorem dX0_init_49 : decode cX0_init 49 = .ok (.aload_n 0, 1) := by decide +kernel
theorem dX0_init_50 : decode cX0_init 50 = .ok (.bipush 6, 2) := by decide +kernel
theorem dX0_init_52 : decode cX0_init 52 = .ok (.newarray .int, 2) := by decide +kernel
theorem dX0_init_54 : decode cX0_init 54 = .ok (.putfield 31, 3) := by decide +kernel
theorem dX0_init_57 : decode cX0_init 57 = .ok (.aload_n 0, 1) := by decide +kernel
theorem dX0_init_58 : decode cX0_init 58 = .ok (.bipush 6, 2) := by decide +kernel
theorem dX0_init_60 : decode cX0_init 60 = .ok (.newarray .int, 2) := by decide +kernel
theorem dX0_init_62 : decode cX0_init 62 = .ok (.putfield 34, 3) := by decide +kernel
theorem dX0_init_65 : decode cX0_init 65 = .ok (.aload_n 0, 1) := by decide +kernel
theorem dX0_init_66 : decode cX0_init 66 = .ok (.bipush 6, 2) := by decide +kernel
theorem dX0_init_68 : decode cX0_init 68 = .ok (.newarray .int, 2) := by decide +kernel
theorem dX0_init_70 : decode cX0_init 70 = .ok (.putfield 37, 3) := by decide +kernel
theorem dX0_init_73 : decode cX0_init 73 = .ok (.return_, 1) := by decide +kernel
theorem dX0_has_0 : decode cX0_has 0 = .ok (.iload_n 1, 1) := by decide +kernel
theorem dX0_has_1 : decode cX0_has 1 = .ok (.ifCond .lt 15, 3) := by decide +kernel
theorem dX0_has_4 : decode cX0_has 4 = .ok (.iload_n 1, 1) := by decide +kernel
theorem dX0_has_5 : decode cX0_has 5 = .ok (.aload_n 0, 1) := by decide +kernel
theorem dX0_has_6 : decode cX0_has 6 = .ok (.getfield 9, 3) := by decide +kernel
theorem dX0_has_9 : decode cX0_has 9 = .ok (.if_icmp .ge 7, 3) := by decide +kernel
theorem dX0_has_12 : decode cX0_has 12 = .ok (.iconst 1, 1) := by decide +kernel
theorem dX0_has_13 : decode cX0_has 13 = .ok (.goto 4, 3) := by decide +kernel
theorem dX0_has_16 : decode cX0_has 16 = .ok (.iconst 0, 1) := by decide +kernel
theorem dX0_has_17 : decode cX0_has 17 = .ok (.ireturn, 1) := by decide +kernel
theorem dX0_areUnlike_0 : decode cX0_areUnlike 0 = .ok (.aload_n 0, 1) := by decide +kernel
theorem dX0_areUnlike_1 : decode cX0_areUnlike 1 = .ok (.iload_n 1, 1) := by decide +kernel
theorem dX0_areUnlike_2 : decode cX0_areUnlike 2 = .ok (.invokevirtual 40, 3) := by decide +kernel
theorem dX0_areUnlike_5 : decode cX0_areUnlike 5 = .ok (.ifCond .eq 20, 3) := by decide +kernel
theorem dX0_areUnlike_8 : decode cX0_areUnlike 8 = .ok (.aload_n 0, 1) := by decide +kernel
theorem dX0_areUnlike_9 : decode cX0_areUnlike 9 = .ok (.iload_n 2, 1) := by decide +kernel
theorem dX0_areUnlike_10 : decode cX0_areUnlike 10 = .ok (.invokevirtual 40, 3) := by decide +kernel
theorem dX0_areUnlike_13 : decode cX0_areUnlike 13 = .ok (.ifCond .eq 12, 3) := by decide +kernel
theorem dX0_areUnlike_16 : decode cX0_areUnlike 16 = .ok (.iload_n 1, 1) := by decide +kernel
theorem dX0_areUnlike_17 : decode cX0_areUnlike 17 = .ok (.iload_n 2, 1) := by decide +kernel
theorem dX0_areUnlike_18 : decode cX0_areUnlike 18 = .ok (.if_icmp .eq 7, 3) := by decide +kernel
theorem dX0_areUnlike_21 : decode cX0_areUnlike 21 = .ok (.iconst 1, 1) := by decide +kernel
theorem dX0_areUnlike_22 : decode cX0_areUnlike 22 = .ok (.goto 4, 3) := by decide +kernel
theorem dX0_areUnlike_25 : decode cX0_areUnlike 25 = .ok (.iconst 0, 1) := by decide +kernel
theorem dX0_areUnlike_26 : decode cX0_areUnlike 26 = .ok (.ireturn, 1) := by decide +kernel
theorem dX0_placeOf_0 : decode cX0_placeOf 0 = .ok (.aload_n 0, 1) := by decide +kernel
theorem dX0_placeOf_1 : decode cX0_placeOf 1 = .ok (.getfield 34, 3) := by decide +kernel
theorem dX0_placeOf_4 : decode cX0_placeOf 4 = .ok (.iload_n 1, 1) := by decide +kernel
theorem dX0_placeOf_5 : decode cX0_placeOf 5 = .ok (.invokestatic 44, 3) := by decide +kernel
theorem dX0_placeOf_8 : decode cX0_placeOf 8 = .ok (.ireturn, 1) := by decide +kernel
theorem dX0_add_0 : decode cX0_add 0 = .ok (.aload_n 0, 1) := by decide +kernel
theorem dX0_add_1 : decode cX0_add 1 = .ok (.getfield 9, 3) := by decide +kernel
theorem dX0_add_4 : decode cX0_add 4 = .ok (.istore 5, 2) := by decide +kernel
theorem dX0_add_6 : decode cX0_add 6 = .ok (.aload_n 0, 1) := by decide +kernel
theorem dX0_add_7 : decode cX0_add 7 = .ok (.getfield 15, 3) := by decide +kernel
theorem dX0_add_10 : decode cX0_add 10 = .ok (.iload 5, 2) := by decide +kernel
theorem dX0_add_12 : decode cX0_add 12 = .ok (.iload_n 1, 1) := by decide +kernel
theorem dX0_add_13 : decode cX0_add 13 = .ok (.invokestatic 50, 3) := by decide +kernel
theorem dX0_add_16 : decode cX0_add 16 = .ok (.aload_n 0, 1) := by decide +kernel
theorem dX0_add_17 : decode cX0_add 17 = .ok (.getfield 19, 3) := by decide +kernel
theorem dX0_add_20 : decode cX0_add 20 = .ok (.iload 5, 2) := by decide +kernel
theorem dX0_add_22 : decode cX0_add 22 = .ok (.iload_n 2, 1) := by decide +kernel
theorem dX0_add_23 : decode cX0_add 23 = .ok (.invokestatic 50, 3) := by decide +kernel
theorem dX0_add_26 : decode cX0_add 26 = .ok (.aload_n 0, 1) := by decide +kernel
theorem dX0_add_27 : decode cX0_add 27 = .ok (.getfield 22, 3) := by decide +kernel
theorem dX0_add_30 : decode cX0_add 30 = .ok (.iload 5, 2) := by decide +kernel
theorem dX0_add_32 : decode cX0_add 32 = .ok (.iload_n 3, 1) := by decide +kernel
theorem dX0_add_33 : decode cX0_add 33 = .ok (.invokestatic 50, 3) := by decide +kernel
theorem dX0_add_36 : decode cX0_add 36 = .ok (.aload_n 0, 1) := by decide +kernel
theorem dX0_add_37 : decode cX0_add 37 = .ok (.getfield 25, 3) := by decide +kernel
theorem dX0_add_40 : decode cX0_add 40 = .ok (.iload 5, 2) := by decide +kernel
theorem dX0_add_42 : decode cX0_add 42 = .ok (.iload 4, 2) := by decide +kernel
theorem dX0_add_44 : decode cX0_add 44 = .ok (.invokestatic 50, 3) := by decide +kernel
theorem dX0_add_47 : decode cX0_add 47 = .ok (.aload_n 0, 1) := by decide +kernel
theorem dX0_add_48 : decode cX0_add 48 = .ok (.getfield 37, 3) := by decide +kernel
theorem dX0_add_51 : decode cX0_add 51 = .ok (.iload 5, 2) := by decide +kernel
theorem dX0_add_53 : decode cX0_add 53 = .ok (.iconst 0, 1) := by decide +kernel
theorem dX0_add_54 : decode cX0_add 54 = .ok (.invokestatic 50, 3) := by decide +kernel
theorem dX0_add_57 : decode cX0_add 57 = .ok (.aload_n 0, 1) := by decide +kernel
theorem dX0_add_58 : decode cX0_add 58 = .ok (.iload 5, 2) := by decide +kernel
theorem dX0_add_60 : decode cX0_add 60 = .ok (.iconst 0, 1) := by decide +kernel
theorem dX0_add_61 : decode cX0_add 61 = .ok (.iconst 0, 1) := by decide +kernel
theorem dX0_add_62 : decode cX0_add 62 = .ok (.invokevirtual 54, 3) := by decide +kernel
theorem dX0_add_65 : decode cX0_add 65 = .ok (.aload_n 0, 1) := by decide +kernel
theorem dX0_add_66 : decode cX0_add 66 = .ok (.iload 5, 2) := by decide +kernel
theorem dX0_add_68 : decode cX0_add 68 = .ok (.iconst 1, 1) := by decide +kernel
theorem dX0_add_69 : decode cX0_add 69 = .ok (.iadd, 1) := by decide +kernel
theorem dX0_add_70 : decode cX0_add 70 = .ok (.putfield 9, 3) := by decide +kernel
theorem dX0_add_73 : decode cX0_add 73 = .ok (.iload 5, 2) := by decide +kernel
theorem dX0_add_75 : decode cX0_add 75 = .ok (.ireturn, 1) := by decide +kernel
theorem dX0_move_0 : decode cX0_move 0 = .ok (.aload_n 0, 1) := by decide +kernel
theorem dX0_move_1 : decode cX0_move 1 = .ok (.getfield 28, 3) := by decide +kernel
theorem dX0_move_4 : decode cX0_move 4 = .ok (.iload_n 1, 1) := by decide +kernel
theorem dX0_move_5 : decode cX0_move 5 = .ok (.iload_n 2, 1) := by decide +kernel
theorem dX0_move_6 : decode cX0_move 6 = .ok (.invokestatic 50, 3) := by decide +kernel
theorem dX0_move_9 : decode cX0_move 9 = .ok (.aload_n 0, 1) := by decide +kernel
theorem dX0_move_10 : decode cX0_move 10 = .ok (.getfield 31, 3) := by decide +kernel
theorem dX0_move_13 : decode cX0_move 13 = .ok (.iload_n 1, 1) := by decide +kernel
theorem dX0_move_14 : decode cX0_move 14 = .ok (.iload_n 3, 1) := by decide +kernel
theorem dX0_move_15 : decode cX0_move 15 = .ok (.invokestatic 50, 3) := by decide +kernel
theorem dX0_move_18 : decode cX0_move 18 = .ok (.aload_n 0, 1) := by decide +kernel
theorem dX0_move_19 : decode cX0_move 19 = .ok (.getfield 34, 3) := by decide +kernel
theorem dX0_move_22 : decode cX0_move 22 = .ok (.iload_n 1, 1) := by decide +kernel
theorem dX0_move_23 : decode cX0_move 23 = .ok (.aload_n 0, 1) := by decide +kernel
theorem dX0_move_24 : decode cX0_move 24 = .ok (.getfield 25, 3) := by decide +kernel
theorem dX0_move_27 : decode cX0_move 27 = .ok (.iload_n 1, 1) := by decide +kernel
theorem dX0_move_28 : decode cX0_move 28 = .ok (.invokestatic 44, 3) := by decide +kernel
theorem dX0_move_31 : decode cX0_move 31 = .ok (.iload_n 2, 1) := by decide +kernel
theorem dX0_move_32 : decode cX0_move 32 = .ok (.iload_n 3, 1) := by decide +kernel
theorem dX0_move_33 : decode cX0_move 33 = .ok (.invokestatic 58, 3) := by decide +kernel
theorem dX0_move_36 : decode cX0_move 36 = .ok (.invokestatic 50, 3) := by decide +kernel
theorem dX0_move_39 : decode cX0_move 39 = .ok (.return_, 1) := by decide +kernel
theorem dX0_tellBehind_0 : decode cX0_tellBehind 0 = .ok (.aload_n 0, 1) := by decide +kernel
theorem dX0_tellBehind_1 : decode cX0_tellBehind 1 = .ok (.getfield 37, 3) := by decide +kernel
theorem dX0_tellBehind_4 : decode cX0_tellBehind 4 = .ok (.iload_n 1, 1) := by decide +kernel
theorem dX0_tellBehind_5 : decode cX0_tellBehind 5 = .ok (.invokestatic 44, 3) := by decide +kernel
theorem dX0_tellBehind_8 : decode cX0_tellBehind 8 = .ok (.istore 4, 2) := by decide +kernel
theorem dX0_tellBehind_10 : decode cX0_tellBehind 10 = .ok (.aload_n 0, 1) := by decide +kernel
theorem dX0_tellBehind_11 : decode cX0_tellBehind 11 = .ok (.getfield 37, 3) := by decide +kernel
theorem dX0_tellBehind_14 : decode cX0_tellBehind 14 = .ok (.iload_n 1, 1) := by decide +kernel
theorem dX0_tellBehind_15 : decode cX0_tellBehind 15 = .ok (.iload 4, 2) := by decide +kernel
theorem dX0_tellBehind_17 : decode cX0_tellBehind 17 = .ok (.iconst 1, 1) := by decide +kernel
theorem dX0_tellBehind_18 : decode cX0_tellBehind 18 = .ok (.iload_n 2, 1) := by decide +kernel
theorem dX0_tellBehind_19 : decode cX0_tellBehind 19 = .ok (.ishl, 1) := by decide +kernel
theorem dX0_tellBehind_20 : decode cX0_tellBehind 20 = .ok (.iconst (-1), 1) := by decide +kernel
theorem dX0_tellBehind_21 : decode cX0_tellBehind 21 = .ok (.ixor, 1) := by decide +kernel
theorem dX0_tellBehind_22 : decode cX0_tellBehind 22 = .ok (.iand, 1) := by decide +kernel
theorem dX0_tellBehind_23 : decode cX0_tellBehind 23 = .ok (.iload_n 3, 1) := by decide +kernel
theorem dX0_tellBehind_24 : decode cX0_tellBehind 24 = .ok (.iload_n 2, 1) := by decide +kernel
theorem dX0_tellBehind_25 : decode cX0_tellBehind 25 = .ok (.ishl, 1) := by decide +kernel
theorem dX0_tellBehind_26 : decode cX0_tellBehind 26 = .ok (.ior, 1) := by decide +kernel
theorem dX0_tellBehind_27 : decode cX0_tellBehind 27 = .ok (.invokestatic 50, 3) := by decide +kernel
theorem dX0_tellBehind_30 : decode cX0_tellBehind 30 = .ok (.iload 4, 2) := by decide +kernel
theorem dX0_tellBehind_32 : decode cX0_tellBehind 32 = .ok (.iload_n 2, 1) := by decide +kernel
theorem dX0_tellBehind_33 : decode cX0_tellBehind 33 = .ok (.iushr, 1) := by decide +kernel
theorem dX0_tellBehind_34 : decode cX0_tellBehind 34 = .ok (.iconst 1, 1) := by decide +kernel
theorem dX0_tellBehind_35 : decode cX0_tellBehind 35 = .ok (.iand, 1) := by decide +kernel
theorem dX0_tellBehind_36 : decode cX0_tellBehind 36 = .ok (.ireturn, 1) := by decide +kernel
theorem dX0_mayFollow_0 : decode cX0_mayFollow 0 = .ok (.aload_n 0, 1) := by decide +kernel
theorem dX0_mayFollow_1 : decode cX0_mayFollow 1 = .ok (.getfield 37, 3) := by decide +kernel
theorem dX0_mayFollow_4 : decode cX0_mayFollow 4 = .ok (.iload_n 1, 1) := by decide +kernel
theorem dX0_mayFollow_5 : decode cX0_mayFollow 5 = .ok (.invokestatic 44, 3) := by decide +kernel
theorem dX0_mayFollow_8 : decode cX0_mayFollow 8 = .ok (.iload_n 2, 1) := by decide +kernel
theorem dX0_mayFollow_9 : decode cX0_mayFollow 9 = .ok (.iconst (-1), 1) := by decide +kernel
theorem dX0_mayFollow_10 : decode cX0_mayFollow 10 = .ok (.ixor, 1) := by decide +kernel
theorem dX0_mayFollow_11 : decode cX0_mayFollow 11 = .ok (.iand, 1) := by decide +kernel
theorem dX0_mayFollow_12 : decode cX0_mayFollow 12 = .ok (.ifCond .ne 7, 3) := by decide +kernel
theorem dX0_mayFollow_15 : decode cX0_mayFollow 15 = .ok (.iconst 1, 1) := by decide +kernel
theorem dX0_mayFollow_16 : decode cX0_mayFollow 16 = .ok (.goto 4, 3) := by decide +kernel
theorem dX0_mayFollow_19 : decode cX0_mayFollow 19 = .ok (.iconst 0, 1) := by decide +kernel
theorem dX0_mayFollow_20 : decode cX0_mayFollow 20 = .ok (.ireturn, 1) := by decide +kernel
theorem dX0_printOn_0 : decode cX0_printOn 0 = .ok (.aload_n 1, 1) := by decide +kernel
theorem dX0_printOn_1 : decode cX0_printOn 1 = .ok (.aload_n 0, 1) := by decide +kernel
theorem dX0_printOn_2 : decode cX0_printOn 2 = .ok (.getfield 15, 3) := by decide +kernel
theorem dX0_printOn_5 : decode cX0_printOn 5 = .ok (.iload_n 2, 1) := by decide +kernel
theorem dX0_printOn_6 : decode cX0_printOn 6 = .ok (.invokestatic 44, 3) := by decide +kernel
theorem dX0_printOn_9 : decode cX0_printOn 9 = .ok (.aload_n 0, 1) := by decide +kernel
theorem dX0_printOn_10 : decode cX0_printOn 10 = .ok (.getfield 19, 3) := by decide +kernel
theorem dX0_printOn_13 : decode cX0_printOn 13 = .ok (.iload_n 2, 1) := by decide +kernel
theorem dX0_printOn_14 : decode cX0_printOn 14 = .ok (.invokestatic 44, 3) := by decide +kernel
theorem dX0_printOn_17 : decode cX0_printOn 17 = .ok (.aload_n 0, 1) := by decide +kernel
theorem dX0_printOn_18 : decode cX0_printOn 18 = .ok (.iload_n 2, 1) := by decide +kernel
theorem dX0_printOn_19 : decode cX0_printOn 19 = .ok (.invokevirtual 64, 3) := by decide +kernel
theorem dX0_printOn_22 : decode cX0_printOn 22 = .ok (.invokevirtual 68, 3) := by decide +kernel
theorem dX0_printOn_25 : decode cX0_printOn 25 = .ok (.return_, 1) := by decide +kernel
theorem dX0_smearBy_0 : decode cX0_smearBy 0 = .ok (.aload_n 0, 1) := by decide +kernel
theorem dX0_smearBy_1 : decode cX0_smearBy 1 = .ok (.getfield 22, 3) := by decide +kernel
theorem dX0_smearBy_4 : decode cX0_smearBy 4 = .ok (.iload_n 1, 1) := by decide +kernel
theorem dX0_smearBy_5 : decode cX0_smearBy 5 = .ok (.invokestatic 44, 3) := by decide +kernel
theorem dX0_smearBy_8 : decode cX0_smearBy 8 = .ok (.iload_n 2, 1) := by decide +kernel
theorem dX0_smearBy_9 : decode cX0_smearBy 9 = .ok (.isub, 1) := by decide +kernel
theorem dX0_smearBy_10 : decode cX0_smearBy 10 = .ok (.istore 4, 2) := by decide +kernel
theorem dX0_smearBy_12 : decode cX0_smearBy 12 = .ok (.iload 4, 2) := by decide +kernel
theorem dX0_smearBy_14 : decode cX0_smearBy 14 = .ok (.ifCond .le 13, 3) := by decide +kernel
theorem dX0_smearBy_17 : decode cX0_smearBy 17 = .ok (.iload 4, 2) := by decide +kernel
theorem dX0_smearBy_19 : decode cX0_smearBy 19 = .ok (.iload_n 3, 1) := by decide +kernel
theorem dX0_smearBy_20 : decode cX0_smearBy 20 = .ok (.invokestatic 73, 3) := by decide +kernel
theorem dX0_smearBy_23 : decode cX0_smearBy 23 = .ok (.imul, 1) := by decide +kernel
theorem dX0_smearBy_24 : decode cX0_smearBy 24 = .ok (.goto 4, 3) := by decide +kernel
theorem dX0_smearBy_27 : decode cX0_smearBy 27 = .ok (.iconst 0, 1) := by decide +kernel
theorem dX0_smearBy_28 : decode cX0_smearBy 28 = .ok (.ireturn, 1) := by decide +kernel
theorem dX0_copyFrom_0 : decode cX0_copyFrom 0 = .ok (.aload_n 0, 1) := by decide +kernel
theorem dX0_copyFrom_1 : decode cX0_copyFrom 1 = .ok (.aload_n 1, 1) := by decide +kernel
theorem dX0_copyFrom_2 : decode cX0_copyFrom 2 = .ok (.getfield 9, 3) := by decide +kernel
theorem dX0_copyFrom_5 : decode cX0_copyFrom 5 = .ok (.putfield 9, 3) := by decide +kernel
theorem dX0_copyFrom_8 : decode cX0_copyFrom 8 = .ok (.aload_n 1, 1) := by decide +kernel
theorem dX0_copyFrom_9 : decode cX0_copyFrom 9 = .ok (.getfield 15, 3) := by decide +kernel
theorem dX0_copyFrom_12 : decode cX0_copyFrom 12 = .ok (.aload_n 0, 1) := by decide +kernel
theorem dX0_copyFrom_13 : decode cX0_copyFrom 13 = .ok (.getfield 15, 3) := by decide +kernel
theorem dX0_copyFrom_16 : decode cX0_copyFrom 16 = .ok (.invokestatic 78, 3) := by decide +kernel
theorem dX0_copyFrom_19 : decode cX0_copyFrom 19 = .ok (.aload_n 1, 1) := by decide +kernel
theorem dX0_copyFrom_20 : decode cX0_copyFrom 20 = .ok (.getfield 19, 3) := by decide +kernel
theorem dX0_copyFrom_23 : decode cX0_copyFrom 23 = .ok (.aload_n 0, 1) := by decide +kernel
theorem dX0_copyFrom_24 : decode cX0_copyFrom 24 = .ok (.getfield 19, 3) := by decide +kernel
theorem dX0_copyFrom_27 : decode cX0_copyFrom 27 = .ok (.invokestatic 78, 3) := by decide +kernel
theorem dX0_copyFrom_30 : decode cX0_copyFrom 30 = .ok (.aload_n 1, 1) := by decide +kernel
theorem dX0_copyFrom_31 : decode cX0_copyFrom 31 = .ok (.getfield 22, 3) := by decide +kernel
theorem dX0_copyFrom_34 : decode cX0_copyFrom 34 = .ok (.aload_n 0, 1) := by decide +kernel
theorem dX0_copyFrom_35 : decode cX0_copyFrom 35 = .ok (.getfield 22, 3) := by decide +kernel
theorem dX0_copyFrom_38 : decode cX0_copyFrom 38 = .ok (.invokestatic 78, 3) := by decide +kernel
theorem dX0_copyFrom_41 : decode cX0_copyFrom 41 = .ok (.aload_n 1, 1) := by decide +kernel
theorem dX0_copyFrom_42 : decode cX0_copyFrom 42 = .ok (.getfield 25, 3) := by decide +kernel
theorem dX0_copyFrom_45 : decode cX0_copyFrom 45 = .ok (.aload_n 0, 1) := by decide +kernel
theorem dX0_copyFrom_46 : decode cX0_copyFrom 46 = .ok (.getfield 25, 3) := by decide +kernel
theorem dX0_copyFrom_49 : decode cX0_copyFrom 49 = .ok (.invokestatic 78, 3) := by decide +kernel
theorem dX0_copyFrom_52 : decode cX0_copyFrom 52 = .ok (.aload_n 1, 1) := by decide +kernel
theorem dX0_copyFrom_53 : decode cX0_copyFrom 53 = .ok (.getfield 28, 3) := by decide +kernel
theorem dX0_copyFrom_56 : decode cX0_copyFrom 56 = .ok (.aload_n 0, 1) := by decide +kernel
theorem dX0_copyFrom_57 : decode cX0_copyFrom 57 = .ok (.getfield 28, 3) := by decide +kernel
theorem dX0_copyFrom_60 : decode cX0_copyFrom 60 = .ok (.invokestatic 78, 3) := by decide +kernel
theorem dX0_copyFrom_63 : decode cX0_copyFrom 63 = .ok (.aload_n 1, 1) := by decide +kernel
theorem dX0_copyFrom_64 : decode cX0_copyFrom 64 = .ok (.getfield 31, 3) := by decide +kernel
theorem dX0_copyFrom_67 : decode cX0_copyFrom 67 = .ok (.aload_n 0, 1) := by decide +kernel
theorem dX0_copyFrom_68 : decode cX0_copyFrom 68 = .ok (.getfield 31, 3) := by decide +kernel
theorem dX0_copyFrom_71 : decode cX0_copyFrom 71 = .ok (.invokestatic 78, 3) := by decide +kernel
theorem dX0_copyFrom_74 : decode cX0_copyFrom 74 = .ok (.aload_n 1, 1) := by decide +kernel
theorem dX0_copyFrom_75 : decode cX0_copyFrom 75 = .ok (.getfield 34, 3) := by decide +kernel
theorem dX0_copyFrom_78 : decode cX0_copyFrom 78 = .ok (.aload_n 0, 1) := by decide +kernel
theorem dX0_copyFrom_79 : decode cX0_copyFrom 79 = .ok (.getfield 34, 3) := by decide +kernel
theorem dX0_copyFrom_82 : decode cX0_copyFrom 82 = .ok (.invokestatic 78, 3) := by decide +kernel
theorem dX0_copyFrom_85 : decode cX0_copyFrom 85 = .ok (.aload_n 1, 1) := by decide +kernel
theorem dX0_copyFrom_86 : decode cX0_copyFrom 86 = .ok (.getfield 37, 3) := by decide +kernel
theorem dX0_copyFrom_89 : decode cX0_copyFrom 89 = .ok (.aload_n 0, 1) := by decide +kernel
theorem dX0_copyFrom_90 : decode cX0_copyFrom 90 = .ok (.getfield 37, 3) := by decide +kernel
theorem dX0_copyFrom_93 : decode cX0_copyFrom 93 = .ok (.invokestatic 78, 3) := by decide +kernel
theorem dX0_copyFrom_96 : decode cX0_copyFrom 96 = .ok (.return_, 1) := by decide +kernel
theorem dX1_nibble_0 : decode cX1_nibble 0 = .ok (.lload_n 0, 1) := by decide +kernel
theorem dX1_nibble_1 : decode cX1_nibble 1 = .ok (.iconst 4, 1) := by decide +kernel
theorem dX1_nibble_2 : decode cX1_nibble 2 = .ok (.iload_n 2, 1) := by decide +kernel
theorem dX1_nibble_3 : decode cX1_nibble 3 = .ok (.imul, 1) := by decide +kernel
theorem dX1_nibble_4 : decode cX1_nibble 4 = .ok (.lushr, 1) := by decide +kernel
theorem dX1_nibble_5 : decode cX1_nibble 5 = .ok (.l2i, 1) := by decide +kernel
theorem dX1_nibble_6 : decode cX1_nibble 6 = .ok (.bipush 15, 2) := by decide +kernel
theorem dX1_nibble_8 : decode cX1_nibble 8 = .ok (.iand, 1) := by decide +kernel
theorem dX1_nibble_9 : decode cX1_nibble 9 = .ok (.ireturn, 1) := by decide +kernel
theorem dX1_withNibble_0 : decode cX1_withNibble 0 = .ok (.lload_n 0, 1) := by decide +kernel
theorem dX1_withNibble_1 : decode cX1_withNibble 1 = .ok (.ldc2_w 9, 3) := by decide +kernel
theorem dX1_withNibble_4 : decode cX1_withNibble 4 = .ok (.iconst 4, 1) := by decide +kernel
theorem dX1_withNibble_5 : decode cX1_withNibble 5 = .ok (.iload_n 2, 1) := by decide +kernel
theorem dX1_withNibble_6 : decode cX1_withNibble 6 = .ok (.imul, 1) := by decide +kernel
theorem dX1_withNibble_7 : decode cX1_withNibble 7 = .ok (.lshl, 1) := by decide +kernel
theorem dX1_withNibble_8 : decode cX1_withNibble 8 = .ok (.ldc2_w 11, 3) := by decide +kernel
theorem dX1_withNibble_11 : decode cX1_withNibble 11 = .ok (.lxor, 1) := by decide +kernel
theorem dX1_withNibble_12 : decode cX1_withNibble 12 = .ok (.land, 1) := by decide +kernel
theorem dX1_withNibble_13 : decode cX1_withNibble 13 = .ok (.iload_n 3, 1) := by decide +kernel
theorem dX1_withNibble_14 : decode cX1_withNibble 14 = .ok (.i2l, 1) := by decide +kernel
theorem dX1_withNibble_15 : decode cX1_withNibble 15 = .ok (.iconst 4, 1) := by decide +kernel
theorem dX1_withNibble_16 : decode cX1_withNibble 16 = .ok (.iload_n 2, 1) := by decide +kernel
theorem dX1_withNibble_17 : decode cX1_withNibble 17 = .ok (.imul, 1) := by decide +kernel
theorem dX1_withNibble_18 : decode cX1_withNibble 18 = .ok (.lshl, 1) := by decide +kernel
theorem dX1_withNibble_19 : decode cX1_withNibble 19 = .ok (.lor, 1) := by decide +kernel
theorem dX1_withNibble_20 : decode cX1_withNibble 20 = .ok (.lreturn, 1) := by decide +kernel
theorem dX1_spread_0 : decode cX1_spread 0 = .ok (.iload_n 0, 1) := by decide +kernel
theorem dX1_spread_1 : decode cX1_spread 1 = .ok (.ldc 13, 2) := by decide +kernel
theorem dX1_spread_3 : decode cX1_spread 3 = .ok (.iand, 1) := by decide +kernel
theorem dX1_spread_4 : decode cX1_spread 4 = .ok (.i2l, 1) := by decide +kernel
theorem dX1_spread_5 : decode cX1_spread 5 = .ok (.lstore_n 1, 1) := by decide +kernel
theorem dX1_spread_6 : decode cX1_spread 6 = .ok (.lload_n 1, 1) := by decide +kernel
theorem dX1_spread_7 : decode cX1_spread 7 = .ok (.lload_n 1, 1) := by decide +kernel
theorem dX1_spread_8 : decode cX1_spread 8 = .ok (.bipush 24, 2) := by decide +kernel
theorem dX1_spread_10 : decode cX1_spread 10 = .ok (.lshl, 1) := by decide +kernel
theorem dX1_spread_11 : decode cX1_spread 11 = .ok (.lor, 1) := by decide +kernel
theorem dX1_spread_12 : decode cX1_spread 12 = .ok (.ldc2_w 14, 3) := by decide +kernel
theorem dX1_spread_15 : decode cX1_spread 15 = .ok (.land, 1) := by decide +kernel
theorem dX1_spread_16 : decode cX1_spread 16 = .ok (.lstore_n 1, 1) := by decide +kernel
theorem dX1_spread_17 : decode cX1_spread 17 = .ok (.lload_n 1, 1) := by decide +kernel
theorem dX1_spread_18 : decode cX1_spread 18 = .ok (.lload_n 1, 1) := by decide +kernel
theorem dX1_spread_19 : decode cX1_spread 19 = .ok (.bipush 12, 2) := by decide +kernel
theorem dX1_spread_21 : decode cX1_spread 21 = .ok (.lshl, 1) := by decide +kernel
theorem dX1_spread_22 : decode cX1_spread 22 = .ok (.lor, 1) := by decide +kernel
theorem dX1_spread_23 : decode cX1_spread 23 = .ok (.ldc2_w 16, 3) := by decide +kernel
theorem dX1_spread_26 : decode cX1_spread 26 = .ok (.land, 1) := by decide +kernel
theorem dX1_spread_27 : decode cX1_spread 27 = .ok (.lstore_n 1, 1) := by decide +kernel
theorem dX1_spread_28 : decode cX1_spread 28 = .ok (.lload_n 1, 1) := by decide +kernel
theorem dX1_spread_29 : decode cX1_spread 29 = .ok (.lload_n 1, 1) := by decide +kernel
theorem dX1_spread_30 : decode cX1_spread 30 = .ok (.bipush 6, 2) := by decide +kernel
theorem dX1_spread_32 : decode cX1_spread 32 = .ok (.lshl, 1) := by decide +kernel
theorem dX1_spread_33 : decode cX1_spread 33 = .ok (.lor, 1) := by decide +kernel
theorem dX1_spread_34 : decode cX1_spread 34 = .ok (.ldc2_w 18, 3) := by decide +kernel
theorem dX1_spread_37 : decode cX1_spread 37 = .ok (.land, 1) := by decide +kernel
theorem dX1_spread_38 : decode cX1_spread 38 = .ok (.lstore_n 1, 1) := by decide +kernel
theorem dX1_spread_39 : decode cX1_spread 39 = .ok (.lload_n 1, 1) := by decide +kernel
theorem dX1_spread_40 : decode cX1_spread 40 = .ok (.lload_n 1, 1) := by decide +kernel
theorem dX1_spread_41 : decode cX1_spread 41 = .ok (.iconst 3, 1) := by decide +kernel
theorem dX1_spread_42 : decode cX1_spread 42 = .ok (.lshl, 1) := by decide +kernel
theorem dX1_spread_43 : decode cX1_spread 43 = .ok (.lor, 1) := by decide +kernel
theorem dX1_spread_44 : decode cX1_spread 44 = .ok (.ldc2_w 22, 3) := by decide +kernel
theorem dX1_spread_47 : decode cX1_spread 47 = .ok (.land, 1) := by decide +kernel
theorem dX1_spread_48 : decode cX1_spread 48 = .ok (.lreturn, 1) := by decide +kernel
theorem dX1_filled_0 : decode cX1_filled 0 = .ok (.lload_n 0, 1) := by decide +kernel
theorem dX1_filled_1 : decode cX1_filled 1 = .ok (.lload_n 0, 1) := by decide +kernel
theorem dX1_filled_2 : decode cX1_filled 2 = .ok (.iconst 1, 1) := by decide +kernel
theorem dX1_filled_3 : decode cX1_filled 3 = .ok (.lushr, 1) := by decide +kernel
theorem dX1_filled_4 : decode cX1_filled 4 = .ok (.lor, 1) := by decide +kernel
theorem dX1_filled_5 : decode cX1_filled 5 = .ok (.lload_n 0, 1) := by decide +kernel
theorem dX1_filled_6 : decode cX1_filled 6 = .ok (.iconst 2, 1) := by decide +kernel
theorem dX1_filled_7 : decode cX1_filled 7 = .ok (.lushr, 1) := by decide +kernel
theorem dX1_filled_8 : decode cX1_filled 8 = .ok (.lor, 1) := by decide +kernel
theorem dX1_filled_9 : decode cX1_filled 9 = .ok (.lload_n 0, 1) := by decide +kernel
theorem dX1_filled_10 : decode cX1_filled 10 = .ok (.iconst 3, 1) := by decide +kernel
theorem dX1_filled_11 : decode cX1_filled 11 = .ok (.lushr, 1) := by decide +kernel
theorem dX1_filled_12 : decode cX1_filled 12 = .ok (.lor, 1) := by decide +kernel
theorem dX1_filled_13 : decode cX1_filled 13 = .ok (.ldc2_w 22, 3) := by decide +kernel
theorem dX1_filled_16 : decode cX1_filled 16 = .ok (.land, 1) := by decide +kernel
theorem dX1_filled_17 : decode cX1_filled 17 = .ok (.lreturn, 1) := by decide +kernel
theorem dX1_alike_0 : decode cX1_alike 0 = .ok (.iconst 0, 1) := by decide +kernel
theorem dX1_alike_1 : decode cX1_alike 1 = .ok (.istore_n 3, 1) := by decide +kernel
theorem dX1_alike_2 : decode cX1_alike 2 = .ok (.iconst 0, 1) := by decide +kernel
theorem dX1_alike_3 : decode cX1_alike 3 = .ok (.istore 4, 2) := by decide +kernel
theorem dX1_alike_5 : decode cX1_alike 5 = .ok (.iload 4, 2) := by decide +kernel
theorem dX1_alike_7 : decode cX1_alike 7 = .ok (.bipush 16, 2) := by decide +kernel
theorem dX1_alike_9 : decode cX1_alike 9 = .ok (.if_icmp .ge 26, 3) := by decide +kernel
theorem dX1_alike_12 : decode cX1_alike 12 = .ok (.lload_n 0, 1) := by decide +kernel
theorem dX1_alike_13 : decode cX1_alike 13 = .ok (.iload 4, 2) := by decide +kernel
theorem dX1_alike_15 : decode cX1_alike 15 = .ok (.invokestatic 24, 3) := by decide +kernel
theorem dX1_alike_18 : decode cX1_alike 18 = .ok (.iload_n 2, 1) := by decide +kernel
theorem dX1_alike_19 : decode cX1_alike 19 = .ok (.if_icmp .ne 10, 3) := by decide +kernel
theorem dX1_alike_22 : decode cX1_alike 22 = .ok (.iload_n 3, 1) := by decide +kernel
theorem dX1_alike_23 : decode cX1_alike 23 = .ok (.iconst 1, 1) := by decide +kernel
theorem dX1_alike_24 : decode cX1_alike 24 = .ok (.iload 4, 2) := by decide +kernel
theorem dX1_alike_26 : decode cX1_alike 26 = .ok (.ishl, 1) := by decide +kernel
theorem dX1_alike_27 : decode cX1_alike 27 = .ok (.ior, 1) := by decide +kernel
theorem dX1_alike_28 : decode cX1_alike 28 = .ok (.istore_n 3, 1) := by decide +kernel
theorem dX1_alike_29 : decode cX1_alike 29 = .ok (.iinc 4 1, 3) := by decide +kernel
theorem dX1_alike_32 : decode cX1_alike 32 = .ok (.goto (-27), 3) := by decide +kernel
theorem dX1_alike_35 : decode cX1_alike 35 = .ok (.iload_n 3, 1) := by decide +kernel
theorem dX1_alike_36 : decode cX1_alike 36 = .ok (.ireturn, 1) := by decide +kernel
theorem dX1_moved_0 : decode cX1_moved 0 = .ok (.iconst 0, 1) := by decide +kernel
theorem dX1_moved_1 : decode cX1_moved 1 = .ok (.istore_n 3, 1) := by decide +kernel
theorem dX1_moved_2 : decode cX1_moved 2 = .ok (.iconst 0, 1) := by decide +kernel
theorem dX1_moved_3 : decode cX1_moved 3 = .ok (.istore 4, 2) := by decide +kernel
theorem dX1_moved_5 : decode cX1_moved 5 = .ok (.iload 4, 2) := by decide +kernel
theorem dX1_moved_7 : decode cX1_moved 7 = .ok (.bipush 16, 2) := by decide +kernel
theorem dX1_moved_9 : decode cX1_moved 9 = .ok (.if_icmp .ge 79, 3) := by decide +kernel
theorem dX1_moved_12 : decode cX1_moved 12 = .ok (.iload 4, 2) := by decide +kernel
theorem dX1_moved_14 : decode cX1_moved 14 = .ok (.iconst 4, 1) := by decide +kernel
theorem dX1_moved_15 : decode cX1_moved 15 = .ok (.irem, 1) := by decide +kernel
theorem dX1_moved_16 : decode cX1_moved 16 = .ok (.iload_n 1, 1) := by decide +kernel
theorem dX1_moved_17 : decode cX1_moved 17 = .ok (.iadd, 1) := by decide +kernel
theorem dX1_moved_18 : decode cX1_moved 18 = .ok (.istore 5, 2) := by decide +kernel
theorem dX1_moved_20 : decode cX1_moved 20 = .ok (.iload 4, 2) := by decide +kernel
theorem dX1_moved_22 : decode cX1_moved 22 = .ok (.iconst 4, 1) := by decide +kernel
theorem dX1_moved_23 : decode cX1_moved 23 = .ok (.idiv, 1) := by decide +kernel
theorem dX1_moved_24 : decode cX1_moved 24 = .ok (.iload_n 2, 1) := by decide +kernel
theorem dX1_moved_25 : decode cX1_moved 25 = .ok (.iadd, 1) := by decide +kernel
theorem dX1_moved_26 : decode cX1_moved 26 = .ok (.istore 6, 2) := by decide +kernel
theorem dX1_moved_28 : decode cX1_moved 28 = .ok (.iload 5, 2) := by decide +kernel
theorem dX1_moved_30 : decode cX1_moved 30 = .ok (.iconst 0, 1) := by decide +kernel
theorem dX1_moved_31 : decode cX1_moved 31 = .ok (.iconst 3, 1) := by decide +kernel
theorem dX1_moved_32 : decode cX1_moved 32 = .ok (.invokestatic 28, 3) := by decide +kernel
theorem dX1_moved_35 : decode cX1_moved 35 = .ok (.ifCond .eq 17, 3) := by decide +kernel
theorem dX1_moved_38 : decode cX1_moved 38 = .ok (.iload 6, 2) := by decide +kernel
theorem dX1_moved_40 : decode cX1_moved 40 = .ok (.iconst 0, 1) := by decide +kernel
theorem dX1_moved_41 : decode cX1_moved 41 = .ok (.iconst 3, 1) := by decide +kernel
theorem dX1_moved_42 : decode cX1_moved 42 = .ok (.invokestatic 28, 3) := by decide +kernel
theorem dX1_moved_45 : decode cX1_moved 45 = .ok (.ifCond .eq 7, 3) := by decide +kernel
theorem dX1_moved_48 : decode cX1_moved 48 = .ok (.iconst 1, 1) := by decide +kernel
theorem dX1_moved_49 : decode cX1_moved 49 = .ok (.goto 4, 3) := by decide +kernel
theorem dX1_moved_52 : decode cX1_moved 52 = .ok (.iconst 0, 1) := by decide +kernel
theorem dX1_moved_53 : decode cX1_moved 53 = .ok (.istore 7, 2) := by decide +kernel
theorem dX1_moved_55 : decode cX1_moved 55 = .ok (.iload 7, 2) := by decide +kernel
theorem dX1_moved_57 : decode cX1_moved 57 = .ok (.ifCond .eq 25, 3) := by decide +kernel
theorem dX1_moved_60 : decode cX1_moved 60 = .ok (.iload_n 0, 1) := by decide +kernel
theorem dX1_moved_61 : decode cX1_moved 61 = .ok (.iload 4, 2) := by decide +kernel
theorem dX1_moved_63 : decode cX1_moved 63 = .ok (.iushr, 1) := by decide +kernel
theorem dX1_moved_64 : decode cX1_moved 64 = .ok (.iconst 1, 1) := by decide +kernel
theorem dX1_moved_65 : decode cX1_moved 65 = .ok (.iand, 1) := by decide +kernel
theorem dX1_moved_66 : decode cX1_moved 66 = .ok (.iconst 1, 1) := by decide +kernel
theorem dX1_moved_67 : decode cX1_moved 67 = .ok (.if_icmp .ne 15, 3) := by decide +kernel
theorem dX1_moved_70 : decode cX1_moved 70 = .ok (.iload_n 3, 1) := by decide +kernel
theorem dX1_moved_71 : decode cX1_moved 71 = .ok (.iconst 1, 1) := by decide +kernel
theorem dX1_moved_72 : decode cX1_moved 72 = .ok (.iload 6, 2) := by decide +kernel
theorem dX1_moved_74 : decode cX1_moved 74 = .ok (.iconst 4, 1) := by decide +kernel
theorem dX1_moved_75 : decode cX1_moved 75 = .ok (.imul, 1) := by decide +kernel
theorem dX1_moved_76 : decode cX1_moved 76 = .ok (.iload 5, 2) := by decide +kernel
theorem dX1_moved_78 : decode cX1_moved 78 = .ok (.iadd, 1) := by decide +kernel
theorem dX1_moved_79 : decode cX1_moved 79 = .ok (.ishl, 1) := by decide +kernel
theorem dX1_moved_80 : decode cX1_moved 80 = .ok (.ior, 1) := by decide +kernel
theorem dX1_moved_81 : decode cX1_moved 81 = .ok (.istore_n 3, 1) := by decide +kernel
theorem dX1_moved_82 : decode cX1_moved 82 = .ok (.iinc 4 1, 3) := by decide +kernel
theorem dX1_moved_85 : decode cX1_moved 85 = .ok (.goto (-80), 3) := by decide +kernel
theorem dX1_moved_88 : decode cX1_moved 88 = .ok (.iload_n 3, 1) := by decide +kernel
theorem dX1_moved_89 : decode cX1_moved 89 = .ok (.ireturn, 1) := by decide +kernel
theorem dX2_init_0 : decode cX2_init 0 = .ok (.aload_n 0, 1) := by decide +kernel
theorem dX2_init_1 : decode cX2_init 1 = .ok (.invokespecial 3, 3) := by decide +kernel
theorem dX2_init_4 : decode cX2_init 4 = .ok (.aload_n 0, 1) := by decide +kernel
theorem dX2_init_5 : decode cX2_init 5 = .ok (.new 9, 3) := by decide +kernel
theorem dX2_init_8 : decode cX2_init 8 = .ok (.dup, 1) := by decide +kernel
theorem dX2_init_9 : decode cX2_init 9 = .ok (.invokespecial 11, 3) := by decide +kernel
theorem dX2_init_12 : decode cX2_init 12 = .ok (.putfield 12, 3) := by decide +kernel
theorem dX2_init_15 : decode cX2_init 15 = .ok (.aload_n 0, 1) := by decide +kernel
theorem dX2_init_16 : decode cX2_init 16 = .ok (.iconst 0, 1) := by decide +kernel
theorem dX2_init_17 : decode cX2_init 17 = .ok (.putfield 18, 3) := by decide +kernel
theorem dX2_init_20 : decode cX2_init 20 = .ok (.aload_n 0, 1) := by decide +kernel
theorem dX2_init_21 : decode cX2_init 21 = .ok (.iconst 0, 1) := by decide +kernel
theorem dX2_init_22 : decode cX2_init 22 = .ok (.putfield 22, 3) := by decide +kernel
theorem dX2_init_25 : decode cX2_init 25 = .ok (.aload_n 0, 1) := by decide +kernel
theorem dX2_init_26 : decode cX2_init 26 = .ok (.iconst 0, 1) := by decide +kernel
theorem dX2_init_27 : decode cX2_init 27 = .ok (.putfield 25, 3) := by decide +kernel
theorem dX2_init_30 : decode cX2_init 30 = .ok (.aload_n 0, 1) := by decide +kernel
theorem dX2_init_31 : decode cX2_init 31 = .ok (.bipush 12, 2) := by decide +kernel
theorem dX2_init_33 : decode cX2_init 33 = .ok (.newarray .int, 2) := by decide +kernel
theorem dX2_init_35 : decode cX2_init 35 = .ok (.putfield 28, 3) := by decide +kernel
theorem dX2_init_38 : decode cX2_init 38 = .ok (.aload_n 0, 1) := by decide +kernel
theorem dX2_init_39 : decode cX2_init 39 = .ok (.bipush 12, 2) := by decide +kernel
theorem dX2_init_41 : decode cX2_init 41 = .ok (.newarray .int, 2) := by decide +kernel
theorem dX2_init_43 : decode cX2_init 43 = .ok (.putfield 32, 3) := by decide +kernel
theorem dX2_init_46 : decode cX2_init 46 = .ok (.aload_n 0, 1) := by decide +kernel
theorem dX2_init_47 : decode cX2_init 47 = .ok (.bipush 12, 2) := by decide +kernel
theorem dX2_init_49 : decode cX2_init 49 = .ok (.newarray .int, 2) := by decide +kernel
theorem dX2_init_51 : decode cX2_init 51 = .ok (.putfield 35, 3) := by decide +kernel
theorem dX2_init_54 : decode cX2_init 54 = .ok (.return_, 1) := by decide +kernel
theorem dX2_printNext_0 : decode cX2_printNext 0 = .ok (.aload_n 0, 1) := by decide +kernel
theorem dX2_printNext_1 : decode cX2_printNext 1 = .ok (.dup, 1) := by decide +kernel
theorem dX2_printNext_2 : decode cX2_printNext 2 = .ok (.getfield 18, 3) := by decide +kernel
theorem dX2_printNext_5 : decode cX2_printNext 5 = .ok (.iload_n 3, 1) := by decide +kernel
theorem dX2_printNext_6 : decode cX2_printNext 6 = .ok (.iadd, 1) := by decide +kernel
theorem dX2_printNext_7 : decode cX2_printNext 7 = .ok (.putfield 18, 3) := by decide +kernel
theorem dX2_printNext_10 : decode cX2_printNext 10 = .ok (.aload_n 1, 1) := by decide +kernel
theorem dX2_printNext_11 : decode cX2_printNext 11 = .ok (.iload_n 2, 1) := by decide +kernel
theorem dX2_printNext_12 : decode cX2_printNext 12 = .ok (.invokevirtual 38, 3) := by decide +kernel
theorem dX2_printNext_15 : decode cX2_printNext 15 = .ok (.istore 4, 2) := by decide +kernel
theorem dX2_printNext_17 : decode cX2_printNext 17 = .ok (.aload_n 0, 1) := by decide +kernel
theorem dX2_printNext_18 : decode cX2_printNext 18 = .ok (.aload_n 1, 1) := by decide +kernel
theorem dX2_printNext_19 : decode cX2_printNext 19 = .ok (.iload 4, 2) := by decide +kernel
theorem dX2_printNext_21 : decode cX2_printNext 21 = .ok (.invokevirtual 44, 3) := by decide +kernel
theorem dX2_printNext_24 : decode cX2_printNext 24 = .ok (.istore 5, 2) := by decide +kernel
theorem dX2_printNext_26 : decode cX2_printNext 26 = .ok (.aload_n 1, 1) := by decide +kernel
theorem dX2_printNext_27 : decode cX2_printNext 27 = .ok (.aload_n 0, 1) := by decide +kernel
theorem dX2_printNext_28 : decode cX2_printNext 28 = .ok (.getfield 12, 3) := by decide +kernel
theorem dX2_printNext_31 : decode cX2_printNext 31 = .ok (.iload_n 2, 1) := by decide +kernel
theorem dX2_printNext_32 : decode cX2_printNext 32 = .ok (.invokevirtual 48, 3) := by decide +kernel
theorem dX2_printNext_35 : decode cX2_printNext 35 = .ok (.aload_n 0, 1) := by decide +kernel
theorem dX2_printNext_36 : decode cX2_printNext 36 = .ok (.getfield 28, 3) := by decide +kernel
theorem dX2_printNext_39 : decode cX2_printNext 39 = .ok (.aload_n 0, 1) := by decide +kernel
theorem dX2_printNext_40 : decode cX2_printNext 40 = .ok (.getfield 22, 3) := by decide +kernel
theorem dX2_printNext_43 : decode cX2_printNext 43 = .ok (.iload_n 2, 1) := by decide +kernel
theorem dX2_printNext_44 : decode cX2_printNext 44 = .ok (.invokestatic 52, 3) := by decide +kernel
theorem dX2_printNext_47 : decode cX2_printNext 47 = .ok (.aload_n 0, 1) := by decide +kernel
theorem dX2_printNext_48 : decode cX2_printNext 48 = .ok (.getfield 32, 3) := by decide +kernel
theorem dX2_printNext_51 : decode cX2_printNext 51 = .ok (.aload_n 0, 1) := by decide +kernel
theorem dX2_printNext_52 : decode cX2_printNext 52 = .ok (.getfield 22, 3) := by decide +kernel
theorem dX2_printNext_55 : decode cX2_printNext 55 = .ok (.aload_n 0, 1) := by decide +kernel
theorem dX2_printNext_56 : decode cX2_printNext 56 = .ok (.getfield 18, 3) := by decide +kernel
theorem dX2_printNext_59 : decode cX2_printNext 59 = .ok (.invokestatic 52, 3) := by decide +kernel
theorem dX2_printNext_62 : decode cX2_printNext 62 = .ok (.aload_n 0, 1) := by decide +kernel
theorem dX2_printNext_63 : decode cX2_printNext 63 = .ok (.getfield 35, 3) := by decide +kernel
theorem dX2_printNext_66 : decode cX2_printNext 66 = .ok (.aload_n 0, 1) := by decide +kernel
theorem dX2_printNext_67 : decode cX2_printNext 67 = .ok (.getfield 22, 3) := by decide +kernel
theorem dX2_printNext_70 : decode cX2_printNext 70 = .ok (.iload 4, 2) := by decide +kernel
theorem dX2_printNext_72 : decode cX2_printNext 72 = .ok (.invokestatic 52, 3) := by decide +kernel
theorem dX2_printNext_75 : decode cX2_printNext 75 = .ok (.aload_n 0, 1) := by decide +kernel
theorem dX2_printNext_76 : decode cX2_printNext 76 = .ok (.dup, 1) := by decide +kernel
theorem dX2_printNext_77 : decode cX2_printNext 77 = .ok (.getfield 22, 3) := by decide +kernel
theorem dX2_printNext_80 : decode cX2_printNext 80 = .ok (.iconst 1, 1) := by decide +kernel
theorem dX2_printNext_81 : decode cX2_printNext 81 = .ok (.iadd, 1) := by decide +kernel
theorem dX2_printNext_82 : decode cX2_printNext 82 = .ok (.putfield 22, 3) := by decide +kernel
theorem dX2_printNext_85 : decode cX2_printNext 85 = .ok (.aload_n 0, 1) := by decide +kernel
theorem dX2_printNext_86 : decode cX2_printNext 86 = .ok (.dup, 1) := by decide +kernel
theorem dX2_printNext_87 : decode cX2_printNext 87 = .ok (.getfield 25, 3) := by decide +kernel
theorem dX2_printNext_90 : decode cX2_printNext 90 = .ok (.iload 5, 2) := by decide +kernel
theorem dX2_printNext_92 : decode cX2_printNext 92 = .ok (.iadd, 1) := by decide +kernel
theorem dX2_printNext_93 : decode cX2_printNext 93 = .ok (.putfield 25, 3) := by decide +kernel
theorem dX2_printNext_96 : decode cX2_printNext 96 = .ok (.iload 5, 2) := by decide +kernel
theorem dX2_printNext_98 : decode cX2_printNext 98 = .ok (.ireturn, 1) := by decide +kernel
theorem dX2_smearOn_0 : decode cX2_smearOn 0 = .ok (.iconst 0, 1) := by decide +kernel
theorem dX2_smearOn_1 : decode cX2_smearOn 1 = .ok (.istore_n 3, 1) := by decide +kernel
theorem dX2_smearOn_2 : decode cX2_smearOn 2 = .ok (.iconst 0, 1) := by decide +kernel
theorem dX2_smearOn_3 : decode cX2_smearOn 3 = .ok (.istore 4, 2) := by decide +kernel
theorem dX2_smearOn_5 : decode cX2_smearOn 5 = .ok (.iload 4, 2) := by decide +kernel
theorem dX2_smearOn_7 : decode cX2_smearOn 7 = .ok (.aload_n 0, 1) := by decide +kernel
theorem dX2_smearOn_8 : decode cX2_smearOn 8 = .ok (.getfield 22, 3) := by decide +kernel
theorem dX2_smearOn_11 : decode cX2_smearOn 11 = .ok (.if_icmp .ge 54, 3) := by decide +kernel
theorem dX2_smearOn_14 : decode cX2_smearOn 14 = .ok (.aload_n 0, 1) := by decide +kernel
theorem dX2_smearOn_15 : decode cX2_smearOn 15 = .ok (.getfield 18, 3) := by decide +kernel
theorem dX2_smearOn_18 : decode cX2_smearOn 18 = .ok (.aload_n 0, 1) := by decide +kernel
theorem dX2_smearOn_19 : decode cX2_smearOn 19 = .ok (.getfield 32, 3) := by decide +kernel
theorem dX2_smearOn_22 : decode cX2_smearOn 22 = .ok (.iload 4, 2) := by decide +kernel
theorem dX2_smearOn_24 : decode cX2_smearOn 24 = .ok (.invokestatic 58, 3) := by decide +kernel
theorem dX2_smearOn_27 : decode cX2_smearOn 27 = .ok (.isub, 1) := by decide +kernel
theorem dX2_smearOn_28 : decode cX2_smearOn 28 = .ok (.istore 5, 2) := by decide +kernel
theorem dX2_smearOn_30 : decode cX2_smearOn 30 = .ok (.iload_n 3, 1) := by decide +kernel
theorem dX2_smearOn_31 : decode cX2_smearOn 31 = .ok (.aload_n 1, 1) := by decide +kernel
theorem dX2_smearOn_32 : decode cX2_smearOn 32 = .ok (.aload_n 0, 1) := by decide +kernel
theorem dX2_smearOn_33 : decode cX2_smearOn 33 = .ok (.getfield 28, 3) := by decide +kernel
theorem dX2_smearOn_36 : decode cX2_smearOn 36 = .ok (.iload 4, 2) := by decide +kernel
theorem dX2_smearOn_38 : decode cX2_smearOn 38 = .ok (.invokestatic 58, 3) := by decide +kernel
theorem dX2_smearOn_41 : decode cX2_smearOn 41 = .ok (.iload 5, 2) := by decide +kernel
theorem dX2_smearOn_43 : decode cX2_smearOn 43 = .ok (.iload_n 2, 1) := by decide +kernel
theorem dX2_smearOn_44 : decode cX2_smearOn 44 = .ok (.aload_n 0, 1) := by decide +kernel
theorem dX2_smearOn_45 : decode cX2_smearOn 45 = .ok (.getfield 35, 3) := by decide +kernel
theorem dX2_smearOn_48 : decode cX2_smearOn 48 = .ok (.iload 4, 2) := by decide +kernel
theorem dX2_smearOn_50 : decode cX2_smearOn 50 = .ok (.invokestatic 58, 3) := by decide +kernel
theorem dX2_smearOn_53 : decode cX2_smearOn 53 = .ok (.iand, 1) := by decide +kernel
theorem dX2_smearOn_54 : decode cX2_smearOn 54 = .ok (.invokevirtual 62, 3) := by decide +kernel
theorem dX2_smearOn_57 : decode cX2_smearOn 57 = .ok (.iadd, 1) := by decide +kernel
theorem dX2_smearOn_58 : decode cX2_smearOn 58 = .ok (.istore_n 3, 1) := by decide +kernel
theorem dX2_smearOn_59 : decode cX2_smearOn 59 = .ok (.iinc 4 1, 3) := by decide +kernel
theorem dX2_smearOn_62 : decode cX2_smearOn 62 = .ok (.goto (-57), 3) := by decide +kernel
theorem dX2_smearOn_65 : decode cX2_smearOn 65 = .ok (.iload_n 3, 1) := by decide +kernel
theorem dX2_smearOn_66 : decode cX2_smearOn 66 = .ok (.ireturn, 1) := by decide +kernel
theorem dX2_printed_0 : decode cX2_printed 0 = .ok (.iconst 0, 1) := by decide +kernel
theorem dX2_printed_1 : decode cX2_printed 1 = .ok (.istore_n 1, 1) := by decide +kernel
theorem dX2_printed_2 : decode cX2_printed 2 = .ok (.iconst 0, 1) := by decide +kernel
theorem dX2_printed_3 : decode cX2_printed 3 = .ok (.istore_n 2, 1) := by decide +kernel
theorem dX2_printed_4 : decode cX2_printed 4 = .ok (.iload_n 2, 1) := by decide +kernel
theorem dX2_printed_5 : decode cX2_printed 5 = .ok (.aload_n 0, 1) := by decide +kernel
theorem dX2_printed_6 : decode cX2_printed 6 = .ok (.getfield 22, 3) := by decide +kernel
theorem dX2_printed_9 : decode cX2_printed 9 = .ok (.if_icmp .ge 22, 3) := by decide +kernel
theorem dX2_printed_12 : decode cX2_printed 12 = .ok (.iload_n 1, 1) := by decide +kernel
theorem dX2_printed_13 : decode cX2_printed 13 = .ok (.iconst 1, 1) := by decide +kernel
theorem dX2_printed_14 : decode cX2_printed 14 = .ok (.aload_n 0, 1) := by decide +kernel
theorem dX2_printed_15 : decode cX2_printed 15 = .ok (.getfield 28, 3) := by decide +kernel
theorem dX2_printed_18 : decode cX2_printed 18 = .ok (.iload_n 2, 1) := by decide +kernel
theorem dX2_printed_19 : decode cX2_printed 19 = .ok (.invokestatic 58, 3) := by decide +kernel
theorem dX2_printed_22 : decode cX2_printed 22 = .ok (.ishl, 1) := by decide +kernel
theorem dX2_printed_23 : decode cX2_printed 23 = .ok (.ior, 1) := by decide +kernel
theorem dX2_printed_24 : decode cX2_printed 24 = .ok (.istore_n 1, 1) := by decide +kernel
theorem dX2_printed_25 : decode cX2_printed 25 = .ok (.iinc 2 1, 3) := by decide +kernel
theorem dX2_printed_28 : decode cX2_printed 28 = .ok (.goto (-24), 3) := by decide +kernel
theorem dX2_printed_31 : decode cX2_printed 31 = .ok (.iload_n 1, 1) := by decide +kernel
theorem dX2_printed_32 : decode cX2_printed 32 = .ok (.ireturn, 1) := by decide +kernel
theorem dX2_wetHours_0 : decode cX2_wetHours 0 = .ok (.iconst 0, 1) := by decide +kernel
theorem dX2_wetHours_1 : decode cX2_wetHours 1 = .ok (.istore_n 3, 1) := by decide +kernel
theorem dX2_wetHours_2 : decode cX2_wetHours 2 = .ok (.iconst 0, 1) := by decide +kernel
theorem dX2_wetHours_3 : decode cX2_wetHours 3 = .ok (.istore 4, 2) := by decide +kernel
theorem dX2_wetHours_5 : decode cX2_wetHours 5 = .ok (.iload 4, 2) := by decide +kernel
theorem dX2_wetHours_7 : decode cX2_wetHours 7 = .ok (.aload_n 0, 1) := by decide +kernel
theorem dX2_wetHours_8 : decode cX2_wetHours 8 = .ok (.getfield 22, 3) := by decide +kernel
theorem dX2_wetHours_11 : decode cX2_wetHours 11 = .ok (.if_icmp .ge 66, 3) := by decide +kernel
theorem dX2_wetHours_14 : decode cX2_wetHours 14 = .ok (.aload_n 0, 1) := by decide +kernel
theorem dX2_wetHours_15 : decode cX2_wetHours 15 = .ok (.getfield 32, 3) := by decide +kernel
theorem dX2_wetHours_18 : decode cX2_wetHours 18 = .ok (.iload 4, 2) := by decide +kernel
theorem dX2_wetHours_20 : decode cX2_wetHours 20 = .ok (.invokestatic 58, 3) := by decide +kernel
theorem dX2_wetHours_23 : decode cX2_wetHours 23 = .ok (.aload_n 1, 1) := by decide +kernel
theorem dX2_wetHours_24 : decode cX2_wetHours 24 = .ok (.getfield 66, 3) := by decide +kernel
theorem dX2_wetHours_27 : decode cX2_wetHours 27 = .ok (.aload_n 0, 1) := by decide +kernel
theorem dX2_wetHours_28 : decode cX2_wetHours 28 = .ok (.getfield 28, 3) := by decide +kernel
theorem dX2_wetHours_31 : decode cX2_wetHours 31 = .ok (.iload 4, 2) := by decide +kernel
theorem dX2_wetHours_33 : decode cX2_wetHours 33 = .ok (.invokestatic 58, 3) := by decide +kernel
theorem dX2_wetHours_36 : decode cX2_wetHours 36 = .ok (.invokestatic 58, 3) := by decide +kernel
theorem dX2_wetHours_39 : decode cX2_wetHours 39 = .ok (.iadd, 1) := by decide +kernel
theorem dX2_wetHours_40 : decode cX2_wetHours 40 = .ok (.aload_n 0, 1) := by decide +kernel
theorem dX2_wetHours_41 : decode cX2_wetHours 41 = .ok (.getfield 18, 3) := by decide +kernel
theorem dX2_wetHours_44 : decode cX2_wetHours 44 = .ok (.isub, 1) := by decide +kernel
theorem dX2_wetHours_45 : decode cX2_wetHours 45 = .ok (.istore 5, 2) := by decide +kernel
theorem dX2_wetHours_47 : decode cX2_wetHours 47 = .ok (.aload_n 0, 1) := by decide +kernel
theorem dX2_wetHours_48 : decode cX2_wetHours 48 = .ok (.getfield 35, 3) := by decide +kernel
theorem dX2_wetHours_51 : decode cX2_wetHours 51 = .ok (.iload 4, 2) := by decide +kernel
theorem dX2_wetHours_53 : decode cX2_wetHours 53 = .ok (.invokestatic 58, 3) := by decide +kernel
theorem dX2_wetHours_56 : decode cX2_wetHours 56 = .ok (.iload_n 2, 1) := by decide +kernel
theorem dX2_wetHours_57 : decode cX2_wetHours 57 = .ok (.iushr, 1) := by decide +kernel
theorem dX2_wetHours_58 : decode cX2_wetHours 58 = .ok (.iconst 1, 1) := by decide +kernel
theorem dX2_wetHours_59 : decode cX2_wetHours 59 = .ok (.iand, 1) := by decide +kernel
theorem dX2_wetHours_60 : decode cX2_wetHours 60 = .ok (.iconst 1, 1) := by decide +kernel
theorem dX2_wetHours_61 : decode cX2_wetHours 61 = .ok (.if_icmp .ne 10, 3) := by decide +kernel
theorem dX2_wetHours_64 : decode cX2_wetHours 64 = .ok (.iload_n 3, 1) := by decide +kernel
theorem dX2_wetHours_65 : decode cX2_wetHours 65 = .ok (.iload 5, 2) := by decide +kernel
theorem dX2_wetHours_67 : decode cX2_wetHours 67 = .ok (.invokestatic 69, 3) := by decide +kernel
theorem dX2_wetHours_70 : decode cX2_wetHours 70 = .ok (.istore_n 3, 1) := by decide +kernel
theorem dX2_wetHours_71 : decode cX2_wetHours 71 = .ok (.iinc 4 1, 3) := by decide +kernel
theorem dX2_wetHours_74 : decode cX2_wetHours 74 = .ok (.goto (-69), 3) := by decide +kernel
theorem dX2_wetHours_77 : decode cX2_wetHours 77 = .ok (.iload_n 3, 1) := by decide +kernel
theorem dX2_wetHours_78 : decode cX2_wetHours 78 = .ok (.ireturn, 1) := by decide +kernel
theorem dX2_wetCells_0 : decode cX2_wetCells 0 = .ok (.iconst 0, 1) := by decide +kernel
theorem dX2_wetCells_1 : decode cX2_wetCells 1 = .ok (.istore_n 2, 1) := by decide +kernel
theorem dX2_wetCells_2 : decode cX2_wetCells 2 = .ok (.iconst 0, 1) := by decide +kernel
theorem dX2_wetCells_3 : decode cX2_wetCells 3 = .ok (.istore_n 3, 1) := by decide +kernel
theorem dX2_wetCells_4 : decode cX2_wetCells 4 = .ok (.iload_n 3, 1) := by decide +kernel
theorem dX2_wetCells_5 : decode cX2_wetCells 5 = .ok (.bipush 16, 2) := by decide +kernel
theorem dX2_wetCells_7 : decode cX2_wetCells 7 = .ok (.if_icmp .ge 21, 3) := by decide +kernel
theorem dX2_wetCells_10 : decode cX2_wetCells 10 = .ok (.aload_n 0, 1) := by decide +kernel
theorem dX2_wetCells_11 : decode cX2_wetCells 11 = .ok (.aload_n 1, 1) := by decide +kernel
theorem dX2_wetCells_12 : decode cX2_wetCells 12 = .ok (.iload_n 3, 1) := by decide +kernel
theorem dX2_wetCells_13 : decode cX2_wetCells 13 = .ok (.invokevirtual 75, 3) := by decide +kernel
theorem dX2_wetCells_16 : decode cX2_wetCells 16 = .ok (.ifCond .le 6, 3) := by decide +kernel
theorem dX2_wetCells_19 : decode cX2_wetCells 19 = .ok (.iinc 2 1, 3) := by decide +kernel
theorem dX2_wetCells_22 : decode cX2_wetCells 22 = .ok (.iinc 3 1, 3) := by decide +kernel
theorem dX2_wetCells_25 : decode cX2_wetCells 25 = .ok (.goto (-21), 3) := by decide +kernel
theorem dX2_wetCells_28 : decode cX2_wetCells 28 = .ok (.iload_n 2, 1) := by decide +kernel
theorem dX2_wetCells_29 : decode cX2_wetCells 29 = .ok (.ireturn, 1) := by decide +kernel
theorem dX2_renew_0 : decode cX2_renew 0 = .ok (.aload_n 0, 1) := by decide +kernel
theorem dX2_renew_1 : decode cX2_renew 1 = .ok (.getfield 22, 3) := by decide +kernel
theorem dX2_renew_4 : decode cX2_renew 4 = .ok (.istore_n 1, 1) := by decide +kernel
theorem dX2_renew_5 : decode cX2_renew 5 = .ok (.aload_n 0, 1) := by decide +kernel
theorem dX2_renew_6 : decode cX2_renew 6 = .ok (.getfield 12, 3) := by decide +kernel
theorem dX2_renew_9 : decode cX2_renew 9 = .ok (.invokevirtual 78, 3) := by decide +kernel
theorem dX2_renew_12 : decode cX2_renew 12 = .ok (.aload_n 0, 1) := by decide +kernel
theorem dX2_renew_13 : decode cX2_renew 13 = .ok (.iconst 0, 1) := by decide +kernel
theorem dX2_renew_14 : decode cX2_renew 14 = .ok (.putfield 18, 3) := by decide +kernel
theorem dX2_renew_17 : decode cX2_renew 17 = .ok (.aload_n 0, 1) := by decide +kernel
theorem dX2_renew_18 : decode cX2_renew 18 = .ok (.iconst 0, 1) := by decide +kernel
theorem dX2_renew_19 : decode cX2_renew 19 = .ok (.putfield 22, 3) := by decide +kernel
theorem dX2_renew_22 : decode cX2_renew 22 = .ok (.aload_n 0, 1) := by decide +kernel
theorem dX2_renew_23 : decode cX2_renew 23 = .ok (.iconst 0, 1) := by decide +kernel
theorem dX2_renew_24 : decode cX2_renew 24 = .ok (.putfield 25, 3) := by decide +kernel
theorem dX2_renew_27 : decode cX2_renew 27 = .ok (.iload_n 1, 1) := by decide +kernel
theorem dX2_renew_28 : decode cX2_renew 28 = .ok (.ireturn, 1) := by decide +kernel
theorem dX2_copyFrom_0 : decode cX2_copyFrom 0 = .ok (.aload_n 0, 1) := by decide +kernel
theorem dX2_copyFrom_1 : decode cX2_copyFrom 1 = .ok (.getfield 12, 3) := by decide +kernel
theorem dX2_copyFrom_4 : decode cX2_copyFrom 4 = .ok (.aload_n 1, 1) := by decide +kernel
theorem dX2_copyFrom_5 : decode cX2_copyFrom 5 = .ok (.getfield 12, 3) := by decide +kernel
theorem dX2_copyFrom_8 : decode cX2_copyFrom 8 = .ok (.invokevirtual 81, 3) := by decide +kernel
theorem dX2_copyFrom_11 : decode cX2_copyFrom 11 = .ok (.aload_n 0, 1) := by decide +kernel
theorem dX2_copyFrom_12 : decode cX2_copyFrom 12 = .ok (.aload_n 1, 1) := by decide +kernel
theorem dX2_copyFrom_13 : decode cX2_copyFrom 13 = .ok (.getfield 18, 3) := by decide +kernel
theorem dX2_copyFrom_16 : decode cX2_copyFrom 16 = .ok (.putfield 18, 3) := by decide +kernel
theorem dX2_copyFrom_19 : decode cX2_copyFrom 19 = .ok (.aload_n 0, 1) := by decide +kernel
theorem dX2_copyFrom_20 : decode cX2_copyFrom 20 = .ok (.aload_n 1, 1) := by decide +kernel
theorem dX2_copyFrom_21 : decode cX2_copyFrom 21 = .ok (.getfield 22, 3) := by decide +kernel
theorem dX2_copyFrom_24 : decode cX2_copyFrom 24 = .ok (.putfield 22, 3) := by decide +kernel
theorem dX2_copyFrom_27 : decode cX2_copyFrom 27 = .ok (.aload_n 0, 1) := by decide +kernel
theorem dX2_copyFrom_28 : decode cX2_copyFrom 28 = .ok (.aload_n 1, 1) := by decide +kernel
theorem dX2_copyFrom_29 : decode cX2_copyFrom 29 = .ok (.getfield 25, 3) := by decide +kernel
theorem dX2_copyFrom_32 : decode cX2_copyFrom 32 = .ok (.putfield 25, 3) := by decide +kernel
theorem dX2_copyFrom_35 : decode cX2_copyFrom 35 = .ok (.aload_n 1, 1) := by decide +kernel
theorem dX2_copyFrom_36 : decode cX2_copyFrom 36 = .ok (.getfield 28, 3) := by decide +kernel
theorem dX2_copyFrom_39 : decode cX2_copyFrom 39 = .ok (.aload_n 0, 1) := by decide +kernel
theorem dX2_copyFrom_40 : decode cX2_copyFrom 40 = .ok (.getfield 28, 3) := by decide +kernel
theorem dX2_copyFrom_43 : decode cX2_copyFrom 43 = .ok (.invokestatic 85, 3) := by decide +kernel
theorem dX2_copyFrom_46 : decode cX2_copyFrom 46 = .ok (.aload_n 1, 1) := by decide +kernel
theorem dX2_copyFrom_47 : decode cX2_copyFrom 47 = .ok (.getfield 32, 3) := by decide +kernel
theorem dX2_copyFrom_50 : decode cX2_copyFrom 50 = .ok (.aload_n 0, 1) := by decide +kernel
theorem dX2_copyFrom_51 : decode cX2_copyFrom 51 = .ok (.getfield 32, 3) := by decide +kernel
theorem dX2_copyFrom_54 : decode cX2_copyFrom 54 = .ok (.invokestatic 85, 3) := by decide +kernel
theorem dX2_copyFrom_57 : decode cX2_copyFrom 57 = .ok (.aload_n 1, 1) := by decide +kernel
theorem dX2_copyFrom_58 : decode cX2_copyFrom 58 = .ok (.getfield 35, 3) := by decide +kernel
theorem dX2_copyFrom_61 : decode cX2_copyFrom 61 = .ok (.aload_n 0, 1) := by decide +kernel
theorem dX2_copyFrom_62 : decode cX2_copyFrom 62 = .ok (.getfield 35, 3) := by decide +kernel
theorem dX2_copyFrom_65 : decode cX2_copyFrom 65 = .ok (.invokestatic 85, 3) := by decide +kernel
theorem dX2_copyFrom_68 : decode cX2_copyFrom 68 = .ok (.return_, 1) := by decide +kernel
theorem dX3_init_0 : decode cX3_init 0 = .ok (.aload_n 0, 1) := by decide +kernel
theorem dX3_init_1 : decode cX3_init 1 = .ok (.invokespecial 3, 3) := by decide +kernel
theorem dX3_init_4 : decode cX3_init 4 = .ok (.aload_n 0, 1) := by decide +kernel
theorem dX3_init_5 : decode cX3_init 5 = .ok (.iconst 5, 1) := by decide +kernel
theorem dX3_init_6 : decode cX3_init 6 = .ok (.anewarray 9, 3) := by decide +kernel
theorem dX3_init_9 : decode cX3_init 9 = .ok (.putfield 11, 3) := by decide +kernel
theorem dX3_init_12 : decode cX3_init 12 = .ok (.aload_n 0, 1) := by decide +kernel
theorem dX3_init_13 : decode cX3_init 13 = .ok (.iconst 0, 1) := by decide +kernel
theorem dX3_init_14 : decode cX3_init 14 = .ok (.putfield 17, 3) := by decide +kernel
theorem dX3_init_17 : decode cX3_init 17 = .ok (.aload_n 0, 1) := by decide +kernel
theorem dX3_init_18 : decode cX3_init 18 = .ok (.iconst 0, 1) := by decide +kernel
theorem dX3_init_19 : decode cX3_init 19 = .ok (.putfield 21, 3) := by decide +kernel
theorem dX3_init_22 : decode cX3_init 22 = .ok (.iconst 0, 1) := by decide +kernel
theorem dX3_init_23 : decode cX3_init 23 = .ok (.istore_n 1, 1) := by decide +kernel
theorem dX3_init_24 : decode cX3_init 24 = .ok (.iload_n 1, 1) := by decide +kernel
theorem dX3_init_25 : decode cX3_init 25 = .ok (.aload_n 0, 1) := by decide +kernel
theorem dX3_init_26 : decode cX3_init 26 = .ok (.getfield 11, 3) := by decide +kernel
theorem dX3_init_29 : decode cX3_init 29 = .ok (.arraylength, 1) := by decide +kernel
theorem dX3_init_30 : decode cX3_init 30 = .ok (.if_icmp .ge 22, 3) := by decide +kernel
theorem dX3_init_33 : decode cX3_init 33 = .ok (.aload_n 0, 1) := by decide +kernel
theorem dX3_init_34 : decode cX3_init 34 = .ok (.getfield 11, 3) := by decide +kernel
theorem dX3_init_37 : decode cX3_init 37 = .ok (.iload_n 1, 1) := by decide +kernel
theorem dX3_init_38 : decode cX3_init 38 = .ok (.new 9, 3) := by decide +kernel
theorem dX3_init_41 : decode cX3_init 41 = .ok (.dup, 1) := by decide +kernel
theorem dX3_init_42 : decode cX3_init 42 = .ok (.invokespecial 24, 3) := by decide +kernel
theorem dX3_init_45 : decode cX3_init 45 = .ok (.aastore, 1) := by decide +kernel
theorem dX3_init_46 : decode cX3_init 46 = .ok (.iinc 1 1, 3) := by decide +kernel
theorem dX3_init_49 : decode cX3_init 49 = .ok (.goto (-25), 3) := by decide +kernel
theorem dX3_init_52 : decode cX3_init 52 = .ok (.return_, 1) := by decide +kernel
theorem dX3_keep_0 : decode cX3_keep 0 = .ok (.aload_n 0, 1) := by decide +kernel
theorem dX3_keep_1 : decode cX3_keep 1 = .ok (.aload_n 0, 1) := by decide +kernel
theorem dX3_keep_2 : decode cX3_keep 2 = .ok (.getfield 17, 3) := by decide +kernel
theorem dX3_keep_5 : decode cX3_keep 5 = .ok (.invokevirtual 25, 3) := by decide +kernel
theorem dX3_keep_8 : decode cX3_keep 8 = .ok (.astore_n 2, 1) := by decide +kernel
theorem dX3_keep_9 : decode cX3_keep 9 = .ok (.aload_n 2, 1) := by decide +kernel
theorem dX3_keep_10 : decode cX3_keep 10 = .ok (.ifnonnull 4, 3) := by decide +kernel
theorem dX3_keep_13 : decode cX3_keep 13 = .ok (.return_, 1) := by decide +kernel
theorem dX3_keep_14 : decode cX3_keep 14 = .ok (.aload_n 2, 1) := by decide +kernel
theorem dX3_keep_15 : decode cX3_keep 15 = .ok (.aload_n 1, 1) := by decide +kernel
theorem dX3_keep_16 : decode cX3_keep 16 = .ok (.invokevirtual 29, 3) := by decide +kernel
theorem dX3_keep_19 : decode cX3_keep 19 = .ok (.aload_n 0, 1) := by decide +kernel
theorem dX3_keep_20 : decode cX3_keep 20 = .ok (.aload_n 0, 1) := by decide +kernel
theorem dX3_keep_21 : decode cX3_keep 21 = .ok (.getfield 17, 3) := by decide +kernel
theorem dX3_keep_24 : decode cX3_keep 24 = .ok (.iconst 1, 1) := by decide +kernel
theorem dX3_keep_25 : decode cX3_keep 25 = .ok (.iadd, 1) := by decide +kernel
theorem dX3_keep_26 : decode cX3_keep 26 = .ok (.iconst 5, 1) := by decide +kernel
theorem dX3_keep_27 : decode cX3_keep 27 = .ok (.irem, 1) := by decide +kernel
theorem dX3_keep_28 : decode cX3_keep 28 = .ok (.putfield 17, 3) := by decide +kernel
theorem dX3_keep_31 : decode cX3_keep 31 = .ok (.aload_n 0, 1) := by decide +kernel
theorem dX3_keep_32 : decode cX3_keep 32 = .ok (.aload_n 0, 1) := by decide +kernel
theorem dX3_keep_33 : decode cX3_keep 33 = .ok (.getfield 21, 3) := by decide +kernel
theorem dX3_keep_36 : decode cX3_keep 36 = .ok (.iconst 1, 1) := by decide +kernel
theorem dX3_keep_37 : decode cX3_keep 37 = .ok (.iadd, 1) := by decide +kernel
theorem dX3_keep_38 : decode cX3_keep 38 = .ok (.iconst 5, 1) := by decide +kernel
theorem dX3_keep_39 : decode cX3_keep 39 = .ok (.invokestatic 33, 3) := by decide +kernel
theorem dX3_keep_42 : decode cX3_keep 42 = .ok (.putfield 21, 3) := by decide +kernel
theorem dX3_keep_45 : decode cX3_keep 45 = .ok (.return_, 1) := by decide +kernel
theorem dX3_keptAt_0 : decode cX3_keptAt 0 = .ok (.iload_n 1, 1) := by decide +kernel
theorem dX3_keptAt_1 : decode cX3_keptAt 1 = .ok (.ifCond .lt 21, 3) := by decide +kernel
theorem dX3_keptAt_4 : decode cX3_keptAt 4 = .ok (.iload_n 1, 1) := by decide +kernel
theorem dX3_keptAt_5 : decode cX3_keptAt 5 = .ok (.aload_n 0, 1) := by decide +kernel
theorem dX3_keptAt_6 : decode cX3_keptAt 6 = .ok (.getfield 11, 3) := by decide +kernel
theorem dX3_keptAt_9 : decode cX3_keptAt 9 = .ok (.arraylength, 1) := by decide +kernel
theorem dX3_keptAt_10 : decode cX3_keptAt 10 = .ok (.if_icmp .ge 12, 3) := by decide +kernel
theorem dX3_keptAt_13 : decode cX3_keptAt 13 = .ok (.aload_n 0, 1) := by decide +kernel
theorem dX3_keptAt_14 : decode cX3_keptAt 14 = .ok (.getfield 11, 3) := by decide +kernel
theorem dX3_keptAt_17 : decode cX3_keptAt 17 = .ok (.iload_n 1, 1) := by decide +kernel
theorem dX3_keptAt_18 : decode cX3_keptAt 18 = .ok (.aaload, 1) := by decide +kernel
theorem dX3_keptAt_19 : decode cX3_keptAt 19 = .ok (.goto 4, 3) := by decide +kernel
theorem dX3_keptAt_22 : decode cX3_keptAt 22 = .ok (.aconst_null, 1) := by decide +kernel
theorem dX3_keptAt_23 : decode cX3_keptAt 23 = .ok (.areturn, 1) := by decide +kernel
theorem dX3_restore_0 : decode cX3_restore 0 = .ok (.aload_n 0, 1) := by decide +kernel
theorem dX3_restore_1 : decode cX3_restore 1 = .ok (.getfield 17, 3) := by decide +kernel
theorem dX3_restore_4 : decode cX3_restore 4 = .ok (.iconst 5, 1) := by decide +kernel
theorem dX3_restore_5 : decode cX3_restore 5 = .ok (.iadd, 1) := by decide +kernel
theorem dX3_restore_6 : decode cX3_restore 6 = .ok (.iconst 1, 1) := by decide +kernel
theorem dX3_restore_7 : decode cX3_restore 7 = .ok (.isub, 1) := by decide +kernel
theorem dX3_restore_8 : decode cX3_restore 8 = .ok (.iconst 5, 1) := by decide +kernel
theorem dX3_restore_9 : decode cX3_restore 9 = .ok (.irem, 1) := by decide +kernel
theorem dX3_restore_10 : decode cX3_restore 10 = .ok (.istore_n 2, 1) := by decide +kernel
theorem dX3_restore_11 : decode cX3_restore 11 = .ok (.aload_n 0, 1) := by decide +kernel
theorem dX3_restore_12 : decode cX3_restore 12 = .ok (.iload_n 2, 1) := by decide +kernel
theorem dX3_restore_13 : decode cX3_restore 13 = .ok (.invokevirtual 25, 3) := by decide +kernel
theorem dX3_restore_16 : decode cX3_restore 16 = .ok (.astore_n 3, 1) := by decide +kernel
theorem dX3_restore_17 : decode cX3_restore 17 = .ok (.aload_n 0, 1) := by decide +kernel
theorem dX3_restore_18 : decode cX3_restore 18 = .ok (.getfield 21, 3) := by decide +kernel
theorem dX3_restore_21 : decode cX3_restore 21 = .ok (.ifCond .eq 7, 3) := by decide +kernel
theorem dX3_restore_24 : decode cX3_restore 24 = .ok (.aload_n 3, 1) := by decide +kernel
theorem dX3_restore_25 : decode cX3_restore 25 = .ok (.ifnonnull 4, 3) := by decide +kernel
theorem dX3_restore_28 : decode cX3_restore 28 = .ok (.return_, 1) := by decide +kernel
theorem dX3_restore_29 : decode cX3_restore 29 = .ok (.aload_n 1, 1) := by decide +kernel
theorem dX3_restore_30 : decode cX3_restore 30 = .ok (.aload_n 3, 1) := by decide +kernel
theorem dX3_restore_31 : decode cX3_restore 31 = .ok (.invokevirtual 29, 3) := by decide +kernel
theorem dX3_restore_34 : decode cX3_restore 34 = .ok (.aload_n 0, 1) := by decide +kernel
theorem dX3_restore_35 : decode cX3_restore 35 = .ok (.iload_n 2, 1) := by decide +kernel
theorem dX3_restore_36 : decode cX3_restore 36 = .ok (.putfield 17, 3) := by decide +kernel
theorem dX3_restore_39 : decode cX3_restore 39 = .ok (.aload_n 0, 1) := by decide +kernel
theorem dX3_restore_40 : decode cX3_restore 40 = .ok (.dup, 1) := by decide +kernel
theorem dX3_restore_41 : decode cX3_restore 41 = .ok (.getfield 21, 3) := by decide +kernel
theorem dX3_restore_44 : decode cX3_restore 44 = .ok (.iconst 1, 1) := by decide +kernel
theorem dX3_restore_45 : decode cX3_restore 45 = .ok (.isub, 1) := by decide +kernel
theorem dX3_restore_46 : decode cX3_restore 46 = .ok (.putfield 21, 3) := by decide +kernel
theorem dX3_restore_49 : decode cX3_restore 49 = .ok (.return_, 1) := by decide +kernel
theorem dX4_init_0 : decode cX4_init 0 = .ok (.aload_n 0, 1) := by decide +kernel
theorem dX4_init_1 : decode cX4_init 1 = .ok (.invokespecial 3, 3) := by decide +kernel
theorem dX4_init_4 : decode cX4_init 4 = .ok (.aload_n 0, 1) := by decide +kernel
theorem dX4_init_5 : decode cX4_init 5 = .ok (.iconst 0, 1) := by decide +kernel
theorem dX4_init_6 : decode cX4_init 6 = .ok (.putfield 9, 3) := by decide +kernel
theorem dX4_init_9 : decode cX4_init 9 = .ok (.aload_n 0, 1) := by decide +kernel
theorem dX4_init_10 : decode cX4_init 10 = .ok (.iconst 4, 1) := by decide +kernel
theorem dX4_init_11 : decode cX4_init 11 = .ok (.newarray .int, 2) := by decide +kernel
theorem dX4_init_13 : decode cX4_init 13 = .ok (.putfield 15, 3) := by decide +kernel
theorem dX4_init_16 : decode cX4_init 16 = .ok (.aload_n 0, 1) := by decide +kernel
theorem dX4_init_17 : decode cX4_init 17 = .ok (.iconst 0, 1) := by decide +kernel
theorem dX4_init_18 : decode cX4_init 18 = .ok (.putfield 19, 3) := by decide +kernel
theorem dX4_init_21 : decode cX4_init 21 = .ok (.aload_n 0, 1) := by decide +kernel
theorem dX4_init_22 : decode cX4_init 22 = .ok (.iconst 0, 1) := by decide +kernel
theorem dX4_init_23 : decode cX4_init 23 = .ok (.putfield 23, 3) := by decide +kernel
theorem dX4_init_26 : decode cX4_init 26 = .ok (.aload_n 0, 1) := by decide +kernel
theorem dX4_init_27 : decode cX4_init 27 = .ok (.iconst 0, 1) := by decide +kernel
theorem dX4_init_28 : decode cX4_init 28 = .ok (.putfield 26, 3) := by decide +kernel
theorem dX4_init_31 : decode cX4_init 31 = .ok (.aload_n 0, 1) := by decide +kernel
theorem dX4_init_32 : decode cX4_init 32 = .ok (.iconst 0, 1) := by decide +kernel
theorem dX4_init_33 : decode cX4_init 33 = .ok (.putfield 29, 3) := by decide +kernel
theorem dX4_init_36 : decode cX4_init 36 = .ok (.aload_n 0, 1) := by decide +kernel
theorem dX4_init_37 : decode cX4_init 37 = .ok (.iconst 0, 1) := by decide +kernel
theorem dX4_init_38 : decode cX4_init 38 = .ok (.putfield 32, 3) := by decide +kernel
theorem dX4_init_41 : decode cX4_init 41 = .ok (.aload_n 0, 1) := by decide +kernel
theorem dX4_init_42 : decode cX4_init 42 = .ok (.iconst 0, 1) := by decide +kernel
theorem dX4_init_43 : decode cX4_init 43 = .ok (.putfield 35, 3) := by decide +kernel
theorem dX4_init_46 : decode cX4_init 46 = .ok (.aload_n 0, 1) := by decide +kernel
theorem dX4_init_47 : decode cX4_init 47 = .ok (.iconst 0, 1) := by decide +kernel
theorem dX4_init_48 : decode cX4_init 48 = .ok (.putfield 38, 3) := by decide +kernel
theorem dX4_init_51 : decode cX4_init 51 = .ok (.aload_n 0, 1) := by decide +kernel
theorem dX4_init_52 : decode cX4_init 52 = .ok (.iconst 0, 1) := by decide +kernel
theorem dX4_init_53 : decode cX4_init 53 = .ok (.putfield 41, 3) := by decide +kernel
theorem dX4_init_56 : decode cX4_init 56 = .ok (.return_, 1) := by decide +kernel
theorem dX4_restart_0 : decode cX4_restart 0 = .ok (.aload_n 0, 1) := by decide +kernel
theorem dX4_restart_1 : decode cX4_restart 1 = .ok (.iconst 0, 1) := by decide +kernel
theorem dX4_restart_2 : decode cX4_restart 2 = .ok (.putfield 19, 3) := by decide +kernel
theorem dX4_restart_5 : decode cX4_restart 5 = .ok (.aload_n 0, 1) := by decide +kernel
theorem dX4_restart_6 : decode cX4_restart 6 = .ok (.iconst 0, 1) := by decide +kernel
theorem dX4_restart_7 : decode cX4_restart 7 = .ok (.putfield 23, 3) := by decide +kernel
theorem dX4_restart_10 : decode cX4_restart 10 = .ok (.aload_n 0, 1) := by decide +kernel
theorem dX4_restart_11 : decode cX4_restart 11 = .ok (.iconst 0, 1) := by decide +kernel
theorem dX4_restart_12 : decode cX4_restart 12 = .ok (.putfield 26, 3) := by decide +kernel
theorem dX4_restart_15 : decode cX4_restart 15 = .ok (.return_, 1) := by decide +kernel
theorem dX4_mayEnd_0 : decode cX4_mayEnd 0 = .ok (.aload_n 0, 1) := by decide +kernel
theorem dX4_mayEnd_1 : decode cX4_mayEnd 1 = .ok (.getfield 26, 3) := by decide +kernel
theorem dX4_mayEnd_4 : decode cX4_mayEnd 4 = .ok (.ifCond .eq 14, 3) := by decide +kernel
theorem dX4_mayEnd_7 : decode cX4_mayEnd 7 = .ok (.aload_n 0, 1) := by decide +kernel
theorem dX4_mayEnd_8 : decode cX4_mayEnd 8 = .ok (.getfield 23, 3) := by decide +kernel
theorem dX4_mayEnd_11 : decode cX4_mayEnd 11 = .ok (.ifCond .ne 7, 3) := by decide +kernel
theorem dX4_mayEnd_14 : decode cX4_mayEnd 14 = .ok (.iconst 1, 1) := by decide +kernel
theorem dX4_mayEnd_15 : decode cX4_mayEnd 15 = .ok (.goto 4, 3) := by decide +kernel
theorem dX4_mayEnd_18 : decode cX4_mayEnd 18 = .ok (.iconst 0, 1) := by decide +kernel
theorem dX4_mayEnd_19 : decode cX4_mayEnd 19 = .ok (.ireturn, 1) := by decide +kernel
theorem dX4_takes_0 : decode cX4_takes 0 = .ok (.aload_n 0, 1) := by decide +kernel
theorem dX4_takes_1 : decode cX4_takes 1 = .ok (.iconst 0, 1) := by decide +kernel
theorem dX4_takes_2 : decode cX4_takes 2 = .ok (.putfield 19, 3) := by decide +kernel
theorem dX4_takes_5 : decode cX4_takes 5 = .ok (.aload_n 0, 1) := by decide +kernel
theorem dX4_takes_6 : decode cX4_takes 6 = .ok (.getfield 23, 3) := by decide +kernel
theorem dX4_takes_9 : decode cX4_takes 9 = .ok (.ifCond .ne 23, 3) := by decide +kernel
theorem dX4_takes_12 : decode cX4_takes 12 = .ok (.iload_n 1, 1) := by decide +kernel
theorem dX4_takes_13 : decode cX4_takes 13 = .ok (.bipush 32, 2) := by decide +kernel
theorem dX4_takes_15 : decode cX4_takes 15 = .ok (.if_icmp .eq 11, 3) := by decide +kernel
theorem dX4_takes_18 : decode cX4_takes 18 = .ok (.aload_n 0, 1) := by decide +kernel
theorem dX4_takes_19 : decode cX4_takes 19 = .ok (.iload_n 1, 1) := by decide +kernel
theorem dX4_takes_20 : decode cX4_takes 20 = .ok (.invokevirtual 44, 3) := by decide +kernel
theorem dX4_takes_23 : decode cX4_takes 23 = .ok (.ifCond .eq 7, 3) := by decide +kernel
theorem dX4_takes_26 : decode cX4_takes 26 = .ok (.iconst 1, 1) := by decide +kernel
theorem dX4_takes_27 : decode cX4_takes 27 = .ok (.goto 4, 3) := by decide +kernel
theorem dX4_takes_30 : decode cX4_takes 30 = .ok (.iconst 0, 1) := by decide +kernel
theorem dX4_takes_31 : decode cX4_takes 31 = .ok (.ireturn, 1) := by decide +kernel
theorem dX4_takes_32 : decode cX4_takes 32 = .ok (.iload_n 1, 1) := by decide +kernel
theorem dX4_takes_33 : decode cX4_takes 33 = .ok (.bipush 48, 2) := by decide +kernel
theorem dX4_takes_35 : decode cX4_takes 35 = .ok (.if_icmp .lt 18, 3) := by decide +kernel
theorem dX4_takes_38 : decode cX4_takes 38 = .ok (.iload_n 1, 1) := by decide +kernel
theorem dX4_takes_39 : decode cX4_takes 39 = .ok (.bipush 57, 2) := by decide +kernel
theorem dX4_takes_41 : decode cX4_takes 41 = .ok (.if_icmp .gt 12, 3) := by decide +kernel
theorem dX4_takes_44 : decode cX4_takes 44 = .ok (.aload_n 0, 1) := by decide +kernel
theorem dX4_takes_45 : decode cX4_takes 45 = .ok (.iload_n 1, 1) := by decide +kernel
theorem dX4_takes_46 : decode cX4_takes 46 = .ok (.bipush 48, 2) := by decide +kernel
theorem dX4_takes_48 : decode cX4_takes 48 = .ok (.isub, 1) := by decide +kernel
theorem dX4_takes_49 : decode cX4_takes 49 = .ok (.invokevirtual 48, 3) := by decide +kernel
theorem dX4_takes_52 : decode cX4_takes 52 = .ok (.ireturn, 1) := by decide +kernel
theorem dX4_takes_53 : decode cX4_takes 53 = .ok (.aload_n 0, 1) := by decide +kernel
theorem dX4_takes_54 : decode cX4_takes 54 = .ok (.getfield 41, 3) := by decide +kernel
theorem dX4_takes_57 : decode cX4_takes 57 = .ok (.ifCond .eq 12, 3) := by decide +kernel
theorem dX4_takes_60 : decode cX4_takes 60 = .ok (.aload_n 0, 1) := by decide +kernel
theorem dX4_takes_61 : decode cX4_takes 61 = .ok (.getfield 38, 3) := by decide +kernel
theorem dX4_takes_64 : decode cX4_takes 64 = .ok (.ifCond .ne 5, 3) := by decide +kernel
theorem dX4_takes_67 : decode cX4_takes 67 = .ok (.iconst 0, 1) := by decide +kernel
theorem dX4_takes_68 : decode cX4_takes 68 = .ok (.ireturn, 1) := by decide +kernel
theorem dX4_takes_69 : decode cX4_takes 69 = .ok (.aload_n 0, 1) := by decide +kernel
theorem dX4_takes_70 : decode cX4_takes 70 = .ok (.invokevirtual 51, 3) := by decide +kernel
theorem dX4_takes_73 : decode cX4_takes 73 = .ok (.iload_n 1, 1) := by decide +kernel
theorem dX4_takes_74 : decode cX4_takes 74 = .ok (.bipush 45, 2) := by decide +kernel
theorem dX4_takes_76 : decode cX4_takes 76 = .ok (.if_icmp .ne 8, 3) := by decide +kernel
theorem dX4_takes_79 : decode cX4_takes 79 = .ok (.aload_n 0, 1) := by decide +kernel
theorem dX4_takes_80 : decode cX4_takes 80 = .ok (.invokevirtual 54, 3) := by decide +kernel
theorem dX4_takes_83 : decode cX4_takes 83 = .ok (.ireturn, 1) := by decide +kernel
theorem dX4_takes_84 : decode cX4_takes 84 = .ok (.iload_n 1, 1) := by decide +kernel
theorem dX4_takes_85 : decode cX4_takes 85 = .ok (.bipush 59, 2) := by decide +kernel
theorem dX4_takes_87 : decode cX4_takes 87 = .ok (.if_icmp .ne 8, 3) := by decide +kernel
theorem dX4_takes_90 : decode cX4_takes 90 = .ok (.aload_n 0, 1) := by decide +kernel
theorem dX4_takes_91 : decode cX4_takes 91 = .ok (.invokevirtual 58, 3) := by decide +kernel
theorem dX4_takes_94 : decode cX4_takes 94 = .ok (.ireturn, 1) := by decide +kernel
theorem dX4_takes_95 : decode cX4_takes 95 = .ok (.iload_n 1, 1) := by decide +kernel
theorem dX4_takes_96 : decode cX4_takes 96 = .ok (.bipush 32, 2) := by decide +kernel
theorem dX4_takes_98 : decode cX4_takes 98 = .ok (.if_icmp .ne 7, 3) := by decide +kernel
theorem dX4_takes_101 : decode cX4_takes 101 = .ok (.iconst 1, 1) := by decide +kernel
theorem dX4_takes_102 : decode cX4_takes 102 = .ok (.goto 4, 3) := by decide +kernel
theorem dX4_takes_105 : decode cX4_takes 105 = .ok (.iconst 0, 1) := by decide +kernel
theorem dX4_takes_106 : decode cX4_takes 106 = .ok (.ireturn, 1) := by decide +kernel
theorem dX4_begins_0 : decode cX4_begins 0 = .ok (.aload_n 0, 1) := by decide +kernel
theorem dX4_begins_1 : decode cX4_begins 1 = .ok (.iload_n 1, 1) := by decide +kernel
theorem dX4_begins_2 : decode cX4_begins 2 = .ok (.invokestatic 61, 3) := by decide +kernel
theorem dX4_begins_5 : decode cX4_begins 5 = .ok (.putfield 29, 3) := by decide +kernel
theorem dX4_begins_8 : decode cX4_begins 8 = .ok (.aload_n 0, 1) := by decide +kernel
theorem dX4_begins_9 : decode cX4_begins 9 = .ok (.getfield 29, 3) := by decide +kernel
theorem dX4_begins_12 : decode cX4_begins 12 = .ok (.iconst (-1), 1) := by decide +kernel
theorem dX4_begins_13 : decode cX4_begins 13 = .ok (.if_icmp .ne 5, 3) := by decide +kernel
theorem dX4_begins_16 : decode cX4_begins 16 = .ok (.iconst 0, 1) := by decide +kernel
theorem dX4_begins_17 : decode cX4_begins 17 = .ok (.ireturn, 1) := by decide +kernel
theorem dX4_begins_18 : decode cX4_begins 18 = .ok (.aload_n 0, 1) := by decide +kernel
theorem dX4_begins_19 : decode cX4_begins 19 = .ok (.iload_n 1, 1) := by decide +kernel
theorem dX4_begins_20 : decode cX4_begins 20 = .ok (.putfield 9, 3) := by decide +kernel
theorem dX4_begins_23 : decode cX4_begins 23 = .ok (.aload_n 0, 1) := by decide +kernel
theorem dX4_begins_24 : decode cX4_begins 24 = .ok (.iconst 1, 1) := by decide +kernel
theorem dX4_begins_25 : decode cX4_begins 25 = .ok (.putfield 23, 3) := by decide +kernel
theorem dX4_begins_28 : decode cX4_begins 28 = .ok (.aload_n 0, 1) := by decide +kernel
theorem dX4_begins_29 : decode cX4_begins 29 = .ok (.iconst 0, 1) := by decide +kernel
theorem dX4_begins_30 : decode cX4_begins 30 = .ok (.putfield 32, 3) := by decide +kernel
theorem dX4_begins_33 : decode cX4_begins 33 = .ok (.aload_n 0, 1) := by decide +kernel
theorem dX4_begins_34 : decode cX4_begins 34 = .ok (.invokevirtual 65, 3) := by decide +kernel
theorem dX4_begins_37 : decode cX4_begins 37 = .ok (.iconst 1, 1) := by decide +kernel
theorem dX4_begins_38 : decode cX4_begins 38 = .ok (.ireturn, 1) := by decide +kernel
theorem dX4_numbersBehind_0 : decode cX4_numbersBehind 0 = .ok (.iload_n 0, 1) := by decide +kernel
theorem dX4_numbersBehind_1 : decode cX4_numbersBehind 1 = .ok (.lookupswitch 61 #[(97, 55), (98, 51), (110, 59), (112, 57), (115, 53)], 51) := by decide +kernel
theorem dX4_numbersBehind_52 : decode cX4_numbersBehind 52 = .ok (.iconst 4, 1) := by decide +kernel
theorem dX4_numbersBehind_53 : decode cX4_numbersBehind 53 = .ok (.ireturn, 1) := by decide +kernel
theorem dX4_numbersBehind_54 : decode cX4_numbersBehind 54 = .ok (.iconst 3, 1) := by decide +kernel
theorem dX4_numbersBehind_55 : decode cX4_numbersBehind 55 = .ok (.ireturn, 1) := by decide +kernel
theorem dX4_numbersBehind_56 : decode cX4_numbersBehind 56 = .ok (.iconst 2, 1) := by decide +kernel
theorem dX4_numbersBehind_57 : decode cX4_numbersBehind 57 = .ok (.ireturn, 1) := by decide +kernel
theorem dX4_numbersBehind_58 : decode cX4_numbersBehind 58 = .ok (.iconst 2, 1) := by decide +kernel
theorem dX4_numbersBehind_59 : decode cX4_numbersBehind 59 = .ok (.ireturn, 1) := by decide +kernel
theorem dX4_numbersBehind_60 : decode cX4_numbersBehind 60 = .ok (.iconst 0, 1) := by decide +kernel
theorem dX4_numbersBehind_61 : decode cX4_numbersBehind 61 = .ok (.ireturn, 1) := by decide +kernel
theorem dX4_numbersBehind_62 : decode cX4_numbersBehind 62 = .ok (.iconst (-1), 1) := by decide +kernel
theorem dX4_numbersBehind_63 : decode cX4_numbersBehind 63 = .ok (.ireturn, 1) := by decide +kernel
theorem dX4_startNumber_0 : decode cX4_startNumber 0 = .ok (.aload_n 0, 1) := by decide +kernel
theorem dX4_startNumber_1 : decode cX4_startNumber 1 = .ok (.iconst 0, 1) := by decide +kernel
theorem dX4_startNumber_2 : decode cX4_startNumber 2 = .ok (.putfield 35, 3) := by decide +kernel
theorem dX4_startNumber_5 : decode cX4_startNumber 5 = .ok (.aload_n 0, 1) := by decide +kernel
theorem dX4_startNumber_6 : decode cX4_startNumber 6 = .ok (.iconst 0, 1) := by decide +kernel
theorem dX4_startNumber_7 : decode cX4_startNumber 7 = .ok (.putfield 38, 3) := by decide +kernel
theorem dX4_startNumber_10 : decode cX4_startNumber 10 = .ok (.aload_n 0, 1) := by decide +kernel
theorem dX4_startNumber_11 : decode cX4_startNumber 11 = .ok (.iconst 0, 1) := by decide +kernel
theorem dX4_startNumber_12 : decode cX4_startNumber 12 = .ok (.putfield 41, 3) := by decide +kernel
theorem dX4_startNumber_15 : decode cX4_startNumber 15 = .ok (.return_, 1) := by decide +kernel
theorem dX4_figure_0 : decode cX4_figure 0 = .ok (.aload_n 0, 1) := by decide +kernel
theorem dX4_figure_1 : decode cX4_figure 1 = .ok (.getfield 32, 3) := by decide +kernel
theorem dX4_figure_4 : decode cX4_figure 4 = .ok (.aload_n 0, 1) := by decide +kernel
theorem dX4_figure_5 : decode cX4_figure 5 = .ok (.getfield 29, 3) := by decide +kernel
theorem dX4_figure_8 : decode cX4_figure 8 = .ok (.if_icmp .ge 11, 3) := by decide +kernel
theorem dX4_figure_11 : decode cX4_figure 11 = .ok (.aload_n 0, 1) := by decide +kernel
theorem dX4_figure_12 : decode cX4_figure 12 = .ok (.getfield 38, 3) := by decide +kernel
theorem dX4_figure_15 : decode cX4_figure 15 = .ok (.iconst 5, 1) := by decide +kernel
theorem dX4_figure_16 : decode cX4_figure 16 = .ok (.if_icmp .lt 5, 3) := by decide +kernel
theorem dX4_figure_19 : decode cX4_figure 19 = .ok (.iconst 0, 1) := by decide +kernel
theorem dX4_figure_20 : decode cX4_figure 20 = .ok (.ireturn, 1) := by decide +kernel
theorem dX4_figure_21 : decode cX4_figure 21 = .ok (.aload_n 0, 1) := by decide +kernel
theorem dX4_figure_22 : decode cX4_figure 22 = .ok (.bipush 10, 2) := by decide +kernel
theorem dX4_figure_24 : decode cX4_figure 24 = .ok (.aload_n 0, 1) := by decide +kernel
theorem dX4_figure_25 : decode cX4_figure 25 = .ok (.getfield 35, 3) := by decide +kernel
theorem dX4_figure_28 : decode cX4_figure 28 = .ok (.imul, 1) := by decide +kernel
theorem dX4_figure_29 : decode cX4_figure 29 = .ok (.iload_n 1, 1) := by decide +kernel
theorem dX4_figure_30 : decode cX4_figure 30 = .ok (.iadd, 1) := by decide +kernel
theorem dX4_figure_31 : decode cX4_figure 31 = .ok (.putfield 35, 3) := by decide +kernel
theorem dX4_figure_34 : decode cX4_figure 34 = .ok (.aload_n 0, 1) := by decide +kernel
theorem dX4_figure_35 : decode cX4_figure 35 = .ok (.dup, 1) := by decide +kernel
theorem dX4_figure_36 : decode cX4_figure 36 = .ok (.getfield 38, 3) := by decide +kernel
theorem dX4_figure_39 : decode cX4_figure 39 = .ok (.iconst 1, 1) := by decide +kernel
theorem dX4_figure_40 : decode cX4_figure 40 = .ok (.iadd, 1) := by decide +kernel
theorem dX4_figure_41 : decode cX4_figure 41 = .ok (.putfield 38, 3) := by decide +kernel
theorem dX4_figure_44 : decode cX4_figure 44 = .ok (.iconst 1, 1) := by decide +kernel
theorem dX4_figure_45 : decode cX4_figure 45 = .ok (.ireturn, 1) := by decide +kernel
theorem dX4_endNumber_0 : decode cX4_endNumber 0 = .ok (.aload_n 0, 1) := by decide +kernel
theorem dX4_endNumber_1 : decode cX4_endNumber 1 = .ok (.getfield 38, 3) := by decide +kernel
theorem dX4_endNumber_4 : decode cX4_endNumber 4 = .ok (.ifCond .ne 4, 3) := by decide +kernel
theorem dX4_endNumber_7 : decode cX4_endNumber 7 = .ok (.return_, 1) := by decide +kernel
theorem dX4_endNumber_8 : decode cX4_endNumber 8 = .ok (.aload_n 0, 1) := by decide +kernel
theorem dX4_endNumber_9 : decode cX4_endNumber 9 = .ok (.getfield 15, 3) := by decide +kernel
theorem dX4_endNumber_12 : decode cX4_endNumber 12 = .ok (.aload_n 0, 1) := by decide +kernel
theorem dX4_endNumber_13 : decode cX4_endNumber 13 = .ok (.getfield 32, 3) := by decide +kernel
theorem dX4_endNumber_16 : decode cX4_endNumber 16 = .ok (.aload_n 0, 1) := by decide +kernel
theorem dX4_endNumber_17 : decode cX4_endNumber 17 = .ok (.getfield 41, 3) := by decide +kernel
theorem dX4_endNumber_20 : decode cX4_endNumber 20 = .ok (.ifCond .eq 11, 3) := by decide +kernel
theorem dX4_endNumber_23 : decode cX4_endNumber 23 = .ok (.aload_n 0, 1) := by decide +kernel
theorem dX4_endNumber_24 : decode cX4_endNumber 24 = .ok (.getfield 35, 3) := by decide +kernel
theorem dX4_endNumber_27 : decode cX4_endNumber 27 = .ok (.ineg, 1) := by decide +kernel
theorem dX4_endNumber_28 : decode cX4_endNumber 28 = .ok (.goto 7, 3) := by decide +kernel
theorem dX4_endNumber_31 : decode cX4_endNumber 31 = .ok (.aload_n 0, 1) := by decide +kernel
theorem dX4_endNumber_32 : decode cX4_endNumber 32 = .ok (.getfield 35, 3) := by decide +kernel
theorem dX4_endNumber_35 : decode cX4_endNumber 35 = .ok (.invokestatic 68, 3) := by decide +kernel
theorem dX4_endNumber_38 : decode cX4_endNumber 38 = .ok (.aload_n 0, 1) := by decide +kernel
theorem dX4_endNumber_39 : decode cX4_endNumber 39 = .ok (.dup, 1) := by decide +kernel
theorem dX4_endNumber_40 : decode cX4_endNumber 40 = .ok (.getfield 32, 3) := by decide +kernel
theorem dX4_endNumber_43 : decode cX4_endNumber 43 = .ok (.iconst 1, 1) := by decide +kernel
theorem dX4_endNumber_44 : decode cX4_endNumber 44 = .ok (.iadd, 1) := by decide +kernel
theorem dX4_endNumber_45 : decode cX4_endNumber 45 = .ok (.putfield 32, 3) := by decide +kernel
theorem dX4_endNumber_48 : decode cX4_endNumber 48 = .ok (.aload_n 0, 1) := by decide +kernel
theorem dX4_endNumber_49 : decode cX4_endNumber 49 = .ok (.invokevirtual 65, 3) := by decide +kernel
theorem dX4_endNumber_52 : decode cX4_endNumber 52 = .ok (.return_, 1) := by decide +kernel
theorem dX4_minus_0 : decode cX4_minus 0 = .ok (.aload_n 0, 1) := by decide +kernel
theorem dX4_minus_1 : decode cX4_minus 1 = .ok (.iconst 1, 1) := by decide +kernel
theorem dX4_minus_2 : decode cX4_minus 2 = .ok (.putfield 41, 3) := by decide +kernel
theorem dX4_minus_5 : decode cX4_minus 5 = .ok (.aload_n 0, 1) := by decide +kernel
theorem dX4_minus_6 : decode cX4_minus 6 = .ok (.getfield 9, 3) := by decide +kernel
theorem dX4_minus_9 : decode cX4_minus 9 = .ok (.bipush 115, 2) := by decide +kernel
theorem dX4_minus_11 : decode cX4_minus 11 = .ok (.if_icmp .ne 23, 3) := by decide +kernel
theorem dX4_minus_14 : decode cX4_minus 14 = .ok (.aload_n 0, 1) := by decide +kernel
theorem dX4_minus_15 : decode cX4_minus 15 = .ok (.getfield 32, 3) := by decide +kernel
theorem dX4_minus_18 : decode cX4_minus 18 = .ok (.iconst 1, 1) := by decide +kernel
theorem dX4_minus_19 : decode cX4_minus 19 = .ok (.if_icmp .eq 11, 3) := by decide +kernel
theorem dX4_minus_22 : decode cX4_minus 22 = .ok (.aload_n 0, 1) := by decide +kernel
theorem dX4_minus_23 : decode cX4_minus 23 = .ok (.getfield 32, 3) := by decide +kernel
theorem dX4_minus_26 : decode cX4_minus 26 = .ok (.iconst 2, 1) := by decide +kernel
theorem dX4_minus_27 : decode cX4_minus 27 = .ok (.if_icmp .ne 7, 3) := by decide +kernel
theorem dX4_minus_30 : decode cX4_minus 30 = .ok (.iconst 1, 1) := by decide +kernel
theorem dX4_minus_31 : decode cX4_minus 31 = .ok (.goto 4, 3) := by decide +kernel
theorem dX4_minus_34 : decode cX4_minus 34 = .ok (.iconst 0, 1) := by decide +kernel
theorem dX4_minus_35 : decode cX4_minus 35 = .ok (.ireturn, 1) := by decide +kernel
theorem dX4_endOrder_0 : decode cX4_endOrder 0 = .ok (.aload_n 0, 1) := by decide +kernel
theorem dX4_endOrder_1 : decode cX4_endOrder 1 = .ok (.getfield 32, 3) := by decide +kernel
theorem dX4_endOrder_4 : decode cX4_endOrder 4 = .ok (.aload_n 0, 1) := by decide +kernel
theorem dX4_endOrder_5 : decode cX4_endOrder 5 = .ok (.getfield 29, 3) := by decide +kernel
theorem dX4_endOrder_8 : decode cX4_endOrder 8 = .ok (.if_icmp .eq 5, 3) := by decide +kernel
theorem dX4_endOrder_11 : decode cX4_endOrder 11 = .ok (.iconst 0, 1) := by decide +kernel
theorem dX4_endOrder_12 : decode cX4_endOrder 12 = .ok (.ireturn, 1) := by decide +kernel
theorem dX4_endOrder_13 : decode cX4_endOrder 13 = .ok (.aload_n 0, 1) := by decide +kernel
theorem dX4_endOrder_14 : decode cX4_endOrder 14 = .ok (.iconst 0, 1) := by decide +kernel
theorem dX4_endOrder_15 : decode cX4_endOrder 15 = .ok (.putfield 23, 3) := by decide +kernel
theorem dX4_endOrder_18 : decode cX4_endOrder 18 = .ok (.aload_n 0, 1) := by decide +kernel
theorem dX4_endOrder_19 : decode cX4_endOrder 19 = .ok (.iconst 1, 1) := by decide +kernel
theorem dX4_endOrder_20 : decode cX4_endOrder 20 = .ok (.putfield 26, 3) := by decide +kernel
theorem dX4_endOrder_23 : decode cX4_endOrder 23 = .ok (.aload_n 0, 1) := by decide +kernel
theorem dX4_endOrder_24 : decode cX4_endOrder 24 = .ok (.iconst 1, 1) := by decide +kernel
theorem dX4_endOrder_25 : decode cX4_endOrder 25 = .ok (.putfield 19, 3) := by decide +kernel
theorem dX4_endOrder_28 : decode cX4_endOrder 28 = .ok (.iconst 1, 1) := by decide +kernel
theorem dX4_endOrder_29 : decode cX4_endOrder 29 = .ok (.ireturn, 1) := by decide +kernel
theorem dX5_at_0 : decode cX5_at 0 = .ok (.iload_n 1, 1) := by decide +kernel
theorem dX5_at_1 : decode cX5_at 1 = .ok (.ifCond .lt 15, 3) := by decide +kernel
theorem dX5_at_4 : decode cX5_at 4 = .ok (.iload_n 1, 1) := by decide +kernel
theorem dX5_at_5 : decode cX5_at 5 = .ok (.aload_n 0, 1) := by decide +kernel
theorem dX5_at_6 : decode cX5_at 6 = .ok (.arraylength, 1) := by decide +kernel
theorem dX5_at_7 : decode cX5_at 7 = .ok (.if_icmp .ge 9, 3) := by decide +kernel
theorem dX5_at_10 : decode cX5_at 10 = .ok (.aload_n 0, 1) := by decide +kernel
theorem dX5_at_11 : decode cX5_at 11 = .ok (.iload_n 1, 1) := by decide +kernel
theorem dX5_at_12 : decode cX5_at 12 = .ok (.iaload, 1) := by decide +kernel
theorem dX5_at_13 : decode cX5_at 13 = .ok (.goto 4, 3) := by decide +kernel
theorem dX5_at_16 : decode cX5_at 16 = .ok (.iconst 0, 1) := by decide +kernel
theorem dX5_at_17 : decode cX5_at 17 = .ok (.ireturn, 1) := by decide +kernel
theorem dX5_put_0 : decode cX5_put 0 = .ok (.iload_n 1, 1) := by decide +kernel
theorem dX5_put_1 : decode cX5_put 1 = .ok (.ifCond .lt 13, 3) := by decide +kernel
theorem dX5_put_4 : decode cX5_put 4 = .ok (.iload_n 1, 1) := by decide +kernel
theorem dX5_put_5 : decode cX5_put 5 = .ok (.aload_n 0, 1) := by decide +kernel
theorem dX5_put_6 : decode cX5_put 6 = .ok (.arraylength, 1) := by decide +kernel
theorem dX5_put_7 : decode cX5_put 7 = .ok (.if_icmp .ge 7, 3) := by decide +kernel
theorem dX5_put_10 : decode cX5_put 10 = .ok (.aload_n 0, 1) := by decide +kernel
theorem dX5_put_11 : decode cX5_put 11 = .ok (.iload_n 1, 1) := by decide +kernel
theorem dX5_put_12 : decode cX5_put 12 = .ok (.iload_n 2, 1) := by decide +kernel
theorem dX5_put_13 : decode cX5_put 13 = .ok (.iastore, 1) := by decide +kernel
theorem dX5_put_14 : decode cX5_put 14 = .ok (.return_, 1) := by decide +kernel
theorem dX5_copy_0 : decode cX5_copy 0 = .ok (.iconst 0, 1) := by decide +kernel
theorem dX5_copy_1 : decode cX5_copy 1 = .ok (.istore_n 2, 1) := by decide +kernel
theorem dX5_copy_2 : decode cX5_copy 2 = .ok (.iload_n 2, 1) := by decide +kernel
theorem dX5_copy_3 : decode cX5_copy 3 = .ok (.aload_n 0, 1) := by decide +kernel
theorem dX5_copy_4 : decode cX5_copy 4 = .ok (.arraylength, 1) := by decide +kernel
theorem dX5_copy_5 : decode cX5_copy 5 = .ok (.if_icmp .ge 21, 3) := by decide +kernel
theorem dX5_copy_8 : decode cX5_copy 8 = .ok (.iload_n 2, 1) := by decide +kernel
theorem dX5_copy_9 : decode cX5_copy 9 = .ok (.aload_n 1, 1) := by decide +kernel
theorem dX5_copy_10 : decode cX5_copy 10 = .ok (.arraylength, 1) := by decide +kernel
theorem dX5_copy_11 : decode cX5_copy 11 = .ok (.if_icmp .ge 15, 3) := by decide +kernel
theorem dX5_copy_14 : decode cX5_copy 14 = .ok (.aload_n 1, 1) := by decide +kernel
theorem dX5_copy_15 : decode cX5_copy 15 = .ok (.iload_n 2, 1) := by decide +kernel
theorem dX5_copy_16 : decode cX5_copy 16 = .ok (.aload_n 0, 1) := by decide +kernel
theorem dX5_copy_17 : decode cX5_copy 17 = .ok (.iload_n 2, 1) := by decide +kernel
theorem dX5_copy_18 : decode cX5_copy 18 = .ok (.iaload, 1) := by decide +kernel
theorem dX5_copy_19 : decode cX5_copy 19 = .ok (.iastore, 1) := by decide +kernel
theorem dX5_copy_20 : decode cX5_copy 20 = .ok (.iinc 2 1, 3) := by decide +kernel
theorem dX5_copy_23 : decode cX5_copy 23 = .ok (.goto (-21), 3) := by decide +kernel
theorem dX5_copy_26 : decode cX5_copy 26 = .ok (.return_, 1) := by decide +kernel
theorem dX6_init_0 : decode cX6_init 0 = .ok (.aload_n 0, 1) := by decide +kernel
theorem dX6_init_1 : decode cX6_init 1 = .ok (.invokespecial 3, 3) := by decide +kernel
theorem dX6_init_4 : decode cX6_init 4 = .ok (.aload_n 0, 1) := by decide +kernel
theorem dX6_init_5 : decode cX6_init 5 = .ok (.new 9, 3) := by decide +kernel
theorem dX6_init_8 : decode cX6_init 8 = .ok (.dup, 1) := by decide +kernel
theorem dX6_init_9 : decode cX6_init 9 = .ok (.invokespecial 11, 3) := by decide +kernel
theorem dX6_init_12 : decode cX6_init 12 = .ok (.putfield 12, 3) := by decide +kernel
theorem dX6_init_15 : decode cX6_init 15 = .ok (.aload_n 0, 1) := by decide +kernel
theorem dX6_init_16 : decode cX6_init 16 = .ok (.new 18, 3) := by decide +kernel
theorem dX6_init_19 : decode cX6_init 19 = .ok (.dup, 1) := by decide +kernel
theorem dX6_init_20 : decode cX6_init 20 = .ok (.invokespecial 20, 3) := by decide +kernel
theorem dX6_init_23 : decode cX6_init 23 = .ok (.putfield 21, 3) := by decide +kernel
theorem dX6_init_26 : decode cX6_init 26 = .ok (.aload_n 0, 1) := by decide +kernel
theorem dX6_init_27 : decode cX6_init 27 = .ok (.bipush 64, 2) := by decide +kernel
theorem dX6_init_29 : decode cX6_init 29 = .ok (.newarray .int, 2) := by decide +kernel
theorem dX6_init_31 : decode cX6_init 31 = .ok (.putfield 25, 3) := by decide +kernel
theorem dX6_init_34 : decode cX6_init 34 = .ok (.aload_n 0, 1) := by decide +kernel
theorem dX6_init_35 : decode cX6_init 35 = .ok (.iconst 0, 1) := by decide +kernel
theorem dX6_init_36 : decode cX6_init 36 = .ok (.putfield 29, 3) := by decide +kernel
theorem dX6_init_39 : decode cX6_init 39 = .ok (.aload_n 0, 1) := by decide +kernel
theorem dX6_init_40 : decode cX6_init 40 = .ok (.iconst 1, 1) := by decide +kernel
theorem dX6_init_41 : decode cX6_init 41 = .ok (.putfield 33, 3) := by decide +kernel
theorem dX6_init_44 : decode cX6_init 44 = .ok (.aload_n 0, 1) := by decide +kernel
theorem dX6_init_45 : decode cX6_init 45 = .ok (.lconst 0, 1) := by decide +kernel
theorem dX6_init_46 : decode cX6_init 46 = .ok (.putfield 36, 3) := by decide +kernel
theorem dX6_init_49 : decode cX6_init 49 = .ok (.aload_n 0, 1) := by decide +kernel
theorem dX6_init_50 : decode cX6_init 50 = .ok (.iconst 0, 1) := by decide +kernel
theorem dX6_init_51 : decode cX6_init 51 = .ok (.putfield 40, 3) := by decide +kernel
theorem dX6_init_54 : decode cX6_init 54 = .ok (.aload_n 0, 1) := by decide +kernel
theorem dX6_init_55 : decode cX6_init 55 = .ok (.iconst 0, 1) := by decide +kernel
theorem dX6_init_56 : decode cX6_init 56 = .ok (.putfield 44, 3) := by decide +kernel
theorem dX6_init_59 : decode cX6_init 59 = .ok (.aload_n 0, 1) := by decide +kernel
theorem dX6_init_60 : decode cX6_init 60 = .ok (.iconst 0, 1) := by decide +kernel
theorem dX6_init_61 : decode cX6_init 61 = .ok (.putfield 47, 3) := by decide +kernel
theorem dX6_init_64 : decode cX6_init 64 = .ok (.aload_n 0, 1) := by decide +kernel
theorem dX6_init_65 : decode cX6_init 65 = .ok (.lconst 0, 1) := by decide +kernel
theorem dX6_init_66 : decode cX6_init 66 = .ok (.putfield 50, 3) := by decide +kernel
theorem dX6_init_69 : decode cX6_init 69 = .ok (.aload_n 0, 1) := by decide +kernel
theorem dX6_init_70 : decode cX6_init 70 = .ok (.aload_n 1, 1) := by decide +kernel
theorem dX6_init_71 : decode cX6_init 71 = .ok (.putfield 53, 3) := by decide +kernel
theorem dX6_init_74 : decode cX6_init 74 = .ok (.return_, 1) := by decide +kernel
theorem dX6_countLawful_0 : decode cX6_countLawful 0 = .ok (.iconst 1, 1) := by decide +kernel
theorem dX6_countLawful_1 : decode cX6_countLawful 1 = .ok (.aload_n 0, 1) := by decide +kernel
theorem dX6_countLawful_2 : decode cX6_countLawful 2 = .ok (.getfield 53, 3) := by decide +kernel
theorem dX6_countLawful_5 : decode cX6_countLawful 5 = .ok (.getfield 57, 3) := by decide +kernel
theorem dX6_countLawful_8 : decode cX6_countLawful 8 = .ok (.ishl, 1) := by decide +kernel
theorem dX6_countLawful_9 : decode cX6_countLawful 9 = .ok (.istore_n 1, 1) := by decide +kernel
theorem dX6_countLawful_10 : decode cX6_countLawful 10 = .ok (.aload_n 0, 1) := by decide +kernel
theorem dX6_countLawful_11 : decode cX6_countLawful 11 = .ok (.getfield 25, 3) := by decide +kernel
theorem dX6_countLawful_14 : decode cX6_countLawful 14 = .ok (.iconst 0, 1) := by decide +kernel
theorem dX6_countLawful_15 : decode cX6_countLawful 15 = .ok (.iconst 1, 1) := by decide +kernel
theorem dX6_countLawful_16 : decode cX6_countLawful 16 = .ok (.invokestatic 62, 3) := by decide +kernel
theorem dX6_countLawful_19 : decode cX6_countLawful 19 = .ok (.iconst 1, 1) := by decide +kernel
theorem dX6_countLawful_20 : decode cX6_countLawful 20 = .ok (.istore_n 2, 1) := by decide +kernel
theorem dX6_countLawful_21 : decode cX6_countLawful 21 = .ok (.iload_n 2, 1) := by decide +kernel
theorem dX6_countLawful_22 : decode cX6_countLawful 22 = .ok (.iload_n 1, 1) := by decide +kernel
theorem dX6_countLawful_23 : decode cX6_countLawful 23 = .ok (.if_icmp .ge 22, 3) := by decide +kernel
theorem dX6_countLawful_26 : decode cX6_countLawful 26 = .ok (.aload_n 0, 1) := by decide +kernel
theorem dX6_countLawful_27 : decode cX6_countLawful 27 = .ok (.getfield 25, 3) := by decide +kernel
theorem dX6_countLawful_30 : decode cX6_countLawful 30 = .ok (.iload_n 2, 1) := by decide +kernel
theorem dX6_countLawful_31 : decode cX6_countLawful 31 = .ok (.aload_n 0, 1) := by decide +kernel
theorem dX6_countLawful_32 : decode cX6_countLawful 32 = .ok (.iload_n 2, 1) := by decide +kernel
theorem dX6_countLawful_33 : decode cX6_countLawful 33 = .ok (.invokevirtual 68, 3) := by decide +kernel
theorem dX6_countLawful_36 : decode cX6_countLawful 36 = .ok (.invokestatic 62, 3) := by decide +kernel
theorem dX6_countLawful_39 : decode cX6_countLawful 39 = .ok (.iinc 2 1, 3) := by decide +kernel
theorem dX6_countLawful_42 : decode cX6_countLawful 42 = .ok (.goto (-21), 3) := by decide +kernel
theorem dX6_countLawful_45 : decode cX6_countLawful 45 = .ok (.aload_n 0, 1) := by decide +kernel
theorem dX6_countLawful_46 : decode cX6_countLawful 46 = .ok (.getfield 25, 3) := by decide +kernel
theorem dX6_countLawful_49 : decode cX6_countLawful 49 = .ok (.iload_n 1, 1) := by decide +kernel
theorem dX6_countLawful_50 : decode cX6_countLawful 50 = .ok (.iconst 1, 1) := by decide +kernel
theorem dX6_countLawful_51 : decode cX6_countLawful 51 = .ok (.isub, 1) := by decide +kernel
theorem dX6_countLawful_52 : decode cX6_countLawful 52 = .ok (.invokestatic 72, 3) := by decide +kernel
theorem dX6_countLawful_55 : decode cX6_countLawful 55 = .ok (.ireturn, 1) := by decide +kernel
theorem dX6_waysTo_0 : decode cX6_waysTo 0 = .ok (.iconst 0, 1) := by decide +kernel
theorem dX6_waysTo_1 : decode cX6_waysTo 1 = .ok (.istore_n 2, 1) := by decide +kernel
theorem dX6_waysTo_2 : decode cX6_waysTo 2 = .ok (.iconst 0, 1) := by decide +kernel
theorem dX6_waysTo_3 : decode cX6_waysTo 3 = .ok (.istore_n 3, 1) := by decide +kernel
theorem dX6_waysTo_4 : decode cX6_waysTo 4 = .ok (.iload_n 3, 1) := by decide +kernel
theorem dX6_waysTo_5 : decode cX6_waysTo 5 = .ok (.aload_n 0, 1) := by decide +kernel
theorem dX6_waysTo_6 : decode cX6_waysTo 6 = .ok (.getfield 53, 3) := by decide +kernel
theorem dX6_waysTo_9 : decode cX6_waysTo 9 = .ok (.getfield 57, 3) := by decide +kernel
theorem dX6_waysTo_12 : decode cX6_waysTo 12 = .ok (.if_icmp .ge 49, 3) := by decide +kernel
theorem dX6_waysTo_15 : decode cX6_waysTo 15 = .ok (.iload_n 1, 1) := by decide +kernel
theorem dX6_waysTo_16 : decode cX6_waysTo 16 = .ok (.iconst 1, 1) := by decide +kernel
theorem dX6_waysTo_17 : decode cX6_waysTo 17 = .ok (.iload_n 3, 1) := by decide +kernel
theorem dX6_waysTo_18 : decode cX6_waysTo 18 = .ok (.ishl, 1) := by decide +kernel
theorem dX6_waysTo_19 : decode cX6_waysTo 19 = .ok (.iconst (-1), 1) := by decide +kernel
theorem dX6_waysTo_20 : decode cX6_waysTo 20 = .ok (.ixor, 1) := by decide +kernel
theorem dX6_waysTo_21 : decode cX6_waysTo 21 = .ok (.iand, 1) := by decide +kernel
theorem dX6_waysTo_22 : decode cX6_waysTo 22 = .ok (.istore 4, 2) := by decide +kernel
theorem dX6_waysTo_24 : decode cX6_waysTo 24 = .ok (.iload 4, 2) := by decide +kernel
theorem dX6_waysTo_26 : decode cX6_waysTo 26 = .ok (.iload_n 1, 1) := by decide +kernel
theorem dX6_waysTo_27 : decode cX6_waysTo 27 = .ok (.if_icmp .eq 28, 3) := by decide +kernel
theorem dX6_waysTo_30 : decode cX6_waysTo 30 = .ok (.aload_n 0, 1) := by decide +kernel
theorem dX6_waysTo_31 : decode cX6_waysTo 31 = .ok (.getfield 53, 3) := by decide +kernel
theorem dX6_waysTo_34 : decode cX6_waysTo 34 = .ok (.iload_n 3, 1) := by decide +kernel
theorem dX6_waysTo_35 : decode cX6_waysTo 35 = .ok (.iload 4, 2) := by decide +kernel
theorem dX6_waysTo_37 : decode cX6_waysTo 37 = .ok (.invokevirtual 76, 3) := by decide +kernel
theorem dX6_waysTo_40 : decode cX6_waysTo 40 = .ok (.ifCond .eq 15, 3) := by decide +kernel
theorem dX6_waysTo_43 : decode cX6_waysTo 43 = .ok (.iload_n 2, 1) := by decide +kernel
theorem dX6_waysTo_44 : decode cX6_waysTo 44 = .ok (.aload_n 0, 1) := by decide +kernel
theorem dX6_waysTo_45 : decode cX6_waysTo 45 = .ok (.getfield 25, 3) := by decide +kernel
theorem dX6_waysTo_48 : decode cX6_waysTo 48 = .ok (.iload 4, 2) := by decide +kernel
theorem dX6_waysTo_50 : decode cX6_waysTo 50 = .ok (.invokestatic 72, 3) := by decide +kernel
theorem dX6_waysTo_53 : decode cX6_waysTo 53 = .ok (.iadd, 1) := by decide +kernel
theorem dX6_waysTo_54 : decode cX6_waysTo 54 = .ok (.istore_n 2, 1) := by decide +kernel
theorem dX6_waysTo_55 : decode cX6_waysTo 55 = .ok (.iinc 3 1, 3) := by decide +kernel
theorem dX6_waysTo_58 : decode cX6_waysTo 58 = .ok (.goto (-54), 3) := by decide +kernel
theorem dX6_waysTo_61 : decode cX6_waysTo 61 = .ok (.iload_n 2, 1) := by decide +kernel
theorem dX6_waysTo_62 : decode cX6_waysTo 62 = .ok (.ireturn, 1) := by decide +kernel
theorem dX6_run_0 : decode cX6_run 0 = .ok (.aload_n 0, 1) := by decide +kernel
theorem dX6_run_1 : decode cX6_run 1 = .ok (.iload_n 1, 1) := by decide +kernel
theorem dX6_run_2 : decode cX6_run 2 = .ok (.putfield 29, 3) := by decide +kernel
theorem dX6_run_5 : decode cX6_run 5 = .ok (.aload_n 0, 1) := by decide +kernel
theorem dX6_run_6 : decode cX6_run 6 = .ok (.iload_n 2, 1) := by decide +kernel
theorem dX6_run_7 : decode cX6_run 7 = .ok (.putfield 33, 3) := by decide +kernel
theorem dX6_run_10 : decode cX6_run 10 = .ok (.aload_n 0, 1) := by decide +kernel
theorem dX6_run_11 : decode cX6_run 11 = .ok (.lload_n 3, 1) := by decide +kernel
theorem dX6_run_12 : decode cX6_run 12 = .ok (.putfield 36, 3) := by decide +kernel
theorem dX6_run_15 : decode cX6_run 15 = .ok (.aload_n 0, 1) := by decide +kernel
theorem dX6_run_16 : decode cX6_run 16 = .ok (.iconst 0, 1) := by decide +kernel
theorem dX6_run_17 : decode cX6_run 17 = .ok (.putfield 40, 3) := by decide +kernel
theorem dX6_run_20 : decode cX6_run 20 = .ok (.aload_n 0, 1) := by decide +kernel
theorem dX6_run_21 : decode cX6_run 21 = .ok (.getfield 21, 3) := by decide +kernel
theorem dX6_run_24 : decode cX6_run 24 = .ok (.invokevirtual 80, 3) := by decide +kernel
theorem dX6_run_27 : decode cX6_run 27 = .ok (.aload_n 0, 1) := by decide +kernel
theorem dX6_run_28 : decode cX6_run 28 = .ok (.getfield 12, 3) := by decide +kernel
theorem dX6_run_31 : decode cX6_run 31 = .ok (.invokevirtual 83, 3) := by decide +kernel
theorem dX6_run_34 : decode cX6_run 34 = .ok (.aload_n 0, 1) := by decide +kernel
theorem dX6_run_35 : decode cX6_run 35 = .ok (.iconst 0, 1) := by decide +kernel
theorem dX6_run_36 : decode cX6_run 36 = .ok (.iconst 0, 1) := by decide +kernel
theorem dX6_run_37 : decode cX6_run 37 = .ok (.lconst 0, 1) := by decide +kernel
theorem dX6_run_38 : decode cX6_run 38 = .ok (.iconst 0, 1) := by decide +kernel
theorem dX6_run_39 : decode cX6_run 39 = .ok (.invokestatic 86, 3) := by decide +kernel
theorem dX6_run_42 : decode cX6_run 42 = .ok (.return_, 1) := by decide +kernel
theorem dX6_extend_0 : decode cX6_extend 0 = .ok (.iload_n 1, 1) := by decide +kernel
theorem dX6_extend_1 : decode cX6_extend 1 = .ok (.aload_n 0, 1) := by decide +kernel
theorem dX6_extend_2 : decode cX6_extend 2 = .ok (.getfield 53, 3) := by decide +kernel
theorem dX6_extend_5 : decode cX6_extend 5 = .ok (.getfield 57, 3) := by decide +kernel
theorem dX6_extend_8 : decode cX6_extend 8 = .ok (.if_icmp .ge 9, 3) := by decide +kernel
theorem dX6_extend_11 : decode cX6_extend 11 = .ok (.iload_n 1, 1) := by decide +kernel
theorem dX6_extend_12 : decode cX6_extend 12 = .ok (.bipush 6, 2) := by decide +kernel
theorem dX6_extend_14 : decode cX6_extend 14 = .ok (.if_icmp .lt 11, 3) := by decide +kernel
theorem dX6_extend_17 : decode cX6_extend 17 = .ok (.aload_n 0, 1) := by decide +kernel
theorem dX6_extend_18 : decode cX6_extend 18 = .ok (.lload_n 3, 1) := by decide +kernel
theorem dX6_extend_19 : decode cX6_extend 19 = .ok (.iload 5, 2) := by decide +kernel
theorem dX6_extend_21 : decode cX6_extend 21 = .ok (.invokevirtual 90, 3) := by decide +kernel
theorem dX6_extend_24 : decode cX6_extend 24 = .ok (.return_, 1) := by decide +kernel
theorem dX6_extend_25 : decode cX6_extend 25 = .ok (.aload_n 0, 1) := by decide +kernel
theorem dX6_extend_26 : decode cX6_extend 26 = .ok (.getfield 12, 3) := by decide +kernel
theorem dX6_extend_29 : decode cX6_extend 29 = .ok (.getfield 94, 3) := by decide +kernel
theorem dX6_extend_32 : decode cX6_extend 32 = .ok (.lstore 6, 2) := by decide +kernel
theorem dX6_extend_34 : decode cX6_extend 34 = .ok (.aload_n 0, 1) := by decide +kernel
theorem dX6_extend_35 : decode cX6_extend 35 = .ok (.getfield 12, 3) := by decide +kernel
theorem dX6_extend_38 : decode cX6_extend 38 = .ok (.getfield 97, 3) := by decide +kernel
theorem dX6_extend_41 : decode cX6_extend 41 = .ok (.lstore 8, 2) := by decide +kernel
theorem dX6_extend_43 : decode cX6_extend 43 = .ok (.aload_n 0, 1) := by decide +kernel
theorem dX6_extend_44 : decode cX6_extend 44 = .ok (.getfield 12, 3) := by decide +kernel
theorem dX6_extend_47 : decode cX6_extend 47 = .ok (.getfield 100, 3) := by decide +kernel
end
section
theorem dX6_extend_50 : decode cX6_extend 50 = .ok (.istore 10, 2) := by decide +kernel
theorem dX6_extend_52 : decode cX6_extend 52 = .ok (.iconst 0, 1) := by decide +kernel
theorem dX6_extend_53 : decode cX6_extend 53 = .ok (.istore 11, 2) := by decide +kernel
theorem dX6_extend_55 : decode cX6_extend 55 = .ok (.iload 11, 2) := by decide +kernel
theorem dX6_extend_57 : decode cX6_extend 57 = .ok (.aload_n 0, 1) := by decide +kernel
theorem dX6_extend_58 : decode cX6_extend 58 = .ok (.getfield 53, 3) := by decide +kernel
theorem dX6_extend_61 : decode cX6_extend 61 = .ok (.getfield 57, 3) := by decide +kernel
theorem dX6_extend_64 : decode cX6_extend 64 = .ok (.if_icmp .ge 107, 3) := by decide +kernel
theorem dX6_extend_67 : decode cX6_extend 67 = .ok (.iload_n 2, 1) := by decide +kernel
theorem dX6_extend_68 : decode cX6_extend 68 = .ok (.iload 11, 2) := by decide +kernel
theorem dX6_extend_70 : decode cX6_extend 70 = .ok (.iushr, 1) := by decide +kernel
theorem dX6_extend_71 : decode cX6_extend 71 = .ok (.iconst 1, 1) := by decide +kernel
theorem dX6_extend_72 : decode cX6_extend 72 = .ok (.iand, 1) := by decide +kernel
theorem dX6_extend_73 : decode cX6_extend 73 = .ok (.ifCond .ne 7, 3) := by decide +kernel
theorem dX6_extend_76 : decode cX6_extend 76 = .ok (.iconst 1, 1) := by decide +kernel
theorem dX6_extend_77 : decode cX6_extend 77 = .ok (.goto 4, 3) := by decide +kernel
theorem dX6_extend_80 : decode cX6_extend 80 = .ok (.iconst 0, 1) := by decide +kernel
theorem dX6_extend_81 : decode cX6_extend 81 = .ok (.istore 12, 2) := by decide +kernel
theorem dX6_extend_83 : decode cX6_extend 83 = .ok (.iload 12, 2) := by decide +kernel
theorem dX6_extend_85 : decode cX6_extend 85 = .ok (.ifCond .eq 80, 3) := by decide +kernel
theorem dX6_extend_88 : decode cX6_extend 88 = .ok (.aload_n 0, 1) := by decide +kernel
theorem dX6_extend_89 : decode cX6_extend 89 = .ok (.getfield 53, 3) := by decide +kernel
theorem dX6_extend_92 : decode cX6_extend 92 = .ok (.iload 11, 2) := by decide +kernel
theorem dX6_extend_94 : decode cX6_extend 94 = .ok (.iload_n 2, 1) := by decide +kernel
theorem dX6_extend_95 : decode cX6_extend 95 = .ok (.invokevirtual 76, 3) := by decide +kernel
theorem dX6_extend_98 : decode cX6_extend 98 = .ok (.ifCond .ne 6, 3) := by decide +kernel
theorem dX6_extend_101 : decode cX6_extend 101 = .ok (.goto 64, 3) := by decide +kernel
theorem dX6_extend_104 : decode cX6_extend 104 = .ok (.aload_n 0, 1) := by decide +kernel
theorem dX6_extend_105 : decode cX6_extend 105 = .ok (.getfield 12, 3) := by decide +kernel
theorem dX6_extend_108 : decode cX6_extend 108 = .ok (.lload 6, 2) := by decide +kernel
theorem dX6_extend_110 : decode cX6_extend 110 = .ok (.lload 8, 2) := by decide +kernel
theorem dX6_extend_112 : decode cX6_extend 112 = .ok (.iload 10, 2) := by decide +kernel
theorem dX6_extend_114 : decode cX6_extend 114 = .ok (.invokevirtual 103, 3) := by decide +kernel
theorem dX6_extend_117 : decode cX6_extend 117 = .ok (.aload_n 0, 1) := by decide +kernel
theorem dX6_extend_118 : decode cX6_extend 118 = .ok (.getfield 53, 3) := by decide +kernel
theorem dX6_extend_121 : decode cX6_extend 121 = .ok (.aload_n 0, 1) := by decide +kernel
theorem dX6_extend_122 : decode cX6_extend 122 = .ok (.getfield 12, 3) := by decide +kernel
theorem dX6_extend_125 : decode cX6_extend 125 = .ok (.iload 11, 2) := by decide +kernel
theorem dX6_extend_127 : decode cX6_extend 127 = .ok (.invokevirtual 107, 3) := by decide +kernel
theorem dX6_extend_130 : decode cX6_extend 130 = .ok (.iload 5, 2) := by decide +kernel
theorem dX6_extend_132 : decode cX6_extend 132 = .ok (.aload_n 0, 1) := by decide +kernel
theorem dX6_extend_133 : decode cX6_extend 133 = .ok (.iload 11, 2) := by decide +kernel
theorem dX6_extend_135 : decode cX6_extend 135 = .ok (.iload_n 1, 1) := by decide +kernel
theorem dX6_extend_136 : decode cX6_extend 136 = .ok (.lload_n 3, 1) := by decide +kernel
theorem dX6_extend_137 : decode cX6_extend 137 = .ok (.invokevirtual 111, 3) := by decide +kernel
theorem dX6_extend_140 : decode cX6_extend 140 = .ok (.iadd, 1) := by decide +kernel
theorem dX6_extend_141 : decode cX6_extend 141 = .ok (.istore 13, 2) := by decide +kernel
theorem dX6_extend_143 : decode cX6_extend 143 = .ok (.aload_n 0, 1) := by decide +kernel
theorem dX6_extend_144 : decode cX6_extend 144 = .ok (.iload_n 1, 1) := by decide +kernel
theorem dX6_extend_145 : decode cX6_extend 145 = .ok (.iconst 1, 1) := by decide +kernel
theorem dX6_extend_146 : decode cX6_extend 146 = .ok (.iadd, 1) := by decide +kernel
theorem dX6_extend_147 : decode cX6_extend 147 = .ok (.iload_n 2, 1) := by decide +kernel
theorem dX6_extend_148 : decode cX6_extend 148 = .ok (.iconst 1, 1) := by decide +kernel
theorem dX6_extend_149 : decode cX6_extend 149 = .ok (.iload 11, 2) := by decide +kernel
theorem dX6_extend_151 : decode cX6_extend 151 = .ok (.ishl, 1) := by decide +kernel
theorem dX6_extend_152 : decode cX6_extend 152 = .ok (.ior, 1) := by decide +kernel
theorem dX6_extend_153 : decode cX6_extend 153 = .ok (.lload_n 3, 1) := by decide +kernel
theorem dX6_extend_154 : decode cX6_extend 154 = .ok (.iload_n 1, 1) := by decide +kernel
theorem dX6_extend_155 : decode cX6_extend 155 = .ok (.iload 11, 2) := by decide +kernel
theorem dX6_extend_157 : decode cX6_extend 157 = .ok (.invokestatic 115, 3) := by decide +kernel
theorem dX6_extend_160 : decode cX6_extend 160 = .ok (.iload 13, 2) := by decide +kernel
theorem dX6_extend_162 : decode cX6_extend 162 = .ok (.invokestatic 86, 3) := by decide +kernel
theorem dX6_extend_165 : decode cX6_extend 165 = .ok (.iinc 11 1, 3) := by decide +kernel
theorem dX6_extend_168 : decode cX6_extend 168 = .ok (.goto (-113), 3) := by decide +kernel
theorem dX6_extend_171 : decode cX6_extend 171 = .ok (.return_, 1) := by decide +kernel
theorem dX6_smearOf_0 : decode cX6_smearOf 0 = .ok (.iconst 0, 1) := by decide +kernel
theorem dX6_smearOf_1 : decode cX6_smearOf 1 = .ok (.istore 5, 2) := by decide +kernel
theorem dX6_smearOf_3 : decode cX6_smearOf 3 = .ok (.aload_n 0, 1) := by decide +kernel
theorem dX6_smearOf_4 : decode cX6_smearOf 4 = .ok (.getfield 53, 3) := by decide +kernel
theorem dX6_smearOf_7 : decode cX6_smearOf 7 = .ok (.iload_n 1, 1) := by decide +kernel
theorem dX6_smearOf_8 : decode cX6_smearOf 8 = .ok (.invokevirtual 121, 3) := by decide +kernel
theorem dX6_smearOf_11 : decode cX6_smearOf 11 = .ok (.istore 6, 2) := by decide +kernel
theorem dX6_smearOf_13 : decode cX6_smearOf 13 = .ok (.iconst 0, 1) := by decide +kernel
theorem dX6_smearOf_14 : decode cX6_smearOf 14 = .ok (.istore 7, 2) := by decide +kernel
theorem dX6_smearOf_16 : decode cX6_smearOf 16 = .ok (.iload 7, 2) := by decide +kernel
theorem dX6_smearOf_18 : decode cX6_smearOf 18 = .ok (.iload_n 2, 1) := by decide +kernel
theorem dX6_smearOf_19 : decode cX6_smearOf 19 = .ok (.if_icmp .ge 52, 3) := by decide +kernel
theorem dX6_smearOf_22 : decode cX6_smearOf 22 = .ok (.lload_n 3, 1) := by decide +kernel
theorem dX6_smearOf_23 : decode cX6_smearOf 23 = .ok (.iload 7, 2) := by decide +kernel
theorem dX6_smearOf_25 : decode cX6_smearOf 25 = .ok (.invokestatic 124, 3) := by decide +kernel
theorem dX6_smearOf_28 : decode cX6_smearOf 28 = .ok (.istore 8, 2) := by decide +kernel
theorem dX6_smearOf_30 : decode cX6_smearOf 30 = .ok (.iload 5, 2) := by decide +kernel
theorem dX6_smearOf_32 : decode cX6_smearOf 32 = .ok (.aload_n 0, 1) := by decide +kernel
theorem dX6_smearOf_33 : decode cX6_smearOf 33 = .ok (.getfield 53, 3) := by decide +kernel
theorem dX6_smearOf_36 : decode cX6_smearOf 36 = .ok (.iload 8, 2) := by decide +kernel
theorem dX6_smearOf_38 : decode cX6_smearOf 38 = .ok (.iload_n 2, 1) := by decide +kernel
theorem dX6_smearOf_39 : decode cX6_smearOf 39 = .ok (.iload 7, 2) := by decide +kernel
theorem dX6_smearOf_41 : decode cX6_smearOf 41 = .ok (.isub, 1) := by decide +kernel
theorem dX6_smearOf_42 : decode cX6_smearOf 42 = .ok (.aload_n 0, 1) := by decide +kernel
theorem dX6_smearOf_43 : decode cX6_smearOf 43 = .ok (.getfield 33, 3) := by decide +kernel
theorem dX6_smearOf_46 : decode cX6_smearOf 46 = .ok (.imul, 1) := by decide +kernel
theorem dX6_smearOf_47 : decode cX6_smearOf 47 = .ok (.iload 6, 2) := by decide +kernel
theorem dX6_smearOf_49 : decode cX6_smearOf 49 = .ok (.aload_n 0, 1) := by decide +kernel
theorem dX6_smearOf_50 : decode cX6_smearOf 50 = .ok (.getfield 53, 3) := by decide +kernel
theorem dX6_smearOf_53 : decode cX6_smearOf 53 = .ok (.iload 8, 2) := by decide +kernel
theorem dX6_smearOf_55 : decode cX6_smearOf 55 = .ok (.invokevirtual 121, 3) := by decide +kernel
theorem dX6_smearOf_58 : decode cX6_smearOf 58 = .ok (.iand, 1) := by decide +kernel
theorem dX6_smearOf_59 : decode cX6_smearOf 59 = .ok (.invokevirtual 128, 3) := by decide +kernel
theorem dX6_smearOf_62 : decode cX6_smearOf 62 = .ok (.iadd, 1) := by decide +kernel
theorem dX6_smearOf_63 : decode cX6_smearOf 63 = .ok (.istore 5, 2) := by decide +kernel
theorem dX6_smearOf_65 : decode cX6_smearOf 65 = .ok (.iinc 7 1, 3) := by decide +kernel
theorem dX6_smearOf_68 : decode cX6_smearOf 68 = .ok (.goto (-52), 3) := by decide +kernel
theorem dX6_smearOf_71 : decode cX6_smearOf 71 = .ok (.iload 5, 2) := by decide +kernel
theorem dX6_smearOf_73 : decode cX6_smearOf 73 = .ok (.ireturn, 1) := by decide +kernel
theorem dX6_judge_0 : decode cX6_judge 0 = .ok (.aload_n 0, 1) := by decide +kernel
theorem dX6_judge_1 : decode cX6_judge 1 = .ok (.getfield 29, 3) := by decide +kernel
theorem dX6_judge_4 : decode cX6_judge 4 = .ok (.iconst 2, 1) := by decide +kernel
theorem dX6_judge_5 : decode cX6_judge 5 = .ok (.if_icmp .ne 15, 3) := by decide +kernel
theorem dX6_judge_8 : decode cX6_judge 8 = .ok (.aload_n 0, 1) := by decide +kernel
theorem dX6_judge_9 : decode cX6_judge 9 = .ok (.getfield 21, 3) := by decide +kernel
theorem dX6_judge_12 : decode cX6_judge 12 = .ok (.aload_n 0, 1) := by decide +kernel
theorem dX6_judge_13 : decode cX6_judge 13 = .ok (.getfield 12, 3) := by decide +kernel
theorem dX6_judge_16 : decode cX6_judge 16 = .ok (.invokevirtual 132, 3) := by decide +kernel
theorem dX6_judge_19 : decode cX6_judge 19 = .ok (.return_, 1) := by decide +kernel
theorem dX6_judge_20 : decode cX6_judge 20 = .ok (.aload_n 0, 1) := by decide +kernel
theorem dX6_judge_21 : decode cX6_judge 21 = .ok (.getfield 29, 3) := by decide +kernel
theorem dX6_judge_24 : decode cX6_judge 24 = .ok (.iconst 1, 1) := by decide +kernel
theorem dX6_judge_25 : decode cX6_judge 25 = .ok (.if_icmp .ne 17, 3) := by decide +kernel
theorem dX6_judge_28 : decode cX6_judge 28 = .ok (.aload_n 0, 1) := by decide +kernel
theorem dX6_judge_29 : decode cX6_judge 29 = .ok (.getfield 12, 3) := by decide +kernel
theorem dX6_judge_32 : decode cX6_judge 32 = .ok (.aload_n 0, 1) := by decide +kernel
theorem dX6_judge_33 : decode cX6_judge 33 = .ok (.getfield 36, 3) := by decide +kernel
theorem dX6_judge_36 : decode cX6_judge 36 = .ok (.invokevirtual 136, 3) := by decide +kernel
theorem dX6_judge_39 : decode cX6_judge 39 = .ok (.goto 4, 3) := by decide +kernel
theorem dX6_judge_42 : decode cX6_judge 42 = .ok (.iconst 0, 1) := by decide +kernel
theorem dX6_judge_43 : decode cX6_judge 43 = .ok (.istore 4, 2) := by decide +kernel
theorem dX6_judge_45 : decode cX6_judge 45 = .ok (.iload 4, 2) := by decide +kernel
theorem dX6_judge_47 : decode cX6_judge 47 = .ok (.aload_n 0, 1) := by decide +kernel
theorem dX6_judge_48 : decode cX6_judge 48 = .ok (.getfield 44, 3) := by decide +kernel
theorem dX6_judge_51 : decode cX6_judge 51 = .ok (.if_icmp .gt 20, 3) := by decide +kernel
theorem dX6_judge_54 : decode cX6_judge 54 = .ok (.iload 4, 2) := by decide +kernel
theorem dX6_judge_56 : decode cX6_judge 56 = .ok (.aload_n 0, 1) := by decide +kernel
theorem dX6_judge_57 : decode cX6_judge 57 = .ok (.getfield 44, 3) := by decide +kernel
theorem dX6_judge_60 : decode cX6_judge 60 = .ok (.if_icmp .ne 15, 3) := by decide +kernel
theorem dX6_judge_63 : decode cX6_judge 63 = .ok (.iload_n 3, 1) := by decide +kernel
theorem dX6_judge_64 : decode cX6_judge 64 = .ok (.aload_n 0, 1) := by decide +kernel
theorem dX6_judge_65 : decode cX6_judge 65 = .ok (.getfield 47, 3) := by decide +kernel
theorem dX6_judge_68 : decode cX6_judge 68 = .ok (.if_icmp .ge 7, 3) := by decide +kernel
theorem dX6_judge_71 : decode cX6_judge 71 = .ok (.iconst 1, 1) := by decide +kernel
theorem dX6_judge_72 : decode cX6_judge 72 = .ok (.goto 4, 3) := by decide +kernel
theorem dX6_judge_75 : decode cX6_judge 75 = .ok (.iconst 0, 1) := by decide +kernel
theorem dX6_judge_76 : decode cX6_judge 76 = .ok (.istore 5, 2) := by decide +kernel
theorem dX6_judge_78 : decode cX6_judge 78 = .ok (.aload_n 0, 1) := by decide +kernel
theorem dX6_judge_79 : decode cX6_judge 79 = .ok (.getfield 40, 3) := by decide +kernel
theorem dX6_judge_82 : decode cX6_judge 82 = .ok (.ifCond .eq 9, 3) := by decide +kernel
theorem dX6_judge_85 : decode cX6_judge 85 = .ok (.iload 5, 2) := by decide +kernel
theorem dX6_judge_87 : decode cX6_judge 87 = .ok (.ifCond .ne 4, 3) := by decide +kernel
theorem dX6_judge_90 : decode cX6_judge 90 = .ok (.return_, 1) := by decide +kernel
theorem dX6_judge_91 : decode cX6_judge 91 = .ok (.aload_n 0, 1) := by decide +kernel
theorem dX6_judge_92 : decode cX6_judge 92 = .ok (.iconst 1, 1) := by decide +kernel
theorem dX6_judge_93 : decode cX6_judge 93 = .ok (.putfield 40, 3) := by decide +kernel
theorem dX6_judge_96 : decode cX6_judge 96 = .ok (.aload_n 0, 1) := by decide +kernel
theorem dX6_judge_97 : decode cX6_judge 97 = .ok (.iload 4, 2) := by decide +kernel
theorem dX6_judge_99 : decode cX6_judge 99 = .ok (.putfield 44, 3) := by decide +kernel
theorem dX6_judge_102 : decode cX6_judge 102 = .ok (.aload_n 0, 1) := by decide +kernel
theorem dX6_judge_103 : decode cX6_judge 103 = .ok (.iload_n 3, 1) := by decide +kernel
theorem dX6_judge_104 : decode cX6_judge 104 = .ok (.putfield 47, 3) := by decide +kernel
theorem dX6_judge_107 : decode cX6_judge 107 = .ok (.aload_n 0, 1) := by decide +kernel
theorem dX6_judge_108 : decode cX6_judge 108 = .ok (.lload_n 1, 1) := by decide +kernel
theorem dX6_judge_109 : decode cX6_judge 109 = .ok (.putfield 50, 3) := by decide +kernel
theorem dX6_judge_112 : decode cX6_judge 112 = .ok (.return_, 1) := by decide +kernel
theorem dX7_init_0 : decode cX7_init 0 = .ok (.aload_n 0, 1) := by decide +kernel
theorem dX7_init_1 : decode cX7_init 1 = .ok (.invokespecial 3, 3) := by decide +kernel
theorem dX7_init_4 : decode cX7_init 4 = .ok (.aload_n 0, 1) := by decide +kernel
theorem dX7_init_5 : decode cX7_init 5 = .ok (.lconst 0, 1) := by decide +kernel
theorem dX7_init_6 : decode cX7_init 6 = .ok (.putfield 9, 3) := by decide +kernel
theorem dX7_init_9 : decode cX7_init 9 = .ok (.aload_n 0, 1) := by decide +kernel
theorem dX7_init_10 : decode cX7_init 10 = .ok (.lconst 0, 1) := by decide +kernel
theorem dX7_init_11 : decode cX7_init 11 = .ok (.putfield 15, 3) := by decide +kernel
theorem dX7_init_14 : decode cX7_init 14 = .ok (.aload_n 0, 1) := by decide +kernel
theorem dX7_init_15 : decode cX7_init 15 = .ok (.iconst 0, 1) := by decide +kernel
theorem dX7_init_16 : decode cX7_init 16 = .ok (.putfield 18, 3) := by decide +kernel
theorem dX7_init_19 : decode cX7_init 19 = .ok (.return_, 1) := by decide +kernel
theorem dX7_wipe_0 : decode cX7_wipe 0 = .ok (.aload_n 0, 1) := by decide +kernel
theorem dX7_wipe_1 : decode cX7_wipe 1 = .ok (.lconst 0, 1) := by decide +kernel
theorem dX7_wipe_2 : decode cX7_wipe 2 = .ok (.lconst 0, 1) := by decide +kernel
theorem dX7_wipe_3 : decode cX7_wipe 3 = .ok (.iconst 0, 1) := by decide +kernel
theorem dX7_wipe_4 : decode cX7_wipe 4 = .ok (.invokevirtual 22, 3) := by decide +kernel
theorem dX7_wipe_7 : decode cX7_wipe 7 = .ok (.return_, 1) := by decide +kernel
theorem dX7_copyFrom_0 : decode cX7_copyFrom 0 = .ok (.aload_n 0, 1) := by decide +kernel
theorem dX7_copyFrom_1 : decode cX7_copyFrom 1 = .ok (.aload_n 1, 1) := by decide +kernel
theorem dX7_copyFrom_2 : decode cX7_copyFrom 2 = .ok (.getfield 9, 3) := by decide +kernel
theorem dX7_copyFrom_5 : decode cX7_copyFrom 5 = .ok (.aload_n 1, 1) := by decide +kernel
theorem dX7_copyFrom_6 : decode cX7_copyFrom 6 = .ok (.getfield 15, 3) := by decide +kernel
theorem dX7_copyFrom_9 : decode cX7_copyFrom 9 = .ok (.aload_n 1, 1) := by decide +kernel
theorem dX7_copyFrom_10 : decode cX7_copyFrom 10 = .ok (.getfield 18, 3) := by decide +kernel
theorem dX7_copyFrom_13 : decode cX7_copyFrom 13 = .ok (.invokevirtual 22, 3) := by decide +kernel
theorem dX7_copyFrom_16 : decode cX7_copyFrom 16 = .ok (.return_, 1) := by decide +kernel
theorem dX7_lay_0 : decode cX7_lay 0 = .ok (.aload_n 0, 1) := by decide +kernel
theorem dX7_lay_1 : decode cX7_lay 1 = .ok (.lload_n 1, 1) := by decide +kernel
theorem dX7_lay_2 : decode cX7_lay 2 = .ok (.putfield 9, 3) := by decide +kernel
theorem dX7_lay_5 : decode cX7_lay 5 = .ok (.aload_n 0, 1) := by decide +kernel
theorem dX7_lay_6 : decode cX7_lay 6 = .ok (.lload_n 3, 1) := by decide +kernel
theorem dX7_lay_7 : decode cX7_lay 7 = .ok (.putfield 15, 3) := by decide +kernel
theorem dX7_lay_10 : decode cX7_lay 10 = .ok (.aload_n 0, 1) := by decide +kernel
theorem dX7_lay_11 : decode cX7_lay 11 = .ok (.iload 5, 2) := by decide +kernel
theorem dX7_lay_13 : decode cX7_lay 13 = .ok (.putfield 18, 3) := by decide +kernel
theorem dX7_lay_16 : decode cX7_lay 16 = .ok (.return_, 1) := by decide +kernel
theorem dX7_take_0 : decode cX7_take 0 = .ok (.iload_n 3, 1) := by decide +kernel
theorem dX7_take_1 : decode cX7_take 1 = .ok (.aload_n 0, 1) := by decide +kernel
theorem dX7_take_2 : decode cX7_take 2 = .ok (.getfield 18, 3) := by decide +kernel
theorem dX7_take_5 : decode cX7_take 5 = .ok (.iconst (-1), 1) := by decide +kernel
theorem dX7_take_6 : decode cX7_take 6 = .ok (.ixor, 1) := by decide +kernel
theorem dX7_take_7 : decode cX7_take 7 = .ok (.iand, 1) := by decide +kernel
theorem dX7_take_8 : decode cX7_take 8 = .ok (.invokestatic 26, 3) := by decide +kernel
theorem dX7_take_11 : decode cX7_take 11 = .ok (.lstore 4, 2) := by decide +kernel
theorem dX7_take_13 : decode cX7_take 13 = .ok (.iload_n 1, 1) := by decide +kernel
theorem dX7_take_14 : decode cX7_take 14 = .ok (.tableswitch 72 0 3 #[30, 40, 50, 59], 30) := by decide +kernel
theorem dX7_take_44 : decode cX7_take 44 = .ok (.aload_n 0, 1) := by decide +kernel
theorem dX7_take_45 : decode cX7_take 45 = .ok (.iload_n 2, 1) := by decide +kernel
theorem dX7_take_46 : decode cX7_take 46 = .ok (.lload 4, 2) := by decide +kernel
theorem dX7_take_48 : decode cX7_take 48 = .ok (.invokevirtual 32, 3) := by decide +kernel
theorem dX7_take_51 : decode cX7_take 51 = .ok (.goto 35, 3) := by decide +kernel
theorem dX7_take_54 : decode cX7_take 54 = .ok (.aload_n 0, 1) := by decide +kernel
theorem dX7_take_55 : decode cX7_take 55 = .ok (.iload_n 2, 1) := by decide +kernel
theorem dX7_take_56 : decode cX7_take 56 = .ok (.lload 4, 2) := by decide +kernel
theorem dX7_take_58 : decode cX7_take 58 = .ok (.invokevirtual 36, 3) := by decide +kernel
theorem dX7_take_61 : decode cX7_take 61 = .ok (.goto 25, 3) := by decide +kernel
theorem dX7_take_64 : decode cX7_take 64 = .ok (.aload_n 0, 1) := by decide +kernel
theorem dX7_take_65 : decode cX7_take 65 = .ok (.lload 4, 2) := by decide +kernel
theorem dX7_take_67 : decode cX7_take 67 = .ok (.invokevirtual 39, 3) := by decide +kernel
theorem dX7_take_70 : decode cX7_take 70 = .ok (.goto 16, 3) := by decide +kernel
theorem dX7_take_73 : decode cX7_take 73 = .ok (.aload_n 0, 1) := by decide +kernel
theorem dX7_take_74 : decode cX7_take 74 = .ok (.dup, 1) := by decide +kernel
theorem dX7_take_75 : decode cX7_take 75 = .ok (.getfield 18, 3) := by decide +kernel
theorem dX7_take_78 : decode cX7_take 78 = .ok (.iload_n 3, 1) := by decide +kernel
theorem dX7_take_79 : decode cX7_take 79 = .ok (.ior, 1) := by decide +kernel
theorem dX7_take_80 : decode cX7_take 80 = .ok (.putfield 18, 3) := by decide +kernel
theorem dX7_take_83 : decode cX7_take 83 = .ok (.goto 3, 3) := by decide +kernel
theorem dX7_take_86 : decode cX7_take 86 = .ok (.return_, 1) := by decide +kernel
theorem dX7_cover_0 : decode cX7_cover 0 = .ok (.aload_n 0, 1) := by decide +kernel
theorem dX7_cover_1 : decode cX7_cover 1 = .ok (.aload_n 0, 1) := by decide +kernel
theorem dX7_cover_2 : decode cX7_cover 2 = .ok (.getfield 9, 3) := by decide +kernel
theorem dX7_cover_5 : decode cX7_cover 5 = .ok (.lload_n 2, 1) := by decide +kernel
theorem dX7_cover_6 : decode cX7_cover 6 = .ok (.ldc2_w 43, 3) := by decide +kernel
theorem dX7_cover_9 : decode cX7_cover 9 = .ok (.lmul, 1) := by decide +kernel
theorem dX7_cover_10 : decode cX7_cover 10 = .ok (.ldc2_w 45, 3) := by decide +kernel
theorem dX7_cover_13 : decode cX7_cover 13 = .ok (.lxor, 1) := by decide +kernel
theorem dX7_cover_14 : decode cX7_cover 14 = .ok (.land, 1) := by decide +kernel
theorem dX7_cover_15 : decode cX7_cover 15 = .ok (.lload_n 2, 1) := by decide +kernel
theorem dX7_cover_16 : decode cX7_cover 16 = .ok (.iload_n 1, 1) := by decide +kernel
theorem dX7_cover_17 : decode cX7_cover 17 = .ok (.i2l, 1) := by decide +kernel
theorem dX7_cover_18 : decode cX7_cover 18 = .ok (.lmul, 1) := by decide +kernel
theorem dX7_cover_19 : decode cX7_cover 19 = .ok (.lor, 1) := by decide +kernel
theorem dX7_cover_20 : decode cX7_cover 20 = .ok (.putfield 9, 3) := by decide +kernel
theorem dX7_cover_23 : decode cX7_cover 23 = .ok (.aload_n 0, 1) := by decide +kernel
theorem dX7_cover_24 : decode cX7_cover 24 = .ok (.dup, 1) := by decide +kernel
theorem dX7_cover_25 : decode cX7_cover 25 = .ok (.getfield 15, 3) := by decide +kernel
theorem dX7_cover_28 : decode cX7_cover 28 = .ok (.lload_n 2, 1) := by decide +kernel
theorem dX7_cover_29 : decode cX7_cover 29 = .ok (.ldc2_w 43, 3) := by decide +kernel
theorem dX7_cover_32 : decode cX7_cover 32 = .ok (.lmul, 1) := by decide +kernel
theorem dX7_cover_33 : decode cX7_cover 33 = .ok (.ldc2_w 45, 3) := by decide +kernel
theorem dX7_cover_36 : decode cX7_cover 36 = .ok (.lxor, 1) := by decide +kernel
theorem dX7_cover_37 : decode cX7_cover 37 = .ok (.land, 1) := by decide +kernel
theorem dX7_cover_38 : decode cX7_cover 38 = .ok (.putfield 15, 3) := by decide +kernel
theorem dX7_cover_41 : decode cX7_cover 41 = .ok (.return_, 1) := by decide +kernel
theorem dX7_mix_0 : decode cX7_mix 0 = .ok (.aload_n 0, 1) := by decide +kernel
theorem dX7_mix_1 : decode cX7_mix 1 = .ok (.getfield 9, 3) := by decide +kernel
theorem dX7_mix_4 : decode cX7_mix 4 = .ok (.lload_n 2, 1) := by decide +kernel
theorem dX7_mix_5 : decode cX7_mix 5 = .ok (.iload_n 1, 1) := by decide +kernel
theorem dX7_mix_6 : decode cX7_mix 6 = .ok (.i2l, 1) := by decide +kernel
theorem dX7_mix_7 : decode cX7_mix 7 = .ok (.lmul, 1) := by decide +kernel
theorem dX7_mix_8 : decode cX7_mix 8 = .ok (.ladd, 1) := by decide +kernel
theorem dX7_mix_9 : decode cX7_mix 9 = .ok (.ldc2_w 47, 3) := by decide +kernel
theorem dX7_mix_12 : decode cX7_mix 12 = .ok (.land, 1) := by decide +kernel
theorem dX7_mix_13 : decode cX7_mix 13 = .ok (.lstore 4, 2) := by decide +kernel
theorem dX7_mix_15 : decode cX7_mix 15 = .ok (.aload_n 0, 1) := by decide +kernel
theorem dX7_mix_16 : decode cX7_mix 16 = .ok (.lload 4, 2) := by decide +kernel
theorem dX7_mix_18 : decode cX7_mix 18 = .ok (.lload_n 2, 1) := by decide +kernel
theorem dX7_mix_19 : decode cX7_mix 19 = .ok (.lload 4, 2) := by decide +kernel
theorem dX7_mix_21 : decode cX7_mix 21 = .ok (.invokestatic 49, 3) := by decide +kernel
theorem dX7_mix_24 : decode cX7_mix 24 = .ok (.ldc2_w 45, 3) := by decide +kernel
theorem dX7_mix_27 : decode cX7_mix 27 = .ok (.lxor, 1) := by decide +kernel
theorem dX7_mix_28 : decode cX7_mix 28 = .ok (.land, 1) := by decide +kernel
theorem dX7_mix_29 : decode cX7_mix 29 = .ok (.lor, 1) := by decide +kernel
theorem dX7_mix_30 : decode cX7_mix 30 = .ok (.putfield 9, 3) := by decide +kernel
theorem dX7_mix_33 : decode cX7_mix 33 = .ok (.return_, 1) := by decide +kernel
theorem dX7_polish_0 : decode cX7_polish 0 = .ok (.aload_n 0, 1) := by decide +kernel
theorem dX7_polish_1 : decode cX7_polish 1 = .ok (.getfield 15, 3) := by decide +kernel
theorem dX7_polish_4 : decode cX7_polish 4 = .ok (.iconst 3, 1) := by decide +kernel
theorem dX7_polish_5 : decode cX7_polish 5 = .ok (.lushr, 1) := by decide +kernel
theorem dX7_polish_6 : decode cX7_polish 6 = .ok (.aload_n 0, 1) := by decide +kernel
theorem dX7_polish_7 : decode cX7_polish 7 = .ok (.getfield 15, 3) := by decide +kernel
theorem dX7_polish_10 : decode cX7_polish 10 = .ok (.land, 1) := by decide +kernel
theorem dX7_polish_11 : decode cX7_polish 11 = .ok (.lstore_n 3, 1) := by decide +kernel
theorem dX7_polish_12 : decode cX7_polish 12 = .ok (.aload_n 0, 1) := by decide +kernel
theorem dX7_polish_13 : decode cX7_polish 13 = .ok (.dup, 1) := by decide +kernel
theorem dX7_polish_14 : decode cX7_polish 14 = .ok (.getfield 15, 3) := by decide +kernel
theorem dX7_polish_17 : decode cX7_polish 17 = .ok (.lload_n 1, 1) := by decide +kernel
theorem dX7_polish_18 : decode cX7_polish 18 = .ok (.lload_n 3, 1) := by decide +kernel
theorem dX7_polish_19 : decode cX7_polish 19 = .ok (.ldc2_w 45, 3) := by decide +kernel
theorem dX7_polish_22 : decode cX7_polish 22 = .ok (.lxor, 1) := by decide +kernel
theorem dX7_polish_23 : decode cX7_polish 23 = .ok (.land, 1) := by decide +kernel
theorem dX7_polish_24 : decode cX7_polish 24 = .ok (.ladd, 1) := by decide +kernel
theorem dX7_polish_25 : decode cX7_polish 25 = .ok (.putfield 15, 3) := by decide +kernel
theorem dX7_polish_28 : decode cX7_polish 28 = .ok (.return_, 1) := by decide +kernel
theorem dX7_hits_0 : decode cX7_hits 0 = .ok (.bipush 16, 2) := by decide +kernel
theorem dX7_hits_2 : decode cX7_hits 2 = .ok (.aload_n 0, 1) := by decide +kernel
theorem dX7_hits_3 : decode cX7_hits 3 = .ok (.getfield 9, 3) := by decide +kernel
theorem dX7_hits_6 : decode cX7_hits 6 = .ok (.lload_n 1, 1) := by decide +kernel
theorem dX7_hits_7 : decode cX7_hits 7 = .ok (.lxor, 1) := by decide +kernel
theorem dX7_hits_8 : decode cX7_hits 8 = .ok (.invokestatic 49, 3) := by decide +kernel
theorem dX7_hits_11 : decode cX7_hits 11 = .ok (.invokestatic 53, 3) := by decide +kernel
theorem dX7_hits_14 : decode cX7_hits 14 = .ok (.isub, 1) := by decide +kernel
theorem dX7_hits_15 : decode cX7_hits 15 = .ok (.ireturn, 1) := by decide +kernel
theorem dX7_coloursAndClosed_0 : decode cX7_coloursAndClosed 0 = .ok (.aload_n 0, 1) := by decide +kernel
theorem dX7_coloursAndClosed_1 : decode cX7_coloursAndClosed 1 = .ok (.getfield 9, 3) := by decide +kernel
theorem dX7_coloursAndClosed_4 : decode cX7_coloursAndClosed 4 = .ok (.aload_n 0, 1) := by decide +kernel
theorem dX7_coloursAndClosed_5 : decode cX7_coloursAndClosed 5 = .ok (.getfield 18, 3) := by decide +kernel
theorem dX7_coloursAndClosed_8 : decode cX7_coloursAndClosed 8 = .ok (.invokestatic 26, 3) := by decide +kernel
theorem dX7_coloursAndClosed_11 : decode cX7_coloursAndClosed 11 = .ok (.iconst 3, 1) := by decide +kernel
theorem dX7_coloursAndClosed_12 : decode cX7_coloursAndClosed 12 = .ok (.lshl, 1) := by decide +kernel
theorem dX7_coloursAndClosed_13 : decode cX7_coloursAndClosed 13 = .ok (.lor, 1) := by decide +kernel
theorem dX7_coloursAndClosed_14 : decode cX7_coloursAndClosed 14 = .ok (.lreturn, 1) := by decide +kernel
theorem dX8_init_0 : decode cX8_init 0 = .ok (.aload_n 0, 1) := by decide +kernel
theorem dX8_init_1 : decode cX8_init 1 = .ok (.invokespecial 1, 3) := by decide +kernel
theorem dX8_init_4 : decode cX8_init 4 = .ok (.aload_n 0, 1) := by decide +kernel
theorem dX8_init_5 : decode cX8_init 5 = .ok (.sipush 1024, 3) := by decide +kernel
theorem dX8_init_8 : decode cX8_init 8 = .ok (.newarray .long, 2) := by decide +kernel
theorem dX8_init_10 : decode cX8_init 10 = .ok (.putfield 9, 3) := by decide +kernel
theorem dX8_init_13 : decode cX8_init 13 = .ok (.aload_n 0, 1) := by decide +kernel
theorem dX8_init_14 : decode cX8_init 14 = .ok (.sipush 1024, 3) := by decide +kernel
theorem dX8_init_17 : decode cX8_init 17 = .ok (.newarray .long, 2) := by decide +kernel
theorem dX8_init_19 : decode cX8_init 19 = .ok (.putfield 13, 3) := by decide +kernel
theorem dX8_init_22 : decode cX8_init 22 = .ok (.aload_n 0, 1) := by decide +kernel
theorem dX8_init_23 : decode cX8_init 23 = .ok (.sipush 1024, 3) := by decide +kernel
theorem dX8_init_26 : decode cX8_init 26 = .ok (.newarray .int, 2) := by decide +kernel
theorem dX8_init_28 : decode cX8_init 28 = .ok (.putfield 16, 3) := by decide +kernel
theorem dX8_init_31 : decode cX8_init 31 = .ok (.aload_n 0, 1) := by decide +kernel
theorem dX8_init_32 : decode cX8_init 32 = .ok (.iconst 0, 1) := by decide +kernel
theorem dX8_init_33 : decode cX8_init 33 = .ok (.putfield 20, 3) := by decide +kernel
theorem dX8_init_36 : decode cX8_init 36 = .ok (.aload_n 0, 1) := by decide +kernel
theorem dX8_init_37 : decode cX8_init 37 = .ok (.iconst 0, 1) := by decide +kernel
theorem dX8_init_38 : decode cX8_init 38 = .ok (.putfield 24, 3) := by decide +kernel
theorem dX8_init_41 : decode cX8_init 41 = .ok (.return_, 1) := by decide +kernel
theorem dX8_empty_0 : decode cX8_empty 0 = .ok (.aload_n 0, 1) := by decide +kernel
theorem dX8_empty_1 : decode cX8_empty 1 = .ok (.dup, 1) := by decide +kernel
theorem dX8_empty_2 : decode cX8_empty 2 = .ok (.getfield 20, 3) := by decide +kernel
theorem dX8_empty_5 : decode cX8_empty 5 = .ok (.iconst 1, 1) := by decide +kernel
theorem dX8_empty_6 : decode cX8_empty 6 = .ok (.iadd, 1) := by decide +kernel
theorem dX8_empty_7 : decode cX8_empty 7 = .ok (.putfield 20, 3) := by decide +kernel
theorem dX8_empty_10 : decode cX8_empty 10 = .ok (.aload_n 0, 1) := by decide +kernel
theorem dX8_empty_11 : decode cX8_empty 11 = .ok (.iconst 0, 1) := by decide +kernel
theorem dX8_empty_12 : decode cX8_empty 12 = .ok (.putfield 24, 3) := by decide +kernel
theorem dX8_empty_15 : decode cX8_empty 15 = .ok (.return_, 1) := by decide +kernel
theorem dX8_add_0 : decode cX8_add 0 = .ok (.aload_n 1, 1) := by decide +kernel
theorem dX8_add_1 : decode cX8_add 1 = .ok (.invokevirtual 27, 3) := by decide +kernel
theorem dX8_add_4 : decode cX8_add 4 = .ok (.lstore_n 2, 1) := by decide +kernel
theorem dX8_add_5 : decode cX8_add 5 = .ok (.aload_n 1, 1) := by decide +kernel
theorem dX8_add_6 : decode cX8_add 6 = .ok (.getfield 33, 3) := by decide +kernel
theorem dX8_add_9 : decode cX8_add 9 = .ok (.lstore 4, 2) := by decide +kernel
theorem dX8_add_11 : decode cX8_add 11 = .ok (.lload_n 2, 1) := by decide +kernel
theorem dX8_add_12 : decode cX8_add 12 = .ok (.ldc2_w 36, 3) := by decide +kernel
theorem dX8_add_15 : decode cX8_add 15 = .ok (.lmul, 1) := by decide +kernel
theorem dX8_add_16 : decode cX8_add 16 = .ok (.lload 4, 2) := by decide +kernel
theorem dX8_add_18 : decode cX8_add 18 = .ok (.ldc2_w 38, 3) := by decide +kernel
theorem dX8_add_21 : decode cX8_add 21 = .ok (.lmul, 1) := by decide +kernel
theorem dX8_add_22 : decode cX8_add 22 = .ok (.ladd, 1) := by decide +kernel
theorem dX8_add_23 : decode cX8_add 23 = .ok (.lstore 6, 2) := by decide +kernel
theorem dX8_add_25 : decode cX8_add 25 = .ok (.lload 6, 2) := by decide +kernel
theorem dX8_add_27 : decode cX8_add 27 = .ok (.bipush 54, 2) := by decide +kernel
theorem dX8_add_29 : decode cX8_add 29 = .ok (.lushr, 1) := by decide +kernel
theorem dX8_add_30 : decode cX8_add 30 = .ok (.l2i, 1) := by decide +kernel
theorem dX8_add_31 : decode cX8_add 31 = .ok (.istore 8, 2) := by decide +kernel
theorem dX8_add_33 : decode cX8_add 33 = .ok (.iconst 0, 1) := by decide +kernel
theorem dX8_add_34 : decode cX8_add 34 = .ok (.istore 9, 2) := by decide +kernel
theorem dX8_add_36 : decode cX8_add 36 = .ok (.iload 9, 2) := by decide +kernel
theorem dX8_add_38 : decode cX8_add 38 = .ok (.sipush 1024, 3) := by decide +kernel
theorem dX8_add_41 : decode cX8_add 41 = .ok (.if_icmp .ge 99, 3) := by decide +kernel
theorem dX8_add_44 : decode cX8_add 44 = .ok (.iload 8, 2) := by decide +kernel
theorem dX8_add_46 : decode cX8_add 46 = .ok (.iload 9, 2) := by decide +kernel
theorem dX8_add_48 : decode cX8_add 48 = .ok (.iadd, 1) := by decide +kernel
theorem dX8_add_49 : decode cX8_add 49 = .ok (.sipush 1023, 3) := by decide +kernel
theorem dX8_add_52 : decode cX8_add 52 = .ok (.iand, 1) := by decide +kernel
theorem dX8_add_53 : decode cX8_add 53 = .ok (.istore 10, 2) := by decide +kernel
theorem dX8_add_55 : decode cX8_add 55 = .ok (.aload_n 0, 1) := by decide +kernel
theorem dX8_add_56 : decode cX8_add 56 = .ok (.getfield 16, 3) := by decide +kernel
theorem dX8_add_59 : decode cX8_add 59 = .ok (.iload 10, 2) := by decide +kernel
theorem dX8_add_61 : decode cX8_add 61 = .ok (.iaload, 1) := by decide +kernel
theorem dX8_add_62 : decode cX8_add 62 = .ok (.aload_n 0, 1) := by decide +kernel
theorem dX8_add_63 : decode cX8_add 63 = .ok (.getfield 20, 3) := by decide +kernel
theorem dX8_add_66 : decode cX8_add 66 = .ok (.if_icmp .eq 42, 3) := by decide +kernel
theorem dX8_add_69 : decode cX8_add 69 = .ok (.aload_n 0, 1) := by decide +kernel
theorem dX8_add_70 : decode cX8_add 70 = .ok (.getfield 16, 3) := by decide +kernel
theorem dX8_add_73 : decode cX8_add 73 = .ok (.iload 10, 2) := by decide +kernel
theorem dX8_add_75 : decode cX8_add 75 = .ok (.aload_n 0, 1) := by decide +kernel
theorem dX8_add_76 : decode cX8_add 76 = .ok (.getfield 20, 3) := by decide +kernel
theorem dX8_add_79 : decode cX8_add 79 = .ok (.iastore, 1) := by decide +kernel
theorem dX8_add_80 : decode cX8_add 80 = .ok (.aload_n 0, 1) := by decide +kernel
theorem dX8_add_81 : decode cX8_add 81 = .ok (.getfield 9, 3) := by decide +kernel
theorem dX8_add_84 : decode cX8_add 84 = .ok (.iload 10, 2) := by decide +kernel
theorem dX8_add_86 : decode cX8_add 86 = .ok (.lload_n 2, 1) := by decide +kernel
theorem dX8_add_87 : decode cX8_add 87 = .ok (.lastore, 1) := by decide +kernel
theorem dX8_add_88 : decode cX8_add 88 = .ok (.aload_n 0, 1) := by decide +kernel
theorem dX8_add_89 : decode cX8_add 89 = .ok (.getfield 13, 3) := by decide +kernel
theorem dX8_add_92 : decode cX8_add 92 = .ok (.iload 10, 2) := by decide +kernel
theorem dX8_add_94 : decode cX8_add 94 = .ok (.lload 4, 2) := by decide +kernel
theorem dX8_add_96 : decode cX8_add 96 = .ok (.lastore, 1) := by decide +kernel
theorem dX8_add_97 : decode cX8_add 97 = .ok (.aload_n 0, 1) := by decide +kernel
theorem dX8_add_98 : decode cX8_add 98 = .ok (.dup, 1) := by decide +kernel
theorem dX8_add_99 : decode cX8_add 99 = .ok (.getfield 24, 3) := by decide +kernel
theorem dX8_add_102 : decode cX8_add 102 = .ok (.iconst 1, 1) := by decide +kernel
theorem dX8_add_103 : decode cX8_add 103 = .ok (.iadd, 1) := by decide +kernel
theorem dX8_add_104 : decode cX8_add 104 = .ok (.putfield 24, 3) := by decide +kernel
theorem dX8_add_107 : decode cX8_add 107 = .ok (.return_, 1) := by decide +kernel
theorem dX8_add_108 : decode cX8_add 108 = .ok (.aload_n 0, 1) := by decide +kernel
theorem dX8_add_109 : decode cX8_add 109 = .ok (.getfield 9, 3) := by decide +kernel
theorem dX8_add_112 : decode cX8_add 112 = .ok (.iload 10, 2) := by decide +kernel
theorem dX8_add_114 : decode cX8_add 114 = .ok (.laload, 1) := by decide +kernel
theorem dX8_add_115 : decode cX8_add 115 = .ok (.lload_n 2, 1) := by decide +kernel
theorem dX8_add_116 : decode cX8_add 116 = .ok (.lcmp, 1) := by decide +kernel
theorem dX8_add_117 : decode cX8_add 117 = .ok (.ifCond .ne 17, 3) := by decide +kernel
theorem dX8_add_120 : decode cX8_add 120 = .ok (.aload_n 0, 1) := by decide +kernel
theorem dX8_add_121 : decode cX8_add 121 = .ok (.getfield 13, 3) := by decide +kernel
theorem dX8_add_124 : decode cX8_add 124 = .ok (.iload 10, 2) := by decide +kernel
theorem dX8_add_126 : decode cX8_add 126 = .ok (.laload, 1) := by decide +kernel
theorem dX8_add_127 : decode cX8_add 127 = .ok (.lload 4, 2) := by decide +kernel
theorem dX8_add_129 : decode cX8_add 129 = .ok (.lcmp, 1) := by decide +kernel
theorem dX8_add_130 : decode cX8_add 130 = .ok (.ifCond .ne 4, 3) := by decide +kernel
theorem dX8_add_133 : decode cX8_add 133 = .ok (.return_, 1) := by decide +kernel
theorem dX8_add_134 : decode cX8_add 134 = .ok (.iinc 9 1, 3) := by decide +kernel
theorem dX8_add_137 : decode cX8_add 137 = .ok (.goto (-101), 3) := by decide +kernel
theorem dX8_add_140 : decode cX8_add 140 = .ok (.return_, 1) := by decide +kernel
theorem dX9_init_0 : decode cX9_init 0 = .ok (.aload_n 0, 1) := by decide +kernel
theorem dX9_init_1 : decode cX9_init 1 = .ok (.invokespecial 1, 3) := by decide +kernel
theorem dX9_init_4 : decode cX9_init 4 = .ok (.aload_n 0, 1) := by decide +kernel
theorem dX9_init_5 : decode cX9_init 5 = .ok (.new 7, 3) := by decide +kernel
theorem dX9_init_8 : decode cX9_init 8 = .ok (.dup, 1) := by decide +kernel
theorem dX9_init_9 : decode cX9_init 9 = .ok (.invokespecial 9, 3) := by decide +kernel
theorem dX9_init_12 : decode cX9_init 12 = .ok (.putfield 10, 3) := by decide +kernel
theorem dX9_init_15 : decode cX9_init 15 = .ok (.aload_n 0, 1) := by decide +kernel
theorem dX9_init_16 : decode cX9_init 16 = .ok (.new 16, 3) := by decide +kernel
theorem dX9_init_19 : decode cX9_init 19 = .ok (.dup, 1) := by decide +kernel
theorem dX9_init_20 : decode cX9_init 20 = .ok (.invokespecial 18, 3) := by decide +kernel
theorem dX9_init_23 : decode cX9_init 23 = .ok (.putfield 19, 3) := by decide +kernel
theorem dX9_init_26 : decode cX9_init 26 = .ok (.aload_n 0, 1) := by decide +kernel
theorem dX9_init_27 : decode cX9_init 27 = .ok (.lconst 0, 1) := by decide +kernel
theorem dX9_init_28 : decode cX9_init 28 = .ok (.putfield 23, 3) := by decide +kernel
theorem dX9_init_31 : decode cX9_init 31 = .ok (.return_, 1) := by decide +kernel
theorem dX9_copyFrom_0 : decode cX9_copyFrom 0 = .ok (.aload_n 0, 1) := by decide +kernel
theorem dX9_copyFrom_1 : decode cX9_copyFrom 1 = .ok (.getfield 10, 3) := by decide +kernel
theorem dX9_copyFrom_4 : decode cX9_copyFrom 4 = .ok (.aload_n 1, 1) := by decide +kernel
theorem dX9_copyFrom_5 : decode cX9_copyFrom 5 = .ok (.getfield 10, 3) := by decide +kernel
theorem dX9_copyFrom_8 : decode cX9_copyFrom 8 = .ok (.invokevirtual 27, 3) := by decide +kernel
theorem dX9_copyFrom_11 : decode cX9_copyFrom 11 = .ok (.aload_n 0, 1) := by decide +kernel
theorem dX9_copyFrom_12 : decode cX9_copyFrom 12 = .ok (.getfield 19, 3) := by decide +kernel
theorem dX9_copyFrom_15 : decode cX9_copyFrom 15 = .ok (.aload_n 1, 1) := by decide +kernel
theorem dX9_copyFrom_16 : decode cX9_copyFrom 16 = .ok (.getfield 19, 3) := by decide +kernel
theorem dX9_copyFrom_19 : decode cX9_copyFrom 19 = .ok (.invokevirtual 31, 3) := by decide +kernel
theorem dX9_copyFrom_22 : decode cX9_copyFrom 22 = .ok (.aload_n 0, 1) := by decide +kernel
theorem dX9_copyFrom_23 : decode cX9_copyFrom 23 = .ok (.aload_n 1, 1) := by decide +kernel
theorem dX9_copyFrom_24 : decode cX9_copyFrom 24 = .ok (.getfield 23, 3) := by decide +kernel
theorem dX9_copyFrom_27 : decode cX9_copyFrom 27 = .ok (.putfield 23, 3) := by decide +kernel
theorem dX9_copyFrom_30 : decode cX9_copyFrom 30 = .ok (.return_, 1) := by decide +kernel
theorem dX10_init_0 : decode cX10_init 0 = .ok (.aload_n 0, 1) := by decide +kernel
theorem dX10_init_1 : decode cX10_init 1 = .ok (.invokespecial 3, 3) := by decide +kernel
theorem dX10_init_4 : decode cX10_init 4 = .ok (.aload_n 0, 1) := by decide +kernel
theorem dX10_init_5 : decode cX10_init 5 = .ok (.sipush 150, 3) := by decide +kernel
theorem dX10_init_8 : decode cX10_init 8 = .ok (.newarray .int, 2) := by decide +kernel
theorem dX10_init_10 : decode cX10_init 10 = .ok (.putfield 9, 3) := by decide +kernel
theorem dX10_init_13 : decode cX10_init 13 = .ok (.aload_n 0, 1) := by decide +kernel
theorem dX10_init_14 : decode cX10_init 14 = .ok (.iconst 0, 1) := by decide +kernel
theorem dX10_init_15 : decode cX10_init 15 = .ok (.putfield 15, 3) := by decide +kernel
theorem dX10_init_18 : decode cX10_init 18 = .ok (.return_, 1) := by decide +kernel
theorem dX10_add_0 : decode cX10_add 0 = .ok (.aload_n 0, 1) := by decide +kernel
theorem dX10_add_1 : decode cX10_add 1 = .ok (.getfield 9, 3) := by decide +kernel
theorem dX10_add_4 : decode cX10_add 4 = .ok (.aload_n 0, 1) := by decide +kernel
theorem dX10_add_5 : decode cX10_add 5 = .ok (.getfield 15, 3) := by decide +kernel
theorem dX10_add_8 : decode cX10_add 8 = .ok (.iload_n 1, 1) := by decide +kernel
theorem dX10_add_9 : decode cX10_add 9 = .ok (.invokestatic 19, 3) := by decide +kernel
theorem dX10_add_12 : decode cX10_add 12 = .ok (.aload_n 0, 1) := by decide +kernel
theorem dX10_add_13 : decode cX10_add 13 = .ok (.dup, 1) := by decide +kernel
theorem dX10_add_14 : decode cX10_add 14 = .ok (.getfield 15, 3) := by decide +kernel
theorem dX10_add_17 : decode cX10_add 17 = .ok (.iconst 1, 1) := by decide +kernel
theorem dX10_add_18 : decode cX10_add 18 = .ok (.iadd, 1) := by decide +kernel
theorem dX10_add_19 : decode cX10_add 19 = .ok (.putfield 15, 3) := by decide +kernel
theorem dX10_add_22 : decode cX10_add 22 = .ok (.return_, 1) := by decide +kernel
theorem dX11_init_0 : decode cX11_init 0 = .ok (.aload_n 0, 1) := by decide +kernel
theorem dX11_init_1 : decode cX11_init 1 = .ok (.invokespecial 1, 3) := by decide +kernel
theorem dX11_init_4 : decode cX11_init 4 = .ok (.aload_n 0, 1) := by decide +kernel
theorem dX11_init_5 : decode cX11_init 5 = .ok (.new 7, 3) := by decide +kernel
theorem dX11_init_8 : decode cX11_init 8 = .ok (.dup, 1) := by decide +kernel
theorem dX11_init_9 : decode cX11_init 9 = .ok (.invokespecial 9, 3) := by decide +kernel
theorem dX11_init_12 : decode cX11_init 12 = .ok (.putfield 10, 3) := by decide +kernel
theorem dX11_init_15 : decode cX11_init 15 = .ok (.aload_n 0, 1) := by decide +kernel
theorem dX11_init_16 : decode cX11_init 16 = .ok (.new 16, 3) := by decide +kernel
theorem dX11_init_19 : decode cX11_init 19 = .ok (.dup, 1) := by decide +kernel
theorem dX11_init_20 : decode cX11_init 20 = .ok (.invokespecial 18, 3) := by decide +kernel
theorem dX11_init_23 : decode cX11_init 23 = .ok (.putfield 19, 3) := by decide +kernel
theorem dX11_init_26 : decode cX11_init 26 = .ok (.aload_n 0, 1) := by decide +kernel
theorem dX11_init_27 : decode cX11_init 27 = .ok (.new 23, 3) := by decide +kernel
theorem dX11_init_30 : decode cX11_init 30 = .ok (.dup, 1) := by decide +kernel
theorem dX11_init_31 : decode cX11_init 31 = .ok (.aload_n 0, 1) := by decide +kernel
theorem dX11_init_32 : decode cX11_init 32 = .ok (.getfield 10, 3) := by decide +kernel
theorem dX11_init_35 : decode cX11_init 35 = .ok (.getfield 25, 3) := by decide +kernel
theorem dX11_init_38 : decode cX11_init 38 = .ok (.invokespecial 29, 3) := by decide +kernel
theorem dX11_init_41 : decode cX11_init 41 = .ok (.putfield 32, 3) := by decide +kernel
theorem dX11_init_44 : decode cX11_init 44 = .ok (.aload_n 0, 1) := by decide +kernel
theorem dX11_init_45 : decode cX11_init 45 = .ok (.new 36, 3) := by decide +kernel
theorem dX11_init_48 : decode cX11_init 48 = .ok (.dup, 1) := by decide +kernel
theorem dX11_init_49 : decode cX11_init 49 = .ok (.invokespecial 38, 3) := by decide +kernel
theorem dX11_init_52 : decode cX11_init 52 = .ok (.putfield 39, 3) := by decide +kernel
theorem dX11_init_55 : decode cX11_init 55 = .ok (.aload_n 0, 1) := by decide +kernel
theorem dX11_init_56 : decode cX11_init 56 = .ok (.new 43, 3) := by decide +kernel
theorem dX11_init_59 : decode cX11_init 59 = .ok (.dup, 1) := by decide +kernel
theorem dX11_init_60 : decode cX11_init 60 = .ok (.invokespecial 45, 3) := by decide +kernel
theorem dX11_init_63 : decode cX11_init 63 = .ok (.putfield 46, 3) := by decide +kernel
theorem dX11_init_66 : decode cX11_init 66 = .ok (.aload_n 0, 1) := by decide +kernel
theorem dX11_init_67 : decode cX11_init 67 = .ok (.iconst 0, 1) := by decide +kernel
theorem dX11_init_68 : decode cX11_init 68 = .ok (.putfield 50, 3) := by decide +kernel
theorem dX11_init_71 : decode cX11_init 71 = .ok (.aload_n 0, 1) := by decide +kernel
theorem dX11_init_72 : decode cX11_init 72 = .ok (.iconst 0, 1) := by decide +kernel
theorem dX11_init_73 : decode cX11_init 73 = .ok (.putfield 54, 3) := by decide +kernel
theorem dX11_init_76 : decode cX11_init 76 = .ok (.aload_n 0, 1) := by decide +kernel
theorem dX11_init_77 : decode cX11_init 77 = .ok (.iconst 0, 1) := by decide +kernel
theorem dX11_init_78 : decode cX11_init 78 = .ok (.putfield 57, 3) := by decide +kernel
theorem dX11_init_81 : decode cX11_init 81 = .ok (.return_, 1) := by decide +kernel
theorem dX11_block_0 : decode cX11_block 0 = .ok (.aload_n 0, 1) := by decide +kernel
theorem dX11_block_1 : decode cX11_block 1 = .ok (.iload_n 1, 1) := by decide +kernel
theorem dX11_block_2 : decode cX11_block 2 = .ok (.iload_n 2, 1) := by decide +kernel
theorem dX11_block_3 : decode cX11_block 3 = .ok (.iload_n 3, 1) := by decide +kernel
theorem dX11_block_4 : decode cX11_block 4 = .ok (.iload 4, 2) := by decide +kernel
theorem dX11_block_6 : decode cX11_block 6 = .ok (.invokevirtual 60, 3) := by decide +kernel
theorem dX11_block_9 : decode cX11_block 9 = .ok (.istore 5, 2) := by decide +kernel
theorem dX11_block_11 : decode cX11_block 11 = .ok (.iload 5, 2) := by decide +kernel
theorem dX11_block_13 : decode cX11_block 13 = .ok (.ifCond .eq 10, 3) := by decide +kernel
theorem dX11_block_16 : decode cX11_block 16 = .ok (.aload_n 0, 1) := by decide +kernel
theorem dX11_block_17 : decode cX11_block 17 = .ok (.iload 5, 2) := by decide +kernel
theorem dX11_block_19 : decode cX11_block 19 = .ok (.invokevirtual 64, 3) := by decide +kernel
theorem dX11_block_22 : decode cX11_block 22 = .ok (.ireturn, 1) := by decide +kernel
theorem dX11_block_23 : decode cX11_block 23 = .ok (.aload_n 0, 1) := by decide +kernel
theorem dX11_block_24 : decode cX11_block 24 = .ok (.getfield 19, 3) := by decide +kernel
theorem dX11_block_27 : decode cX11_block 27 = .ok (.aload_n 0, 1) := by decide +kernel
theorem dX11_block_28 : decode cX11_block 28 = .ok (.getfield 10, 3) := by decide +kernel
theorem dX11_block_31 : decode cX11_block 31 = .ok (.invokevirtual 68, 3) := by decide +kernel
theorem dX11_block_34 : decode cX11_block 34 = .ok (.aload_n 0, 1) := by decide +kernel
theorem dX11_block_35 : decode cX11_block 35 = .ok (.getfield 10, 3) := by decide +kernel
theorem dX11_block_38 : decode cX11_block 38 = .ok (.getfield 25, 3) := by decide +kernel
theorem dX11_block_41 : decode cX11_block 41 = .ok (.iload_n 1, 1) := by decide +kernel
theorem dX11_block_42 : decode cX11_block 42 = .ok (.iload_n 2, 1) := by decide +kernel
theorem dX11_block_43 : decode cX11_block 43 = .ok (.iload_n 3, 1) := by decide +kernel
theorem dX11_block_44 : decode cX11_block 44 = .ok (.iload 4, 2) := by decide +kernel
theorem dX11_block_46 : decode cX11_block 46 = .ok (.invokevirtual 72, 3) := by decide +kernel
theorem dX11_block_49 : decode cX11_block 49 = .ok (.ireturn, 1) := by decide +kernel
theorem dX11_shifts_0 : decode cX11_shifts 0 = .ok (.aload_n 0, 1) := by decide +kernel
theorem dX11_shifts_1 : decode cX11_shifts 1 = .ok (.iload_n 1, 1) := by decide +kernel
theorem dX11_shifts_2 : decode cX11_shifts 2 = .ok (.iload_n 2, 1) := by decide +kernel
theorem dX11_shifts_3 : decode cX11_shifts 3 = .ok (.iload_n 3, 1) := by decide +kernel
theorem dX11_shifts_4 : decode cX11_shifts 4 = .ok (.invokevirtual 77, 3) := by decide +kernel
theorem dX11_shifts_7 : decode cX11_shifts 7 = .ok (.istore 4, 2) := by decide +kernel
theorem dX11_shifts_9 : decode cX11_shifts 9 = .ok (.iload 4, 2) := by decide +kernel
theorem dX11_shifts_11 : decode cX11_shifts 11 = .ok (.ifCond .eq 10, 3) := by decide +kernel
theorem dX11_shifts_14 : decode cX11_shifts 14 = .ok (.aload_n 0, 1) := by decide +kernel
theorem dX11_shifts_15 : decode cX11_shifts 15 = .ok (.iload 4, 2) := by decide +kernel
theorem dX11_shifts_17 : decode cX11_shifts 17 = .ok (.invokevirtual 64, 3) := by decide +kernel
theorem dX11_shifts_20 : decode cX11_shifts 20 = .ok (.ireturn, 1) := by decide +kernel
theorem dX11_shifts_21 : decode cX11_shifts 21 = .ok (.aload_n 0, 1) := by decide +kernel
theorem dX11_shifts_22 : decode cX11_shifts 22 = .ok (.getfield 19, 3) := by decide +kernel
theorem dX11_shifts_25 : decode cX11_shifts 25 = .ok (.aload_n 0, 1) := by decide +kernel
theorem dX11_shifts_26 : decode cX11_shifts 26 = .ok (.getfield 10, 3) := by decide +kernel
theorem dX11_shifts_29 : decode cX11_shifts 29 = .ok (.invokevirtual 68, 3) := by decide +kernel
theorem dX11_shifts_32 : decode cX11_shifts 32 = .ok (.aload_n 0, 1) := by decide +kernel
theorem dX11_shifts_33 : decode cX11_shifts 33 = .ok (.getfield 10, 3) := by decide +kernel
theorem dX11_shifts_36 : decode cX11_shifts 36 = .ok (.getfield 25, 3) := by decide +kernel
theorem dX11_shifts_39 : decode cX11_shifts 39 = .ok (.iload_n 1, 1) := by decide +kernel
theorem dX11_shifts_40 : decode cX11_shifts 40 = .ok (.iload_n 2, 1) := by decide +kernel
theorem dX11_shifts_41 : decode cX11_shifts 41 = .ok (.iload_n 3, 1) := by decide +kernel
theorem dX11_shifts_42 : decode cX11_shifts 42 = .ok (.invokevirtual 81, 3) := by decide +kernel
theorem dX11_shifts_45 : decode cX11_shifts 45 = .ok (.aload_n 0, 1) := by decide +kernel
theorem dX11_shifts_46 : decode cX11_shifts 46 = .ok (.getfield 10, 3) := by decide +kernel
theorem dX11_shifts_49 : decode cX11_shifts 49 = .ok (.getfield 25, 3) := by decide +kernel
theorem dX11_shifts_52 : decode cX11_shifts 52 = .ok (.iload_n 1, 1) := by decide +kernel
theorem dX11_shifts_53 : decode cX11_shifts 53 = .ok (.invokevirtual 85, 3) := by decide +kernel
theorem dX11_shifts_56 : decode cX11_shifts 56 = .ok (.invokestatic 88, 3) := by decide +kernel
theorem dX11_shifts_59 : decode cX11_shifts 59 = .ok (.ireturn, 1) := by decide +kernel
theorem dX11_behind_0 : decode cX11_behind 0 = .ok (.aload_n 0, 1) := by decide +kernel
theorem dX11_behind_1 : decode cX11_behind 1 = .ok (.iload_n 1, 1) := by decide +kernel
theorem dX11_behind_2 : decode cX11_behind 2 = .ok (.iload_n 2, 1) := by decide +kernel
theorem dX11_behind_3 : decode cX11_behind 3 = .ok (.iload_n 3, 1) := by decide +kernel
theorem dX11_behind_4 : decode cX11_behind 4 = .ok (.invokevirtual 93, 3) := by decide +kernel
theorem dX11_behind_7 : decode cX11_behind 7 = .ok (.istore 4, 2) := by decide +kernel
theorem dX11_behind_9 : decode cX11_behind 9 = .ok (.iload 4, 2) := by decide +kernel
theorem dX11_behind_11 : decode cX11_behind 11 = .ok (.ifCond .eq 10, 3) := by decide +kernel
theorem dX11_behind_14 : decode cX11_behind 14 = .ok (.aload_n 0, 1) := by decide +kernel
theorem dX11_behind_15 : decode cX11_behind 15 = .ok (.iload 4, 2) := by decide +kernel
theorem dX11_behind_17 : decode cX11_behind 17 = .ok (.invokevirtual 64, 3) := by decide +kernel
theorem dX11_behind_20 : decode cX11_behind 20 = .ok (.ireturn, 1) := by decide +kernel
theorem dX11_behind_21 : decode cX11_behind 21 = .ok (.aload_n 0, 1) := by decide +kernel
theorem dX11_behind_22 : decode cX11_behind 22 = .ok (.getfield 19, 3) := by decide +kernel
theorem dX11_behind_25 : decode cX11_behind 25 = .ok (.aload_n 0, 1) := by decide +kernel
theorem dX11_behind_26 : decode cX11_behind 26 = .ok (.getfield 10, 3) := by decide +kernel
theorem dX11_behind_29 : decode cX11_behind 29 = .ok (.invokevirtual 68, 3) := by decide +kernel
theorem dX11_behind_32 : decode cX11_behind 32 = .ok (.aload_n 0, 1) := by decide +kernel
theorem dX11_behind_33 : decode cX11_behind 33 = .ok (.getfield 10, 3) := by decide +kernel
theorem dX11_behind_36 : decode cX11_behind 36 = .ok (.getfield 25, 3) := by decide +kernel
theorem dX11_behind_39 : decode cX11_behind 39 = .ok (.iload_n 1, 1) := by decide +kernel
theorem dX11_behind_40 : decode cX11_behind 40 = .ok (.iload_n 2, 1) := by decide +kernel
theorem dX11_behind_41 : decode cX11_behind 41 = .ok (.iload_n 3, 1) := by decide +kernel
theorem dX11_behind_42 : decode cX11_behind 42 = .ok (.invokevirtual 96, 3) := by decide +kernel
theorem dX11_behind_45 : decode cX11_behind 45 = .ok (.ireturn, 1) := by decide +kernel
theorem dX11_plans_0 : decode cX11_plans 0 = .ok (.iload_n 1, 1) := by decide +kernel
theorem dX11_plans_1 : decode cX11_plans 1 = .ok (.iconst 0, 1) := by decide +kernel
theorem dX11_plans_2 : decode cX11_plans 2 = .ok (.bipush 15, 2) := by decide +kernel
theorem dX11_plans_4 : decode cX11_plans 4 = .ok (.invokestatic 99, 3) := by decide +kernel
theorem dX11_plans_7 : decode cX11_plans 7 = .ok (.ifCond .eq 13, 3) := by decide +kernel
theorem dX11_plans_10 : decode cX11_plans 10 = .ok (.iload_n 2, 1) := by decide +kernel
theorem dX11_plans_11 : decode cX11_plans 11 = .ok (.iconst 0, 1) := by decide +kernel
theorem dX11_plans_12 : decode cX11_plans 12 = .ok (.bipush 7, 2) := by decide +kernel
theorem dX11_plans_14 : decode cX11_plans 14 = .ok (.invokestatic 99, 3) := by decide +kernel
theorem dX11_plans_17 : decode cX11_plans 17 = .ok (.ifCond .ne 10, 3) := by decide +kernel
theorem dX11_plans_20 : decode cX11_plans 20 = .ok (.aload_n 0, 1) := by decide +kernel
theorem dX11_plans_21 : decode cX11_plans 21 = .ok (.bipush (-2), 2) := by decide +kernel
theorem dX11_plans_23 : decode cX11_plans 23 = .ok (.invokevirtual 64, 3) := by decide +kernel
theorem dX11_plans_26 : decode cX11_plans 26 = .ok (.ireturn, 1) := by decide +kernel
theorem dX11_plans_27 : decode cX11_plans 27 = .ok (.aload_n 0, 1) := by decide +kernel
theorem dX11_plans_28 : decode cX11_plans 28 = .ok (.getfield 19, 3) := by decide +kernel
theorem dX11_plans_31 : decode cX11_plans 31 = .ok (.aload_n 0, 1) := by decide +kernel
theorem dX11_plans_32 : decode cX11_plans 32 = .ok (.getfield 10, 3) := by decide +kernel
theorem dX11_plans_35 : decode cX11_plans 35 = .ok (.invokevirtual 68, 3) := by decide +kernel
theorem dX11_plans_38 : decode cX11_plans 38 = .ok (.aload_n 0, 1) := by decide +kernel
theorem dX11_plans_39 : decode cX11_plans 39 = .ok (.getfield 10, 3) := by decide +kernel
theorem dX11_plans_42 : decode cX11_plans 42 = .ok (.getfield 103, 3) := by decide +kernel
theorem dX11_plans_45 : decode cX11_plans 45 = .ok (.iload_n 1, 1) := by decide +kernel
theorem dX11_plans_46 : decode cX11_plans 46 = .ok (.invokestatic 107, 3) := by decide +kernel
theorem dX11_plans_49 : decode cX11_plans 49 = .ok (.istore_n 3, 1) := by decide +kernel
theorem dX11_plans_50 : decode cX11_plans 50 = .ok (.aload_n 0, 1) := by decide +kernel
theorem dX11_plans_51 : decode cX11_plans 51 = .ok (.getfield 10, 3) := by decide +kernel
theorem dX11_plans_54 : decode cX11_plans 54 = .ok (.aload_n 0, 1) := by decide +kernel
theorem dX11_plans_55 : decode cX11_plans 55 = .ok (.getfield 10, 3) := by decide +kernel
theorem dX11_plans_58 : decode cX11_plans 58 = .ok (.getfield 103, 3) := by decide +kernel
theorem dX11_plans_61 : decode cX11_plans 61 = .ok (.iload_n 1, 1) := by decide +kernel
theorem dX11_plans_62 : decode cX11_plans 62 = .ok (.iload_n 2, 1) := by decide +kernel
theorem dX11_plans_63 : decode cX11_plans 63 = .ok (.invokestatic 113, 3) := by decide +kernel
theorem dX11_plans_66 : decode cX11_plans 66 = .ok (.putfield 103, 3) := by decide +kernel
theorem dX11_plans_69 : decode cX11_plans 69 = .ok (.iload_n 3, 1) := by decide +kernel
theorem dX11_plans_70 : decode cX11_plans 70 = .ok (.ireturn, 1) := by decide +kernel
theorem dX11_of_0 : decode cX11_of 0 = .ok (.aload_n 0, 1) := by decide +kernel
theorem dX11_of_1 : decode cX11_of 1 = .ok (.getfield 10, 3) := by decide +kernel
theorem dX11_of_4 : decode cX11_of 4 = .ok (.getfield 25, 3) := by decide +kernel
theorem dX11_of_7 : decode cX11_of 7 = .ok (.iload_n 1, 1) := by decide +kernel
theorem dX11_of_8 : decode cX11_of 8 = .ok (.invokevirtual 117, 3) := by decide +kernel
theorem dX11_of_11 : decode cX11_of 11 = .ok (.ifCond .eq 13, 3) := by decide +kernel
theorem dX11_of_14 : decode cX11_of 14 = .ok (.iload_n 2, 1) := by decide +kernel
theorem dX11_of_15 : decode cX11_of 15 = .ok (.iconst 0, 1) := by decide +kernel
theorem dX11_of_16 : decode cX11_of 16 = .ok (.bipush 7, 2) := by decide +kernel
theorem dX11_of_18 : decode cX11_of 18 = .ok (.invokestatic 99, 3) := by decide +kernel
theorem dX11_of_21 : decode cX11_of 21 = .ok (.ifCond .ne 10, 3) := by decide +kernel
theorem dX11_of_24 : decode cX11_of 24 = .ok (.aload_n 0, 1) := by decide +kernel
theorem dX11_of_25 : decode cX11_of 25 = .ok (.bipush (-2), 2) := by decide +kernel
theorem dX11_of_27 : decode cX11_of 27 = .ok (.invokevirtual 64, 3) := by decide +kernel
theorem dX11_of_30 : decode cX11_of 30 = .ok (.ireturn, 1) := by decide +kernel
theorem dX11_of_31 : decode cX11_of 31 = .ok (.iload_n 2, 1) := by decide +kernel
theorem dX11_of_32 : decode cX11_of 32 = .ok (.tableswitch 150 0 6 #[44, 59, 74, 89, 104, 116, 133], 44) := by decide +kernel
theorem dX11_of_76 : decode cX11_of 76 = .ok (.aload_n 0, 1) := by decide +kernel
theorem dX11_of_77 : decode cX11_of 77 = .ok (.getfield 10, 3) := by decide +kernel
theorem dX11_of_80 : decode cX11_of 80 = .ok (.getfield 25, 3) := by decide +kernel
theorem dX11_of_83 : decode cX11_of 83 = .ok (.getfield 121, 3) := by decide +kernel
theorem dX11_of_86 : decode cX11_of 86 = .ok (.iload_n 1, 1) := by decide +kernel
theorem dX11_of_87 : decode cX11_of 87 = .ok (.invokestatic 125, 3) := by decide +kernel
theorem dX11_of_90 : decode cX11_of 90 = .ok (.ireturn, 1) := by decide +kernel
theorem dX11_of_91 : decode cX11_of 91 = .ok (.aload_n 0, 1) := by decide +kernel
theorem dX11_of_92 : decode cX11_of 92 = .ok (.getfield 10, 3) := by decide +kernel
theorem dX11_of_95 : decode cX11_of 95 = .ok (.getfield 25, 3) := by decide +kernel
theorem dX11_of_98 : decode cX11_of 98 = .ok (.getfield 131, 3) := by decide +kernel
theorem dX11_of_101 : decode cX11_of 101 = .ok (.iload_n 1, 1) := by decide +kernel
theorem dX11_of_102 : decode cX11_of 102 = .ok (.invokestatic 125, 3) := by decide +kernel
theorem dX11_of_105 : decode cX11_of 105 = .ok (.ireturn, 1) := by decide +kernel
theorem dX11_of_106 : decode cX11_of 106 = .ok (.aload_n 0, 1) := by decide +kernel
theorem dX11_of_107 : decode cX11_of 107 = .ok (.getfield 10, 3) := by decide +kernel
theorem dX11_of_110 : decode cX11_of 110 = .ok (.getfield 25, 3) := by decide +kernel
theorem dX11_of_113 : decode cX11_of 113 = .ok (.getfield 134, 3) := by decide +kernel
theorem dX11_of_116 : decode cX11_of 116 = .ok (.iload_n 1, 1) := by decide +kernel
theorem dX11_of_117 : decode cX11_of 117 = .ok (.invokestatic 125, 3) := by decide +kernel
theorem dX11_of_120 : decode cX11_of 120 = .ok (.ireturn, 1) := by decide +kernel
theorem dX11_of_121 : decode cX11_of 121 = .ok (.aload_n 0, 1) := by decide +kernel
theorem dX11_of_122 : decode cX11_of 122 = .ok (.getfield 10, 3) := by decide +kernel
theorem dX11_of_125 : decode cX11_of 125 = .ok (.getfield 25, 3) := by decide +kernel
theorem dX11_of_128 : decode cX11_of 128 = .ok (.getfield 137, 3) := by decide +kernel
theorem dX11_of_131 : decode cX11_of 131 = .ok (.iload_n 1, 1) := by decide +kernel
theorem dX11_of_132 : decode cX11_of 132 = .ok (.invokestatic 125, 3) := by decide +kernel
theorem dX11_of_135 : decode cX11_of 135 = .ok (.ireturn, 1) := by decide +kernel
theorem dX11_of_136 : decode cX11_of 136 = .ok (.aload_n 0, 1) := by decide +kernel
theorem dX11_of_137 : decode cX11_of 137 = .ok (.getfield 10, 3) := by decide +kernel
theorem dX11_of_140 : decode cX11_of 140 = .ok (.getfield 25, 3) := by decide +kernel
theorem dX11_of_143 : decode cX11_of 143 = .ok (.iload_n 1, 1) := by decide +kernel
theorem dX11_of_144 : decode cX11_of 144 = .ok (.invokevirtual 85, 3) := by decide +kernel
theorem dX11_of_147 : decode cX11_of 147 = .ok (.ireturn, 1) := by decide +kernel
theorem dX11_of_148 : decode cX11_of 148 = .ok (.aload_n 0, 1) := by decide +kernel
theorem dX11_of_149 : decode cX11_of 149 = .ok (.getfield 10, 3) := by decide +kernel
theorem dX11_of_152 : decode cX11_of 152 = .ok (.getfield 25, 3) := by decide +kernel
theorem dX11_of_155 : decode cX11_of 155 = .ok (.getfield 140, 3) := by decide +kernel
theorem dX11_of_158 : decode cX11_of 158 = .ok (.iload_n 1, 1) := by decide +kernel
theorem dX11_of_159 : decode cX11_of 159 = .ok (.invokestatic 125, 3) := by decide +kernel
theorem dX11_of_162 : decode cX11_of 162 = .ok (.iconst 3, 1) := by decide +kernel
theorem dX11_of_163 : decode cX11_of 163 = .ok (.iadd, 1) := by decide +kernel
theorem dX11_of_164 : decode cX11_of 164 = .ok (.ireturn, 1) := by decide +kernel
theorem dX11_of_165 : decode cX11_of 165 = .ok (.aload_n 0, 1) := by decide +kernel
theorem dX11_of_166 : decode cX11_of 166 = .ok (.getfield 10, 3) := by decide +kernel
theorem dX11_of_169 : decode cX11_of 169 = .ok (.getfield 25, 3) := by decide +kernel
theorem dX11_of_172 : decode cX11_of 172 = .ok (.getfield 143, 3) := by decide +kernel
theorem dX11_of_175 : decode cX11_of 175 = .ok (.iload_n 1, 1) := by decide +kernel
theorem dX11_of_176 : decode cX11_of 176 = .ok (.invokestatic 125, 3) := by decide +kernel
theorem dX11_of_179 : decode cX11_of 179 = .ok (.iconst 3, 1) := by decide +kernel
theorem dX11_of_180 : decode cX11_of 180 = .ok (.iadd, 1) := by decide +kernel
theorem dX11_of_181 : decode cX11_of 181 = .ok (.ireturn, 1) := by decide +kernel
theorem dX11_of_182 : decode cX11_of 182 = .ok (.aload_n 0, 1) := by decide +kernel
theorem dX11_of_183 : decode cX11_of 183 = .ok (.getfield 10, 3) := by decide +kernel
theorem dX11_of_186 : decode cX11_of 186 = .ok (.getfield 25, 3) := by decide +kernel
theorem dX11_of_189 : decode cX11_of 189 = .ok (.getfield 146, 3) := by decide +kernel
theorem dX11_of_192 : decode cX11_of 192 = .ok (.iload_n 1, 1) := by decide +kernel
theorem dX11_of_193 : decode cX11_of 193 = .ok (.invokestatic 125, 3) := by decide +kernel
theorem dX11_of_196 : decode cX11_of 196 = .ok (.ireturn, 1) := by decide +kernel
theorem dX11_common_0 : decode cX11_common 0 = .ok (.aload_n 0, 1) := by decide +kernel
theorem dX11_common_1 : decode cX11_common 1 = .ok (.getfield 10, 3) := by decide +kernel
theorem dX11_common_4 : decode cX11_common 4 = .ok (.getfield 25, 3) := by decide +kernel
theorem dX11_common_7 : decode cX11_common 7 = .ok (.iload_n 1, 1) := by decide +kernel
theorem dX11_common_8 : decode cX11_common 8 = .ok (.iload_n 2, 1) := by decide +kernel
theorem dX11_common_9 : decode cX11_common 9 = .ok (.invokevirtual 149, 3) := by decide +kernel
theorem dX11_common_12 : decode cX11_common 12 = .ok (.ifCond .eq 12, 3) := by decide +kernel
theorem dX11_common_15 : decode cX11_common 15 = .ok (.iload_n 3, 1) := by decide +kernel
theorem dX11_common_16 : decode cX11_common 16 = .ok (.iconst 0, 1) := by decide +kernel
theorem dX11_common_17 : decode cX11_common 17 = .ok (.iconst 1, 1) := by decide +kernel
theorem dX11_common_18 : decode cX11_common 18 = .ok (.invokestatic 99, 3) := by decide +kernel
theorem dX11_common_21 : decode cX11_common 21 = .ok (.ifCond .ne 10, 3) := by decide +kernel
theorem dX11_common_24 : decode cX11_common 24 = .ok (.aload_n 0, 1) := by decide +kernel
theorem dX11_common_25 : decode cX11_common 25 = .ok (.bipush (-2), 2) := by decide +kernel
theorem dX11_common_27 : decode cX11_common 27 = .ok (.invokevirtual 64, 3) := by decide +kernel
theorem dX11_common_30 : decode cX11_common 30 = .ok (.ireturn, 1) := by decide +kernel
theorem dX11_common_31 : decode cX11_common 31 = .ok (.aload_n 0, 1) := by decide +kernel
theorem dX11_common_32 : decode cX11_common 32 = .ok (.getfield 10, 3) := by decide +kernel
theorem dX11_common_35 : decode cX11_common 35 = .ok (.getfield 25, 3) := by decide +kernel
theorem dX11_common_38 : decode cX11_common 38 = .ok (.iload_n 1, 1) := by decide +kernel
theorem dX11_common_39 : decode cX11_common 39 = .ok (.invokevirtual 85, 3) := by decide +kernel
theorem dX11_common_42 : decode cX11_common 42 = .ok (.aload_n 0, 1) := by decide +kernel
theorem dX11_common_43 : decode cX11_common 43 = .ok (.getfield 10, 3) := by decide +kernel
theorem dX11_common_46 : decode cX11_common 46 = .ok (.getfield 25, 3) := by decide +kernel
theorem dX11_common_49 : decode cX11_common 49 = .ok (.iload_n 2, 1) := by decide +kernel
theorem dX11_common_50 : decode cX11_common 50 = .ok (.invokevirtual 85, 3) := by decide +kernel
theorem dX11_common_53 : decode cX11_common 53 = .ok (.iand, 1) := by decide +kernel
theorem dX11_common_54 : decode cX11_common 54 = .ok (.istore 4, 2) := by decide +kernel
theorem dX11_common_56 : decode cX11_common 56 = .ok (.iload_n 3, 1) := by decide +kernel
theorem dX11_common_57 : decode cX11_common 57 = .ok (.ifCond .ne 11, 3) := by decide +kernel
theorem dX11_common_60 : decode cX11_common 60 = .ok (.iload 4, 2) := by decide +kernel
theorem dX11_common_62 : decode cX11_common 62 = .ok (.invokestatic 88, 3) := by decide +kernel
theorem dX11_common_65 : decode cX11_common 65 = .ok (.goto 5, 3) := by decide +kernel
theorem dX11_common_68 : decode cX11_common 68 = .ok (.iload 4, 2) := by decide +kernel
theorem dX11_common_70 : decode cX11_common 70 = .ok (.ireturn, 1) := by decide +kernel
theorem dX11_fit_0 : decode cX11_fit 0 = .ok (.aload_n 0, 1) := by decide +kernel
theorem dX11_fit_1 : decode cX11_fit 1 = .ok (.getfield 10, 3) := by decide +kernel
theorem dX11_fit_4 : decode cX11_fit 4 = .ok (.getfield 25, 3) := by decide +kernel
theorem dX11_fit_7 : decode cX11_fit 7 = .ok (.iload_n 1, 1) := by decide +kernel
theorem dX11_fit_8 : decode cX11_fit 8 = .ok (.invokevirtual 117, 3) := by decide +kernel
theorem dX11_fit_11 : decode cX11_fit 11 = .ok (.ifCond .eq 12, 3) := by decide +kernel
theorem dX11_fit_14 : decode cX11_fit 14 = .ok (.iload_n 2, 1) := by decide +kernel
theorem dX11_fit_15 : decode cX11_fit 15 = .ok (.iconst 0, 1) := by decide +kernel
theorem dX11_fit_16 : decode cX11_fit 16 = .ok (.iconst 2, 1) := by decide +kernel
theorem dX11_fit_17 : decode cX11_fit 17 = .ok (.invokestatic 99, 3) := by decide +kernel
theorem dX11_fit_20 : decode cX11_fit 20 = .ok (.ifCond .ne 10, 3) := by decide +kernel
theorem dX11_fit_23 : decode cX11_fit 23 = .ok (.aload_n 0, 1) := by decide +kernel
theorem dX11_fit_24 : decode cX11_fit 24 = .ok (.bipush (-2), 2) := by decide +kernel
theorem dX11_fit_26 : decode cX11_fit 26 = .ok (.invokevirtual 64, 3) := by decide +kernel
theorem dX11_fit_29 : decode cX11_fit 29 = .ok (.ireturn, 1) := by decide +kernel
theorem dX11_fit_30 : decode cX11_fit 30 = .ok (.aload_n 0, 1) := by decide +kernel
theorem dX11_fit_31 : decode cX11_fit 31 = .ok (.getfield 10, 3) := by decide +kernel
theorem dX11_fit_34 : decode cX11_fit 34 = .ok (.getfield 103, 3) := by decide +kernel
theorem dX11_fit_37 : decode cX11_fit 37 = .ok (.aload_n 0, 1) := by decide +kernel
theorem dX11_fit_38 : decode cX11_fit 38 = .ok (.getfield 10, 3) := by decide +kernel
theorem dX11_fit_41 : decode cX11_fit 41 = .ok (.getfield 25, 3) := by decide +kernel
theorem dX11_fit_44 : decode cX11_fit 44 = .ok (.getfield 131, 3) := by decide +kernel
theorem dX11_fit_47 : decode cX11_fit 47 = .ok (.iload_n 1, 1) := by decide +kernel
theorem dX11_fit_48 : decode cX11_fit 48 = .ok (.invokestatic 125, 3) := by decide +kernel
theorem dX11_fit_51 : decode cX11_fit 51 = .ok (.invokestatic 153, 3) := by decide +kernel
theorem dX11_fit_54 : decode cX11_fit 54 = .ok (.istore_n 3, 1) := by decide +kernel
theorem dX11_fit_55 : decode cX11_fit 55 = .ok (.aload_n 0, 1) := by decide +kernel
theorem dX11_fit_56 : decode cX11_fit 56 = .ok (.getfield 10, 3) := by decide +kernel
theorem dX11_fit_59 : decode cX11_fit 59 = .ok (.getfield 25, 3) := by decide +kernel
theorem dX11_fit_62 : decode cX11_fit 62 = .ok (.getfield 137, 3) := by decide +kernel
theorem dX11_fit_65 : decode cX11_fit 65 = .ok (.iload_n 1, 1) := by decide +kernel
theorem dX11_fit_66 : decode cX11_fit 66 = .ok (.invokestatic 125, 3) := by decide +kernel
theorem dX11_fit_69 : decode cX11_fit 69 = .ok (.istore 4, 2) := by decide +kernel
theorem dX11_fit_71 : decode cX11_fit 71 = .ok (.bipush (-3), 2) := by decide +kernel
theorem dX11_fit_73 : decode cX11_fit 73 = .ok (.istore 5, 2) := by decide +kernel
theorem dX11_fit_75 : decode cX11_fit 75 = .ok (.bipush (-3), 2) := by decide +kernel
theorem dX11_fit_77 : decode cX11_fit 77 = .ok (.istore 6, 2) := by decide +kernel
theorem dX11_fit_79 : decode cX11_fit 79 = .ok (.bipush (-17), 2) := by decide +kernel
theorem dX11_fit_81 : decode cX11_fit 81 = .ok (.istore 7, 2) := by decide +kernel
theorem dX11_fit_83 : decode cX11_fit 83 = .ok (.bipush (-3), 2) := by decide +kernel
theorem dX11_fit_85 : decode cX11_fit 85 = .ok (.istore 8, 2) := by decide +kernel
theorem dX11_fit_87 : decode cX11_fit 87 = .ok (.iload 8, 2) := by decide +kernel
theorem dX11_fit_89 : decode cX11_fit 89 = .ok (.iconst 3, 1) := by decide +kernel
theorem dX11_fit_90 : decode cX11_fit 90 = .ok (.if_icmp .gt 59, 3) := by decide +kernel
theorem dX11_fit_93 : decode cX11_fit 93 = .ok (.bipush (-3), 2) := by decide +kernel
theorem dX11_fit_95 : decode cX11_fit 95 = .ok (.istore 9, 2) := by decide +kernel
theorem dX11_fit_97 : decode cX11_fit 97 = .ok (.iload 9, 2) := by decide +kernel
theorem dX11_fit_99 : decode cX11_fit 99 = .ok (.iconst 3, 1) := by decide +kernel
theorem dX11_fit_100 : decode cX11_fit 100 = .ok (.if_icmp .gt 43, 3) := by decide +kernel
theorem dX11_fit_103 : decode cX11_fit 103 = .ok (.iload 4, 2) := by decide +kernel
theorem dX11_fit_105 : decode cX11_fit 105 = .ok (.iload 9, 2) := by decide +kernel
theorem dX11_fit_107 : decode cX11_fit 107 = .ok (.iload 8, 2) := by decide +kernel
theorem dX11_fit_109 : decode cX11_fit 109 = .ok (.invokestatic 156, 3) := by decide +kernel
theorem dX11_fit_112 : decode cX11_fit 112 = .ok (.iload_n 3, 1) := by decide +kernel
theorem dX11_fit_113 : decode cX11_fit 113 = .ok (.invokestatic 159, 3) := by decide +kernel
theorem dX11_fit_116 : decode cX11_fit 116 = .ok (.istore 10, 2) := by decide +kernel
theorem dX11_fit_118 : decode cX11_fit 118 = .ok (.iload 10, 2) := by decide +kernel
theorem dX11_fit_120 : decode cX11_fit 120 = .ok (.iload 7, 2) := by decide +kernel
theorem dX11_fit_122 : decode cX11_fit 122 = .ok (.if_icmp .le 15, 3) := by decide +kernel
theorem dX11_fit_125 : decode cX11_fit 125 = .ok (.iload 10, 2) := by decide +kernel
theorem dX11_fit_127 : decode cX11_fit 127 = .ok (.istore 7, 2) := by decide +kernel
theorem dX11_fit_129 : decode cX11_fit 129 = .ok (.iload 9, 2) := by decide +kernel
theorem dX11_fit_131 : decode cX11_fit 131 = .ok (.istore 5, 2) := by decide +kernel
theorem dX11_fit_133 : decode cX11_fit 133 = .ok (.iload 8, 2) := by decide +kernel
theorem dX11_fit_135 : decode cX11_fit 135 = .ok (.istore 6, 2) := by decide +kernel
theorem dX11_fit_137 : decode cX11_fit 137 = .ok (.iinc 9 1, 3) := by decide +kernel
theorem dX11_fit_140 : decode cX11_fit 140 = .ok (.goto (-43), 3) := by decide +kernel
theorem dX11_fit_143 : decode cX11_fit 143 = .ok (.iinc 8 1, 3) := by decide +kernel
theorem dX11_fit_146 : decode cX11_fit 146 = .ok (.goto (-59), 3) := by decide +kernel
theorem dX11_fit_149 : decode cX11_fit 149 = .ok (.iload_n 2, 1) := by decide +kernel
theorem dX11_fit_150 : decode cX11_fit 150 = .ok (.iconst 2, 1) := by decide +kernel
theorem dX11_fit_151 : decode cX11_fit 151 = .ok (.if_icmp .ne 9, 3) := by decide +kernel
theorem dX11_fit_154 : decode cX11_fit 154 = .ok (.iload 7, 2) := by decide +kernel
theorem dX11_fit_156 : decode cX11_fit 156 = .ok (.bipush 16, 2) := by decide +kernel
theorem dX11_fit_158 : decode cX11_fit 158 = .ok (.iadd, 1) := by decide +kernel
theorem dX11_fit_159 : decode cX11_fit 159 = .ok (.ireturn, 1) := by decide +kernel
theorem dX11_fit_160 : decode cX11_fit 160 = .ok (.iload_n 2, 1) := by decide +kernel
theorem dX11_fit_161 : decode cX11_fit 161 = .ok (.ifCond .ne 8, 3) := by decide +kernel
theorem dX11_fit_164 : decode cX11_fit 164 = .ok (.iload 5, 2) := by decide +kernel
theorem dX11_fit_166 : decode cX11_fit 166 = .ok (.goto 5, 3) := by decide +kernel
theorem dX11_fit_169 : decode cX11_fit 169 = .ok (.iload 6, 2) := by decide +kernel
theorem dX11_fit_171 : decode cX11_fit 171 = .ok (.iconst 3, 1) := by decide +kernel
theorem dX11_fit_172 : decode cX11_fit 172 = .ok (.iadd, 1) := by decide +kernel
theorem dX11_fit_173 : decode cX11_fit 173 = .ok (.ireturn, 1) := by decide +kernel
theorem dX11_lawful_0 : decode cX11_lawful 0 = .ok (.aload_n 0, 1) := by decide +kernel
theorem dX11_lawful_1 : decode cX11_lawful 1 = .ok (.getfield 32, 3) := by decide +kernel
theorem dX11_lawful_4 : decode cX11_lawful 4 = .ok (.invokevirtual 163, 3) := by decide +kernel
theorem dX11_lawful_7 : decode cX11_lawful 7 = .ok (.ireturn, 1) := by decide +kernel
theorem dX11_least_0 : decode cX11_least 0 = .ok (.iload_n 1, 1) := by decide +kernel
theorem dX11_least_1 : decode cX11_least 1 = .ok (.iconst 1, 1) := by decide +kernel
theorem dX11_least_2 : decode cX11_least 2 = .ok (.bipush 9, 2) := by decide +kernel
theorem dX11_least_4 : decode cX11_least 4 = .ok (.invokestatic 99, 3) := by decide +kernel
theorem dX11_least_7 : decode cX11_least 7 = .ok (.ifCond .eq 8, 3) := by decide +kernel
theorem dX11_least_10 : decode cX11_least 10 = .ok (.iload_n 2, 1) := by decide +kernel
theorem dX11_least_11 : decode cX11_least 11 = .ok (.iconst (-1), 1) := by decide +kernel
theorem dX11_least_12 : decode cX11_least 12 = .ok (.if_icmp .ge 10, 3) := by decide +kernel
theorem dX11_least_15 : decode cX11_least 15 = .ok (.aload_n 0, 1) := by decide +kernel
theorem dX11_least_16 : decode cX11_least 16 = .ok (.bipush (-2), 2) := by decide +kernel
theorem dX11_least_18 : decode cX11_least 18 = .ok (.invokevirtual 167, 3) := by decide +kernel
theorem dX11_least_21 : decode cX11_least 21 = .ok (.ireturn, 1) := by decide +kernel
theorem dX11_least_22 : decode cX11_least 22 = .ok (.aload_n 0, 1) := by decide +kernel
theorem dX11_least_23 : decode cX11_least 23 = .ok (.getfield 32, 3) := by decide +kernel
theorem dX11_least_26 : decode cX11_least 26 = .ok (.invokevirtual 163, 3) := by decide +kernel
theorem dX11_least_29 : decode cX11_least 29 = .ok (.ifCond .ne 10, 3) := by decide +kernel
theorem dX11_least_32 : decode cX11_least 32 = .ok (.aload_n 0, 1) := by decide +kernel
theorem dX11_least_33 : decode cX11_least 33 = .ok (.bipush (-3), 2) := by decide +kernel
theorem dX11_least_35 : decode cX11_least 35 = .ok (.invokevirtual 167, 3) := by decide +kernel
theorem dX11_least_38 : decode cX11_least 38 = .ok (.ireturn, 1) := by decide +kernel
theorem dX11_least_39 : decode cX11_least 39 = .ok (.aload_n 0, 1) := by decide +kernel
theorem dX11_least_40 : decode cX11_least 40 = .ok (.getfield 32, 3) := by decide +kernel
theorem dX11_least_43 : decode cX11_least 43 = .ok (.iconst 0, 1) := by decide +kernel
theorem dX11_least_44 : decode cX11_least 44 = .ok (.iload_n 1, 1) := by decide +kernel
theorem dX11_least_45 : decode cX11_least 45 = .ok (.aload_n 0, 1) := by decide +kernel
theorem dX11_least_46 : decode cX11_least 46 = .ok (.getfield 10, 3) := by decide +kernel
theorem dX11_least_49 : decode cX11_least 49 = .ok (.getfield 103, 3) := by decide +kernel
theorem dX11_least_52 : decode cX11_least 52 = .ok (.invokevirtual 170, 3) := by decide +kernel
theorem dX11_least_55 : decode cX11_least 55 = .ok (.iload_n 2, 1) := by decide +kernel
theorem dX11_least_56 : decode cX11_least 56 = .ok (.iconst (-1), 1) := by decide +kernel
theorem dX11_least_57 : decode cX11_least 57 = .ok (.if_icmp .ne 13, 3) := by decide +kernel
theorem dX11_least_60 : decode cX11_least 60 = .ok (.aload_n 0, 1) := by decide +kernel
theorem dX11_least_61 : decode cX11_least 61 = .ok (.getfield 32, 3) := by decide +kernel
theorem dX11_least_64 : decode cX11_least 64 = .ok (.getfield 174, 3) := by decide +kernel
theorem dX11_least_67 : decode cX11_least 67 = .ok (.goto 8, 3) := by decide +kernel
theorem dX11_least_70 : decode cX11_least 70 = .ok (.aload_n 0, 1) := by decide +kernel
theorem dX11_least_71 : decode cX11_least 71 = .ok (.iload_n 2, 1) := by decide +kernel
theorem dX11_least_72 : decode cX11_least 72 = .ok (.invokevirtual 177, 3) := by decide +kernel
theorem dX11_least_75 : decode cX11_least 75 = .ok (.ireturn, 1) := by decide +kernel
theorem dX11_nearest_0 : decode cX11_nearest 0 = .ok (.iload_n 1, 1) := by decide +kernel
theorem dX11_nearest_1 : decode cX11_nearest 1 = .ok (.iconst 1, 1) := by decide +kernel
theorem dX11_nearest_2 : decode cX11_nearest 2 = .ok (.bipush 9, 2) := by decide +kernel
theorem dX11_nearest_4 : decode cX11_nearest 4 = .ok (.invokestatic 99, 3) := by decide +kernel
theorem dX11_nearest_7 : decode cX11_nearest 7 = .ok (.ifCond .eq 9, 3) := by decide +kernel
theorem dX11_nearest_10 : decode cX11_nearest 10 = .ok (.iload_n 2, 1) := by decide +kernel
theorem dX11_nearest_11 : decode cX11_nearest 11 = .ok (.bipush (-2), 2) := by decide +kernel
theorem dX11_nearest_13 : decode cX11_nearest 13 = .ok (.if_icmp .ge 10, 3) := by decide +kernel
theorem dX11_nearest_16 : decode cX11_nearest 16 = .ok (.aload_n 0, 1) := by decide +kernel
theorem dX11_nearest_17 : decode cX11_nearest 17 = .ok (.bipush (-2), 2) := by decide +kernel
theorem dX11_nearest_19 : decode cX11_nearest 19 = .ok (.invokevirtual 167, 3) := by decide +kernel
theorem dX11_nearest_22 : decode cX11_nearest 22 = .ok (.ireturn, 1) := by decide +kernel
theorem dX11_nearest_23 : decode cX11_nearest 23 = .ok (.aload_n 0, 1) := by decide +kernel
theorem dX11_nearest_24 : decode cX11_nearest 24 = .ok (.getfield 32, 3) := by decide +kernel
theorem dX11_nearest_27 : decode cX11_nearest 27 = .ok (.invokevirtual 163, 3) := by decide +kernel
theorem dX11_nearest_30 : decode cX11_nearest 30 = .ok (.ifCond .ne 10, 3) := by decide +kernel
theorem dX11_nearest_33 : decode cX11_nearest 33 = .ok (.aload_n 0, 1) := by decide +kernel
theorem dX11_nearest_34 : decode cX11_nearest 34 = .ok (.bipush (-3), 2) := by decide +kernel
theorem dX11_nearest_36 : decode cX11_nearest 36 = .ok (.invokevirtual 167, 3) := by decide +kernel
theorem dX11_nearest_39 : decode cX11_nearest 39 = .ok (.ireturn, 1) := by decide +kernel
theorem dX11_nearest_40 : decode cX11_nearest 40 = .ok (.aload_n 0, 1) := by decide +kernel
theorem dX11_nearest_41 : decode cX11_nearest 41 = .ok (.getfield 32, 3) := by decide +kernel
theorem dX11_nearest_44 : decode cX11_nearest 44 = .ok (.iconst 1, 1) := by decide +kernel
theorem dX11_nearest_45 : decode cX11_nearest 45 = .ok (.iload_n 1, 1) := by decide +kernel
theorem dX11_nearest_46 : decode cX11_nearest 46 = .ok (.aload_n 0, 1) := by decide +kernel
theorem dX11_nearest_47 : decode cX11_nearest 47 = .ok (.getfield 10, 3) := by decide +kernel
theorem dX11_nearest_50 : decode cX11_nearest 50 = .ok (.getfield 103, 3) := by decide +kernel
theorem dX11_nearest_53 : decode cX11_nearest 53 = .ok (.invokevirtual 170, 3) := by decide +kernel
theorem dX11_nearest_56 : decode cX11_nearest 56 = .ok (.iload_n 2, 1) := by decide +kernel
theorem dX11_nearest_57 : decode cX11_nearest 57 = .ok (.iconst (-1), 1) := by decide +kernel
theorem dX11_nearest_58 : decode cX11_nearest 58 = .ok (.if_icmp .ne 11, 3) := by decide +kernel
theorem dX11_nearest_61 : decode cX11_nearest 61 = .ok (.aload_n 0, 1) := by decide +kernel
theorem dX11_nearest_62 : decode cX11_nearest 62 = .ok (.getfield 32, 3) := by decide +kernel
theorem dX11_nearest_65 : decode cX11_nearest 65 = .ok (.getfield 180, 3) := by decide +kernel
theorem dX11_nearest_68 : decode cX11_nearest 68 = .ok (.ireturn, 1) := by decide +kernel
theorem dX11_nearest_69 : decode cX11_nearest 69 = .ok (.iload_n 2, 1) := by decide +kernel
theorem dX11_nearest_70 : decode cX11_nearest 70 = .ok (.bipush (-2), 2) := by decide +kernel
theorem dX11_nearest_72 : decode cX11_nearest 72 = .ok (.if_icmp .ne 13, 3) := by decide +kernel
theorem dX11_nearest_75 : decode cX11_nearest 75 = .ok (.aload_n 0, 1) := by decide +kernel
theorem dX11_nearest_76 : decode cX11_nearest 76 = .ok (.getfield 32, 3) := by decide +kernel
theorem dX11_nearest_79 : decode cX11_nearest 79 = .ok (.getfield 174, 3) := by decide +kernel
theorem dX11_nearest_82 : decode cX11_nearest 82 = .ok (.goto 8, 3) := by decide +kernel
theorem dX11_nearest_85 : decode cX11_nearest 85 = .ok (.aload_n 0, 1) := by decide +kernel
theorem dX11_nearest_86 : decode cX11_nearest 86 = .ok (.iload_n 2, 1) := by decide +kernel
theorem dX11_nearest_87 : decode cX11_nearest 87 = .ok (.invokevirtual 177, 3) := by decide +kernel
theorem dX11_nearest_90 : decode cX11_nearest 90 = .ok (.ireturn, 1) := by decide +kernel
theorem dX11_sheets_0 : decode cX11_sheets 0 = .ok (.aload_n 0, 1) := by decide +kernel
theorem dX11_sheets_1 : decode cX11_sheets 1 = .ok (.getfield 32, 3) := by decide +kernel
theorem dX11_sheets_4 : decode cX11_sheets 4 = .ok (.iconst 2, 1) := by decide +kernel
theorem dX11_sheets_5 : decode cX11_sheets 5 = .ok (.iconst 1, 1) := by decide +kernel
theorem dX11_sheets_6 : decode cX11_sheets 6 = .ok (.aload_n 0, 1) := by decide +kernel
theorem dX11_sheets_7 : decode cX11_sheets 7 = .ok (.getfield 10, 3) := by decide +kernel
theorem dX11_sheets_10 : decode cX11_sheets 10 = .ok (.getfield 103, 3) := by decide +kernel
theorem dX11_sheets_13 : decode cX11_sheets 13 = .ok (.invokevirtual 170, 3) := by decide +kernel
theorem dX11_sheets_16 : decode cX11_sheets 16 = .ok (.aload_n 0, 1) := by decide +kernel
theorem dX11_sheets_17 : decode cX11_sheets 17 = .ok (.getfield 32, 3) := by decide +kernel
theorem dX11_sheets_20 : decode cX11_sheets 20 = .ok (.getfield 183, 3) := by decide +kernel
theorem dX11_sheets_23 : decode cX11_sheets 23 = .ok (.getfield 187, 3) := by decide +kernel
theorem dX11_sheets_26 : decode cX11_sheets 26 = .ok (.ireturn, 1) := by decide +kernel
theorem dX11_prints_0 : decode cX11_prints 0 = .ok (.aload_n 0, 1) := by decide +kernel
theorem dX11_prints_1 : decode cX11_prints 1 = .ok (.iload_n 1, 1) := by decide +kernel
theorem dX11_prints_2 : decode cX11_prints 2 = .ok (.iload_n 2, 1) := by decide +kernel
theorem dX11_prints_3 : decode cX11_prints 3 = .ok (.invokevirtual 192, 3) := by decide +kernel
theorem dX11_prints_6 : decode cX11_prints 6 = .ok (.istore_n 3, 1) := by decide +kernel
theorem dX11_prints_7 : decode cX11_prints 7 = .ok (.iload_n 3, 1) := by decide +kernel
theorem dX11_prints_8 : decode cX11_prints 8 = .ok (.ifCond .eq 9, 3) := by decide +kernel
theorem dX11_prints_11 : decode cX11_prints 11 = .ok (.aload_n 0, 1) := by decide +kernel
theorem dX11_prints_12 : decode cX11_prints 12 = .ok (.iload_n 3, 1) := by decide +kernel
theorem dX11_prints_13 : decode cX11_prints 13 = .ok (.invokevirtual 64, 3) := by decide +kernel
theorem dX11_prints_16 : decode cX11_prints 16 = .ok (.ireturn, 1) := by decide +kernel
theorem dX11_prints_17 : decode cX11_prints 17 = .ok (.aload_n 0, 1) := by decide +kernel
theorem dX11_prints_18 : decode cX11_prints 18 = .ok (.getfield 19, 3) := by decide +kernel
theorem dX11_prints_21 : decode cX11_prints 21 = .ok (.aload_n 0, 1) := by decide +kernel
theorem dX11_prints_22 : decode cX11_prints 22 = .ok (.getfield 10, 3) := by decide +kernel
theorem dX11_prints_25 : decode cX11_prints 25 = .ok (.invokevirtual 68, 3) := by decide +kernel
theorem dX11_prints_28 : decode cX11_prints 28 = .ok (.aload_n 0, 1) := by decide +kernel
theorem dX11_prints_29 : decode cX11_prints 29 = .ok (.getfield 10, 3) := by decide +kernel
theorem dX11_prints_32 : decode cX11_prints 32 = .ok (.getfield 195, 3) := by decide +kernel
theorem dX11_prints_35 : decode cX11_prints 35 = .ok (.aload_n 0, 1) := by decide +kernel
theorem dX11_prints_36 : decode cX11_prints 36 = .ok (.getfield 10, 3) := by decide +kernel
theorem dX11_prints_39 : decode cX11_prints 39 = .ok (.getfield 25, 3) := by decide +kernel
theorem dX11_prints_42 : decode cX11_prints 42 = .ok (.iload_n 1, 1) := by decide +kernel
theorem dX11_prints_43 : decode cX11_prints 43 = .ok (.iload_n 2, 1) := by decide +kernel
theorem dX11_prints_44 : decode cX11_prints 44 = .ok (.invokevirtual 199, 3) := by decide +kernel
theorem dX11_prints_47 : decode cX11_prints 47 = .ok (.ireturn, 1) := by decide +kernel
theorem dX11_news_0 : decode cX11_news 0 = .ok (.aload_n 0, 1) := by decide +kernel
theorem dX11_news_1 : decode cX11_news 1 = .ok (.getfield 19, 3) := by decide +kernel
theorem dX11_news_4 : decode cX11_news 4 = .ok (.aload_n 0, 1) := by decide +kernel
theorem dX11_news_5 : decode cX11_news 5 = .ok (.getfield 10, 3) := by decide +kernel
theorem dX11_news_8 : decode cX11_news 8 = .ok (.invokevirtual 68, 3) := by decide +kernel
theorem dX11_news_11 : decode cX11_news 11 = .ok (.aload_n 0, 1) := by decide +kernel
theorem dX11_news_12 : decode cX11_news 12 = .ok (.getfield 10, 3) := by decide +kernel
theorem dX11_news_15 : decode cX11_news 15 = .ok (.getfield 195, 3) := by decide +kernel
theorem dX11_news_18 : decode cX11_news 18 = .ok (.invokevirtual 205, 3) := by decide +kernel
theorem dX11_news_21 : decode cX11_news 21 = .ok (.ireturn, 1) := by decide +kernel
theorem dX11_cell_0 : decode cX11_cell 0 = .ok (.iload_n 1, 1) := by decide +kernel
theorem dX11_cell_1 : decode cX11_cell 1 = .ok (.iconst 0, 1) := by decide +kernel
theorem dX11_cell_2 : decode cX11_cell 2 = .ok (.bipush 15, 2) := by decide +kernel
theorem dX11_cell_4 : decode cX11_cell 4 = .ok (.invokestatic 99, 3) := by decide +kernel
theorem dX11_cell_7 : decode cX11_cell 7 = .ok (.ifCond .eq 12, 3) := by decide +kernel
theorem dX11_cell_10 : decode cX11_cell 10 = .ok (.iload_n 2, 1) := by decide +kernel
theorem dX11_cell_11 : decode cX11_cell 11 = .ok (.iconst 0, 1) := by decide +kernel
theorem dX11_cell_12 : decode cX11_cell 12 = .ok (.iconst 3, 1) := by decide +kernel
theorem dX11_cell_13 : decode cX11_cell 13 = .ok (.invokestatic 99, 3) := by decide +kernel
theorem dX11_cell_16 : decode cX11_cell 16 = .ok (.ifCond .ne 10, 3) := by decide +kernel
theorem dX11_cell_19 : decode cX11_cell 19 = .ok (.aload_n 0, 1) := by decide +kernel
theorem dX11_cell_20 : decode cX11_cell 20 = .ok (.bipush (-2), 2) := by decide +kernel
theorem dX11_cell_22 : decode cX11_cell 22 = .ok (.invokevirtual 64, 3) := by decide +kernel
theorem dX11_cell_25 : decode cX11_cell 25 = .ok (.ireturn, 1) := by decide +kernel
theorem dX11_cell_26 : decode cX11_cell 26 = .ok (.aload_n 0, 1) := by decide +kernel
theorem dX11_cell_27 : decode cX11_cell 27 = .ok (.getfield 10, 3) := by decide +kernel
theorem dX11_cell_30 : decode cX11_cell 30 = .ok (.getfield 195, 3) := by decide +kernel
theorem dX11_cell_33 : decode cX11_cell 33 = .ok (.getfield 208, 3) := by decide +kernel
theorem dX11_cell_36 : decode cX11_cell 36 = .ok (.astore_n 3, 1) := by decide +kernel
theorem dX11_cell_37 : decode cX11_cell 37 = .ok (.iload_n 2, 1) := by decide +kernel
theorem dX11_cell_38 : decode cX11_cell 38 = .ok (.tableswitch 53 0 2 #[26, 35, 44], 26) := by decide +kernel
theorem dX11_cell_64 : decode cX11_cell 64 = .ok (.aload_n 3, 1) := by decide +kernel
theorem dX11_cell_65 : decode cX11_cell 65 = .ok (.getfield 212, 3) := by decide +kernel
theorem dX11_cell_68 : decode cX11_cell 68 = .ok (.iload_n 1, 1) := by decide +kernel
theorem dX11_cell_69 : decode cX11_cell 69 = .ok (.invokestatic 107, 3) := by decide +kernel
theorem dX11_cell_72 : decode cX11_cell 72 = .ok (.ireturn, 1) := by decide +kernel
theorem dX11_cell_73 : decode cX11_cell 73 = .ok (.aload_n 3, 1) := by decide +kernel
theorem dX11_cell_74 : decode cX11_cell 74 = .ok (.getfield 216, 3) := by decide +kernel
theorem dX11_cell_77 : decode cX11_cell 77 = .ok (.iload_n 1, 1) := by decide +kernel
theorem dX11_cell_78 : decode cX11_cell 78 = .ok (.invokestatic 107, 3) := by decide +kernel
theorem dX11_cell_81 : decode cX11_cell 81 = .ok (.ireturn, 1) := by decide +kernel
theorem dX11_cell_82 : decode cX11_cell 82 = .ok (.aload_n 3, 1) := by decide +kernel
theorem dX11_cell_83 : decode cX11_cell 83 = .ok (.getfield 219, 3) := by decide +kernel
theorem dX11_cell_86 : decode cX11_cell 86 = .ok (.iload_n 1, 1) := by decide +kernel
theorem dX11_cell_87 : decode cX11_cell 87 = .ok (.iushr, 1) := by decide +kernel
theorem dX11_cell_88 : decode cX11_cell 88 = .ok (.iconst 1, 1) := by decide +kernel
theorem dX11_cell_89 : decode cX11_cell 89 = .ok (.iand, 1) := by decide +kernel
theorem dX11_cell_90 : decode cX11_cell 90 = .ok (.ireturn, 1) := by decide +kernel
theorem dX11_cell_91 : decode cX11_cell 91 = .ok (.aload_n 0, 1) := by decide +kernel
theorem dX11_cell_92 : decode cX11_cell 92 = .ok (.getfield 10, 3) := by decide +kernel
theorem dX11_cell_95 : decode cX11_cell 95 = .ok (.getfield 195, 3) := by decide +kernel
theorem dX11_cell_98 : decode cX11_cell 98 = .ok (.aload_n 0, 1) := by decide +kernel
theorem dX11_cell_99 : decode cX11_cell 99 = .ok (.getfield 10, 3) := by decide +kernel
theorem dX11_cell_102 : decode cX11_cell 102 = .ok (.getfield 25, 3) := by decide +kernel
theorem dX11_cell_105 : decode cX11_cell 105 = .ok (.iload_n 1, 1) := by decide +kernel
theorem dX11_cell_106 : decode cX11_cell 106 = .ok (.invokevirtual 222, 3) := by decide +kernel
theorem dX11_cell_109 : decode cX11_cell 109 = .ok (.ireturn, 1) := by decide +kernel
theorem dX11_hand_0 : decode cX11_hand 0 = .ok (.aload_n 0, 1) := by decide +kernel
theorem dX11_hand_1 : decode cX11_hand 1 = .ok (.getfield 10, 3) := by decide +kernel
theorem dX11_hand_4 : decode cX11_hand 4 = .ok (.getfield 195, 3) := by decide +kernel
theorem dX11_hand_7 : decode cX11_hand 7 = .ok (.getfield 208, 3) := by decide +kernel
theorem dX11_hand_10 : decode cX11_hand 10 = .ok (.astore_n 2, 1) := by decide +kernel
theorem dX11_hand_11 : decode cX11_hand 11 = .ok (.iload_n 1, 1) := by decide +kernel
theorem dX11_hand_12 : decode cX11_hand 12 = .ok (.tableswitch 126 0 6 #[44, 55, 66, 77, 89, 107, 118], 44) := by decide +kernel
theorem dX11_hand_56 : decode cX11_hand 56 = .ok (.aload_n 0, 1) := by decide +kernel
theorem dX11_hand_57 : decode cX11_hand 57 = .ok (.getfield 10, 3) := by decide +kernel
theorem dX11_hand_60 : decode cX11_hand 60 = .ok (.getfield 195, 3) := by decide +kernel
theorem dX11_hand_63 : decode cX11_hand 63 = .ok (.getfield 226, 3) := by decide +kernel
theorem dX11_hand_66 : decode cX11_hand 66 = .ok (.ireturn, 1) := by decide +kernel
theorem dX11_hand_67 : decode cX11_hand 67 = .ok (.aload_n 0, 1) := by decide +kernel
theorem dX11_hand_68 : decode cX11_hand 68 = .ok (.getfield 10, 3) := by decide +kernel
theorem dX11_hand_71 : decode cX11_hand 71 = .ok (.getfield 195, 3) := by decide +kernel
theorem dX11_hand_74 : decode cX11_hand 74 = .ok (.getfield 229, 3) := by decide +kernel
theorem dX11_hand_77 : decode cX11_hand 77 = .ok (.ireturn, 1) := by decide +kernel
theorem dX11_hand_78 : decode cX11_hand 78 = .ok (.aload_n 0, 1) := by decide +kernel
theorem dX11_hand_79 : decode cX11_hand 79 = .ok (.getfield 10, 3) := by decide +kernel
theorem dX11_hand_82 : decode cX11_hand 82 = .ok (.getfield 195, 3) := by decide +kernel
theorem dX11_hand_85 : decode cX11_hand 85 = .ok (.getfield 232, 3) := by decide +kernel
theorem dX11_hand_88 : decode cX11_hand 88 = .ok (.ireturn, 1) := by decide +kernel
theorem dX11_hand_89 : decode cX11_hand 89 = .ok (.aload_n 2, 1) := by decide +kernel
theorem dX11_hand_90 : decode cX11_hand 90 = .ok (.aload_n 0, 1) := by decide +kernel
theorem dX11_hand_91 : decode cX11_hand 91 = .ok (.getfield 10, 3) := by decide +kernel
theorem dX11_hand_94 : decode cX11_hand 94 = .ok (.getfield 103, 3) := by decide +kernel
theorem dX11_hand_97 : decode cX11_hand 97 = .ok (.invokevirtual 235, 3) := by decide +kernel
theorem dX11_hand_100 : decode cX11_hand 100 = .ok (.ireturn, 1) := by decide +kernel
theorem dX11_hand_101 : decode cX11_hand 101 = .ok (.aload_n 0, 1) := by decide +kernel
theorem dX11_hand_102 : decode cX11_hand 102 = .ok (.getfield 10, 3) := by decide +kernel
theorem dX11_hand_105 : decode cX11_hand 105 = .ok (.getfield 195, 3) := by decide +kernel
theorem dX11_hand_108 : decode cX11_hand 108 = .ok (.aload_n 0, 1) := by decide +kernel
theorem dX11_hand_109 : decode cX11_hand 109 = .ok (.getfield 10, 3) := by decide +kernel
theorem dX11_hand_112 : decode cX11_hand 112 = .ok (.getfield 25, 3) := by decide +kernel
theorem dX11_hand_115 : decode cX11_hand 115 = .ok (.invokevirtual 239, 3) := by decide +kernel
theorem dX11_hand_118 : decode cX11_hand 118 = .ok (.ireturn, 1) := by decide +kernel
theorem dX11_hand_119 : decode cX11_hand 119 = .ok (.aload_n 2, 1) := by decide +kernel
theorem dX11_hand_120 : decode cX11_hand 120 = .ok (.getfield 216, 3) := by decide +kernel
theorem dX11_hand_123 : decode cX11_hand 123 = .ok (.invokestatic 243, 3) := by decide +kernel
theorem dX11_hand_126 : decode cX11_hand 126 = .ok (.invokestatic 247, 3) := by decide +kernel
theorem dX11_hand_129 : decode cX11_hand 129 = .ok (.ireturn, 1) := by decide +kernel
theorem dX11_hand_130 : decode cX11_hand 130 = .ok (.aload_n 2, 1) := by decide +kernel
theorem dX11_hand_131 : decode cX11_hand 131 = .ok (.getfield 219, 3) := by decide +kernel
theorem dX11_hand_134 : decode cX11_hand 134 = .ok (.invokestatic 88, 3) := by decide +kernel
theorem dX11_hand_137 : decode cX11_hand 137 = .ok (.ireturn, 1) := by decide +kernel
theorem dX11_hand_138 : decode cX11_hand 138 = .ok (.aload_n 0, 1) := by decide +kernel
theorem dX11_hand_139 : decode cX11_hand 139 = .ok (.bipush (-2), 2) := by decide +kernel
theorem dX11_hand_141 : decode cX11_hand 141 = .ok (.invokevirtual 64, 3) := by decide +kernel
theorem dX11_hand_144 : decode cX11_hand 144 = .ok (.ireturn, 1) := by decide +kernel
theorem dX11_print_0 : decode cX11_print 0 = .ok (.iload_n 1, 1) := by decide +kernel
theorem dX11_print_1 : decode cX11_print 1 = .ok (.ifCond .lt 12, 3) := by decide +kernel
theorem dX11_print_4 : decode cX11_print 4 = .ok (.iload_n 2, 1) := by decide +kernel
theorem dX11_print_5 : decode cX11_print 5 = .ok (.iconst 0, 1) := by decide +kernel
theorem dX11_print_6 : decode cX11_print 6 = .ok (.iconst 2, 1) := by decide +kernel
theorem dX11_print_7 : decode cX11_print 7 = .ok (.invokestatic 99, 3) := by decide +kernel
theorem dX11_print_10 : decode cX11_print 10 = .ok (.ifCond .ne 10, 3) := by decide +kernel
theorem dX11_print_13 : decode cX11_print 13 = .ok (.aload_n 0, 1) := by decide +kernel
theorem dX11_print_14 : decode cX11_print 14 = .ok (.bipush (-2), 2) := by decide +kernel
theorem dX11_print_16 : decode cX11_print 16 = .ok (.invokevirtual 64, 3) := by decide +kernel
theorem dX11_print_19 : decode cX11_print 19 = .ok (.ireturn, 1) := by decide +kernel
theorem dX11_print_20 : decode cX11_print 20 = .ok (.iload_n 1, 1) := by decide +kernel
theorem dX11_print_21 : decode cX11_print 21 = .ok (.aload_n 0, 1) := by decide +kernel
theorem dX11_print_22 : decode cX11_print 22 = .ok (.getfield 10, 3) := by decide +kernel
theorem dX11_print_25 : decode cX11_print 25 = .ok (.getfield 195, 3) := by decide +kernel
theorem dX11_print_28 : decode cX11_print 28 = .ok (.getfield 229, 3) := by decide +kernel
theorem dX11_print_31 : decode cX11_print 31 = .ok (.if_icmp .lt 5, 3) := by decide +kernel
theorem dX11_print_34 : decode cX11_print 34 = .ok (.iconst (-1), 1) := by decide +kernel
theorem dX11_print_35 : decode cX11_print 35 = .ok (.ireturn, 1) := by decide +kernel
theorem dX11_print_36 : decode cX11_print 36 = .ok (.iload_n 2, 1) := by decide +kernel
theorem dX11_print_37 : decode cX11_print 37 = .ok (.lookupswitch 57 #[(0, 27), (1, 42)], 27) := by decide +kernel
theorem dX11_print_64 : decode cX11_print 64 = .ok (.aload_n 0, 1) := by decide +kernel
theorem dX11_print_65 : decode cX11_print 65 = .ok (.getfield 10, 3) := by decide +kernel
theorem dX11_print_68 : decode cX11_print 68 = .ok (.getfield 195, 3) := by decide +kernel
theorem dX11_print_71 : decode cX11_print 71 = .ok (.getfield 251, 3) := by decide +kernel
theorem dX11_print_74 : decode cX11_print 74 = .ok (.iload_n 1, 1) := by decide +kernel
theorem dX11_print_75 : decode cX11_print 75 = .ok (.invokestatic 125, 3) := by decide +kernel
theorem dX11_print_78 : decode cX11_print 78 = .ok (.ireturn, 1) := by decide +kernel
theorem dX11_print_79 : decode cX11_print 79 = .ok (.aload_n 0, 1) := by decide +kernel
theorem dX11_print_80 : decode cX11_print 80 = .ok (.getfield 10, 3) := by decide +kernel
theorem dX11_print_83 : decode cX11_print 83 = .ok (.getfield 195, 3) := by decide +kernel
theorem dX11_print_86 : decode cX11_print 86 = .ok (.getfield 254, 3) := by decide +kernel
theorem dX11_print_89 : decode cX11_print 89 = .ok (.iload_n 1, 1) := by decide +kernel
theorem dX11_print_90 : decode cX11_print 90 = .ok (.invokestatic 125, 3) := by decide +kernel
theorem dX11_print_93 : decode cX11_print 93 = .ok (.ireturn, 1) := by decide +kernel
theorem dX11_print_94 : decode cX11_print 94 = .ok (.aload_n 0, 1) := by decide +kernel
theorem dX11_print_95 : decode cX11_print 95 = .ok (.getfield 10, 3) := by decide +kernel
theorem dX11_print_98 : decode cX11_print 98 = .ok (.getfield 195, 3) := by decide +kernel
theorem dX11_print_101 : decode cX11_print 101 = .ok (.getfield 257, 3) := by decide +kernel
theorem dX11_print_104 : decode cX11_print 104 = .ok (.iload_n 1, 1) := by decide +kernel
theorem dX11_print_105 : decode cX11_print 105 = .ok (.invokestatic 125, 3) := by decide +kernel
theorem dX11_print_108 : decode cX11_print 108 = .ok (.ireturn, 1) := by decide +kernel
theorem dX11_type_0 : decode cX11_type 0 = .ok (.iload_n 1, 1) := by decide +kernel
theorem dX11_type_1 : decode cX11_type 1 = .ok (.iconst 0, 1) := by decide +kernel
theorem dX11_type_2 : decode cX11_type 2 = .ok (.bipush 127, 2) := by decide +kernel
theorem dX11_type_4 : decode cX11_type 4 = .ok (.invokestatic 99, 3) := by decide +kernel
theorem dX11_type_7 : decode cX11_type 7 = .ok (.ifCond .ne 10, 3) := by decide +kernel
theorem dX11_type_10 : decode cX11_type 10 = .ok (.aload_n 0, 1) := by decide +kernel
theorem dX11_type_11 : decode cX11_type 11 = .ok (.bipush (-2), 2) := by decide +kernel
theorem dX11_type_13 : decode cX11_type 13 = .ok (.invokevirtual 64, 3) := by decide +kernel
theorem dX11_type_16 : decode cX11_type 16 = .ok (.ireturn, 1) := by decide +kernel
theorem dX11_type_17 : decode cX11_type 17 = .ok (.aload_n 0, 1) := by decide +kernel
theorem dX11_type_18 : decode cX11_type 18 = .ok (.getfield 39, 3) := by decide +kernel
theorem dX11_type_21 : decode cX11_type 21 = .ok (.getfield 260, 3) := by decide +kernel
theorem dX11_type_24 : decode cX11_type 24 = .ok (.sipush 150, 3) := by decide +kernel
theorem dX11_type_27 : decode cX11_type 27 = .ok (.if_icmp .lt 10, 3) := by decide +kernel
theorem dX11_type_30 : decode cX11_type 30 = .ok (.aload_n 0, 1) := by decide +kernel
theorem dX11_type_31 : decode cX11_type 31 = .ok (.bipush (-4), 2) := by decide +kernel
theorem dX11_type_33 : decode cX11_type 33 = .ok (.invokevirtual 64, 3) := by decide +kernel
theorem dX11_type_36 : decode cX11_type 36 = .ok (.ireturn, 1) := by decide +kernel
theorem dX11_type_37 : decode cX11_type 37 = .ok (.aload_n 0, 1) := by decide +kernel
theorem dX11_type_38 : decode cX11_type 38 = .ok (.getfield 39, 3) := by decide +kernel
theorem dX11_type_41 : decode cX11_type 41 = .ok (.iload_n 1, 1) := by decide +kernel
theorem dX11_type_42 : decode cX11_type 42 = .ok (.invokevirtual 263, 3) := by decide +kernel
theorem dX11_type_45 : decode cX11_type 45 = .ok (.aload_n 0, 1) := by decide +kernel
theorem dX11_type_46 : decode cX11_type 46 = .ok (.getfield 39, 3) := by decide +kernel
theorem dX11_type_49 : decode cX11_type 49 = .ok (.getfield 260, 3) := by decide +kernel
theorem dX11_type_52 : decode cX11_type 52 = .ok (.ireturn, 1) := by decide +kernel
theorem dX11_clear_0 : decode cX11_clear 0 = .ok (.aload_n 0, 1) := by decide +kernel
theorem dX11_clear_1 : decode cX11_clear 1 = .ok (.getfield 39, 3) := by decide +kernel
theorem dX11_clear_4 : decode cX11_clear 4 = .ok (.getfield 260, 3) := by decide +kernel
theorem dX11_clear_7 : decode cX11_clear 7 = .ok (.istore_n 1, 1) := by decide +kernel
theorem dX11_clear_8 : decode cX11_clear 8 = .ok (.aload_n 0, 1) := by decide +kernel
theorem dX11_clear_9 : decode cX11_clear 9 = .ok (.getfield 39, 3) := by decide +kernel
theorem dX11_clear_12 : decode cX11_clear 12 = .ok (.iconst 0, 1) := by decide +kernel
theorem dX11_clear_13 : decode cX11_clear 13 = .ok (.putfield 260, 3) := by decide +kernel
theorem dX11_clear_16 : decode cX11_clear 16 = .ok (.iload_n 1, 1) := by decide +kernel
theorem dX11_clear_17 : decode cX11_clear 17 = .ok (.ireturn, 1) := by decide +kernel
theorem dX11_reads_0 : decode cX11_reads 0 = .ok (.aload_n 0, 1) := by decide +kernel
theorem dX11_reads_1 : decode cX11_reads 1 = .ok (.invokevirtual 266, 3) := by decide +kernel
theorem dX11_reads_4 : decode cX11_reads 4 = .ok (.istore_n 1, 1) := by decide +kernel
theorem dX11_reads_5 : decode cX11_reads 5 = .ok (.iload_n 1, 1) := by decide +kernel
theorem dX11_reads_6 : decode cX11_reads 6 = .ok (.iconst (-1), 1) := by decide +kernel
theorem dX11_reads_7 : decode cX11_reads 7 = .ok (.if_icmp .eq 8, 3) := by decide +kernel
theorem dX11_reads_10 : decode cX11_reads 10 = .ok (.bipush (-10), 2) := by decide +kernel
theorem dX11_reads_12 : decode cX11_reads 12 = .ok (.iload_n 1, 1) := by decide +kernel
theorem dX11_reads_13 : decode cX11_reads 13 = .ok (.isub, 1) := by decide +kernel
theorem dX11_reads_14 : decode cX11_reads 14 = .ok (.ireturn, 1) := by decide +kernel
theorem dX11_reads_15 : decode cX11_reads 15 = .ok (.aload_n 0, 1) := by decide +kernel
theorem dX11_reads_16 : decode cX11_reads 16 = .ok (.getfield 19, 3) := by decide +kernel
theorem dX11_reads_19 : decode cX11_reads 19 = .ok (.aload_n 0, 1) := by decide +kernel
theorem dX11_reads_20 : decode cX11_reads 20 = .ok (.getfield 10, 3) := by decide +kernel
theorem dX11_reads_23 : decode cX11_reads 23 = .ok (.invokevirtual 68, 3) := by decide +kernel
theorem dX11_reads_26 : decode cX11_reads 26 = .ok (.aload_n 0, 1) := by decide +kernel
theorem dX11_reads_27 : decode cX11_reads 27 = .ok (.invokevirtual 269, 3) := by decide +kernel
theorem dX11_reads_30 : decode cX11_reads 30 = .ok (.ireturn, 1) := by decide +kernel
theorem dX11_back_0 : decode cX11_back 0 = .ok (.aload_n 0, 1) := by decide +kernel
theorem dX11_back_1 : decode cX11_back 1 = .ok (.getfield 19, 3) := by decide +kernel
theorem dX11_back_4 : decode cX11_back 4 = .ok (.getfield 272, 3) := by decide +kernel
theorem dX11_back_7 : decode cX11_back 7 = .ok (.ifCond .ne 10, 3) := by decide +kernel
theorem dX11_back_10 : decode cX11_back 10 = .ok (.aload_n 0, 1) := by decide +kernel
theorem dX11_back_11 : decode cX11_back 11 = .ok (.bipush (-3), 2) := by decide +kernel
theorem dX11_back_13 : decode cX11_back 13 = .ok (.invokevirtual 64, 3) := by decide +kernel
theorem dX11_back_16 : decode cX11_back 16 = .ok (.ireturn, 1) := by decide +kernel
theorem dX11_back_17 : decode cX11_back 17 = .ok (.aload_n 0, 1) := by decide +kernel
theorem dX11_back_18 : decode cX11_back 18 = .ok (.getfield 19, 3) := by decide +kernel
theorem dX11_back_21 : decode cX11_back 21 = .ok (.aload_n 0, 1) := by decide +kernel
theorem dX11_back_22 : decode cX11_back 22 = .ok (.getfield 10, 3) := by decide +kernel
theorem dX11_back_25 : decode cX11_back 25 = .ok (.invokevirtual 273, 3) := by decide +kernel
theorem dX11_back_28 : decode cX11_back 28 = .ok (.aload_n 0, 1) := by decide +kernel
theorem dX11_back_29 : decode cX11_back 29 = .ok (.getfield 19, 3) := by decide +kernel
theorem dX11_back_32 : decode cX11_back 32 = .ok (.getfield 272, 3) := by decide +kernel
theorem dX11_back_35 : decode cX11_back 35 = .ok (.ireturn, 1) := by decide +kernel
theorem dX11_told_0 : decode cX11_told 0 = .ok (.iload_n 1, 1) := by decide +kernel
theorem dX11_told_1 : decode cX11_told 1 = .ok (.tableswitch 81 0 5 #[39, 44, 49, 54, 62, 73], 39) := by decide +kernel
theorem dX11_told_40 : decode cX11_told 40 = .ok (.aload_n 0, 1) := by decide +kernel
theorem dX11_told_41 : decode cX11_told 41 = .ok (.getfield 50, 3) := by decide +kernel
theorem dX11_told_44 : decode cX11_told 44 = .ok (.ireturn, 1) := by decide +kernel
theorem dX11_told_45 : decode cX11_told 45 = .ok (.aload_n 0, 1) := by decide +kernel
theorem dX11_told_46 : decode cX11_told 46 = .ok (.getfield 54, 3) := by decide +kernel
theorem dX11_told_49 : decode cX11_told 49 = .ok (.ireturn, 1) := by decide +kernel
theorem dX11_told_50 : decode cX11_told 50 = .ok (.aload_n 0, 1) := by decide +kernel
theorem dX11_told_51 : decode cX11_told 51 = .ok (.getfield 57, 3) := by decide +kernel
theorem dX11_told_54 : decode cX11_told 54 = .ok (.ireturn, 1) := by decide +kernel
theorem dX11_told_55 : decode cX11_told 55 = .ok (.aload_n 0, 1) := by decide +kernel
theorem dX11_told_56 : decode cX11_told 56 = .ok (.getfield 39, 3) := by decide +kernel
theorem dX11_told_59 : decode cX11_told 59 = .ok (.getfield 260, 3) := by decide +kernel
theorem dX11_told_62 : decode cX11_told 62 = .ok (.ireturn, 1) := by decide +kernel
theorem dX11_told_63 : decode cX11_told 63 = .ok (.aload_n 0, 1) := by decide +kernel
theorem dX11_told_64 : decode cX11_told 64 = .ok (.getfield 10, 3) := by decide +kernel
theorem dX11_told_67 : decode cX11_told 67 = .ok (.getfield 25, 3) := by decide +kernel
theorem dX11_told_70 : decode cX11_told 70 = .ok (.getfield 276, 3) := by decide +kernel
theorem dX11_told_73 : decode cX11_told 73 = .ok (.ireturn, 1) := by decide +kernel
theorem dX11_told_74 : decode cX11_told 74 = .ok (.aload_n 0, 1) := by decide +kernel
theorem dX11_told_75 : decode cX11_told 75 = .ok (.getfield 19, 3) := by decide +kernel
theorem dX11_told_78 : decode cX11_told 78 = .ok (.getfield 272, 3) := by decide +kernel
theorem dX11_told_81 : decode cX11_told 81 = .ok (.ireturn, 1) := by decide +kernel
theorem dX11_told_82 : decode cX11_told 82 = .ok (.aload_n 0, 1) := by decide +kernel
end
section
theorem dX11_told_83 : decode cX11_told 83 = .ok (.bipush (-2), 2) := by decide +kernel
theorem dX11_told_85 : decode cX11_told 85 = .ok (.invokevirtual 64, 3) := by decide +kernel
theorem dX11_told_88 : decode cX11_told 88 = .ok (.ireturn, 1) := by decide +kernel
theorem dX11_digest_0 : decode cX11_digest 0 = .ok (.ldc2_w 277, 3) := by decide +kernel
theorem dX11_digest_3 : decode cX11_digest 3 = .ok (.lstore_n 1, 1) := by decide +kernel
theorem dX11_digest_4 : decode cX11_digest 4 = .ok (.iconst 0, 1) := by decide +kernel
theorem dX11_digest_5 : decode cX11_digest 5 = .ok (.istore_n 3, 1) := by decide +kernel
theorem dX11_digest_6 : decode cX11_digest 6 = .ok (.iload_n 3, 1) := by decide +kernel
theorem dX11_digest_7 : decode cX11_digest 7 = .ok (.iconst 5, 1) := by decide +kernel
theorem dX11_digest_8 : decode cX11_digest 8 = .ok (.if_icmp .gt 22, 3) := by decide +kernel
theorem dX11_digest_11 : decode cX11_digest 11 = .ok (.ldc2_w 279, 3) := by decide +kernel
theorem dX11_digest_14 : decode cX11_digest 14 = .ok (.lload_n 1, 1) := by decide +kernel
theorem dX11_digest_15 : decode cX11_digest 15 = .ok (.lmul, 1) := by decide +kernel
theorem dX11_digest_16 : decode cX11_digest 16 = .ok (.aload_n 0, 1) := by decide +kernel
theorem dX11_digest_17 : decode cX11_digest 17 = .ok (.iload_n 3, 1) := by decide +kernel
theorem dX11_digest_18 : decode cX11_digest 18 = .ok (.invokevirtual 281, 3) := by decide +kernel
theorem dX11_digest_21 : decode cX11_digest 21 = .ok (.i2l, 1) := by decide +kernel
theorem dX11_digest_22 : decode cX11_digest 22 = .ok (.ladd, 1) := by decide +kernel
theorem dX11_digest_23 : decode cX11_digest 23 = .ok (.lstore_n 1, 1) := by decide +kernel
theorem dX11_digest_24 : decode cX11_digest 24 = .ok (.iinc 3 1, 3) := by decide +kernel
theorem dX11_digest_27 : decode cX11_digest 27 = .ok (.goto (-21), 3) := by decide +kernel
theorem dX11_digest_30 : decode cX11_digest 30 = .ok (.iconst 0, 1) := by decide +kernel
theorem dX11_digest_31 : decode cX11_digest 31 = .ok (.istore_n 3, 1) := by decide +kernel
theorem dX11_digest_32 : decode cX11_digest 32 = .ok (.iload_n 3, 1) := by decide +kernel
theorem dX11_digest_33 : decode cX11_digest 33 = .ok (.aload_n 0, 1) := by decide +kernel
theorem dX11_digest_34 : decode cX11_digest 34 = .ok (.getfield 10, 3) := by decide +kernel
theorem dX11_digest_37 : decode cX11_digest 37 = .ok (.getfield 25, 3) := by decide +kernel
theorem dX11_digest_40 : decode cX11_digest 40 = .ok (.getfield 276, 3) := by decide +kernel
theorem dX11_digest_43 : decode cX11_digest 43 = .ok (.if_icmp .ge 40, 3) := by decide +kernel
theorem dX11_digest_46 : decode cX11_digest 46 = .ok (.iconst 0, 1) := by decide +kernel
theorem dX11_digest_47 : decode cX11_digest 47 = .ok (.istore 4, 2) := by decide +kernel
theorem dX11_digest_49 : decode cX11_digest 49 = .ok (.iload 4, 2) := by decide +kernel
theorem dX11_digest_51 : decode cX11_digest 51 = .ok (.bipush 7, 2) := by decide +kernel
theorem dX11_digest_53 : decode cX11_digest 53 = .ok (.if_icmp .gt 24, 3) := by decide +kernel
theorem dX11_digest_56 : decode cX11_digest 56 = .ok (.ldc2_w 279, 3) := by decide +kernel
theorem dX11_digest_59 : decode cX11_digest 59 = .ok (.lload_n 1, 1) := by decide +kernel
theorem dX11_digest_60 : decode cX11_digest 60 = .ok (.lmul, 1) := by decide +kernel
theorem dX11_digest_61 : decode cX11_digest 61 = .ok (.aload_n 0, 1) := by decide +kernel
theorem dX11_digest_62 : decode cX11_digest 62 = .ok (.iload_n 3, 1) := by decide +kernel
theorem dX11_digest_63 : decode cX11_digest 63 = .ok (.iload 4, 2) := by decide +kernel
theorem dX11_digest_65 : decode cX11_digest 65 = .ok (.invokevirtual 284, 3) := by decide +kernel
theorem dX11_digest_68 : decode cX11_digest 68 = .ok (.i2l, 1) := by decide +kernel
theorem dX11_digest_69 : decode cX11_digest 69 = .ok (.ladd, 1) := by decide +kernel
theorem dX11_digest_70 : decode cX11_digest 70 = .ok (.lstore_n 1, 1) := by decide +kernel
theorem dX11_digest_71 : decode cX11_digest 71 = .ok (.iinc 4 1, 3) := by decide +kernel
theorem dX11_digest_74 : decode cX11_digest 74 = .ok (.goto (-25), 3) := by decide +kernel
theorem dX11_digest_77 : decode cX11_digest 77 = .ok (.iinc 3 1, 3) := by decide +kernel
theorem dX11_digest_80 : decode cX11_digest 80 = .ok (.goto (-48), 3) := by decide +kernel
theorem dX11_digest_83 : decode cX11_digest 83 = .ok (.iconst 0, 1) := by decide +kernel
theorem dX11_digest_84 : decode cX11_digest 84 = .ok (.istore_n 3, 1) := by decide +kernel
theorem dX11_digest_85 : decode cX11_digest 85 = .ok (.iload_n 3, 1) := by decide +kernel
theorem dX11_digest_86 : decode cX11_digest 86 = .ok (.bipush 16, 2) := by decide +kernel
theorem dX11_digest_88 : decode cX11_digest 88 = .ok (.if_icmp .ge 28, 3) := by decide +kernel
theorem dX11_digest_91 : decode cX11_digest 91 = .ok (.ldc2_w 279, 3) := by decide +kernel
theorem dX11_digest_94 : decode cX11_digest 94 = .ok (.lload_n 1, 1) := by decide +kernel
theorem dX11_digest_95 : decode cX11_digest 95 = .ok (.lmul, 1) := by decide +kernel
theorem dX11_digest_96 : decode cX11_digest 96 = .ok (.aload_n 0, 1) := by decide +kernel
theorem dX11_digest_97 : decode cX11_digest 97 = .ok (.getfield 10, 3) := by decide +kernel
theorem dX11_digest_100 : decode cX11_digest 100 = .ok (.getfield 103, 3) := by decide +kernel
theorem dX11_digest_103 : decode cX11_digest 103 = .ok (.iload_n 3, 1) := by decide +kernel
theorem dX11_digest_104 : decode cX11_digest 104 = .ok (.invokestatic 107, 3) := by decide +kernel
theorem dX11_digest_107 : decode cX11_digest 107 = .ok (.i2l, 1) := by decide +kernel
theorem dX11_digest_108 : decode cX11_digest 108 = .ok (.ladd, 1) := by decide +kernel
theorem dX11_digest_109 : decode cX11_digest 109 = .ok (.lstore_n 1, 1) := by decide +kernel
theorem dX11_digest_110 : decode cX11_digest 110 = .ok (.iinc 3 1, 3) := by decide +kernel
theorem dX11_digest_113 : decode cX11_digest 113 = .ok (.goto (-28), 3) := by decide +kernel
theorem dX11_digest_116 : decode cX11_digest 116 = .ok (.ldc2_w 279, 3) := by decide +kernel
theorem dX11_digest_119 : decode cX11_digest 119 = .ok (.lload_n 1, 1) := by decide +kernel
theorem dX11_digest_120 : decode cX11_digest 120 = .ok (.lmul, 1) := by decide +kernel
theorem dX11_digest_121 : decode cX11_digest 121 = .ok (.aload_n 0, 1) := by decide +kernel
theorem dX11_digest_122 : decode cX11_digest 122 = .ok (.invokevirtual 287, 3) := by decide +kernel
theorem dX11_digest_125 : decode cX11_digest 125 = .ok (.i2l, 1) := by decide +kernel
theorem dX11_digest_126 : decode cX11_digest 126 = .ok (.ladd, 1) := by decide +kernel
theorem dX11_digest_127 : decode cX11_digest 127 = .ok (.lstore_n 1, 1) := by decide +kernel
theorem dX11_digest_128 : decode cX11_digest 128 = .ok (.iconst 0, 1) := by decide +kernel
theorem dX11_digest_129 : decode cX11_digest 129 = .ok (.istore_n 3, 1) := by decide +kernel
theorem dX11_digest_130 : decode cX11_digest 130 = .ok (.iload_n 3, 1) := by decide +kernel
theorem dX11_digest_131 : decode cX11_digest 131 = .ok (.bipush 6, 2) := by decide +kernel
theorem dX11_digest_133 : decode cX11_digest 133 = .ok (.if_icmp .gt 22, 3) := by decide +kernel
theorem dX11_digest_136 : decode cX11_digest 136 = .ok (.ldc2_w 279, 3) := by decide +kernel
theorem dX11_digest_139 : decode cX11_digest 139 = .ok (.lload_n 1, 1) := by decide +kernel
theorem dX11_digest_140 : decode cX11_digest 140 = .ok (.lmul, 1) := by decide +kernel
theorem dX11_digest_141 : decode cX11_digest 141 = .ok (.aload_n 0, 1) := by decide +kernel
theorem dX11_digest_142 : decode cX11_digest 142 = .ok (.iload_n 3, 1) := by decide +kernel
theorem dX11_digest_143 : decode cX11_digest 143 = .ok (.invokevirtual 290, 3) := by decide +kernel
theorem dX11_digest_146 : decode cX11_digest 146 = .ok (.i2l, 1) := by decide +kernel
theorem dX11_digest_147 : decode cX11_digest 147 = .ok (.ladd, 1) := by decide +kernel
theorem dX11_digest_148 : decode cX11_digest 148 = .ok (.lstore_n 1, 1) := by decide +kernel
theorem dX11_digest_149 : decode cX11_digest 149 = .ok (.iinc 3 1, 3) := by decide +kernel
theorem dX11_digest_152 : decode cX11_digest 152 = .ok (.goto (-22), 3) := by decide +kernel
theorem dX11_digest_155 : decode cX11_digest 155 = .ok (.iconst 0, 1) := by decide +kernel
theorem dX11_digest_156 : decode cX11_digest 156 = .ok (.istore_n 3, 1) := by decide +kernel
theorem dX11_digest_157 : decode cX11_digest 157 = .ok (.iload_n 3, 1) := by decide +kernel
theorem dX11_digest_158 : decode cX11_digest 158 = .ok (.bipush 16, 2) := by decide +kernel
theorem dX11_digest_160 : decode cX11_digest 160 = .ok (.if_icmp .ge 39, 3) := by decide +kernel
theorem dX11_digest_163 : decode cX11_digest 163 = .ok (.iconst 0, 1) := by decide +kernel
theorem dX11_digest_164 : decode cX11_digest 164 = .ok (.istore 4, 2) := by decide +kernel
theorem dX11_digest_166 : decode cX11_digest 166 = .ok (.iload 4, 2) := by decide +kernel
theorem dX11_digest_168 : decode cX11_digest 168 = .ok (.iconst 3, 1) := by decide +kernel
theorem dX11_digest_169 : decode cX11_digest 169 = .ok (.if_icmp .gt 24, 3) := by decide +kernel
theorem dX11_digest_172 : decode cX11_digest 172 = .ok (.ldc2_w 279, 3) := by decide +kernel
theorem dX11_digest_175 : decode cX11_digest 175 = .ok (.lload_n 1, 1) := by decide +kernel
theorem dX11_digest_176 : decode cX11_digest 176 = .ok (.lmul, 1) := by decide +kernel
theorem dX11_digest_177 : decode cX11_digest 177 = .ok (.aload_n 0, 1) := by decide +kernel
theorem dX11_digest_178 : decode cX11_digest 178 = .ok (.iload_n 3, 1) := by decide +kernel
theorem dX11_digest_179 : decode cX11_digest 179 = .ok (.iload 4, 2) := by decide +kernel
theorem dX11_digest_181 : decode cX11_digest 181 = .ok (.invokevirtual 293, 3) := by decide +kernel
theorem dX11_digest_184 : decode cX11_digest 184 = .ok (.i2l, 1) := by decide +kernel
theorem dX11_digest_185 : decode cX11_digest 185 = .ok (.ladd, 1) := by decide +kernel
theorem dX11_digest_186 : decode cX11_digest 186 = .ok (.lstore_n 1, 1) := by decide +kernel
theorem dX11_digest_187 : decode cX11_digest 187 = .ok (.iinc 4 1, 3) := by decide +kernel
theorem dX11_digest_190 : decode cX11_digest 190 = .ok (.goto (-24), 3) := by decide +kernel
theorem dX11_digest_193 : decode cX11_digest 193 = .ok (.iinc 3 1, 3) := by decide +kernel
theorem dX11_digest_196 : decode cX11_digest 196 = .ok (.goto (-39), 3) := by decide +kernel
theorem dX11_digest_199 : decode cX11_digest 199 = .ok (.iconst 0, 1) := by decide +kernel
theorem dX11_digest_200 : decode cX11_digest 200 = .ok (.istore_n 3, 1) := by decide +kernel
theorem dX11_digest_201 : decode cX11_digest 201 = .ok (.iload_n 3, 1) := by decide +kernel
theorem dX11_digest_202 : decode cX11_digest 202 = .ok (.aload_n 0, 1) := by decide +kernel
theorem dX11_digest_203 : decode cX11_digest 203 = .ok (.getfield 10, 3) := by decide +kernel
theorem dX11_digest_206 : decode cX11_digest 206 = .ok (.getfield 195, 3) := by decide +kernel
theorem dX11_digest_209 : decode cX11_digest 209 = .ok (.getfield 229, 3) := by decide +kernel
theorem dX11_digest_212 : decode cX11_digest 212 = .ok (.if_icmp .ge 39, 3) := by decide +kernel
theorem dX11_digest_215 : decode cX11_digest 215 = .ok (.iconst 0, 1) := by decide +kernel
theorem dX11_digest_216 : decode cX11_digest 216 = .ok (.istore 4, 2) := by decide +kernel
theorem dX11_digest_218 : decode cX11_digest 218 = .ok (.iload 4, 2) := by decide +kernel
theorem dX11_digest_220 : decode cX11_digest 220 = .ok (.iconst 2, 1) := by decide +kernel
theorem dX11_digest_221 : decode cX11_digest 221 = .ok (.if_icmp .gt 24, 3) := by decide +kernel
theorem dX11_digest_224 : decode cX11_digest 224 = .ok (.ldc2_w 279, 3) := by decide +kernel
theorem dX11_digest_227 : decode cX11_digest 227 = .ok (.lload_n 1, 1) := by decide +kernel
theorem dX11_digest_228 : decode cX11_digest 228 = .ok (.lmul, 1) := by decide +kernel
theorem dX11_digest_229 : decode cX11_digest 229 = .ok (.aload_n 0, 1) := by decide +kernel
theorem dX11_digest_230 : decode cX11_digest 230 = .ok (.iload_n 3, 1) := by decide +kernel
theorem dX11_digest_231 : decode cX11_digest 231 = .ok (.iload 4, 2) := by decide +kernel
theorem dX11_digest_233 : decode cX11_digest 233 = .ok (.invokevirtual 296, 3) := by decide +kernel
theorem dX11_digest_236 : decode cX11_digest 236 = .ok (.i2l, 1) := by decide +kernel
theorem dX11_digest_237 : decode cX11_digest 237 = .ok (.ladd, 1) := by decide +kernel
theorem dX11_digest_238 : decode cX11_digest 238 = .ok (.lstore_n 1, 1) := by decide +kernel
theorem dX11_digest_239 : decode cX11_digest 239 = .ok (.iinc 4 1, 3) := by decide +kernel
theorem dX11_digest_242 : decode cX11_digest 242 = .ok (.goto (-24), 3) := by decide +kernel
theorem dX11_digest_245 : decode cX11_digest 245 = .ok (.iinc 3 1, 3) := by decide +kernel
theorem dX11_digest_248 : decode cX11_digest 248 = .ok (.goto (-47), 3) := by decide +kernel
theorem dX11_digest_251 : decode cX11_digest 251 = .ok (.lload_n 1, 1) := by decide +kernel
theorem dX11_digest_252 : decode cX11_digest 252 = .ok (.lreturn, 1) := by decide +kernel
theorem dX11_within_0 : decode cX11_within 0 = .ok (.iload_n 0, 1) := by decide +kernel
theorem dX11_within_1 : decode cX11_within 1 = .ok (.iload_n 1, 1) := by decide +kernel
theorem dX11_within_2 : decode cX11_within 2 = .ok (.if_icmp .lt 12, 3) := by decide +kernel
theorem dX11_within_5 : decode cX11_within 5 = .ok (.iload_n 0, 1) := by decide +kernel
theorem dX11_within_6 : decode cX11_within 6 = .ok (.iload_n 2, 1) := by decide +kernel
theorem dX11_within_7 : decode cX11_within 7 = .ok (.if_icmp .gt 7, 3) := by decide +kernel
theorem dX11_within_10 : decode cX11_within 10 = .ok (.iconst 1, 1) := by decide +kernel
theorem dX11_within_11 : decode cX11_within 11 = .ok (.goto 4, 3) := by decide +kernel
theorem dX11_within_14 : decode cX11_within 14 = .ok (.iconst 0, 1) := by decide +kernel
theorem dX11_within_15 : decode cX11_within 15 = .ok (.ireturn, 1) := by decide +kernel
theorem dX11_refuse_0 : decode cX11_refuse 0 = .ok (.iload_n 1, 1) := by decide +kernel
theorem dX11_refuse_1 : decode cX11_refuse 1 = .ok (.bipush (-2), 2) := by decide +kernel
theorem dX11_refuse_3 : decode cX11_refuse 3 = .ok (.if_icmp .ne 13, 3) := by decide +kernel
theorem dX11_refuse_6 : decode cX11_refuse 6 = .ok (.aload_n 0, 1) := by decide +kernel
theorem dX11_refuse_7 : decode cX11_refuse 7 = .ok (.dup, 1) := by decide +kernel
theorem dX11_refuse_8 : decode cX11_refuse 8 = .ok (.getfield 50, 3) := by decide +kernel
theorem dX11_refuse_11 : decode cX11_refuse 11 = .ok (.iconst 1, 1) := by decide +kernel
theorem dX11_refuse_12 : decode cX11_refuse 12 = .ok (.iadd, 1) := by decide +kernel
theorem dX11_refuse_13 : decode cX11_refuse 13 = .ok (.putfield 50, 3) := by decide +kernel
theorem dX11_refuse_16 : decode cX11_refuse 16 = .ok (.iload_n 1, 1) := by decide +kernel
theorem dX11_refuse_17 : decode cX11_refuse 17 = .ok (.bipush (-3), 2) := by decide +kernel
theorem dX11_refuse_19 : decode cX11_refuse 19 = .ok (.if_icmp .ne 13, 3) := by decide +kernel
theorem dX11_refuse_22 : decode cX11_refuse 22 = .ok (.aload_n 0, 1) := by decide +kernel
theorem dX11_refuse_23 : decode cX11_refuse 23 = .ok (.dup, 1) := by decide +kernel
theorem dX11_refuse_24 : decode cX11_refuse 24 = .ok (.getfield 54, 3) := by decide +kernel
theorem dX11_refuse_27 : decode cX11_refuse 27 = .ok (.iconst 1, 1) := by decide +kernel
theorem dX11_refuse_28 : decode cX11_refuse 28 = .ok (.iadd, 1) := by decide +kernel
theorem dX11_refuse_29 : decode cX11_refuse 29 = .ok (.putfield 54, 3) := by decide +kernel
theorem dX11_refuse_32 : decode cX11_refuse 32 = .ok (.iload_n 1, 1) := by decide +kernel
theorem dX11_refuse_33 : decode cX11_refuse 33 = .ok (.bipush (-4), 2) := by decide +kernel
theorem dX11_refuse_35 : decode cX11_refuse 35 = .ok (.if_icmp .ne 13, 3) := by decide +kernel
theorem dX11_refuse_38 : decode cX11_refuse 38 = .ok (.aload_n 0, 1) := by decide +kernel
theorem dX11_refuse_39 : decode cX11_refuse 39 = .ok (.dup, 1) := by decide +kernel
theorem dX11_refuse_40 : decode cX11_refuse 40 = .ok (.getfield 57, 3) := by decide +kernel
theorem dX11_refuse_43 : decode cX11_refuse 43 = .ok (.iconst 1, 1) := by decide +kernel
theorem dX11_refuse_44 : decode cX11_refuse 44 = .ok (.iadd, 1) := by decide +kernel
theorem dX11_refuse_45 : decode cX11_refuse 45 = .ok (.putfield 57, 3) := by decide +kernel
theorem dX11_refuse_48 : decode cX11_refuse 48 = .ok (.iload_n 1, 1) := by decide +kernel
theorem dX11_refuse_49 : decode cX11_refuse 49 = .ok (.ireturn, 1) := by decide +kernel
theorem dX11_refuseOrder_0 : decode cX11_refuseOrder 0 = .ok (.aload_n 0, 1) := by decide +kernel
theorem dX11_refuseOrder_1 : decode cX11_refuseOrder 1 = .ok (.iload_n 1, 1) := by decide +kernel
theorem dX11_refuseOrder_2 : decode cX11_refuseOrder 2 = .ok (.invokevirtual 64, 3) := by decide +kernel
theorem dX11_refuseOrder_5 : decode cX11_refuseOrder 5 = .ok (.pop, 1) := by decide +kernel
theorem dX11_refuseOrder_6 : decode cX11_refuseOrder 6 = .ok (.iload_n 1, 1) := by decide +kernel
theorem dX11_refuseOrder_7 : decode cX11_refuseOrder 7 = .ok (.bipush (-2), 2) := by decide +kernel
theorem dX11_refuseOrder_9 : decode cX11_refuseOrder 9 = .ok (.if_icmp .ne 8, 3) := by decide +kernel
theorem dX11_refuseOrder_12 : decode cX11_refuseOrder 12 = .ok (.bipush (-10), 2) := by decide +kernel
theorem dX11_refuseOrder_14 : decode cX11_refuseOrder 14 = .ok (.goto 5, 3) := by decide +kernel
theorem dX11_refuseOrder_17 : decode cX11_refuseOrder 17 = .ok (.bipush (-11), 2) := by decide +kernel
theorem dX11_refuseOrder_19 : decode cX11_refuseOrder 19 = .ok (.ireturn, 1) := by decide +kernel
theorem dX11_whyNoBlock_0 : decode cX11_whyNoBlock 0 = .ok (.iload_n 1, 1) := by decide +kernel
theorem dX11_whyNoBlock_1 : decode cX11_whyNoBlock 1 = .ok (.iconst 0, 1) := by decide +kernel
theorem dX11_whyNoBlock_2 : decode cX11_whyNoBlock 2 = .ok (.iconst 3, 1) := by decide +kernel
theorem dX11_whyNoBlock_3 : decode cX11_whyNoBlock 3 = .ok (.invokestatic 99, 3) := by decide +kernel
theorem dX11_whyNoBlock_6 : decode cX11_whyNoBlock 6 = .ok (.ifCond .eq 13, 3) := by decide +kernel
theorem dX11_whyNoBlock_9 : decode cX11_whyNoBlock 9 = .ok (.iload_n 2, 1) := by decide +kernel
theorem dX11_whyNoBlock_10 : decode cX11_whyNoBlock 10 = .ok (.iconst 1, 1) := by decide +kernel
theorem dX11_whyNoBlock_11 : decode cX11_whyNoBlock 11 = .ok (.bipush 7, 2) := by decide +kernel
theorem dX11_whyNoBlock_13 : decode cX11_whyNoBlock 13 = .ok (.invokestatic 99, 3) := by decide +kernel
theorem dX11_whyNoBlock_16 : decode cX11_whyNoBlock 16 = .ok (.ifCond .ne 6, 3) := by decide +kernel
theorem dX11_whyNoBlock_19 : decode cX11_whyNoBlock 19 = .ok (.bipush (-2), 2) := by decide +kernel
theorem dX11_whyNoBlock_21 : decode cX11_whyNoBlock 21 = .ok (.ireturn, 1) := by decide +kernel
theorem dX11_whyNoBlock_22 : decode cX11_whyNoBlock 22 = .ok (.iload_n 3, 1) := by decide +kernel
theorem dX11_whyNoBlock_23 : decode cX11_whyNoBlock 23 = .ok (.iconst 0, 1) := by decide +kernel
theorem dX11_whyNoBlock_24 : decode cX11_whyNoBlock 24 = .ok (.bipush 9, 2) := by decide +kernel
theorem dX11_whyNoBlock_26 : decode cX11_whyNoBlock 26 = .ok (.invokestatic 99, 3) := by decide +kernel
theorem dX11_whyNoBlock_29 : decode cX11_whyNoBlock 29 = .ok (.ifCond .eq 15, 3) := by decide +kernel
theorem dX11_whyNoBlock_32 : decode cX11_whyNoBlock 32 = .ok (.iload 4, 2) := by decide +kernel
theorem dX11_whyNoBlock_34 : decode cX11_whyNoBlock 34 = .ok (.iconst 1, 1) := by decide +kernel
theorem dX11_whyNoBlock_35 : decode cX11_whyNoBlock 35 = .ok (.ldc_w 299, 3) := by decide +kernel
theorem dX11_whyNoBlock_38 : decode cX11_whyNoBlock 38 = .ok (.invokestatic 99, 3) := by decide +kernel
theorem dX11_whyNoBlock_41 : decode cX11_whyNoBlock 41 = .ok (.ifCond .ne 6, 3) := by decide +kernel
theorem dX11_whyNoBlock_44 : decode cX11_whyNoBlock 44 = .ok (.bipush (-2), 2) := by decide +kernel
theorem dX11_whyNoBlock_46 : decode cX11_whyNoBlock 46 = .ok (.ireturn, 1) := by decide +kernel
theorem dX11_whyNoBlock_47 : decode cX11_whyNoBlock 47 = .ok (.aload_n 0, 1) := by decide +kernel
theorem dX11_whyNoBlock_48 : decode cX11_whyNoBlock 48 = .ok (.getfield 10, 3) := by decide +kernel
theorem dX11_whyNoBlock_51 : decode cX11_whyNoBlock 51 = .ok (.getfield 25, 3) := by decide +kernel
theorem dX11_whyNoBlock_54 : decode cX11_whyNoBlock 54 = .ok (.getfield 276, 3) := by decide +kernel
theorem dX11_whyNoBlock_57 : decode cX11_whyNoBlock 57 = .ok (.bipush 6, 2) := by decide +kernel
theorem dX11_whyNoBlock_59 : decode cX11_whyNoBlock 59 = .ok (.if_icmp .lt 8, 3) := by decide +kernel
theorem dX11_whyNoBlock_62 : decode cX11_whyNoBlock 62 = .ok (.bipush (-4), 2) := by decide +kernel
theorem dX11_whyNoBlock_64 : decode cX11_whyNoBlock 64 = .ok (.goto 4, 3) := by decide +kernel
theorem dX11_whyNoBlock_67 : decode cX11_whyNoBlock 67 = .ok (.iconst 0, 1) := by decide +kernel
theorem dX11_whyNoBlock_68 : decode cX11_whyNoBlock 68 = .ok (.ireturn, 1) := by decide +kernel
theorem dX11_whyNoShift_0 : decode cX11_whyNoShift 0 = .ok (.aload_n 0, 1) := by decide +kernel
theorem dX11_whyNoShift_1 : decode cX11_whyNoShift 1 = .ok (.getfield 10, 3) := by decide +kernel
theorem dX11_whyNoShift_4 : decode cX11_whyNoShift 4 = .ok (.getfield 25, 3) := by decide +kernel
theorem dX11_whyNoShift_7 : decode cX11_whyNoShift 7 = .ok (.iload_n 1, 1) := by decide +kernel
theorem dX11_whyNoShift_8 : decode cX11_whyNoShift 8 = .ok (.invokevirtual 117, 3) := by decide +kernel
theorem dX11_whyNoShift_11 : decode cX11_whyNoShift 11 = .ok (.ifCond .ne 6, 3) := by decide +kernel
theorem dX11_whyNoShift_14 : decode cX11_whyNoShift 14 = .ok (.bipush (-2), 2) := by decide +kernel
theorem dX11_whyNoShift_16 : decode cX11_whyNoShift 16 = .ok (.ireturn, 1) := by decide +kernel
theorem dX11_whyNoShift_17 : decode cX11_whyNoShift 17 = .ok (.iload_n 2, 1) := by decide +kernel
theorem dX11_whyNoShift_18 : decode cX11_whyNoShift 18 = .ok (.bipush (-3), 2) := by decide +kernel
theorem dX11_whyNoShift_20 : decode cX11_whyNoShift 20 = .ok (.iconst 3, 1) := by decide +kernel
theorem dX11_whyNoShift_21 : decode cX11_whyNoShift 21 = .ok (.invokestatic 99, 3) := by decide +kernel
theorem dX11_whyNoShift_24 : decode cX11_whyNoShift 24 = .ok (.ifCond .eq 17, 3) := by decide +kernel
theorem dX11_whyNoShift_27 : decode cX11_whyNoShift 27 = .ok (.iload_n 3, 1) := by decide +kernel
theorem dX11_whyNoShift_28 : decode cX11_whyNoShift 28 = .ok (.bipush (-3), 2) := by decide +kernel
theorem dX11_whyNoShift_30 : decode cX11_whyNoShift 30 = .ok (.iconst 3, 1) := by decide +kernel
theorem dX11_whyNoShift_31 : decode cX11_whyNoShift 31 = .ok (.invokestatic 99, 3) := by decide +kernel
theorem dX11_whyNoShift_34 : decode cX11_whyNoShift 34 = .ok (.ifCond .eq 7, 3) := by decide +kernel
theorem dX11_whyNoShift_37 : decode cX11_whyNoShift 37 = .ok (.iconst 0, 1) := by decide +kernel
theorem dX11_whyNoShift_38 : decode cX11_whyNoShift 38 = .ok (.goto 5, 3) := by decide +kernel
theorem dX11_whyNoShift_41 : decode cX11_whyNoShift 41 = .ok (.bipush (-2), 2) := by decide +kernel
theorem dX11_whyNoShift_43 : decode cX11_whyNoShift 43 = .ok (.ireturn, 1) := by decide +kernel
theorem dX11_whyNoBehind_0 : decode cX11_whyNoBehind 0 = .ok (.aload_n 0, 1) := by decide +kernel
theorem dX11_whyNoBehind_1 : decode cX11_whyNoBehind 1 = .ok (.getfield 10, 3) := by decide +kernel
theorem dX11_whyNoBehind_4 : decode cX11_whyNoBehind 4 = .ok (.getfield 25, 3) := by decide +kernel
theorem dX11_whyNoBehind_7 : decode cX11_whyNoBehind 7 = .ok (.iload_n 1, 1) := by decide +kernel
theorem dX11_whyNoBehind_8 : decode cX11_whyNoBehind 8 = .ok (.iload_n 2, 1) := by decide +kernel
theorem dX11_whyNoBehind_9 : decode cX11_whyNoBehind 9 = .ok (.invokevirtual 149, 3) := by decide +kernel
theorem dX11_whyNoBehind_12 : decode cX11_whyNoBehind 12 = .ok (.ifCond .eq 16, 3) := by decide +kernel
theorem dX11_whyNoBehind_15 : decode cX11_whyNoBehind 15 = .ok (.iload_n 3, 1) := by decide +kernel
theorem dX11_whyNoBehind_16 : decode cX11_whyNoBehind 16 = .ok (.iconst 0, 1) := by decide +kernel
theorem dX11_whyNoBehind_17 : decode cX11_whyNoBehind 17 = .ok (.iconst 1, 1) := by decide +kernel
theorem dX11_whyNoBehind_18 : decode cX11_whyNoBehind 18 = .ok (.invokestatic 99, 3) := by decide +kernel
theorem dX11_whyNoBehind_21 : decode cX11_whyNoBehind 21 = .ok (.ifCond .eq 7, 3) := by decide +kernel
theorem dX11_whyNoBehind_24 : decode cX11_whyNoBehind 24 = .ok (.iconst 0, 1) := by decide +kernel
theorem dX11_whyNoBehind_25 : decode cX11_whyNoBehind 25 = .ok (.goto 5, 3) := by decide +kernel
theorem dX11_whyNoBehind_28 : decode cX11_whyNoBehind 28 = .ok (.bipush (-2), 2) := by decide +kernel
theorem dX11_whyNoBehind_30 : decode cX11_whyNoBehind 30 = .ok (.ireturn, 1) := by decide +kernel
theorem dX11_whyNoPrint_0 : decode cX11_whyNoPrint 0 = .ok (.aload_n 0, 1) := by decide +kernel
theorem dX11_whyNoPrint_1 : decode cX11_whyNoPrint 1 = .ok (.getfield 10, 3) := by decide +kernel
theorem dX11_whyNoPrint_4 : decode cX11_whyNoPrint 4 = .ok (.getfield 25, 3) := by decide +kernel
theorem dX11_whyNoPrint_7 : decode cX11_whyNoPrint 7 = .ok (.iload_n 1, 1) := by decide +kernel
theorem dX11_whyNoPrint_8 : decode cX11_whyNoPrint 8 = .ok (.invokevirtual 117, 3) := by decide +kernel
theorem dX11_whyNoPrint_11 : decode cX11_whyNoPrint 11 = .ok (.ifCond .eq 13, 3) := by decide +kernel
theorem dX11_whyNoPrint_14 : decode cX11_whyNoPrint 14 = .ok (.iload_n 2, 1) := by decide +kernel
theorem dX11_whyNoPrint_15 : decode cX11_whyNoPrint 15 = .ok (.iconst 0, 1) := by decide +kernel
theorem dX11_whyNoPrint_16 : decode cX11_whyNoPrint 16 = .ok (.bipush 9, 2) := by decide +kernel
theorem dX11_whyNoPrint_18 : decode cX11_whyNoPrint 18 = .ok (.invokestatic 99, 3) := by decide +kernel
theorem dX11_whyNoPrint_21 : decode cX11_whyNoPrint 21 = .ok (.ifCond .ne 6, 3) := by decide +kernel
theorem dX11_whyNoPrint_24 : decode cX11_whyNoPrint 24 = .ok (.bipush (-2), 2) := by decide +kernel
theorem dX11_whyNoPrint_26 : decode cX11_whyNoPrint 26 = .ok (.ireturn, 1) := by decide +kernel
theorem dX11_whyNoPrint_27 : decode cX11_whyNoPrint 27 = .ok (.aload_n 0, 1) := by decide +kernel
theorem dX11_whyNoPrint_28 : decode cX11_whyNoPrint 28 = .ok (.getfield 10, 3) := by decide +kernel
theorem dX11_whyNoPrint_31 : decode cX11_whyNoPrint 31 = .ok (.getfield 25, 3) := by decide +kernel
theorem dX11_whyNoPrint_34 : decode cX11_whyNoPrint 34 = .ok (.iload_n 1, 1) := by decide +kernel
theorem dX11_whyNoPrint_35 : decode cX11_whyNoPrint 35 = .ok (.aload_n 0, 1) := by decide +kernel
theorem dX11_whyNoPrint_36 : decode cX11_whyNoPrint 36 = .ok (.getfield 10, 3) := by decide +kernel
theorem dX11_whyNoPrint_39 : decode cX11_whyNoPrint 39 = .ok (.getfield 195, 3) := by decide +kernel
theorem dX11_whyNoPrint_42 : decode cX11_whyNoPrint 42 = .ok (.invokevirtual 300, 3) := by decide +kernel
theorem dX11_whyNoPrint_45 : decode cX11_whyNoPrint 45 = .ok (.invokevirtual 303, 3) := by decide +kernel
theorem dX11_whyNoPrint_48 : decode cX11_whyNoPrint 48 = .ok (.ifCond .ne 6, 3) := by decide +kernel
theorem dX11_whyNoPrint_51 : decode cX11_whyNoPrint 51 = .ok (.bipush (-3), 2) := by decide +kernel
theorem dX11_whyNoPrint_53 : decode cX11_whyNoPrint 53 = .ok (.ireturn, 1) := by decide +kernel
theorem dX11_whyNoPrint_54 : decode cX11_whyNoPrint 54 = .ok (.aload_n 0, 1) := by decide +kernel
theorem dX11_whyNoPrint_55 : decode cX11_whyNoPrint 55 = .ok (.getfield 10, 3) := by decide +kernel
theorem dX11_whyNoPrint_58 : decode cX11_whyNoPrint 58 = .ok (.getfield 195, 3) := by decide +kernel
theorem dX11_whyNoPrint_61 : decode cX11_whyNoPrint 61 = .ok (.getfield 229, 3) := by decide +kernel
theorem dX11_whyNoPrint_64 : decode cX11_whyNoPrint 64 = .ok (.bipush 12, 2) := by decide +kernel
theorem dX11_whyNoPrint_66 : decode cX11_whyNoPrint 66 = .ok (.if_icmp .lt 8, 3) := by decide +kernel
theorem dX11_whyNoPrint_69 : decode cX11_whyNoPrint 69 = .ok (.bipush (-4), 2) := by decide +kernel
theorem dX11_whyNoPrint_71 : decode cX11_whyNoPrint 71 = .ok (.goto 4, 3) := by decide +kernel
theorem dX11_whyNoPrint_74 : decode cX11_whyNoPrint 74 = .ok (.iconst 0, 1) := by decide +kernel
theorem dX11_whyNoPrint_75 : decode cX11_whyNoPrint 75 = .ok (.ireturn, 1) := by decide +kernel
theorem dX11_gainOf_0 : decode cX11_gainOf 0 = .ok (.iload_n 0, 1) := by decide +kernel
theorem dX11_gainOf_1 : decode cX11_gainOf 1 = .ok (.iload_n 1, 1) := by decide +kernel
theorem dX11_gainOf_2 : decode cX11_gainOf 2 = .ok (.iand, 1) := by decide +kernel
theorem dX11_gainOf_3 : decode cX11_gainOf 3 = .ok (.invokestatic 88, 3) := by decide +kernel
theorem dX11_gainOf_6 : decode cX11_gainOf 6 = .ok (.iload_n 0, 1) := by decide +kernel
theorem dX11_gainOf_7 : decode cX11_gainOf 7 = .ok (.iload_n 1, 1) := by decide +kernel
theorem dX11_gainOf_8 : decode cX11_gainOf 8 = .ok (.iconst (-1), 1) := by decide +kernel
theorem dX11_gainOf_9 : decode cX11_gainOf 9 = .ok (.ixor, 1) := by decide +kernel
theorem dX11_gainOf_10 : decode cX11_gainOf 10 = .ok (.iand, 1) := by decide +kernel
theorem dX11_gainOf_11 : decode cX11_gainOf 11 = .ok (.invokestatic 88, 3) := by decide +kernel
theorem dX11_gainOf_14 : decode cX11_gainOf 14 = .ok (.isub, 1) := by decide +kernel
theorem dX11_gainOf_15 : decode cX11_gainOf 15 = .ok (.ireturn, 1) := by decide +kernel
theorem dX11_blockOfBest_0 : decode cX11_blockOfBest 0 = .ok (.iload_n 1, 1) := by decide +kernel
theorem dX11_blockOfBest_1 : decode cX11_blockOfBest 1 = .ok (.ifCond .lt 31, 3) := by decide +kernel
theorem dX11_blockOfBest_4 : decode cX11_blockOfBest 4 = .ok (.iload_n 1, 1) := by decide +kernel
theorem dX11_blockOfBest_5 : decode cX11_blockOfBest 5 = .ok (.aload_n 0, 1) := by decide +kernel
theorem dX11_blockOfBest_6 : decode cX11_blockOfBest 6 = .ok (.getfield 10, 3) := by decide +kernel
theorem dX11_blockOfBest_9 : decode cX11_blockOfBest 9 = .ok (.getfield 25, 3) := by decide +kernel
theorem dX11_blockOfBest_12 : decode cX11_blockOfBest 12 = .ok (.getfield 276, 3) := by decide +kernel
theorem dX11_blockOfBest_15 : decode cX11_blockOfBest 15 = .ok (.if_icmp .ge 17, 3) := by decide +kernel
theorem dX11_blockOfBest_18 : decode cX11_blockOfBest 18 = .ok (.aload_n 0, 1) := by decide +kernel
theorem dX11_blockOfBest_19 : decode cX11_blockOfBest 19 = .ok (.getfield 32, 3) := by decide +kernel
theorem dX11_blockOfBest_22 : decode cX11_blockOfBest 22 = .ok (.getfield 306, 3) := by decide +kernel
theorem dX11_blockOfBest_25 : decode cX11_blockOfBest 25 = .ok (.iload_n 1, 1) := by decide +kernel
theorem dX11_blockOfBest_26 : decode cX11_blockOfBest 26 = .ok (.invokestatic 107, 3) := by decide +kernel
theorem dX11_blockOfBest_29 : decode cX11_blockOfBest 29 = .ok (.goto 5, 3) := by decide +kernel
theorem dX11_blockOfBest_32 : decode cX11_blockOfBest 32 = .ok (.bipush (-5), 2) := by decide +kernel
theorem dX11_blockOfBest_34 : decode cX11_blockOfBest 34 = .ok (.ireturn, 1) := by decide +kernel
theorem dX11_faultOfText_0 : decode cX11_faultOfText 0 = .ok (.aload_n 0, 1) := by decide +kernel
theorem dX11_faultOfText_1 : decode cX11_faultOfText 1 = .ok (.getfield 46, 3) := by decide +kernel
theorem dX11_faultOfText_4 : decode cX11_faultOfText 4 = .ok (.invokevirtual 309, 3) := by decide +kernel
theorem dX11_faultOfText_7 : decode cX11_faultOfText 7 = .ok (.iconst 0, 1) := by decide +kernel
theorem dX11_faultOfText_8 : decode cX11_faultOfText 8 = .ok (.istore_n 1, 1) := by decide +kernel
theorem dX11_faultOfText_9 : decode cX11_faultOfText 9 = .ok (.iload_n 1, 1) := by decide +kernel
theorem dX11_faultOfText_10 : decode cX11_faultOfText 10 = .ok (.aload_n 0, 1) := by decide +kernel
theorem dX11_faultOfText_11 : decode cX11_faultOfText 11 = .ok (.getfield 39, 3) := by decide +kernel
theorem dX11_faultOfText_14 : decode cX11_faultOfText 14 = .ok (.getfield 260, 3) := by decide +kernel
theorem dX11_faultOfText_17 : decode cX11_faultOfText 17 = .ok (.if_icmp .ge 32, 3) := by decide +kernel
theorem dX11_faultOfText_20 : decode cX11_faultOfText 20 = .ok (.aload_n 0, 1) := by decide +kernel
theorem dX11_faultOfText_21 : decode cX11_faultOfText 21 = .ok (.getfield 46, 3) := by decide +kernel
theorem dX11_faultOfText_24 : decode cX11_faultOfText 24 = .ok (.aload_n 0, 1) := by decide +kernel
theorem dX11_faultOfText_25 : decode cX11_faultOfText 25 = .ok (.getfield 39, 3) := by decide +kernel
theorem dX11_faultOfText_28 : decode cX11_faultOfText 28 = .ok (.getfield 312, 3) := by decide +kernel
theorem dX11_faultOfText_31 : decode cX11_faultOfText 31 = .ok (.iload_n 1, 1) := by decide +kernel
theorem dX11_faultOfText_32 : decode cX11_faultOfText 32 = .ok (.invokestatic 125, 3) := by decide +kernel
theorem dX11_faultOfText_35 : decode cX11_faultOfText 35 = .ok (.invokevirtual 315, 3) := by decide +kernel
theorem dX11_faultOfText_38 : decode cX11_faultOfText 38 = .ok (.ifCond .ne 5, 3) := by decide +kernel
theorem dX11_faultOfText_41 : decode cX11_faultOfText 41 = .ok (.iload_n 1, 1) := by decide +kernel
theorem dX11_faultOfText_42 : decode cX11_faultOfText 42 = .ok (.ireturn, 1) := by decide +kernel
theorem dX11_faultOfText_43 : decode cX11_faultOfText 43 = .ok (.iinc 1 1, 3) := by decide +kernel
theorem dX11_faultOfText_46 : decode cX11_faultOfText 46 = .ok (.goto (-37), 3) := by decide +kernel
theorem dX11_faultOfText_49 : decode cX11_faultOfText 49 = .ok (.aload_n 0, 1) := by decide +kernel
theorem dX11_faultOfText_50 : decode cX11_faultOfText 50 = .ok (.getfield 46, 3) := by decide +kernel
theorem dX11_faultOfText_53 : decode cX11_faultOfText 53 = .ok (.invokevirtual 318, 3) := by decide +kernel
theorem dX11_faultOfText_56 : decode cX11_faultOfText 56 = .ok (.ifCond .eq 7, 3) := by decide +kernel
theorem dX11_faultOfText_59 : decode cX11_faultOfText 59 = .ok (.iconst (-1), 1) := by decide +kernel
theorem dX11_faultOfText_60 : decode cX11_faultOfText 60 = .ok (.goto 10, 3) := by decide +kernel
theorem dX11_faultOfText_63 : decode cX11_faultOfText 63 = .ok (.aload_n 0, 1) := by decide +kernel
theorem dX11_faultOfText_64 : decode cX11_faultOfText 64 = .ok (.getfield 39, 3) := by decide +kernel
theorem dX11_faultOfText_67 : decode cX11_faultOfText 67 = .ok (.getfield 260, 3) := by decide +kernel
theorem dX11_faultOfText_70 : decode cX11_faultOfText 70 = .ok (.ireturn, 1) := by decide +kernel
theorem dX11_doText_0 : decode cX11_doText 0 = .ok (.iconst 0, 1) := by decide +kernel
theorem dX11_doText_1 : decode cX11_doText 1 = .ok (.istore_n 1, 1) := by decide +kernel
theorem dX11_doText_2 : decode cX11_doText 2 = .ok (.aload_n 0, 1) := by decide +kernel
theorem dX11_doText_3 : decode cX11_doText 3 = .ok (.getfield 46, 3) := by decide +kernel
theorem dX11_doText_6 : decode cX11_doText 6 = .ok (.invokevirtual 309, 3) := by decide +kernel
theorem dX11_doText_9 : decode cX11_doText 9 = .ok (.iconst 0, 1) := by decide +kernel
theorem dX11_doText_10 : decode cX11_doText 10 = .ok (.istore_n 2, 1) := by decide +kernel
theorem dX11_doText_11 : decode cX11_doText 11 = .ok (.iload_n 2, 1) := by decide +kernel
theorem dX11_doText_12 : decode cX11_doText 12 = .ok (.aload_n 0, 1) := by decide +kernel
theorem dX11_doText_13 : decode cX11_doText 13 = .ok (.getfield 39, 3) := by decide +kernel
theorem dX11_doText_16 : decode cX11_doText 16 = .ok (.getfield 260, 3) := by decide +kernel
theorem dX11_doText_19 : decode cX11_doText 19 = .ok (.if_icmp .ge 52, 3) := by decide +kernel
theorem dX11_doText_22 : decode cX11_doText 22 = .ok (.aload_n 0, 1) := by decide +kernel
theorem dX11_doText_23 : decode cX11_doText 23 = .ok (.getfield 46, 3) := by decide +kernel
theorem dX11_doText_26 : decode cX11_doText 26 = .ok (.aload_n 0, 1) := by decide +kernel
theorem dX11_doText_27 : decode cX11_doText 27 = .ok (.getfield 39, 3) := by decide +kernel
theorem dX11_doText_30 : decode cX11_doText 30 = .ok (.getfield 312, 3) := by decide +kernel
theorem dX11_doText_33 : decode cX11_doText 33 = .ok (.iload_n 2, 1) := by decide +kernel
theorem dX11_doText_34 : decode cX11_doText 34 = .ok (.invokestatic 125, 3) := by decide +kernel
theorem dX11_doText_37 : decode cX11_doText 37 = .ok (.invokevirtual 315, 3) := by decide +kernel
theorem dX11_doText_40 : decode cX11_doText 40 = .ok (.ifCond .ne 5, 3) := by decide +kernel
theorem dX11_doText_43 : decode cX11_doText 43 = .ok (.iload_n 1, 1) := by decide +kernel
theorem dX11_doText_44 : decode cX11_doText 44 = .ok (.ireturn, 1) := by decide +kernel
theorem dX11_doText_45 : decode cX11_doText 45 = .ok (.aload_n 0, 1) := by decide +kernel
theorem dX11_doText_46 : decode cX11_doText 46 = .ok (.getfield 46, 3) := by decide +kernel
theorem dX11_doText_49 : decode cX11_doText 49 = .ok (.getfield 322, 3) := by decide +kernel
theorem dX11_doText_52 : decode cX11_doText 52 = .ok (.ifCond .eq 13, 3) := by decide +kernel
theorem dX11_doText_55 : decode cX11_doText 55 = .ok (.aload_n 0, 1) := by decide +kernel
theorem dX11_doText_56 : decode cX11_doText 56 = .ok (.invokevirtual 326, 3) := by decide +kernel
theorem dX11_doText_59 : decode cX11_doText 59 = .ok (.ifCond .eq 6, 3) := by decide +kernel
theorem dX11_doText_62 : decode cX11_doText 62 = .ok (.iinc 1 1, 3) := by decide +kernel
theorem dX11_doText_65 : decode cX11_doText 65 = .ok (.iinc 2 1, 3) := by decide +kernel
theorem dX11_doText_68 : decode cX11_doText 68 = .ok (.goto (-57), 3) := by decide +kernel
theorem dX11_doText_71 : decode cX11_doText 71 = .ok (.iload_n 1, 1) := by decide +kernel
theorem dX11_doText_72 : decode cX11_doText 72 = .ok (.ireturn, 1) := by decide +kernel
theorem dX11_doOrder_0 : decode cX11_doOrder 0 = .ok (.aload_n 0, 1) := by decide +kernel
theorem dX11_doOrder_1 : decode cX11_doOrder 1 = .ok (.getfield 46, 3) := by decide +kernel
theorem dX11_doOrder_4 : decode cX11_doOrder 4 = .ok (.getfield 329, 3) := by decide +kernel
theorem dX11_doOrder_7 : decode cX11_doOrder 7 = .ok (.iconst 0, 1) := by decide +kernel
theorem dX11_doOrder_8 : decode cX11_doOrder 8 = .ok (.invokestatic 125, 3) := by decide +kernel
theorem dX11_doOrder_11 : decode cX11_doOrder 11 = .ok (.istore_n 1, 1) := by decide +kernel
theorem dX11_doOrder_12 : decode cX11_doOrder 12 = .ok (.aload_n 0, 1) := by decide +kernel
theorem dX11_doOrder_13 : decode cX11_doOrder 13 = .ok (.getfield 46, 3) := by decide +kernel
theorem dX11_doOrder_16 : decode cX11_doOrder 16 = .ok (.getfield 329, 3) := by decide +kernel
theorem dX11_doOrder_19 : decode cX11_doOrder 19 = .ok (.iconst 1, 1) := by decide +kernel
theorem dX11_doOrder_20 : decode cX11_doOrder 20 = .ok (.invokestatic 125, 3) := by decide +kernel
theorem dX11_doOrder_23 : decode cX11_doOrder 23 = .ok (.istore_n 2, 1) := by decide +kernel
theorem dX11_doOrder_24 : decode cX11_doOrder 24 = .ok (.aload_n 0, 1) := by decide +kernel
theorem dX11_doOrder_25 : decode cX11_doOrder 25 = .ok (.getfield 46, 3) := by decide +kernel
theorem dX11_doOrder_28 : decode cX11_doOrder 28 = .ok (.getfield 329, 3) := by decide +kernel
theorem dX11_doOrder_31 : decode cX11_doOrder 31 = .ok (.iconst 2, 1) := by decide +kernel
theorem dX11_doOrder_32 : decode cX11_doOrder 32 = .ok (.invokestatic 125, 3) := by decide +kernel
theorem dX11_doOrder_35 : decode cX11_doOrder 35 = .ok (.istore_n 3, 1) := by decide +kernel
theorem dX11_doOrder_36 : decode cX11_doOrder 36 = .ok (.aload_n 0, 1) := by decide +kernel
theorem dX11_doOrder_37 : decode cX11_doOrder 37 = .ok (.getfield 46, 3) := by decide +kernel
theorem dX11_doOrder_40 : decode cX11_doOrder 40 = .ok (.getfield 329, 3) := by decide +kernel
theorem dX11_doOrder_43 : decode cX11_doOrder 43 = .ok (.iconst 3, 1) := by decide +kernel
theorem dX11_doOrder_44 : decode cX11_doOrder 44 = .ok (.invokestatic 125, 3) := by decide +kernel
theorem dX11_doOrder_47 : decode cX11_doOrder 47 = .ok (.istore 4, 2) := by decide +kernel
theorem dX11_doOrder_49 : decode cX11_doOrder 49 = .ok (.aload_n 0, 1) := by decide +kernel
theorem dX11_doOrder_50 : decode cX11_doOrder 50 = .ok (.getfield 46, 3) := by decide +kernel
theorem dX11_doOrder_53 : decode cX11_doOrder 53 = .ok (.getfield 330, 3) := by decide +kernel
theorem dX11_doOrder_56 : decode cX11_doOrder 56 = .ok (.lookupswitch 164 #[(97, 103), (98, 44), (112, 131), (115, 76)], 44) := by decide +kernel
theorem dX11_doOrder_100 : decode cX11_doOrder 100 = .ok (.aload_n 0, 1) := by decide +kernel
theorem dX11_doOrder_101 : decode cX11_doOrder 101 = .ok (.iload_n 1, 1) := by decide +kernel
theorem dX11_doOrder_102 : decode cX11_doOrder 102 = .ok (.iload_n 2, 1) := by decide +kernel
theorem dX11_doOrder_103 : decode cX11_doOrder 103 = .ok (.iload_n 3, 1) := by decide +kernel
theorem dX11_doOrder_104 : decode cX11_doOrder 104 = .ok (.iload 4, 2) := by decide +kernel
theorem dX11_doOrder_106 : decode cX11_doOrder 106 = .ok (.invokevirtual 60, 3) := by decide +kernel
theorem dX11_doOrder_109 : decode cX11_doOrder 109 = .ok (.ifCond .eq 5, 3) := by decide +kernel
theorem dX11_doOrder_112 : decode cX11_doOrder 112 = .ok (.iconst 0, 1) := by decide +kernel
theorem dX11_doOrder_113 : decode cX11_doOrder 113 = .ok (.ireturn, 1) := by decide +kernel
theorem dX11_doOrder_114 : decode cX11_doOrder 114 = .ok (.aload_n 0, 1) := by decide +kernel
theorem dX11_doOrder_115 : decode cX11_doOrder 115 = .ok (.getfield 10, 3) := by decide +kernel
theorem dX11_doOrder_118 : decode cX11_doOrder 118 = .ok (.getfield 25, 3) := by decide +kernel
theorem dX11_doOrder_121 : decode cX11_doOrder 121 = .ok (.iload_n 1, 1) := by decide +kernel
theorem dX11_doOrder_122 : decode cX11_doOrder 122 = .ok (.iload_n 2, 1) := by decide +kernel
theorem dX11_doOrder_123 : decode cX11_doOrder 123 = .ok (.iload_n 3, 1) := by decide +kernel
theorem dX11_doOrder_124 : decode cX11_doOrder 124 = .ok (.iload 4, 2) := by decide +kernel
theorem dX11_doOrder_126 : decode cX11_doOrder 126 = .ok (.invokevirtual 72, 3) := by decide +kernel
theorem dX11_doOrder_129 : decode cX11_doOrder 129 = .ok (.pop, 1) := by decide +kernel
theorem dX11_doOrder_130 : decode cX11_doOrder 130 = .ok (.iconst 1, 1) := by decide +kernel
theorem dX11_doOrder_131 : decode cX11_doOrder 131 = .ok (.ireturn, 1) := by decide +kernel
theorem dX11_doOrder_132 : decode cX11_doOrder 132 = .ok (.aload_n 0, 1) := by decide +kernel
theorem dX11_doOrder_133 : decode cX11_doOrder 133 = .ok (.iload_n 1, 1) := by decide +kernel
theorem dX11_doOrder_134 : decode cX11_doOrder 134 = .ok (.iload_n 2, 1) := by decide +kernel
theorem dX11_doOrder_135 : decode cX11_doOrder 135 = .ok (.iload_n 3, 1) := by decide +kernel
theorem dX11_doOrder_136 : decode cX11_doOrder 136 = .ok (.invokevirtual 77, 3) := by decide +kernel
theorem dX11_doOrder_139 : decode cX11_doOrder 139 = .ok (.ifCond .eq 5, 3) := by decide +kernel
theorem dX11_doOrder_142 : decode cX11_doOrder 142 = .ok (.iconst 0, 1) := by decide +kernel
theorem dX11_doOrder_143 : decode cX11_doOrder 143 = .ok (.ireturn, 1) := by decide +kernel
theorem dX11_doOrder_144 : decode cX11_doOrder 144 = .ok (.aload_n 0, 1) := by decide +kernel
theorem dX11_doOrder_145 : decode cX11_doOrder 145 = .ok (.getfield 10, 3) := by decide +kernel
theorem dX11_doOrder_148 : decode cX11_doOrder 148 = .ok (.getfield 25, 3) := by decide +kernel
theorem dX11_doOrder_151 : decode cX11_doOrder 151 = .ok (.iload_n 1, 1) := by decide +kernel
theorem dX11_doOrder_152 : decode cX11_doOrder 152 = .ok (.iload_n 2, 1) := by decide +kernel
theorem dX11_doOrder_153 : decode cX11_doOrder 153 = .ok (.iload_n 3, 1) := by decide +kernel
theorem dX11_doOrder_154 : decode cX11_doOrder 154 = .ok (.invokevirtual 81, 3) := by decide +kernel
theorem dX11_doOrder_157 : decode cX11_doOrder 157 = .ok (.iconst 1, 1) := by decide +kernel
theorem dX11_doOrder_158 : decode cX11_doOrder 158 = .ok (.ireturn, 1) := by decide +kernel
theorem dX11_doOrder_159 : decode cX11_doOrder 159 = .ok (.aload_n 0, 1) := by decide +kernel
theorem dX11_doOrder_160 : decode cX11_doOrder 160 = .ok (.iload_n 1, 1) := by decide +kernel
theorem dX11_doOrder_161 : decode cX11_doOrder 161 = .ok (.iload_n 2, 1) := by decide +kernel
theorem dX11_doOrder_162 : decode cX11_doOrder 162 = .ok (.iconst 1, 1) := by decide +kernel
theorem dX11_doOrder_163 : decode cX11_doOrder 163 = .ok (.invokevirtual 93, 3) := by decide +kernel
theorem dX11_doOrder_166 : decode cX11_doOrder 166 = .ok (.ifCond .eq 5, 3) := by decide +kernel
theorem dX11_doOrder_169 : decode cX11_doOrder 169 = .ok (.iconst 0, 1) := by decide +kernel
theorem dX11_doOrder_170 : decode cX11_doOrder 170 = .ok (.ireturn, 1) := by decide +kernel
theorem dX11_doOrder_171 : decode cX11_doOrder 171 = .ok (.aload_n 0, 1) := by decide +kernel
theorem dX11_doOrder_172 : decode cX11_doOrder 172 = .ok (.getfield 10, 3) := by decide +kernel
theorem dX11_doOrder_175 : decode cX11_doOrder 175 = .ok (.getfield 25, 3) := by decide +kernel
theorem dX11_doOrder_178 : decode cX11_doOrder 178 = .ok (.iload_n 1, 1) := by decide +kernel
theorem dX11_doOrder_179 : decode cX11_doOrder 179 = .ok (.iload_n 2, 1) := by decide +kernel
theorem dX11_doOrder_180 : decode cX11_doOrder 180 = .ok (.iconst 1, 1) := by decide +kernel
theorem dX11_doOrder_181 : decode cX11_doOrder 181 = .ok (.invokevirtual 96, 3) := by decide +kernel
theorem dX11_doOrder_184 : decode cX11_doOrder 184 = .ok (.pop, 1) := by decide +kernel
theorem dX11_doOrder_185 : decode cX11_doOrder 185 = .ok (.iconst 1, 1) := by decide +kernel
theorem dX11_doOrder_186 : decode cX11_doOrder 186 = .ok (.ireturn, 1) := by decide +kernel
theorem dX11_doOrder_187 : decode cX11_doOrder 187 = .ok (.aload_n 0, 1) := by decide +kernel
theorem dX11_doOrder_188 : decode cX11_doOrder 188 = .ok (.iload_n 1, 1) := by decide +kernel
theorem dX11_doOrder_189 : decode cX11_doOrder 189 = .ok (.iload_n 2, 1) := by decide +kernel
theorem dX11_doOrder_190 : decode cX11_doOrder 190 = .ok (.invokevirtual 192, 3) := by decide +kernel
theorem dX11_doOrder_193 : decode cX11_doOrder 193 = .ok (.ifCond .eq 5, 3) := by decide +kernel
theorem dX11_doOrder_196 : decode cX11_doOrder 196 = .ok (.iconst 0, 1) := by decide +kernel
theorem dX11_doOrder_197 : decode cX11_doOrder 197 = .ok (.ireturn, 1) := by decide +kernel
theorem dX11_doOrder_198 : decode cX11_doOrder 198 = .ok (.aload_n 0, 1) := by decide +kernel
theorem dX11_doOrder_199 : decode cX11_doOrder 199 = .ok (.getfield 10, 3) := by decide +kernel
theorem dX11_doOrder_202 : decode cX11_doOrder 202 = .ok (.getfield 195, 3) := by decide +kernel
theorem dX11_doOrder_205 : decode cX11_doOrder 205 = .ok (.aload_n 0, 1) := by decide +kernel
theorem dX11_doOrder_206 : decode cX11_doOrder 206 = .ok (.getfield 10, 3) := by decide +kernel
theorem dX11_doOrder_209 : decode cX11_doOrder 209 = .ok (.getfield 25, 3) := by decide +kernel
theorem dX11_doOrder_212 : decode cX11_doOrder 212 = .ok (.iload_n 1, 1) := by decide +kernel
theorem dX11_doOrder_213 : decode cX11_doOrder 213 = .ok (.iload_n 2, 1) := by decide +kernel
theorem dX11_doOrder_214 : decode cX11_doOrder 214 = .ok (.invokevirtual 199, 3) := by decide +kernel
theorem dX11_doOrder_217 : decode cX11_doOrder 217 = .ok (.pop, 1) := by decide +kernel
theorem dX11_doOrder_218 : decode cX11_doOrder 218 = .ok (.iconst 1, 1) := by decide +kernel
theorem dX11_doOrder_219 : decode cX11_doOrder 219 = .ok (.ireturn, 1) := by decide +kernel
theorem dX11_doOrder_220 : decode cX11_doOrder 220 = .ok (.aload_n 0, 1) := by decide +kernel
theorem dX11_doOrder_221 : decode cX11_doOrder 221 = .ok (.getfield 10, 3) := by decide +kernel
theorem dX11_doOrder_224 : decode cX11_doOrder 224 = .ok (.getfield 195, 3) := by decide +kernel
theorem dX11_doOrder_227 : decode cX11_doOrder 227 = .ok (.invokevirtual 205, 3) := by decide +kernel
theorem dX11_doOrder_230 : decode cX11_doOrder 230 = .ok (.pop, 1) := by decide +kernel
theorem dX11_doOrder_231 : decode cX11_doOrder 231 = .ok (.iconst 1, 1) := by decide +kernel
theorem dX11_doOrder_232 : decode cX11_doOrder 232 = .ok (.ireturn, 1) := by decide +kernel
theorem dX12_init_0 : decode cX12_init 0 = .ok (.aload_n 0, 1) := by decide +kernel
theorem dX12_init_1 : decode cX12_init 1 = .ok (.invokespecial 1, 3) := by decide +kernel
theorem dX12_init_4 : decode cX12_init 4 = .ok (.aload_n 0, 1) := by decide +kernel
theorem dX12_init_5 : decode cX12_init 5 = .ok (.sipush 131, 3) := by decide +kernel
theorem dX12_init_8 : decode cX12_init 8 = .ok (.newarray .int, 2) := by decide +kernel
theorem dX12_init_10 : decode cX12_init 10 = .ok (.putfield 7, 3) := by decide +kernel
theorem dX12_init_13 : decode cX12_init 13 = .ok (.aload_n 0, 1) := by decide +kernel
theorem dX12_init_14 : decode cX12_init 14 = .ok (.sipush 131, 3) := by decide +kernel
theorem dX12_init_17 : decode cX12_init 17 = .ok (.newarray .int, 2) := by decide +kernel
theorem dX12_init_19 : decode cX12_init 19 = .ok (.putfield 13, 3) := by decide +kernel
theorem dX12_init_22 : decode cX12_init 22 = .ok (.aload_n 0, 1) := by decide +kernel
theorem dX12_init_23 : decode cX12_init 23 = .ok (.sipush 655, 3) := by decide +kernel
theorem dX12_init_26 : decode cX12_init 26 = .ok (.newarray .int, 2) := by decide +kernel
theorem dX12_init_28 : decode cX12_init 28 = .ok (.putfield 16, 3) := by decide +kernel
theorem dX12_init_31 : decode cX12_init 31 = .ok (.aload_n 0, 1) := by decide +kernel
theorem dX12_init_32 : decode cX12_init 32 = .ok (.iconst 3, 1) := by decide +kernel
theorem dX12_init_33 : decode cX12_init 33 = .ok (.newarray .int, 2) := by decide +kernel
theorem dX12_init_35 : decode cX12_init 35 = .ok (.putfield 19, 3) := by decide +kernel
theorem dX12_init_38 : decode cX12_init 38 = .ok (.aload_n 0, 1) := by decide +kernel
theorem dX12_init_39 : decode cX12_init 39 = .ok (.bipush 16, 2) := by decide +kernel
theorem dX12_init_41 : decode cX12_init 41 = .ok (.newarray .int, 2) := by decide +kernel
theorem dX12_init_43 : decode cX12_init 43 = .ok (.putfield 22, 3) := by decide +kernel
theorem dX12_init_46 : decode cX12_init 46 = .ok (.aload_n 0, 1) := by decide +kernel
theorem dX12_init_47 : decode cX12_init 47 = .ok (.bipush 16, 2) := by decide +kernel
theorem dX12_init_49 : decode cX12_init 49 = .ok (.newarray .int, 2) := by decide +kernel
theorem dX12_init_51 : decode cX12_init 51 = .ok (.putfield 25, 3) := by decide +kernel
theorem dX12_init_54 : decode cX12_init 54 = .ok (.aload_n 0, 1) := by decide +kernel
theorem dX12_init_55 : decode cX12_init 55 = .ok (.bipush 6, 2) := by decide +kernel
theorem dX12_init_57 : decode cX12_init 57 = .ok (.newarray .int, 2) := by decide +kernel
theorem dX12_init_59 : decode cX12_init 59 = .ok (.putfield 28, 3) := by decide +kernel
theorem dX12_init_62 : decode cX12_init 62 = .ok (.aload_n 0, 1) := by decide +kernel
theorem dX12_init_63 : decode cX12_init 63 = .ok (.bipush 6, 2) := by decide +kernel
theorem dX12_init_65 : decode cX12_init 65 = .ok (.newarray .int, 2) := by decide +kernel
theorem dX12_init_67 : decode cX12_init 67 = .ok (.putfield 31, 3) := by decide +kernel
theorem dX12_init_70 : decode cX12_init 70 = .ok (.aload_n 0, 1) := by decide +kernel
theorem dX12_init_71 : decode cX12_init 71 = .ok (.bipush 6, 2) := by decide +kernel
theorem dX12_init_73 : decode cX12_init 73 = .ok (.newarray .int, 2) := by decide +kernel
theorem dX12_init_75 : decode cX12_init 75 = .ok (.putfield 34, 3) := by decide +kernel
theorem dX12_init_78 : decode cX12_init 78 = .ok (.aload_n 0, 1) := by decide +kernel
theorem dX12_init_79 : decode cX12_init 79 = .ok (.sipush 720, 3) := by decide +kernel
theorem dX12_init_82 : decode cX12_init 82 = .ok (.newarray .long, 2) := by decide +kernel
theorem dX12_init_84 : decode cX12_init 84 = .ok (.putfield 37, 3) := by decide +kernel
theorem dX12_init_87 : decode cX12_init 87 = .ok (.aload_n 0, 1) := by decide +kernel
theorem dX12_init_88 : decode cX12_init 88 = .ok (.sipush 720, 3) := by decide +kernel
theorem dX12_init_91 : decode cX12_init 91 = .ok (.newarray .long, 2) := by decide +kernel
theorem dX12_init_93 : decode cX12_init 93 = .ok (.putfield 41, 3) := by decide +kernel
theorem dX12_init_96 : decode cX12_init 96 = .ok (.aload_n 0, 1) := by decide +kernel
theorem dX12_init_97 : decode cX12_init 97 = .ok (.sipush 720, 3) := by decide +kernel
theorem dX12_init_100 : decode cX12_init 100 = .ok (.newarray .int, 2) := by decide +kernel
theorem dX12_init_102 : decode cX12_init 102 = .ok (.putfield 44, 3) := by decide +kernel
theorem dX12_init_105 : decode cX12_init 105 = .ok (.aload_n 0, 1) := by decide +kernel
theorem dX12_init_106 : decode cX12_init 106 = .ok (.sipush 150, 3) := by decide +kernel
theorem dX12_init_109 : decode cX12_init 109 = .ok (.newarray .int, 2) := by decide +kernel
theorem dX12_init_111 : decode cX12_init 111 = .ok (.putfield 47, 3) := by decide +kernel
theorem dX12_init_114 : decode cX12_init 114 = .ok (.aload_n 0, 1) := by decide +kernel
theorem dX12_init_115 : decode cX12_init 115 = .ok (.bipush 80, 2) := by decide +kernel
theorem dX12_init_117 : decode cX12_init 117 = .ok (.newarray .int, 2) := by decide +kernel
theorem dX12_init_119 : decode cX12_init 119 = .ok (.putfield 50, 3) := by decide +kernel
theorem dX12_init_122 : decode cX12_init 122 = .ok (.aload_n 0, 1) := by decide +kernel
theorem dX12_init_123 : decode cX12_init 123 = .ok (.sipush 320, 3) := by decide +kernel
theorem dX12_init_126 : decode cX12_init 126 = .ok (.newarray .int, 2) := by decide +kernel
theorem dX12_init_128 : decode cX12_init 128 = .ok (.putfield 53, 3) := by decide +kernel
theorem dX12_init_131 : decode cX12_init 131 = .ok (.aload_n 0, 1) := by decide +kernel
theorem dX12_init_132 : decode cX12_init 132 = .ok (.iconst 0, 1) := by decide +kernel
theorem dX12_init_133 : decode cX12_init 133 = .ok (.putfield 56, 3) := by decide +kernel
theorem dX12_init_136 : decode cX12_init 136 = .ok (.return_, 1) := by decide +kernel
theorem dX12_in_0 : decode cX12_in 0 = .ok (.iload_n 0, 1) := by decide +kernel
theorem dX12_in_1 : decode cX12_in 1 = .ok (.iload_n 1, 1) := by decide +kernel
theorem dX12_in_2 : decode cX12_in 2 = .ok (.if_icmp .lt 12, 3) := by decide +kernel
theorem dX12_in_5 : decode cX12_in 5 = .ok (.iload_n 0, 1) := by decide +kernel
theorem dX12_in_6 : decode cX12_in 6 = .ok (.iload_n 2, 1) := by decide +kernel
theorem dX12_in_7 : decode cX12_in 7 = .ok (.if_icmp .gt 7, 3) := by decide +kernel
theorem dX12_in_10 : decode cX12_in 10 = .ok (.iconst 1, 1) := by decide +kernel
theorem dX12_in_11 : decode cX12_in 11 = .ok (.goto 4, 3) := by decide +kernel
theorem dX12_in_14 : decode cX12_in 14 = .ok (.iconst 0, 1) := by decide +kernel
theorem dX12_in_15 : decode cX12_in 15 = .ok (.ireturn, 1) := by decide +kernel
theorem dX12_has_0 : decode cX12_has 0 = .ok (.iload_n 0, 1) := by decide +kernel
theorem dX12_has_1 : decode cX12_has 1 = .ok (.iload_n 1, 1) := by decide +kernel
theorem dX12_has_2 : decode cX12_has 2 = .ok (.ishr, 1) := by decide +kernel
theorem dX12_has_3 : decode cX12_has 3 = .ok (.iconst 1, 1) := by decide +kernel
theorem dX12_has_4 : decode cX12_has 4 = .ok (.iand, 1) := by decide +kernel
theorem dX12_has_5 : decode cX12_has 5 = .ok (.iconst 1, 1) := by decide +kernel
theorem dX12_has_6 : decode cX12_has 6 = .ok (.if_icmp .ne 7, 3) := by decide +kernel
theorem dX12_has_9 : decode cX12_has 9 = .ok (.iconst 1, 1) := by decide +kernel
theorem dX12_has_10 : decode cX12_has 10 = .ok (.goto 4, 3) := by decide +kernel
theorem dX12_has_13 : decode cX12_has 13 = .ok (.iconst 0, 1) := by decide +kernel
theorem dX12_has_14 : decode cX12_has 14 = .ok (.ireturn, 1) := by decide +kernel
theorem dX12_bits_0 : decode cX12_bits 0 = .ok (.iconst 0, 1) := by decide +kernel
theorem dX12_bits_1 : decode cX12_bits 1 = .ok (.istore_n 1, 1) := by decide +kernel
theorem dX12_bits_2 : decode cX12_bits 2 = .ok (.iload_n 0, 1) := by decide +kernel
theorem dX12_bits_3 : decode cX12_bits 3 = .ok (.istore_n 2, 1) := by decide +kernel
theorem dX12_bits_4 : decode cX12_bits 4 = .ok (.iload_n 2, 1) := by decide +kernel
theorem dX12_bits_5 : decode cX12_bits 5 = .ok (.ifCond .eq 15, 3) := by decide +kernel
theorem dX12_bits_8 : decode cX12_bits 8 = .ok (.iinc 1 1, 3) := by decide +kernel
theorem dX12_bits_11 : decode cX12_bits 11 = .ok (.iload_n 2, 1) := by decide +kernel
theorem dX12_bits_12 : decode cX12_bits 12 = .ok (.iload_n 2, 1) := by decide +kernel
theorem dX12_bits_13 : decode cX12_bits 13 = .ok (.iconst 1, 1) := by decide +kernel
theorem dX12_bits_14 : decode cX12_bits 14 = .ok (.isub, 1) := by decide +kernel
theorem dX12_bits_15 : decode cX12_bits 15 = .ok (.iand, 1) := by decide +kernel
theorem dX12_bits_16 : decode cX12_bits 16 = .ok (.istore_n 2, 1) := by decide +kernel
theorem dX12_bits_17 : decode cX12_bits 17 = .ok (.goto (-13), 3) := by decide +kernel
theorem dX12_bits_20 : decode cX12_bits 20 = .ok (.iload_n 1, 1) := by decide +kernel
theorem dX12_bits_21 : decode cX12_bits 21 = .ok (.ireturn, 1) := by decide +kernel
theorem dX12_refuses_0 : decode cX12_refuses 0 = .ok (.aload_n 0, 1) := by decide +kernel
theorem dX12_refuses_1 : decode cX12_refuses 1 = .ok (.getfield 19, 3) := by decide +kernel
theorem dX12_refuses_4 : decode cX12_refuses 4 = .ok (.bipush (-2), 2) := by decide +kernel
theorem dX12_refuses_6 : decode cX12_refuses 6 = .ok (.iload_n 1, 1) := by decide +kernel
theorem dX12_refuses_7 : decode cX12_refuses 7 = .ok (.isub, 1) := by decide +kernel
theorem dX12_refuses_8 : decode cX12_refuses 8 = .ok (.dup2, 1) := by decide +kernel
theorem dX12_refuses_9 : decode cX12_refuses 9 = .ok (.iaload, 1) := by decide +kernel
theorem dX12_refuses_10 : decode cX12_refuses 10 = .ok (.iconst 1, 1) := by decide +kernel
theorem dX12_refuses_11 : decode cX12_refuses 11 = .ok (.iadd, 1) := by decide +kernel
theorem dX12_refuses_12 : decode cX12_refuses 12 = .ok (.iastore, 1) := by decide +kernel
theorem dX12_refuses_13 : decode cX12_refuses 13 = .ok (.iload_n 1, 1) := by decide +kernel
theorem dX12_refuses_14 : decode cX12_refuses 14 = .ok (.ireturn, 1) := by decide +kernel
theorem dX12_hold_0 : decode cX12_hold 0 = .ok (.iconst 0, 1) := by decide +kernel
theorem dX12_hold_1 : decode cX12_hold 1 = .ok (.istore_n 1, 1) := by decide +kernel
theorem dX12_hold_2 : decode cX12_hold 2 = .ok (.iload_n 1, 1) := by decide +kernel
theorem dX12_hold_3 : decode cX12_hold 3 = .ok (.sipush 131, 3) := by decide +kernel
theorem dX12_hold_6 : decode cX12_hold 6 = .ok (.if_icmp .ge 21, 3) := by decide +kernel
theorem dX12_hold_9 : decode cX12_hold 9 = .ok (.aload_n 0, 1) := by decide +kernel
theorem dX12_hold_10 : decode cX12_hold 10 = .ok (.getfield 13, 3) := by decide +kernel
theorem dX12_hold_13 : decode cX12_hold 13 = .ok (.iload_n 1, 1) := by decide +kernel
theorem dX12_hold_14 : decode cX12_hold 14 = .ok (.aload_n 0, 1) := by decide +kernel
theorem dX12_hold_15 : decode cX12_hold 15 = .ok (.getfield 7, 3) := by decide +kernel
theorem dX12_hold_18 : decode cX12_hold 18 = .ok (.iload_n 1, 1) := by decide +kernel
theorem dX12_hold_19 : decode cX12_hold 19 = .ok (.iaload, 1) := by decide +kernel
theorem dX12_hold_20 : decode cX12_hold 20 = .ok (.iastore, 1) := by decide +kernel
theorem dX12_hold_21 : decode cX12_hold 21 = .ok (.iinc 1 1, 3) := by decide +kernel
theorem dX12_hold_24 : decode cX12_hold 24 = .ok (.goto (-22), 3) := by decide +kernel
theorem dX12_hold_27 : decode cX12_hold 27 = .ok (.return_, 1) := by decide +kernel
theorem dX12_push_0 : decode cX12_push 0 = .ok (.aload_n 0, 1) := by decide +kernel
theorem dX12_push_1 : decode cX12_push 1 = .ok (.getfield 56, 3) := by decide +kernel
theorem dX12_push_4 : decode cX12_push 4 = .ok (.iconst 5, 1) := by decide +kernel
theorem dX12_push_5 : decode cX12_push 5 = .ok (.if_icmp .ne 44, 3) := by decide +kernel
theorem dX12_push_8 : decode cX12_push 8 = .ok (.iconst 0, 1) := by decide +kernel
theorem dX12_push_9 : decode cX12_push 9 = .ok (.istore_n 1, 1) := by decide +kernel
theorem dX12_push_10 : decode cX12_push 10 = .ok (.iload_n 1, 1) := by decide +kernel
theorem dX12_push_11 : decode cX12_push 11 = .ok (.sipush 524, 3) := by decide +kernel
theorem dX12_push_14 : decode cX12_push 14 = .ok (.if_icmp .ge 25, 3) := by decide +kernel
theorem dX12_push_17 : decode cX12_push 17 = .ok (.aload_n 0, 1) := by decide +kernel
theorem dX12_push_18 : decode cX12_push 18 = .ok (.getfield 16, 3) := by decide +kernel
theorem dX12_push_21 : decode cX12_push 21 = .ok (.iload_n 1, 1) := by decide +kernel
theorem dX12_push_22 : decode cX12_push 22 = .ok (.aload_n 0, 1) := by decide +kernel
theorem dX12_push_23 : decode cX12_push 23 = .ok (.getfield 16, 3) := by decide +kernel
theorem dX12_push_26 : decode cX12_push 26 = .ok (.iload_n 1, 1) := by decide +kernel
theorem dX12_push_27 : decode cX12_push 27 = .ok (.sipush 131, 3) := by decide +kernel
theorem dX12_push_30 : decode cX12_push 30 = .ok (.iadd, 1) := by decide +kernel
theorem dX12_push_31 : decode cX12_push 31 = .ok (.iaload, 1) := by decide +kernel
theorem dX12_push_32 : decode cX12_push 32 = .ok (.iastore, 1) := by decide +kernel
theorem dX12_push_33 : decode cX12_push 33 = .ok (.iinc 1 1, 3) := by decide +kernel
theorem dX12_push_36 : decode cX12_push 36 = .ok (.goto (-26), 3) := by decide +kernel
theorem dX12_push_39 : decode cX12_push 39 = .ok (.aload_n 0, 1) := by decide +kernel
theorem dX12_push_40 : decode cX12_push 40 = .ok (.dup, 1) := by decide +kernel
theorem dX12_push_41 : decode cX12_push 41 = .ok (.getfield 56, 3) := by decide +kernel
theorem dX12_push_44 : decode cX12_push 44 = .ok (.iconst 1, 1) := by decide +kernel
theorem dX12_push_45 : decode cX12_push 45 = .ok (.isub, 1) := by decide +kernel
theorem dX12_push_46 : decode cX12_push 46 = .ok (.putfield 56, 3) := by decide +kernel
theorem dX12_push_49 : decode cX12_push 49 = .ok (.iconst 0, 1) := by decide +kernel
theorem dX12_push_50 : decode cX12_push 50 = .ok (.istore_n 1, 1) := by decide +kernel
theorem dX12_push_51 : decode cX12_push 51 = .ok (.iload_n 1, 1) := by decide +kernel
theorem dX12_push_52 : decode cX12_push 52 = .ok (.sipush 131, 3) := by decide +kernel
theorem dX12_push_55 : decode cX12_push 55 = .ok (.if_icmp .ge 30, 3) := by decide +kernel
theorem dX12_push_58 : decode cX12_push 58 = .ok (.aload_n 0, 1) := by decide +kernel
theorem dX12_push_59 : decode cX12_push 59 = .ok (.getfield 16, 3) := by decide +kernel
theorem dX12_push_62 : decode cX12_push 62 = .ok (.sipush 131, 3) := by decide +kernel
theorem dX12_push_65 : decode cX12_push 65 = .ok (.aload_n 0, 1) := by decide +kernel
theorem dX12_push_66 : decode cX12_push 66 = .ok (.getfield 56, 3) := by decide +kernel
theorem dX12_push_69 : decode cX12_push 69 = .ok (.imul, 1) := by decide +kernel
theorem dX12_push_70 : decode cX12_push 70 = .ok (.iload_n 1, 1) := by decide +kernel
theorem dX12_push_71 : decode cX12_push 71 = .ok (.iadd, 1) := by decide +kernel
theorem dX12_push_72 : decode cX12_push 72 = .ok (.aload_n 0, 1) := by decide +kernel
theorem dX12_push_73 : decode cX12_push 73 = .ok (.getfield 13, 3) := by decide +kernel
theorem dX12_push_76 : decode cX12_push 76 = .ok (.iload_n 1, 1) := by decide +kernel
theorem dX12_push_77 : decode cX12_push 77 = .ok (.iaload, 1) := by decide +kernel
theorem dX12_push_78 : decode cX12_push 78 = .ok (.iastore, 1) := by decide +kernel
theorem dX12_push_79 : decode cX12_push 79 = .ok (.iinc 1 1, 3) := by decide +kernel
theorem dX12_push_82 : decode cX12_push 82 = .ok (.goto (-31), 3) := by decide +kernel
theorem dX12_push_85 : decode cX12_push 85 = .ok (.aload_n 0, 1) := by decide +kernel
theorem dX12_push_86 : decode cX12_push 86 = .ok (.dup, 1) := by decide +kernel
theorem dX12_push_87 : decode cX12_push 87 = .ok (.getfield 56, 3) := by decide +kernel
theorem dX12_push_90 : decode cX12_push 90 = .ok (.iconst 1, 1) := by decide +kernel
theorem dX12_push_91 : decode cX12_push 91 = .ok (.iadd, 1) := by decide +kernel
theorem dX12_push_92 : decode cX12_push 92 = .ok (.putfield 56, 3) := by decide +kernel
theorem dX12_push_95 : decode cX12_push 95 = .ok (.return_, 1) := by decide +kernel
theorem dX12_ends_0 : decode cX12_ends 0 = .ok (.iload_n 1, 1) := by decide +kernel
theorem dX12_ends_1 : decode cX12_ends 1 = .ok (.ifCond .ge 9, 3) := by decide +kernel
theorem dX12_ends_4 : decode cX12_ends 4 = .ok (.aload_n 0, 1) := by decide +kernel
theorem dX12_ends_5 : decode cX12_ends 5 = .ok (.iload_n 1, 1) := by decide +kernel
theorem dX12_ends_6 : decode cX12_ends 6 = .ok (.invokevirtual 60, 3) := by decide +kernel
theorem dX12_ends_9 : decode cX12_ends 9 = .ok (.ireturn, 1) := by decide +kernel
theorem dX12_ends_10 : decode cX12_ends 10 = .ok (.aload_n 0, 1) := by decide +kernel
theorem dX12_ends_11 : decode cX12_ends 11 = .ok (.invokevirtual 64, 3) := by decide +kernel
theorem dX12_ends_14 : decode cX12_ends 14 = .ok (.iload_n 1, 1) := by decide +kernel
theorem dX12_ends_15 : decode cX12_ends 15 = .ok (.ireturn, 1) := by decide +kernel
theorem dX12_back_0 : decode cX12_back 0 = .ok (.aload_n 0, 1) := by decide +kernel
theorem dX12_back_1 : decode cX12_back 1 = .ok (.getfield 56, 3) := by decide +kernel
theorem dX12_back_4 : decode cX12_back 4 = .ok (.ifCond .ne 10, 3) := by decide +kernel
theorem dX12_back_7 : decode cX12_back 7 = .ok (.aload_n 0, 1) := by decide +kernel
theorem dX12_back_8 : decode cX12_back 8 = .ok (.bipush (-3), 2) := by decide +kernel
theorem dX12_back_10 : decode cX12_back 10 = .ok (.invokevirtual 60, 3) := by decide +kernel
theorem dX12_back_13 : decode cX12_back 13 = .ok (.ireturn, 1) := by decide +kernel
theorem dX12_back_14 : decode cX12_back 14 = .ok (.aload_n 0, 1) := by decide +kernel
theorem dX12_back_15 : decode cX12_back 15 = .ok (.dup, 1) := by decide +kernel
theorem dX12_back_16 : decode cX12_back 16 = .ok (.getfield 56, 3) := by decide +kernel
theorem dX12_back_19 : decode cX12_back 19 = .ok (.iconst 1, 1) := by decide +kernel
theorem dX12_back_20 : decode cX12_back 20 = .ok (.isub, 1) := by decide +kernel
theorem dX12_back_21 : decode cX12_back 21 = .ok (.putfield 56, 3) := by decide +kernel
theorem dX12_back_24 : decode cX12_back 24 = .ok (.iconst 0, 1) := by decide +kernel
theorem dX12_back_25 : decode cX12_back 25 = .ok (.istore_n 1, 1) := by decide +kernel
theorem dX12_back_26 : decode cX12_back 26 = .ok (.iload_n 1, 1) := by decide +kernel
theorem dX12_back_27 : decode cX12_back 27 = .ok (.sipush 131, 3) := by decide +kernel
theorem dX12_back_30 : decode cX12_back 30 = .ok (.if_icmp .ge 30, 3) := by decide +kernel
theorem dX12_back_33 : decode cX12_back 33 = .ok (.aload_n 0, 1) := by decide +kernel
theorem dX12_back_34 : decode cX12_back 34 = .ok (.getfield 7, 3) := by decide +kernel
theorem dX12_back_37 : decode cX12_back 37 = .ok (.iload_n 1, 1) := by decide +kernel
theorem dX12_back_38 : decode cX12_back 38 = .ok (.aload_n 0, 1) := by decide +kernel
theorem dX12_back_39 : decode cX12_back 39 = .ok (.getfield 16, 3) := by decide +kernel
theorem dX12_back_42 : decode cX12_back 42 = .ok (.sipush 131, 3) := by decide +kernel
theorem dX12_back_45 : decode cX12_back 45 = .ok (.aload_n 0, 1) := by decide +kernel
theorem dX12_back_46 : decode cX12_back 46 = .ok (.getfield 56, 3) := by decide +kernel
theorem dX12_back_49 : decode cX12_back 49 = .ok (.imul, 1) := by decide +kernel
theorem dX12_back_50 : decode cX12_back 50 = .ok (.iload_n 1, 1) := by decide +kernel
theorem dX12_back_51 : decode cX12_back 51 = .ok (.iadd, 1) := by decide +kernel
theorem dX12_back_52 : decode cX12_back 52 = .ok (.iaload, 1) := by decide +kernel
theorem dX12_back_53 : decode cX12_back 53 = .ok (.iastore, 1) := by decide +kernel
theorem dX12_back_54 : decode cX12_back 54 = .ok (.iinc 1 1, 3) := by decide +kernel
theorem dX12_back_57 : decode cX12_back 57 = .ok (.goto (-31), 3) := by decide +kernel
theorem dX12_back_60 : decode cX12_back 60 = .ok (.aload_n 0, 1) := by decide +kernel
theorem dX12_back_61 : decode cX12_back 61 = .ok (.getfield 56, 3) := by decide +kernel
theorem dX12_back_64 : decode cX12_back 64 = .ok (.ireturn, 1) := by decide +kernel
theorem dX12_isBlock_0 : decode cX12_isBlock 0 = .ok (.iload_n 1, 1) := by decide +kernel
theorem dX12_isBlock_1 : decode cX12_isBlock 1 = .ok (.iconst 0, 1) := by decide +kernel
theorem dX12_isBlock_2 : decode cX12_isBlock 2 = .ok (.aload_n 0, 1) := by decide +kernel
theorem dX12_isBlock_3 : decode cX12_isBlock 3 = .ok (.getfield 7, 3) := by decide +kernel
theorem dX12_isBlock_6 : decode cX12_isBlock 6 = .ok (.iconst 0, 1) := by decide +kernel
theorem dX12_isBlock_7 : decode cX12_isBlock 7 = .ok (.iaload, 1) := by decide +kernel
theorem dX12_isBlock_8 : decode cX12_isBlock 8 = .ok (.iconst 1, 1) := by decide +kernel
theorem dX12_isBlock_9 : decode cX12_isBlock 9 = .ok (.isub, 1) := by decide +kernel
theorem dX12_isBlock_10 : decode cX12_isBlock 10 = .ok (.invokestatic 67, 3) := by decide +kernel
theorem dX12_isBlock_13 : decode cX12_isBlock 13 = .ok (.ireturn, 1) := by decide +kernel
theorem dX12_ofBlock_0 : decode cX12_ofBlock 0 = .ok (.aload_n 0, 1) := by decide +kernel
theorem dX12_ofBlock_1 : decode cX12_ofBlock 1 = .ok (.getfield 7, 3) := by decide +kernel
theorem dX12_ofBlock_4 : decode cX12_ofBlock 4 = .ok (.iconst 1, 1) := by decide +kernel
theorem dX12_ofBlock_5 : decode cX12_ofBlock 5 = .ok (.bipush 7, 2) := by decide +kernel
theorem dX12_ofBlock_7 : decode cX12_ofBlock 7 = .ok (.iload_n 1, 1) := by decide +kernel
theorem dX12_ofBlock_8 : decode cX12_ofBlock 8 = .ok (.imul, 1) := by decide +kernel
theorem dX12_ofBlock_9 : decode cX12_ofBlock 9 = .ok (.iadd, 1) := by decide +kernel
theorem dX12_ofBlock_10 : decode cX12_ofBlock 10 = .ok (.iload_n 2, 1) := by decide +kernel
theorem dX12_ofBlock_11 : decode cX12_ofBlock 11 = .ok (.iadd, 1) := by decide +kernel
theorem dX12_ofBlock_12 : decode cX12_ofBlock 12 = .ok (.iaload, 1) := by decide +kernel
theorem dX12_ofBlock_13 : decode cX12_ofBlock 13 = .ok (.ireturn, 1) := by decide +kernel
theorem dX12_moved_0 : decode cX12_moved 0 = .ok (.iconst 0, 1) := by decide +kernel
theorem dX12_moved_1 : decode cX12_moved 1 = .ok (.istore_n 3, 1) := by decide +kernel
theorem dX12_moved_2 : decode cX12_moved 2 = .ok (.iconst 0, 1) := by decide +kernel
theorem dX12_moved_3 : decode cX12_moved 3 = .ok (.istore 4, 2) := by decide +kernel
theorem dX12_moved_5 : decode cX12_moved 5 = .ok (.iload 4, 2) := by decide +kernel
theorem dX12_moved_7 : decode cX12_moved 7 = .ok (.bipush 16, 2) := by decide +kernel
theorem dX12_moved_9 : decode cX12_moved 9 = .ok (.if_icmp .ge 66, 3) := by decide +kernel
theorem dX12_moved_12 : decode cX12_moved 12 = .ok (.iload 4, 2) := by decide +kernel
theorem dX12_moved_14 : decode cX12_moved 14 = .ok (.iconst 4, 1) := by decide +kernel
theorem dX12_moved_15 : decode cX12_moved 15 = .ok (.irem, 1) := by decide +kernel
theorem dX12_moved_16 : decode cX12_moved 16 = .ok (.iload_n 1, 1) := by decide +kernel
theorem dX12_moved_17 : decode cX12_moved 17 = .ok (.iadd, 1) := by decide +kernel
theorem dX12_moved_18 : decode cX12_moved 18 = .ok (.istore 5, 2) := by decide +kernel
theorem dX12_moved_20 : decode cX12_moved 20 = .ok (.iload 4, 2) := by decide +kernel
theorem dX12_moved_22 : decode cX12_moved 22 = .ok (.iconst 4, 1) := by decide +kernel
theorem dX12_moved_23 : decode cX12_moved 23 = .ok (.idiv, 1) := by decide +kernel
theorem dX12_moved_24 : decode cX12_moved 24 = .ok (.iload_n 2, 1) := by decide +kernel
theorem dX12_moved_25 : decode cX12_moved 25 = .ok (.iadd, 1) := by decide +kernel
theorem dX12_moved_26 : decode cX12_moved 26 = .ok (.istore 6, 2) := by decide +kernel
theorem dX12_moved_28 : decode cX12_moved 28 = .ok (.iload_n 0, 1) := by decide +kernel
theorem dX12_moved_29 : decode cX12_moved 29 = .ok (.iload 4, 2) := by decide +kernel
theorem dX12_moved_31 : decode cX12_moved 31 = .ok (.invokestatic 71, 3) := by decide +kernel
theorem dX12_moved_34 : decode cX12_moved 34 = .ok (.ifCond .eq 35, 3) := by decide +kernel
theorem dX12_moved_37 : decode cX12_moved 37 = .ok (.iload 5, 2) := by decide +kernel
theorem dX12_moved_39 : decode cX12_moved 39 = .ok (.iconst 0, 1) := by decide +kernel
theorem dX12_moved_40 : decode cX12_moved 40 = .ok (.iconst 3, 1) := by decide +kernel
theorem dX12_moved_41 : decode cX12_moved 41 = .ok (.invokestatic 67, 3) := by decide +kernel
theorem dX12_moved_44 : decode cX12_moved 44 = .ok (.ifCond .eq 25, 3) := by decide +kernel
theorem dX12_moved_47 : decode cX12_moved 47 = .ok (.iload 6, 2) := by decide +kernel
theorem dX12_moved_49 : decode cX12_moved 49 = .ok (.iconst 0, 1) := by decide +kernel
theorem dX12_moved_50 : decode cX12_moved 50 = .ok (.iconst 3, 1) := by decide +kernel
theorem dX12_moved_51 : decode cX12_moved 51 = .ok (.invokestatic 67, 3) := by decide +kernel
theorem dX12_moved_54 : decode cX12_moved 54 = .ok (.ifCond .eq 15, 3) := by decide +kernel
theorem dX12_moved_57 : decode cX12_moved 57 = .ok (.iload_n 3, 1) := by decide +kernel
theorem dX12_moved_58 : decode cX12_moved 58 = .ok (.iconst 1, 1) := by decide +kernel
theorem dX12_moved_59 : decode cX12_moved 59 = .ok (.iconst 4, 1) := by decide +kernel
theorem dX12_moved_60 : decode cX12_moved 60 = .ok (.iload 6, 2) := by decide +kernel
theorem dX12_moved_62 : decode cX12_moved 62 = .ok (.imul, 1) := by decide +kernel
theorem dX12_moved_63 : decode cX12_moved 63 = .ok (.iload 5, 2) := by decide +kernel
theorem dX12_moved_65 : decode cX12_moved 65 = .ok (.iadd, 1) := by decide +kernel
theorem dX12_moved_66 : decode cX12_moved 66 = .ok (.ishl, 1) := by decide +kernel
theorem dX12_moved_67 : decode cX12_moved 67 = .ok (.ior, 1) := by decide +kernel
theorem dX12_moved_68 : decode cX12_moved 68 = .ok (.istore_n 3, 1) := by decide +kernel
theorem dX12_moved_69 : decode cX12_moved 69 = .ok (.iinc 4 1, 3) := by decide +kernel
theorem dX12_moved_72 : decode cX12_moved 72 = .ok (.goto (-67), 3) := by decide +kernel
theorem dX12_moved_75 : decode cX12_moved 75 = .ok (.iload_n 3, 1) := by decide +kernel
theorem dX12_moved_76 : decode cX12_moved 76 = .ok (.ireturn, 1) := by decide +kernel
theorem dX12_placeOf_0 : decode cX12_placeOf 0 = .ok (.aload_n 0, 1) := by decide +kernel
theorem dX12_placeOf_1 : decode cX12_placeOf 1 = .ok (.iload_n 1, 1) := by decide +kernel
theorem dX12_placeOf_2 : decode cX12_placeOf 2 = .ok (.iconst 3, 1) := by decide +kernel
theorem dX12_placeOf_3 : decode cX12_placeOf 3 = .ok (.invokevirtual 75, 3) := by decide +kernel
theorem dX12_placeOf_6 : decode cX12_placeOf 6 = .ok (.aload_n 0, 1) := by decide +kernel
theorem dX12_placeOf_7 : decode cX12_placeOf 7 = .ok (.iload_n 1, 1) := by decide +kernel
theorem dX12_placeOf_8 : decode cX12_placeOf 8 = .ok (.iconst 4, 1) := by decide +kernel
theorem dX12_placeOf_9 : decode cX12_placeOf 9 = .ok (.invokevirtual 75, 3) := by decide +kernel
theorem dX12_placeOf_12 : decode cX12_placeOf 12 = .ok (.aload_n 0, 1) := by decide +kernel
theorem dX12_placeOf_13 : decode cX12_placeOf 13 = .ok (.iload_n 1, 1) := by decide +kernel
theorem dX12_placeOf_14 : decode cX12_placeOf 14 = .ok (.iconst 5, 1) := by decide +kernel
theorem dX12_placeOf_15 : decode cX12_placeOf 15 = .ok (.invokevirtual 75, 3) := by decide +kernel
theorem dX12_placeOf_18 : decode cX12_placeOf 18 = .ok (.invokestatic 79, 3) := by decide +kernel
theorem dX12_placeOf_21 : decode cX12_placeOf 21 = .ok (.ireturn, 1) := by decide +kernel
theorem dX12_doBlock_0 : decode cX12_doBlock 0 = .ok (.iload_n 1, 1) := by decide +kernel
theorem dX12_doBlock_1 : decode cX12_doBlock 1 = .ok (.iconst 0, 1) := by decide +kernel
theorem dX12_doBlock_2 : decode cX12_doBlock 2 = .ok (.iconst 3, 1) := by decide +kernel
theorem dX12_doBlock_3 : decode cX12_doBlock 3 = .ok (.invokestatic 67, 3) := by decide +kernel
theorem dX12_doBlock_6 : decode cX12_doBlock 6 = .ok (.ifCond .eq 34, 3) := by decide +kernel
theorem dX12_doBlock_9 : decode cX12_doBlock 9 = .ok (.iload_n 2, 1) := by decide +kernel
theorem dX12_doBlock_10 : decode cX12_doBlock 10 = .ok (.iconst 1, 1) := by decide +kernel
theorem dX12_doBlock_11 : decode cX12_doBlock 11 = .ok (.bipush 7, 2) := by decide +kernel
theorem dX12_doBlock_13 : decode cX12_doBlock 13 = .ok (.invokestatic 67, 3) := by decide +kernel
theorem dX12_doBlock_16 : decode cX12_doBlock 16 = .ok (.ifCond .eq 24, 3) := by decide +kernel
theorem dX12_doBlock_19 : decode cX12_doBlock 19 = .ok (.iload_n 3, 1) := by decide +kernel
theorem dX12_doBlock_20 : decode cX12_doBlock 20 = .ok (.iconst 0, 1) := by decide +kernel
theorem dX12_doBlock_21 : decode cX12_doBlock 21 = .ok (.bipush 9, 2) := by decide +kernel
theorem dX12_doBlock_23 : decode cX12_doBlock 23 = .ok (.invokestatic 67, 3) := by decide +kernel
theorem dX12_doBlock_26 : decode cX12_doBlock 26 = .ok (.ifCond .eq 14, 3) := by decide +kernel
theorem dX12_doBlock_29 : decode cX12_doBlock 29 = .ok (.iload 4, 2) := by decide +kernel
theorem dX12_doBlock_31 : decode cX12_doBlock 31 = .ok (.iconst 1, 1) := by decide +kernel
theorem dX12_doBlock_32 : decode cX12_doBlock 32 = .ok (.ldc 83, 2) := by decide +kernel
theorem dX12_doBlock_34 : decode cX12_doBlock 34 = .ok (.invokestatic 67, 3) := by decide +kernel
theorem dX12_doBlock_37 : decode cX12_doBlock 37 = .ok (.ifCond .ne 6, 3) := by decide +kernel
theorem dX12_doBlock_40 : decode cX12_doBlock 40 = .ok (.bipush (-2), 2) := by decide +kernel
theorem dX12_doBlock_42 : decode cX12_doBlock 42 = .ok (.ireturn, 1) := by decide +kernel
theorem dX12_doBlock_43 : decode cX12_doBlock 43 = .ok (.aload_n 0, 1) := by decide +kernel
theorem dX12_doBlock_44 : decode cX12_doBlock 44 = .ok (.getfield 7, 3) := by decide +kernel
theorem dX12_doBlock_47 : decode cX12_doBlock 47 = .ok (.iconst 0, 1) := by decide +kernel
theorem dX12_doBlock_48 : decode cX12_doBlock 48 = .ok (.iaload, 1) := by decide +kernel
theorem dX12_doBlock_49 : decode cX12_doBlock 49 = .ok (.bipush 6, 2) := by decide +kernel
theorem dX12_doBlock_51 : decode cX12_doBlock 51 = .ok (.if_icmp .ne 6, 3) := by decide +kernel
theorem dX12_doBlock_54 : decode cX12_doBlock 54 = .ok (.bipush (-4), 2) := by decide +kernel
theorem dX12_doBlock_56 : decode cX12_doBlock 56 = .ok (.ireturn, 1) := by decide +kernel
theorem dX12_doBlock_57 : decode cX12_doBlock 57 = .ok (.iconst 1, 1) := by decide +kernel
theorem dX12_doBlock_58 : decode cX12_doBlock 58 = .ok (.bipush 7, 2) := by decide +kernel
theorem dX12_doBlock_60 : decode cX12_doBlock 60 = .ok (.aload_n 0, 1) := by decide +kernel
theorem dX12_doBlock_61 : decode cX12_doBlock 61 = .ok (.getfield 7, 3) := by decide +kernel
theorem dX12_doBlock_64 : decode cX12_doBlock 64 = .ok (.iconst 0, 1) := by decide +kernel
theorem dX12_doBlock_65 : decode cX12_doBlock 65 = .ok (.iaload, 1) := by decide +kernel
theorem dX12_doBlock_66 : decode cX12_doBlock 66 = .ok (.imul, 1) := by decide +kernel
theorem dX12_doBlock_67 : decode cX12_doBlock 67 = .ok (.iadd, 1) := by decide +kernel
theorem dX12_doBlock_68 : decode cX12_doBlock 68 = .ok (.istore 5, 2) := by decide +kernel
theorem dX12_doBlock_70 : decode cX12_doBlock 70 = .ok (.aload_n 0, 1) := by decide +kernel
theorem dX12_doBlock_71 : decode cX12_doBlock 71 = .ok (.getfield 7, 3) := by decide +kernel
theorem dX12_doBlock_74 : decode cX12_doBlock 74 = .ok (.iload 5, 2) := by decide +kernel
theorem dX12_doBlock_76 : decode cX12_doBlock 76 = .ok (.iload_n 1, 1) := by decide +kernel
theorem dX12_doBlock_77 : decode cX12_doBlock 77 = .ok (.iastore, 1) := by decide +kernel
theorem dX12_doBlock_78 : decode cX12_doBlock 78 = .ok (.aload_n 0, 1) := by decide +kernel
theorem dX12_doBlock_79 : decode cX12_doBlock 79 = .ok (.getfield 7, 3) := by decide +kernel
theorem dX12_doBlock_82 : decode cX12_doBlock 82 = .ok (.iload 5, 2) := by decide +kernel
theorem dX12_doBlock_84 : decode cX12_doBlock 84 = .ok (.iconst 1, 1) := by decide +kernel
theorem dX12_doBlock_85 : decode cX12_doBlock 85 = .ok (.iadd, 1) := by decide +kernel
theorem dX12_doBlock_86 : decode cX12_doBlock 86 = .ok (.iload_n 2, 1) := by decide +kernel
theorem dX12_doBlock_87 : decode cX12_doBlock 87 = .ok (.iastore, 1) := by decide +kernel
theorem dX12_doBlock_88 : decode cX12_doBlock 88 = .ok (.aload_n 0, 1) := by decide +kernel
theorem dX12_doBlock_89 : decode cX12_doBlock 89 = .ok (.getfield 7, 3) := by decide +kernel
theorem dX12_doBlock_92 : decode cX12_doBlock 92 = .ok (.iload 5, 2) := by decide +kernel
theorem dX12_doBlock_94 : decode cX12_doBlock 94 = .ok (.iconst 2, 1) := by decide +kernel
theorem dX12_doBlock_95 : decode cX12_doBlock 95 = .ok (.iadd, 1) := by decide +kernel
theorem dX12_doBlock_96 : decode cX12_doBlock 96 = .ok (.iload_n 3, 1) := by decide +kernel
theorem dX12_doBlock_97 : decode cX12_doBlock 97 = .ok (.iastore, 1) := by decide +kernel
theorem dX12_doBlock_98 : decode cX12_doBlock 98 = .ok (.aload_n 0, 1) := by decide +kernel
theorem dX12_doBlock_99 : decode cX12_doBlock 99 = .ok (.getfield 7, 3) := by decide +kernel
theorem dX12_doBlock_102 : decode cX12_doBlock 102 = .ok (.iload 5, 2) := by decide +kernel
theorem dX12_doBlock_104 : decode cX12_doBlock 104 = .ok (.iconst 3, 1) := by decide +kernel
theorem dX12_doBlock_105 : decode cX12_doBlock 105 = .ok (.iadd, 1) := by decide +kernel
theorem dX12_doBlock_106 : decode cX12_doBlock 106 = .ok (.iload 4, 2) := by decide +kernel
theorem dX12_doBlock_108 : decode cX12_doBlock 108 = .ok (.iastore, 1) := by decide +kernel
theorem dX12_doBlock_109 : decode cX12_doBlock 109 = .ok (.aload_n 0, 1) := by decide +kernel
theorem dX12_doBlock_110 : decode cX12_doBlock 110 = .ok (.getfield 7, 3) := by decide +kernel
theorem dX12_doBlock_113 : decode cX12_doBlock 113 = .ok (.iload 5, 2) := by decide +kernel
theorem dX12_doBlock_115 : decode cX12_doBlock 115 = .ok (.iconst 4, 1) := by decide +kernel
theorem dX12_doBlock_116 : decode cX12_doBlock 116 = .ok (.iadd, 1) := by decide +kernel
theorem dX12_doBlock_117 : decode cX12_doBlock 117 = .ok (.iconst 0, 1) := by decide +kernel
theorem dX12_doBlock_118 : decode cX12_doBlock 118 = .ok (.iastore, 1) := by decide +kernel
theorem dX12_doBlock_119 : decode cX12_doBlock 119 = .ok (.aload_n 0, 1) := by decide +kernel
theorem dX12_doBlock_120 : decode cX12_doBlock 120 = .ok (.getfield 7, 3) := by decide +kernel
theorem dX12_doBlock_123 : decode cX12_doBlock 123 = .ok (.iload 5, 2) := by decide +kernel
theorem dX12_doBlock_125 : decode cX12_doBlock 125 = .ok (.iconst 5, 1) := by decide +kernel
theorem dX12_doBlock_126 : decode cX12_doBlock 126 = .ok (.iadd, 1) := by decide +kernel
theorem dX12_doBlock_127 : decode cX12_doBlock 127 = .ok (.iconst 0, 1) := by decide +kernel
theorem dX12_doBlock_128 : decode cX12_doBlock 128 = .ok (.iastore, 1) := by decide +kernel
theorem dX12_doBlock_129 : decode cX12_doBlock 129 = .ok (.aload_n 0, 1) := by decide +kernel
theorem dX12_doBlock_130 : decode cX12_doBlock 130 = .ok (.getfield 7, 3) := by decide +kernel
theorem dX12_doBlock_133 : decode cX12_doBlock 133 = .ok (.iload 5, 2) := by decide +kernel
theorem dX12_doBlock_135 : decode cX12_doBlock 135 = .ok (.bipush 6, 2) := by decide +kernel
theorem dX12_doBlock_137 : decode cX12_doBlock 137 = .ok (.iadd, 1) := by decide +kernel
theorem dX12_doBlock_138 : decode cX12_doBlock 138 = .ok (.iconst 0, 1) := by decide +kernel
theorem dX12_doBlock_139 : decode cX12_doBlock 139 = .ok (.iastore, 1) := by decide +kernel
theorem dX12_doBlock_140 : decode cX12_doBlock 140 = .ok (.aload_n 0, 1) := by decide +kernel
theorem dX12_doBlock_141 : decode cX12_doBlock 141 = .ok (.getfield 7, 3) := by decide +kernel
theorem dX12_doBlock_144 : decode cX12_doBlock 144 = .ok (.iconst 0, 1) := by decide +kernel
theorem dX12_doBlock_145 : decode cX12_doBlock 145 = .ok (.dup2, 1) := by decide +kernel
theorem dX12_doBlock_146 : decode cX12_doBlock 146 = .ok (.iaload, 1) := by decide +kernel
theorem dX12_doBlock_147 : decode cX12_doBlock 147 = .ok (.iconst 1, 1) := by decide +kernel
theorem dX12_doBlock_148 : decode cX12_doBlock 148 = .ok (.iadd, 1) := by decide +kernel
theorem dX12_doBlock_149 : decode cX12_doBlock 149 = .ok (.iastore, 1) := by decide +kernel
theorem dX12_doBlock_150 : decode cX12_doBlock 150 = .ok (.aload_n 0, 1) := by decide +kernel
theorem dX12_doBlock_151 : decode cX12_doBlock 151 = .ok (.getfield 7, 3) := by decide +kernel
theorem dX12_doBlock_154 : decode cX12_doBlock 154 = .ok (.iconst 0, 1) := by decide +kernel
theorem dX12_doBlock_155 : decode cX12_doBlock 155 = .ok (.iaload, 1) := by decide +kernel
theorem dX12_doBlock_156 : decode cX12_doBlock 156 = .ok (.iconst 1, 1) := by decide +kernel
theorem dX12_doBlock_157 : decode cX12_doBlock 157 = .ok (.isub, 1) := by decide +kernel
theorem dX12_doBlock_158 : decode cX12_doBlock 158 = .ok (.ireturn, 1) := by decide +kernel
theorem dX12_doShifts_0 : decode cX12_doShifts 0 = .ok (.aload_n 0, 1) := by decide +kernel
theorem dX12_doShifts_1 : decode cX12_doShifts 1 = .ok (.iload_n 1, 1) := by decide +kernel
theorem dX12_doShifts_2 : decode cX12_doShifts 2 = .ok (.invokevirtual 84, 3) := by decide +kernel
theorem dX12_doShifts_5 : decode cX12_doShifts 5 = .ok (.ifCond .eq 23, 3) := by decide +kernel
theorem dX12_doShifts_8 : decode cX12_doShifts 8 = .ok (.iload_n 2, 1) := by decide +kernel
theorem dX12_doShifts_9 : decode cX12_doShifts 9 = .ok (.bipush (-3), 2) := by decide +kernel
theorem dX12_doShifts_11 : decode cX12_doShifts 11 = .ok (.iconst 3, 1) := by decide +kernel
theorem dX12_doShifts_12 : decode cX12_doShifts 12 = .ok (.invokestatic 67, 3) := by decide +kernel
theorem dX12_doShifts_15 : decode cX12_doShifts 15 = .ok (.ifCond .eq 13, 3) := by decide +kernel
theorem dX12_doShifts_18 : decode cX12_doShifts 18 = .ok (.iload_n 3, 1) := by decide +kernel
theorem dX12_doShifts_19 : decode cX12_doShifts 19 = .ok (.bipush (-3), 2) := by decide +kernel
theorem dX12_doShifts_21 : decode cX12_doShifts 21 = .ok (.iconst 3, 1) := by decide +kernel
theorem dX12_doShifts_22 : decode cX12_doShifts 22 = .ok (.invokestatic 67, 3) := by decide +kernel
theorem dX12_doShifts_25 : decode cX12_doShifts 25 = .ok (.ifCond .ne 6, 3) := by decide +kernel
theorem dX12_doShifts_28 : decode cX12_doShifts 28 = .ok (.bipush (-2), 2) := by decide +kernel
theorem dX12_doShifts_30 : decode cX12_doShifts 30 = .ok (.ireturn, 1) := by decide +kernel
theorem dX12_doShifts_31 : decode cX12_doShifts 31 = .ok (.aload_n 0, 1) := by decide +kernel
theorem dX12_doShifts_32 : decode cX12_doShifts 32 = .ok (.getfield 7, 3) := by decide +kernel
theorem dX12_doShifts_35 : decode cX12_doShifts 35 = .ok (.iconst 1, 1) := by decide +kernel
theorem dX12_doShifts_36 : decode cX12_doShifts 36 = .ok (.bipush 7, 2) := by decide +kernel
theorem dX12_doShifts_38 : decode cX12_doShifts 38 = .ok (.iload_n 1, 1) := by decide +kernel
theorem dX12_doShifts_39 : decode cX12_doShifts 39 = .ok (.imul, 1) := by decide +kernel
theorem dX12_doShifts_40 : decode cX12_doShifts 40 = .ok (.iadd, 1) := by decide +kernel
theorem dX12_doShifts_41 : decode cX12_doShifts 41 = .ok (.iconst 4, 1) := by decide +kernel
theorem dX12_doShifts_42 : decode cX12_doShifts 42 = .ok (.iadd, 1) := by decide +kernel
theorem dX12_doShifts_43 : decode cX12_doShifts 43 = .ok (.iload_n 2, 1) := by decide +kernel
theorem dX12_doShifts_44 : decode cX12_doShifts 44 = .ok (.iastore, 1) := by decide +kernel
theorem dX12_doShifts_45 : decode cX12_doShifts 45 = .ok (.aload_n 0, 1) := by decide +kernel
theorem dX12_doShifts_46 : decode cX12_doShifts 46 = .ok (.getfield 7, 3) := by decide +kernel
theorem dX12_doShifts_49 : decode cX12_doShifts 49 = .ok (.iconst 1, 1) := by decide +kernel
theorem dX12_doShifts_50 : decode cX12_doShifts 50 = .ok (.bipush 7, 2) := by decide +kernel
theorem dX12_doShifts_52 : decode cX12_doShifts 52 = .ok (.iload_n 1, 1) := by decide +kernel
theorem dX12_doShifts_53 : decode cX12_doShifts 53 = .ok (.imul, 1) := by decide +kernel
theorem dX12_doShifts_54 : decode cX12_doShifts 54 = .ok (.iadd, 1) := by decide +kernel
theorem dX12_doShifts_55 : decode cX12_doShifts 55 = .ok (.iconst 5, 1) := by decide +kernel
theorem dX12_doShifts_56 : decode cX12_doShifts 56 = .ok (.iadd, 1) := by decide +kernel
theorem dX12_doShifts_57 : decode cX12_doShifts 57 = .ok (.iload_n 3, 1) := by decide +kernel
theorem dX12_doShifts_58 : decode cX12_doShifts 58 = .ok (.iastore, 1) := by decide +kernel
theorem dX12_doShifts_59 : decode cX12_doShifts 59 = .ok (.aload_n 0, 1) := by decide +kernel
theorem dX12_doShifts_60 : decode cX12_doShifts 60 = .ok (.iload_n 1, 1) := by decide +kernel
theorem dX12_doShifts_61 : decode cX12_doShifts 61 = .ok (.invokevirtual 88, 3) := by decide +kernel
theorem dX12_doShifts_64 : decode cX12_doShifts 64 = .ok (.invokestatic 91, 3) := by decide +kernel
theorem dX12_doShifts_67 : decode cX12_doShifts 67 = .ok (.ireturn, 1) := by decide +kernel
theorem dX12_doBehind_0 : decode cX12_doBehind 0 = .ok (.aload_n 0, 1) := by decide +kernel
theorem dX12_doBehind_1 : decode cX12_doBehind 1 = .ok (.iload_n 1, 1) := by decide +kernel
theorem dX12_doBehind_2 : decode cX12_doBehind 2 = .ok (.invokevirtual 84, 3) := by decide +kernel
theorem dX12_doBehind_5 : decode cX12_doBehind 5 = .ok (.ifCond .eq 25, 3) := by decide +kernel
theorem dX12_doBehind_8 : decode cX12_doBehind 8 = .ok (.aload_n 0, 1) := by decide +kernel
theorem dX12_doBehind_9 : decode cX12_doBehind 9 = .ok (.iload_n 2, 1) := by decide +kernel
theorem dX12_doBehind_10 : decode cX12_doBehind 10 = .ok (.invokevirtual 84, 3) := by decide +kernel
theorem dX12_doBehind_13 : decode cX12_doBehind 13 = .ok (.ifCond .eq 17, 3) := by decide +kernel
theorem dX12_doBehind_16 : decode cX12_doBehind 16 = .ok (.iload_n 1, 1) := by decide +kernel
theorem dX12_doBehind_17 : decode cX12_doBehind 17 = .ok (.iload_n 2, 1) := by decide +kernel
theorem dX12_doBehind_18 : decode cX12_doBehind 18 = .ok (.if_icmp .eq 12, 3) := by decide +kernel
theorem dX12_doBehind_21 : decode cX12_doBehind 21 = .ok (.iload_n 3, 1) := by decide +kernel
theorem dX12_doBehind_22 : decode cX12_doBehind 22 = .ok (.iconst 0, 1) := by decide +kernel
theorem dX12_doBehind_23 : decode cX12_doBehind 23 = .ok (.iconst 1, 1) := by decide +kernel
theorem dX12_doBehind_24 : decode cX12_doBehind 24 = .ok (.invokestatic 67, 3) := by decide +kernel
theorem dX12_doBehind_27 : decode cX12_doBehind 27 = .ok (.ifCond .ne 6, 3) := by decide +kernel
theorem dX12_doBehind_30 : decode cX12_doBehind 30 = .ok (.bipush (-2), 2) := by decide +kernel
theorem dX12_doBehind_32 : decode cX12_doBehind 32 = .ok (.ireturn, 1) := by decide +kernel
theorem dX12_doBehind_33 : decode cX12_doBehind 33 = .ok (.iconst 1, 1) := by decide +kernel
theorem dX12_doBehind_34 : decode cX12_doBehind 34 = .ok (.bipush 7, 2) := by decide +kernel
theorem dX12_doBehind_36 : decode cX12_doBehind 36 = .ok (.iload_n 1, 1) := by decide +kernel
theorem dX12_doBehind_37 : decode cX12_doBehind 37 = .ok (.imul, 1) := by decide +kernel
theorem dX12_doBehind_38 : decode cX12_doBehind 38 = .ok (.iadd, 1) := by decide +kernel
theorem dX12_doBehind_39 : decode cX12_doBehind 39 = .ok (.bipush 6, 2) := by decide +kernel
theorem dX12_doBehind_41 : decode cX12_doBehind 41 = .ok (.iadd, 1) := by decide +kernel
theorem dX12_doBehind_42 : decode cX12_doBehind 42 = .ok (.istore 4, 2) := by decide +kernel
theorem dX12_doBehind_44 : decode cX12_doBehind 44 = .ok (.aload_n 0, 1) := by decide +kernel
theorem dX12_doBehind_45 : decode cX12_doBehind 45 = .ok (.getfield 7, 3) := by decide +kernel
theorem dX12_doBehind_48 : decode cX12_doBehind 48 = .ok (.iload 4, 2) := by decide +kernel
theorem dX12_doBehind_50 : decode cX12_doBehind 50 = .ok (.iaload, 1) := by decide +kernel
theorem dX12_doBehind_51 : decode cX12_doBehind 51 = .ok (.iload_n 2, 1) := by decide +kernel
theorem dX12_doBehind_52 : decode cX12_doBehind 52 = .ok (.ishr, 1) := by decide +kernel
theorem dX12_doBehind_53 : decode cX12_doBehind 53 = .ok (.iconst 1, 1) := by decide +kernel
theorem dX12_doBehind_54 : decode cX12_doBehind 54 = .ok (.iand, 1) := by decide +kernel
theorem dX12_doBehind_55 : decode cX12_doBehind 55 = .ok (.istore 5, 2) := by decide +kernel
theorem dX12_doBehind_57 : decode cX12_doBehind 57 = .ok (.aload_n 0, 1) := by decide +kernel
theorem dX12_doBehind_58 : decode cX12_doBehind 58 = .ok (.getfield 7, 3) := by decide +kernel
theorem dX12_doBehind_61 : decode cX12_doBehind 61 = .ok (.iload 4, 2) := by decide +kernel
theorem dX12_doBehind_63 : decode cX12_doBehind 63 = .ok (.aload_n 0, 1) := by decide +kernel
theorem dX12_doBehind_64 : decode cX12_doBehind 64 = .ok (.getfield 7, 3) := by decide +kernel
theorem dX12_doBehind_67 : decode cX12_doBehind 67 = .ok (.iload 4, 2) := by decide +kernel
theorem dX12_doBehind_69 : decode cX12_doBehind 69 = .ok (.iaload, 1) := by decide +kernel
theorem dX12_doBehind_70 : decode cX12_doBehind 70 = .ok (.iconst 1, 1) := by decide +kernel
theorem dX12_doBehind_71 : decode cX12_doBehind 71 = .ok (.iload_n 2, 1) := by decide +kernel
theorem dX12_doBehind_72 : decode cX12_doBehind 72 = .ok (.ishl, 1) := by decide +kernel
theorem dX12_doBehind_73 : decode cX12_doBehind 73 = .ok (.iconst (-1), 1) := by decide +kernel
theorem dX12_doBehind_74 : decode cX12_doBehind 74 = .ok (.ixor, 1) := by decide +kernel
theorem dX12_doBehind_75 : decode cX12_doBehind 75 = .ok (.iand, 1) := by decide +kernel
theorem dX12_doBehind_76 : decode cX12_doBehind 76 = .ok (.iload_n 3, 1) := by decide +kernel
theorem dX12_doBehind_77 : decode cX12_doBehind 77 = .ok (.iload_n 2, 1) := by decide +kernel
theorem dX12_doBehind_78 : decode cX12_doBehind 78 = .ok (.ishl, 1) := by decide +kernel
theorem dX12_doBehind_79 : decode cX12_doBehind 79 = .ok (.ior, 1) := by decide +kernel
theorem dX12_doBehind_80 : decode cX12_doBehind 80 = .ok (.iastore, 1) := by decide +kernel
theorem dX12_doBehind_81 : decode cX12_doBehind 81 = .ok (.iload 5, 2) := by decide +kernel
theorem dX12_doBehind_83 : decode cX12_doBehind 83 = .ok (.ireturn, 1) := by decide +kernel
theorem dX12_block_0 : decode cX12_block 0 = .ok (.aload_n 0, 1) := by decide +kernel
theorem dX12_block_1 : decode cX12_block 1 = .ok (.invokevirtual 94, 3) := by decide +kernel
theorem dX12_block_4 : decode cX12_block 4 = .ok (.aload_n 0, 1) := by decide +kernel
theorem dX12_block_5 : decode cX12_block 5 = .ok (.aload_n 0, 1) := by decide +kernel
theorem dX12_block_6 : decode cX12_block 6 = .ok (.iload_n 1, 1) := by decide +kernel
theorem dX12_block_7 : decode cX12_block 7 = .ok (.iload_n 2, 1) := by decide +kernel
theorem dX12_block_8 : decode cX12_block 8 = .ok (.iload_n 3, 1) := by decide +kernel
theorem dX12_block_9 : decode cX12_block 9 = .ok (.iload 4, 2) := by decide +kernel
theorem dX12_block_11 : decode cX12_block 11 = .ok (.invokevirtual 97, 3) := by decide +kernel
theorem dX12_block_14 : decode cX12_block 14 = .ok (.invokevirtual 101, 3) := by decide +kernel
theorem dX12_block_17 : decode cX12_block 17 = .ok (.ireturn, 1) := by decide +kernel
theorem dX12_shifts_0 : decode cX12_shifts 0 = .ok (.aload_n 0, 1) := by decide +kernel
theorem dX12_shifts_1 : decode cX12_shifts 1 = .ok (.invokevirtual 94, 3) := by decide +kernel
theorem dX12_shifts_4 : decode cX12_shifts 4 = .ok (.aload_n 0, 1) := by decide +kernel
theorem dX12_shifts_5 : decode cX12_shifts 5 = .ok (.aload_n 0, 1) := by decide +kernel
theorem dX12_shifts_6 : decode cX12_shifts 6 = .ok (.iload_n 1, 1) := by decide +kernel
theorem dX12_shifts_7 : decode cX12_shifts 7 = .ok (.iload_n 2, 1) := by decide +kernel
theorem dX12_shifts_8 : decode cX12_shifts 8 = .ok (.iload_n 3, 1) := by decide +kernel
theorem dX12_shifts_9 : decode cX12_shifts 9 = .ok (.invokevirtual 104, 3) := by decide +kernel
theorem dX12_shifts_12 : decode cX12_shifts 12 = .ok (.invokevirtual 101, 3) := by decide +kernel
theorem dX12_shifts_15 : decode cX12_shifts 15 = .ok (.ireturn, 1) := by decide +kernel
theorem dX12_behind_0 : decode cX12_behind 0 = .ok (.aload_n 0, 1) := by decide +kernel
theorem dX12_behind_1 : decode cX12_behind 1 = .ok (.invokevirtual 94, 3) := by decide +kernel
theorem dX12_behind_4 : decode cX12_behind 4 = .ok (.aload_n 0, 1) := by decide +kernel
theorem dX12_behind_5 : decode cX12_behind 5 = .ok (.aload_n 0, 1) := by decide +kernel
theorem dX12_behind_6 : decode cX12_behind 6 = .ok (.iload_n 1, 1) := by decide +kernel
theorem dX12_behind_7 : decode cX12_behind 7 = .ok (.iload_n 2, 1) := by decide +kernel
theorem dX12_behind_8 : decode cX12_behind 8 = .ok (.iload_n 3, 1) := by decide +kernel
theorem dX12_behind_9 : decode cX12_behind 9 = .ok (.invokevirtual 107, 3) := by decide +kernel
theorem dX12_behind_12 : decode cX12_behind 12 = .ok (.invokevirtual 101, 3) := by decide +kernel
theorem dX12_behind_15 : decode cX12_behind 15 = .ok (.ireturn, 1) := by decide +kernel
theorem dX12_plans_0 : decode cX12_plans 0 = .ok (.iload_n 1, 1) := by decide +kernel
theorem dX12_plans_1 : decode cX12_plans 1 = .ok (.iconst 0, 1) := by decide +kernel
theorem dX12_plans_2 : decode cX12_plans 2 = .ok (.bipush 15, 2) := by decide +kernel
theorem dX12_plans_4 : decode cX12_plans 4 = .ok (.invokestatic 67, 3) := by decide +kernel
theorem dX12_plans_7 : decode cX12_plans 7 = .ok (.ifCond .eq 13, 3) := by decide +kernel
theorem dX12_plans_10 : decode cX12_plans 10 = .ok (.iload_n 2, 1) := by decide +kernel
theorem dX12_plans_11 : decode cX12_plans 11 = .ok (.iconst 0, 1) := by decide +kernel
theorem dX12_plans_12 : decode cX12_plans 12 = .ok (.bipush 7, 2) := by decide +kernel
theorem dX12_plans_14 : decode cX12_plans 14 = .ok (.invokestatic 67, 3) := by decide +kernel
theorem dX12_plans_17 : decode cX12_plans 17 = .ok (.ifCond .ne 10, 3) := by decide +kernel
theorem dX12_plans_20 : decode cX12_plans 20 = .ok (.aload_n 0, 1) := by decide +kernel
theorem dX12_plans_21 : decode cX12_plans 21 = .ok (.bipush (-2), 2) := by decide +kernel
theorem dX12_plans_23 : decode cX12_plans 23 = .ok (.invokevirtual 60, 3) := by decide +kernel
theorem dX12_plans_26 : decode cX12_plans 26 = .ok (.ireturn, 1) := by decide +kernel
theorem dX12_plans_27 : decode cX12_plans 27 = .ok (.aload_n 0, 1) := by decide +kernel
theorem dX12_plans_28 : decode cX12_plans 28 = .ok (.invokevirtual 94, 3) := by decide +kernel
theorem dX12_plans_31 : decode cX12_plans 31 = .ok (.aload_n 0, 1) := by decide +kernel
theorem dX12_plans_32 : decode cX12_plans 32 = .ok (.getfield 7, 3) := by decide +kernel
theorem dX12_plans_35 : decode cX12_plans 35 = .ok (.bipush 43, 2) := by decide +kernel
theorem dX12_plans_37 : decode cX12_plans 37 = .ok (.iload_n 1, 1) := by decide +kernel
theorem dX12_plans_38 : decode cX12_plans 38 = .ok (.iadd, 1) := by decide +kernel
theorem dX12_plans_39 : decode cX12_plans 39 = .ok (.iaload, 1) := by decide +kernel
theorem dX12_plans_40 : decode cX12_plans 40 = .ok (.istore_n 3, 1) := by decide +kernel
theorem dX12_plans_41 : decode cX12_plans 41 = .ok (.aload_n 0, 1) := by decide +kernel
theorem dX12_plans_42 : decode cX12_plans 42 = .ok (.getfield 7, 3) := by decide +kernel
theorem dX12_plans_45 : decode cX12_plans 45 = .ok (.bipush 43, 2) := by decide +kernel
theorem dX12_plans_47 : decode cX12_plans 47 = .ok (.iload_n 1, 1) := by decide +kernel
theorem dX12_plans_48 : decode cX12_plans 48 = .ok (.iadd, 1) := by decide +kernel
theorem dX12_plans_49 : decode cX12_plans 49 = .ok (.iload_n 2, 1) := by decide +kernel
theorem dX12_plans_50 : decode cX12_plans 50 = .ok (.iastore, 1) := by decide +kernel
theorem dX12_plans_51 : decode cX12_plans 51 = .ok (.aload_n 0, 1) := by decide +kernel
theorem dX12_plans_52 : decode cX12_plans 52 = .ok (.invokevirtual 64, 3) := by decide +kernel
theorem dX12_plans_55 : decode cX12_plans 55 = .ok (.iload_n 3, 1) := by decide +kernel
theorem dX12_plans_56 : decode cX12_plans 56 = .ok (.ireturn, 1) := by decide +kernel
theorem dX12_ofAll_0 : decode cX12_ofAll 0 = .ok (.iload_n 2, 1) := by decide +kernel
theorem dX12_ofAll_1 : decode cX12_ofAll 1 = .ok (.iconst 4, 1) := by decide +kernel
theorem dX12_ofAll_2 : decode cX12_ofAll 2 = .ok (.if_icmp .ge 12, 3) := by decide +kernel
theorem dX12_ofAll_5 : decode cX12_ofAll 5 = .ok (.aload_n 0, 1) := by decide +kernel
theorem dX12_ofAll_6 : decode cX12_ofAll 6 = .ok (.iload_n 1, 1) := by decide +kernel
theorem dX12_ofAll_7 : decode cX12_ofAll 7 = .ok (.iload_n 2, 1) := by decide +kernel
theorem dX12_ofAll_8 : decode cX12_ofAll 8 = .ok (.invokevirtual 75, 3) := by decide +kernel
theorem dX12_ofAll_11 : decode cX12_ofAll 11 = .ok (.goto 42, 3) := by decide +kernel
theorem dX12_ofAll_14 : decode cX12_ofAll 14 = .ok (.iload_n 2, 1) := by decide +kernel
theorem dX12_ofAll_15 : decode cX12_ofAll 15 = .ok (.iconst 4, 1) := by decide +kernel
theorem dX12_ofAll_16 : decode cX12_ofAll 16 = .ok (.if_icmp .ne 11, 3) := by decide +kernel
theorem dX12_ofAll_19 : decode cX12_ofAll 19 = .ok (.aload_n 0, 1) := by decide +kernel
theorem dX12_ofAll_20 : decode cX12_ofAll 20 = .ok (.iload_n 1, 1) := by decide +kernel
theorem dX12_ofAll_21 : decode cX12_ofAll 21 = .ok (.invokevirtual 88, 3) := by decide +kernel
theorem dX12_ofAll_24 : decode cX12_ofAll 24 = .ok (.goto 29, 3) := by decide +kernel
theorem dX12_ofAll_27 : decode cX12_ofAll 27 = .ok (.iload_n 2, 1) := by decide +kernel
theorem dX12_ofAll_28 : decode cX12_ofAll 28 = .ok (.bipush 7, 2) := by decide +kernel
theorem dX12_ofAll_30 : decode cX12_ofAll 30 = .ok (.if_icmp .ge 16, 3) := by decide +kernel
theorem dX12_ofAll_33 : decode cX12_ofAll 33 = .ok (.aload_n 0, 1) := by decide +kernel
theorem dX12_ofAll_34 : decode cX12_ofAll 34 = .ok (.iload_n 1, 1) := by decide +kernel
theorem dX12_ofAll_35 : decode cX12_ofAll 35 = .ok (.iload_n 2, 1) := by decide +kernel
theorem dX12_ofAll_36 : decode cX12_ofAll 36 = .ok (.iconst 1, 1) := by decide +kernel
theorem dX12_ofAll_37 : decode cX12_ofAll 37 = .ok (.isub, 1) := by decide +kernel
theorem dX12_ofAll_38 : decode cX12_ofAll 38 = .ok (.invokevirtual 75, 3) := by decide +kernel
theorem dX12_ofAll_41 : decode cX12_ofAll 41 = .ok (.iconst 3, 1) := by decide +kernel
theorem dX12_ofAll_42 : decode cX12_ofAll 42 = .ok (.iadd, 1) := by decide +kernel
theorem dX12_ofAll_43 : decode cX12_ofAll 43 = .ok (.goto 10, 3) := by decide +kernel
theorem dX12_ofAll_46 : decode cX12_ofAll 46 = .ok (.aload_n 0, 1) := by decide +kernel
theorem dX12_ofAll_47 : decode cX12_ofAll 47 = .ok (.iload_n 1, 1) := by decide +kernel
theorem dX12_ofAll_48 : decode cX12_ofAll 48 = .ok (.bipush 6, 2) := by decide +kernel
theorem dX12_ofAll_50 : decode cX12_ofAll 50 = .ok (.invokevirtual 75, 3) := by decide +kernel
theorem dX12_ofAll_53 : decode cX12_ofAll 53 = .ok (.ireturn, 1) := by decide +kernel
theorem dX12_of_0 : decode cX12_of 0 = .ok (.aload_n 0, 1) := by decide +kernel
theorem dX12_of_1 : decode cX12_of 1 = .ok (.iload_n 1, 1) := by decide +kernel
theorem dX12_of_2 : decode cX12_of 2 = .ok (.invokevirtual 84, 3) := by decide +kernel
theorem dX12_of_5 : decode cX12_of 5 = .ok (.ifCond .eq 22, 3) := by decide +kernel
theorem dX12_of_8 : decode cX12_of 8 = .ok (.iload_n 2, 1) := by decide +kernel
theorem dX12_of_9 : decode cX12_of 9 = .ok (.iconst 0, 1) := by decide +kernel
theorem dX12_of_10 : decode cX12_of 10 = .ok (.bipush 7, 2) := by decide +kernel
theorem dX12_of_12 : decode cX12_of 12 = .ok (.invokestatic 67, 3) := by decide +kernel
theorem dX12_of_15 : decode cX12_of 15 = .ok (.ifCond .eq 12, 3) := by decide +kernel
theorem dX12_of_18 : decode cX12_of 18 = .ok (.aload_n 0, 1) := by decide +kernel
theorem dX12_of_19 : decode cX12_of 19 = .ok (.iload_n 1, 1) := by decide +kernel
theorem dX12_of_20 : decode cX12_of 20 = .ok (.iload_n 2, 1) := by decide +kernel
theorem dX12_of_21 : decode cX12_of 21 = .ok (.invokevirtual 110, 3) := by decide +kernel
theorem dX12_of_24 : decode cX12_of 24 = .ok (.goto 9, 3) := by decide +kernel
theorem dX12_of_27 : decode cX12_of 27 = .ok (.aload_n 0, 1) := by decide +kernel
theorem dX12_of_28 : decode cX12_of 28 = .ok (.bipush (-2), 2) := by decide +kernel
theorem dX12_of_30 : decode cX12_of 30 = .ok (.invokevirtual 60, 3) := by decide +kernel
theorem dX12_of_33 : decode cX12_of 33 = .ok (.ireturn, 1) := by decide +kernel
theorem dX12_common_0 : decode cX12_common 0 = .ok (.aload_n 0, 1) := by decide +kernel
theorem dX12_common_1 : decode cX12_common 1 = .ok (.iload_n 1, 1) := by decide +kernel
theorem dX12_common_2 : decode cX12_common 2 = .ok (.invokevirtual 84, 3) := by decide +kernel
theorem dX12_common_5 : decode cX12_common 5 = .ok (.ifCond .eq 25, 3) := by decide +kernel
theorem dX12_common_8 : decode cX12_common 8 = .ok (.aload_n 0, 1) := by decide +kernel
theorem dX12_common_9 : decode cX12_common 9 = .ok (.iload_n 2, 1) := by decide +kernel
theorem dX12_common_10 : decode cX12_common 10 = .ok (.invokevirtual 84, 3) := by decide +kernel
theorem dX12_common_13 : decode cX12_common 13 = .ok (.ifCond .eq 17, 3) := by decide +kernel
theorem dX12_common_16 : decode cX12_common 16 = .ok (.iload_n 1, 1) := by decide +kernel
theorem dX12_common_17 : decode cX12_common 17 = .ok (.iload_n 2, 1) := by decide +kernel
theorem dX12_common_18 : decode cX12_common 18 = .ok (.if_icmp .eq 12, 3) := by decide +kernel
theorem dX12_common_21 : decode cX12_common 21 = .ok (.iload_n 3, 1) := by decide +kernel
theorem dX12_common_22 : decode cX12_common 22 = .ok (.iconst 0, 1) := by decide +kernel
theorem dX12_common_23 : decode cX12_common 23 = .ok (.iconst 1, 1) := by decide +kernel
theorem dX12_common_24 : decode cX12_common 24 = .ok (.invokestatic 67, 3) := by decide +kernel
theorem dX12_common_27 : decode cX12_common 27 = .ok (.ifCond .ne 10, 3) := by decide +kernel
theorem dX12_common_30 : decode cX12_common 30 = .ok (.aload_n 0, 1) := by decide +kernel
theorem dX12_common_31 : decode cX12_common 31 = .ok (.bipush (-2), 2) := by decide +kernel
theorem dX12_common_33 : decode cX12_common 33 = .ok (.invokevirtual 60, 3) := by decide +kernel
theorem dX12_common_36 : decode cX12_common 36 = .ok (.ireturn, 1) := by decide +kernel
theorem dX12_common_37 : decode cX12_common 37 = .ok (.aload_n 0, 1) := by decide +kernel
theorem dX12_common_38 : decode cX12_common 38 = .ok (.iload_n 1, 1) := by decide +kernel
theorem dX12_common_39 : decode cX12_common 39 = .ok (.invokevirtual 88, 3) := by decide +kernel
theorem dX12_common_42 : decode cX12_common 42 = .ok (.aload_n 0, 1) := by decide +kernel
theorem dX12_common_43 : decode cX12_common 43 = .ok (.iload_n 2, 1) := by decide +kernel
theorem dX12_common_44 : decode cX12_common 44 = .ok (.invokevirtual 88, 3) := by decide +kernel
theorem dX12_common_47 : decode cX12_common 47 = .ok (.iand, 1) := by decide +kernel
theorem dX12_common_48 : decode cX12_common 48 = .ok (.istore 4, 2) := by decide +kernel
theorem dX12_common_50 : decode cX12_common 50 = .ok (.iload_n 3, 1) := by decide +kernel
theorem dX12_common_51 : decode cX12_common 51 = .ok (.ifCond .ne 11, 3) := by decide +kernel
theorem dX12_common_54 : decode cX12_common 54 = .ok (.iload 4, 2) := by decide +kernel
theorem dX12_common_56 : decode cX12_common 56 = .ok (.invokestatic 91, 3) := by decide +kernel
theorem dX12_common_59 : decode cX12_common 59 = .ok (.goto 5, 3) := by decide +kernel
theorem dX12_common_62 : decode cX12_common 62 = .ok (.iload 4, 2) := by decide +kernel
theorem dX12_common_64 : decode cX12_common 64 = .ok (.ireturn, 1) := by decide +kernel
theorem dX12_more_0 : decode cX12_more 0 = .ok (.iconst 0, 1) := by decide +kernel
theorem dX12_more_1 : decode cX12_more 1 = .ok (.istore_n 3, 1) := by decide +kernel
theorem dX12_more_2 : decode cX12_more 2 = .ok (.iconst 0, 1) := by decide +kernel
theorem dX12_more_3 : decode cX12_more 3 = .ok (.istore 4, 2) := by decide +kernel
theorem dX12_more_5 : decode cX12_more 5 = .ok (.iload 4, 2) := by decide +kernel
theorem dX12_more_7 : decode cX12_more 7 = .ok (.bipush 16, 2) := by decide +kernel
theorem dX12_more_9 : decode cX12_more 9 = .ok (.if_icmp .ge 44, 3) := by decide +kernel
theorem dX12_more_12 : decode cX12_more 12 = .ok (.iload_n 3, 1) := by decide +kernel
theorem dX12_more_13 : decode cX12_more 13 = .ok (.iload_n 1, 1) := by decide +kernel
theorem dX12_more_14 : decode cX12_more 14 = .ok (.iload 4, 2) := by decide +kernel
theorem dX12_more_16 : decode cX12_more 16 = .ok (.invokestatic 71, 3) := by decide +kernel
theorem dX12_more_19 : decode cX12_more 19 = .ok (.ifCond .ne 7, 3) := by decide +kernel
theorem dX12_more_22 : decode cX12_more 22 = .ok (.iconst 0, 1) := by decide +kernel
theorem dX12_more_23 : decode cX12_more 23 = .ok (.goto 22, 3) := by decide +kernel
theorem dX12_more_26 : decode cX12_more 26 = .ok (.aload_n 0, 1) := by decide +kernel
theorem dX12_more_27 : decode cX12_more 27 = .ok (.getfield 7, 3) := by decide +kernel
theorem dX12_more_30 : decode cX12_more 30 = .ok (.bipush 43, 2) := by decide +kernel
theorem dX12_more_32 : decode cX12_more 32 = .ok (.iload 4, 2) := by decide +kernel
theorem dX12_more_34 : decode cX12_more 34 = .ok (.iadd, 1) := by decide +kernel
theorem dX12_more_35 : decode cX12_more 35 = .ok (.iaload, 1) := by decide +kernel
theorem dX12_more_36 : decode cX12_more 36 = .ok (.iload_n 2, 1) := by decide +kernel
theorem dX12_more_37 : decode cX12_more 37 = .ok (.if_icmp .ne 7, 3) := by decide +kernel
theorem dX12_more_40 : decode cX12_more 40 = .ok (.iconst 1, 1) := by decide +kernel
theorem dX12_more_41 : decode cX12_more 41 = .ok (.goto 4, 3) := by decide +kernel
theorem dX12_more_44 : decode cX12_more 44 = .ok (.iconst (-1), 1) := by decide +kernel
theorem dX12_more_45 : decode cX12_more 45 = .ok (.iadd, 1) := by decide +kernel
theorem dX12_more_46 : decode cX12_more 46 = .ok (.istore_n 3, 1) := by decide +kernel
theorem dX12_more_47 : decode cX12_more 47 = .ok (.iinc 4 1, 3) := by decide +kernel
theorem dX12_more_50 : decode cX12_more 50 = .ok (.goto (-45), 3) := by decide +kernel
theorem dX12_more_53 : decode cX12_more 53 = .ok (.iload_n 3, 1) := by decide +kernel
theorem dX12_more_54 : decode cX12_more 54 = .ok (.ireturn, 1) := by decide +kernel
theorem dX12_fit_0 : decode cX12_fit 0 = .ok (.aload_n 0, 1) := by decide +kernel
theorem dX12_fit_1 : decode cX12_fit 1 = .ok (.iload_n 1, 1) := by decide +kernel
theorem dX12_fit_2 : decode cX12_fit 2 = .ok (.invokevirtual 84, 3) := by decide +kernel
theorem dX12_fit_5 : decode cX12_fit 5 = .ok (.ifCond .eq 12, 3) := by decide +kernel
theorem dX12_fit_8 : decode cX12_fit 8 = .ok (.iload_n 2, 1) := by decide +kernel
end
section
theorem dX12_fit_9 : decode cX12_fit 9 = .ok (.iconst 0, 1) := by decide +kernel
theorem dX12_fit_10 : decode cX12_fit 10 = .ok (.iconst 2, 1) := by decide +kernel
theorem dX12_fit_11 : decode cX12_fit 11 = .ok (.invokestatic 67, 3) := by decide +kernel
theorem dX12_fit_14 : decode cX12_fit 14 = .ok (.ifCond .ne 10, 3) := by decide +kernel
theorem dX12_fit_17 : decode cX12_fit 17 = .ok (.aload_n 0, 1) := by decide +kernel
theorem dX12_fit_18 : decode cX12_fit 18 = .ok (.bipush (-2), 2) := by decide +kernel
theorem dX12_fit_20 : decode cX12_fit 20 = .ok (.invokevirtual 60, 3) := by decide +kernel
theorem dX12_fit_23 : decode cX12_fit 23 = .ok (.ireturn, 1) := by decide +kernel
theorem dX12_fit_24 : decode cX12_fit 24 = .ok (.iconst 0, 1) := by decide +kernel
theorem dX12_fit_25 : decode cX12_fit 25 = .ok (.istore_n 3, 1) := by decide +kernel
theorem dX12_fit_26 : decode cX12_fit 26 = .ok (.bipush (-17), 2) := by decide +kernel
theorem dX12_fit_28 : decode cX12_fit 28 = .ok (.istore 4, 2) := by decide +kernel
theorem dX12_fit_30 : decode cX12_fit 30 = .ok (.iconst 0, 1) := by decide +kernel
theorem dX12_fit_31 : decode cX12_fit 31 = .ok (.istore 5, 2) := by decide +kernel
theorem dX12_fit_33 : decode cX12_fit 33 = .ok (.iload 5, 2) := by decide +kernel
theorem dX12_fit_35 : decode cX12_fit 35 = .ok (.bipush 49, 2) := by decide +kernel
theorem dX12_fit_37 : decode cX12_fit 37 = .ok (.if_icmp .ge 74, 3) := by decide +kernel
theorem dX12_fit_40 : decode cX12_fit 40 = .ok (.aload_n 0, 1) := by decide +kernel
theorem dX12_fit_41 : decode cX12_fit 41 = .ok (.aload_n 0, 1) := by decide +kernel
theorem dX12_fit_42 : decode cX12_fit 42 = .ok (.iload_n 1, 1) := by decide +kernel
theorem dX12_fit_43 : decode cX12_fit 43 = .ok (.iconst 3, 1) := by decide +kernel
theorem dX12_fit_44 : decode cX12_fit 44 = .ok (.invokevirtual 75, 3) := by decide +kernel
theorem dX12_fit_47 : decode cX12_fit 47 = .ok (.iload 5, 2) := by decide +kernel
theorem dX12_fit_49 : decode cX12_fit 49 = .ok (.bipush 7, 2) := by decide +kernel
theorem dX12_fit_51 : decode cX12_fit 51 = .ok (.irem, 1) := by decide +kernel
theorem dX12_fit_52 : decode cX12_fit 52 = .ok (.iconst 3, 1) := by decide +kernel
theorem dX12_fit_53 : decode cX12_fit 53 = .ok (.isub, 1) := by decide +kernel
theorem dX12_fit_54 : decode cX12_fit 54 = .ok (.iload 5, 2) := by decide +kernel
theorem dX12_fit_56 : decode cX12_fit 56 = .ok (.bipush 7, 2) := by decide +kernel
theorem dX12_fit_58 : decode cX12_fit 58 = .ok (.idiv, 1) := by decide +kernel
theorem dX12_fit_59 : decode cX12_fit 59 = .ok (.iconst 3, 1) := by decide +kernel
theorem dX12_fit_60 : decode cX12_fit 60 = .ok (.isub, 1) := by decide +kernel
theorem dX12_fit_61 : decode cX12_fit 61 = .ok (.invokestatic 79, 3) := by decide +kernel
theorem dX12_fit_64 : decode cX12_fit 64 = .ok (.aload_n 0, 1) := by decide +kernel
theorem dX12_fit_65 : decode cX12_fit 65 = .ok (.iload_n 1, 1) := by decide +kernel
theorem dX12_fit_66 : decode cX12_fit 66 = .ok (.iconst 1, 1) := by decide +kernel
theorem dX12_fit_67 : decode cX12_fit 67 = .ok (.invokevirtual 75, 3) := by decide +kernel
theorem dX12_fit_70 : decode cX12_fit 70 = .ok (.invokevirtual 113, 3) := by decide +kernel
theorem dX12_fit_73 : decode cX12_fit 73 = .ok (.istore 6, 2) := by decide +kernel
theorem dX12_fit_75 : decode cX12_fit 75 = .ok (.iload 6, 2) := by decide +kernel
theorem dX12_fit_77 : decode cX12_fit 77 = .ok (.iload 4, 2) := by decide +kernel
theorem dX12_fit_79 : decode cX12_fit 79 = .ok (.if_icmp .le 8, 3) := by decide +kernel
theorem dX12_fit_82 : decode cX12_fit 82 = .ok (.iload 5, 2) := by decide +kernel
theorem dX12_fit_84 : decode cX12_fit 84 = .ok (.goto 4, 3) := by decide +kernel
theorem dX12_fit_87 : decode cX12_fit 87 = .ok (.iload_n 3, 1) := by decide +kernel
theorem dX12_fit_88 : decode cX12_fit 88 = .ok (.istore_n 3, 1) := by decide +kernel
theorem dX12_fit_89 : decode cX12_fit 89 = .ok (.iload 6, 2) := by decide +kernel
theorem dX12_fit_91 : decode cX12_fit 91 = .ok (.iload 4, 2) := by decide +kernel
theorem dX12_fit_93 : decode cX12_fit 93 = .ok (.if_icmp .le 8, 3) := by decide +kernel
theorem dX12_fit_96 : decode cX12_fit 96 = .ok (.iload 6, 2) := by decide +kernel
theorem dX12_fit_98 : decode cX12_fit 98 = .ok (.goto 5, 3) := by decide +kernel
theorem dX12_fit_101 : decode cX12_fit 101 = .ok (.iload 4, 2) := by decide +kernel
theorem dX12_fit_103 : decode cX12_fit 103 = .ok (.istore 4, 2) := by decide +kernel
theorem dX12_fit_105 : decode cX12_fit 105 = .ok (.iinc 5 1, 3) := by decide +kernel
theorem dX12_fit_108 : decode cX12_fit 108 = .ok (.goto (-75), 3) := by decide +kernel
theorem dX12_fit_111 : decode cX12_fit 111 = .ok (.iload_n 2, 1) := by decide +kernel
theorem dX12_fit_112 : decode cX12_fit 112 = .ok (.ifCond .ne 10, 3) := by decide +kernel
theorem dX12_fit_115 : decode cX12_fit 115 = .ok (.iload_n 3, 1) := by decide +kernel
theorem dX12_fit_116 : decode cX12_fit 116 = .ok (.bipush 7, 2) := by decide +kernel
theorem dX12_fit_118 : decode cX12_fit 118 = .ok (.irem, 1) := by decide +kernel
theorem dX12_fit_119 : decode cX12_fit 119 = .ok (.goto 20, 3) := by decide +kernel
theorem dX12_fit_122 : decode cX12_fit 122 = .ok (.iload_n 2, 1) := by decide +kernel
theorem dX12_fit_123 : decode cX12_fit 123 = .ok (.iconst 1, 1) := by decide +kernel
theorem dX12_fit_124 : decode cX12_fit 124 = .ok (.if_icmp .ne 10, 3) := by decide +kernel
theorem dX12_fit_127 : decode cX12_fit 127 = .ok (.iload_n 3, 1) := by decide +kernel
theorem dX12_fit_128 : decode cX12_fit 128 = .ok (.bipush 7, 2) := by decide +kernel
theorem dX12_fit_130 : decode cX12_fit 130 = .ok (.idiv, 1) := by decide +kernel
theorem dX12_fit_131 : decode cX12_fit 131 = .ok (.goto 8, 3) := by decide +kernel
theorem dX12_fit_134 : decode cX12_fit 134 = .ok (.iload 4, 2) := by decide +kernel
theorem dX12_fit_136 : decode cX12_fit 136 = .ok (.bipush 16, 2) := by decide +kernel
theorem dX12_fit_138 : decode cX12_fit 138 = .ok (.iadd, 1) := by decide +kernel
theorem dX12_fit_139 : decode cX12_fit 139 = .ok (.ireturn, 1) := by decide +kernel
theorem dX12_printOn_0 : decode cX12_printOn 0 = .ok (.aload_n 0, 1) := by decide +kernel
theorem dX12_printOn_1 : decode cX12_printOn 1 = .ok (.iload_n 1, 1) := by decide +kernel
theorem dX12_printOn_2 : decode cX12_printOn 2 = .ok (.iconst 0, 1) := by decide +kernel
theorem dX12_printOn_3 : decode cX12_printOn 3 = .ok (.invokevirtual 75, 3) := by decide +kernel
theorem dX12_printOn_6 : decode cX12_printOn 6 = .ok (.istore_n 3, 1) := by decide +kernel
theorem dX12_printOn_7 : decode cX12_printOn 7 = .ok (.iload_n 2, 1) := by decide +kernel
theorem dX12_printOn_8 : decode cX12_printOn 8 = .ok (.aload_n 0, 1) := by decide +kernel
theorem dX12_printOn_9 : decode cX12_printOn 9 = .ok (.getfield 116, 3) := by decide +kernel
theorem dX12_printOn_12 : decode cX12_printOn 12 = .ok (.iconst (-1), 1) := by decide +kernel
theorem dX12_printOn_13 : decode cX12_printOn 13 = .ok (.ixor, 1) := by decide +kernel
theorem dX12_printOn_14 : decode cX12_printOn 14 = .ok (.iand, 1) := by decide +kernel
theorem dX12_printOn_15 : decode cX12_printOn 15 = .ok (.istore 4, 2) := by decide +kernel
theorem dX12_printOn_17 : decode cX12_printOn 17 = .ok (.iconst 0, 1) := by decide +kernel
theorem dX12_printOn_18 : decode cX12_printOn 18 = .ok (.istore 5, 2) := by decide +kernel
theorem dX12_printOn_20 : decode cX12_printOn 20 = .ok (.iload 5, 2) := by decide +kernel
theorem dX12_printOn_22 : decode cX12_printOn 22 = .ok (.bipush 16, 2) := by decide +kernel
theorem dX12_printOn_24 : decode cX12_printOn 24 = .ok (.if_icmp .ge 140, 3) := by decide +kernel
theorem dX12_printOn_27 : decode cX12_printOn 27 = .ok (.iload 4, 2) := by decide +kernel
theorem dX12_printOn_29 : decode cX12_printOn 29 = .ok (.iload 5, 2) := by decide +kernel
theorem dX12_printOn_31 : decode cX12_printOn 31 = .ok (.invokestatic 71, 3) := by decide +kernel
theorem dX12_printOn_34 : decode cX12_printOn 34 = .ok (.ifCond .eq 124, 3) := by decide +kernel
theorem dX12_printOn_37 : decode cX12_printOn 37 = .ok (.iload_n 3, 1) := by decide +kernel
theorem dX12_printOn_38 : decode cX12_printOn 38 = .ok (.ifCond .ne 27, 3) := by decide +kernel
theorem dX12_printOn_41 : decode cX12_printOn 41 = .ok (.aload_n 0, 1) := by decide +kernel
theorem dX12_printOn_42 : decode cX12_printOn 42 = .ok (.getfield 22, 3) := by decide +kernel
theorem dX12_printOn_45 : decode cX12_printOn 45 = .ok (.iload 5, 2) := by decide +kernel
theorem dX12_printOn_47 : decode cX12_printOn 47 = .ok (.aload_n 0, 1) := by decide +kernel
theorem dX12_printOn_48 : decode cX12_printOn 48 = .ok (.iload_n 1, 1) := by decide +kernel
theorem dX12_printOn_49 : decode cX12_printOn 49 = .ok (.iconst 1, 1) := by decide +kernel
theorem dX12_printOn_50 : decode cX12_printOn 50 = .ok (.invokevirtual 75, 3) := by decide +kernel
theorem dX12_printOn_53 : decode cX12_printOn 53 = .ok (.iastore, 1) := by decide +kernel
theorem dX12_printOn_54 : decode cX12_printOn 54 = .ok (.aload_n 0, 1) := by decide +kernel
theorem dX12_printOn_55 : decode cX12_printOn 55 = .ok (.getfield 25, 3) := by decide +kernel
theorem dX12_printOn_58 : decode cX12_printOn 58 = .ok (.iload 5, 2) := by decide +kernel
theorem dX12_printOn_60 : decode cX12_printOn 60 = .ok (.iconst 0, 1) := by decide +kernel
theorem dX12_printOn_61 : decode cX12_printOn 61 = .ok (.iastore, 1) := by decide +kernel
theorem dX12_printOn_62 : decode cX12_printOn 62 = .ok (.goto 96, 3) := by decide +kernel
theorem dX12_printOn_65 : decode cX12_printOn 65 = .ok (.iload_n 3, 1) := by decide +kernel
theorem dX12_printOn_66 : decode cX12_printOn 66 = .ok (.iconst 1, 1) := by decide +kernel
theorem dX12_printOn_67 : decode cX12_printOn 67 = .ok (.if_icmp .ne 43, 3) := by decide +kernel
theorem dX12_printOn_70 : decode cX12_printOn 70 = .ok (.aload_n 0, 1) := by decide +kernel
theorem dX12_printOn_71 : decode cX12_printOn 71 = .ok (.getfield 22, 3) := by decide +kernel
theorem dX12_printOn_74 : decode cX12_printOn 74 = .ok (.iload 5, 2) := by decide +kernel
theorem dX12_printOn_76 : decode cX12_printOn 76 = .ok (.iaload, 1) := by decide +kernel
theorem dX12_printOn_77 : decode cX12_printOn 77 = .ok (.aload_n 0, 1) := by decide +kernel
theorem dX12_printOn_78 : decode cX12_printOn 78 = .ok (.iload_n 1, 1) := by decide +kernel
theorem dX12_printOn_79 : decode cX12_printOn 79 = .ok (.iconst 1, 1) := by decide +kernel
theorem dX12_printOn_80 : decode cX12_printOn 80 = .ok (.invokevirtual 75, 3) := by decide +kernel
theorem dX12_printOn_83 : decode cX12_printOn 83 = .ok (.iadd, 1) := by decide +kernel
theorem dX12_printOn_84 : decode cX12_printOn 84 = .ok (.bipush 8, 2) := by decide +kernel
theorem dX12_printOn_86 : decode cX12_printOn 86 = .ok (.irem, 1) := by decide +kernel
theorem dX12_printOn_87 : decode cX12_printOn 87 = .ok (.istore 6, 2) := by decide +kernel
theorem dX12_printOn_89 : decode cX12_printOn 89 = .ok (.aload_n 0, 1) := by decide +kernel
theorem dX12_printOn_90 : decode cX12_printOn 90 = .ok (.getfield 22, 3) := by decide +kernel
theorem dX12_printOn_93 : decode cX12_printOn 93 = .ok (.iload 5, 2) := by decide +kernel
theorem dX12_printOn_95 : decode cX12_printOn 95 = .ok (.iload 6, 2) := by decide +kernel
theorem dX12_printOn_97 : decode cX12_printOn 97 = .ok (.ifCond .ne 7, 3) := by decide +kernel
theorem dX12_printOn_100 : decode cX12_printOn 100 = .ok (.iconst 1, 1) := by decide +kernel
theorem dX12_printOn_101 : decode cX12_printOn 101 = .ok (.goto 5, 3) := by decide +kernel
theorem dX12_printOn_104 : decode cX12_printOn 104 = .ok (.iload 6, 2) := by decide +kernel
theorem dX12_printOn_106 : decode cX12_printOn 106 = .ok (.iastore, 1) := by decide +kernel
theorem dX12_printOn_107 : decode cX12_printOn 107 = .ok (.goto 51, 3) := by decide +kernel
theorem dX12_printOn_110 : decode cX12_printOn 110 = .ok (.iload_n 3, 1) := by decide +kernel
theorem dX12_printOn_111 : decode cX12_printOn 111 = .ok (.iconst 2, 1) := by decide +kernel
theorem dX12_printOn_112 : decode cX12_printOn 112 = .ok (.if_icmp .ne 33, 3) := by decide +kernel
theorem dX12_printOn_115 : decode cX12_printOn 115 = .ok (.aload_n 0, 1) := by decide +kernel
theorem dX12_printOn_116 : decode cX12_printOn 116 = .ok (.getfield 25, 3) := by decide +kernel
theorem dX12_printOn_119 : decode cX12_printOn 119 = .ok (.iload 5, 2) := by decide +kernel
theorem dX12_printOn_121 : decode cX12_printOn 121 = .ok (.dup2, 1) := by decide +kernel
theorem dX12_printOn_122 : decode cX12_printOn 122 = .ok (.iaload, 1) := by decide +kernel
theorem dX12_printOn_123 : decode cX12_printOn 123 = .ok (.aload_n 0, 1) := by decide +kernel
theorem dX12_printOn_124 : decode cX12_printOn 124 = .ok (.getfield 25, 3) := by decide +kernel
theorem dX12_printOn_127 : decode cX12_printOn 127 = .ok (.iload 5, 2) := by decide +kernel
theorem dX12_printOn_129 : decode cX12_printOn 129 = .ok (.iaload, 1) := by decide +kernel
theorem dX12_printOn_130 : decode cX12_printOn 130 = .ok (.bipush 9, 2) := by decide +kernel
theorem dX12_printOn_132 : decode cX12_printOn 132 = .ok (.if_icmp .ge 7, 3) := by decide +kernel
theorem dX12_printOn_135 : decode cX12_printOn 135 = .ok (.iconst 1, 1) := by decide +kernel
theorem dX12_printOn_136 : decode cX12_printOn 136 = .ok (.goto 4, 3) := by decide +kernel
theorem dX12_printOn_139 : decode cX12_printOn 139 = .ok (.iconst 0, 1) := by decide +kernel
theorem dX12_printOn_140 : decode cX12_printOn 140 = .ok (.iadd, 1) := by decide +kernel
theorem dX12_printOn_141 : decode cX12_printOn 141 = .ok (.iastore, 1) := by decide +kernel
theorem dX12_printOn_142 : decode cX12_printOn 142 = .ok (.goto 16, 3) := by decide +kernel
theorem dX12_printOn_145 : decode cX12_printOn 145 = .ok (.aload_n 0, 1) := by decide +kernel
theorem dX12_printOn_146 : decode cX12_printOn 146 = .ok (.dup, 1) := by decide +kernel
theorem dX12_printOn_147 : decode cX12_printOn 147 = .ok (.getfield 116, 3) := by decide +kernel
theorem dX12_printOn_150 : decode cX12_printOn 150 = .ok (.iconst 1, 1) := by decide +kernel
theorem dX12_printOn_151 : decode cX12_printOn 151 = .ok (.iload 5, 2) := by decide +kernel
theorem dX12_printOn_153 : decode cX12_printOn 153 = .ok (.ishl, 1) := by decide +kernel
theorem dX12_printOn_154 : decode cX12_printOn 154 = .ok (.ior, 1) := by decide +kernel
theorem dX12_printOn_155 : decode cX12_printOn 155 = .ok (.putfield 116, 3) := by decide +kernel
theorem dX12_printOn_158 : decode cX12_printOn 158 = .ok (.iinc 5 1, 3) := by decide +kernel
theorem dX12_printOn_161 : decode cX12_printOn 161 = .ok (.goto (-141), 3) := by decide +kernel
theorem dX12_printOn_164 : decode cX12_printOn 164 = .ok (.return_, 1) := by decide +kernel
theorem dX12_clearSheet_0 : decode cX12_clearSheet 0 = .ok (.iconst 0, 1) := by decide +kernel
theorem dX12_clearSheet_1 : decode cX12_clearSheet 1 = .ok (.istore_n 1, 1) := by decide +kernel
theorem dX12_clearSheet_2 : decode cX12_clearSheet 2 = .ok (.iload_n 1, 1) := by decide +kernel
theorem dX12_clearSheet_3 : decode cX12_clearSheet 3 = .ok (.bipush 16, 2) := by decide +kernel
theorem dX12_clearSheet_5 : decode cX12_clearSheet 5 = .ok (.if_icmp .ge 23, 3) := by decide +kernel
theorem dX12_clearSheet_8 : decode cX12_clearSheet 8 = .ok (.aload_n 0, 1) := by decide +kernel
theorem dX12_clearSheet_9 : decode cX12_clearSheet 9 = .ok (.getfield 22, 3) := by decide +kernel
theorem dX12_clearSheet_12 : decode cX12_clearSheet 12 = .ok (.iload_n 1, 1) := by decide +kernel
theorem dX12_clearSheet_13 : decode cX12_clearSheet 13 = .ok (.iconst 0, 1) := by decide +kernel
theorem dX12_clearSheet_14 : decode cX12_clearSheet 14 = .ok (.iastore, 1) := by decide +kernel
theorem dX12_clearSheet_15 : decode cX12_clearSheet 15 = .ok (.aload_n 0, 1) := by decide +kernel
theorem dX12_clearSheet_16 : decode cX12_clearSheet 16 = .ok (.getfield 25, 3) := by decide +kernel
theorem dX12_clearSheet_19 : decode cX12_clearSheet 19 = .ok (.iload_n 1, 1) := by decide +kernel
theorem dX12_clearSheet_20 : decode cX12_clearSheet 20 = .ok (.iconst 0, 1) := by decide +kernel
theorem dX12_clearSheet_21 : decode cX12_clearSheet 21 = .ok (.iastore, 1) := by decide +kernel
theorem dX12_clearSheet_22 : decode cX12_clearSheet 22 = .ok (.iinc 1 1, 3) := by decide +kernel
theorem dX12_clearSheet_25 : decode cX12_clearSheet 25 = .ok (.goto (-23), 3) := by decide +kernel
theorem dX12_clearSheet_28 : decode cX12_clearSheet 28 = .ok (.aload_n 0, 1) := by decide +kernel
theorem dX12_clearSheet_29 : decode cX12_clearSheet 29 = .ok (.iconst 0, 1) := by decide +kernel
theorem dX12_clearSheet_30 : decode cX12_clearSheet 30 = .ok (.putfield 116, 3) := by decide +kernel
theorem dX12_clearSheet_33 : decode cX12_clearSheet 33 = .ok (.return_, 1) := by decide +kernel
theorem dX12_hits_0 : decode cX12_hits 0 = .ok (.iconst 0, 1) := by decide +kernel
theorem dX12_hits_1 : decode cX12_hits 1 = .ok (.istore_n 1, 1) := by decide +kernel
theorem dX12_hits_2 : decode cX12_hits 2 = .ok (.iconst 0, 1) := by decide +kernel
theorem dX12_hits_3 : decode cX12_hits 3 = .ok (.istore_n 2, 1) := by decide +kernel
theorem dX12_hits_4 : decode cX12_hits 4 = .ok (.iload_n 2, 1) := by decide +kernel
theorem dX12_hits_5 : decode cX12_hits 5 = .ok (.bipush 16, 2) := by decide +kernel
theorem dX12_hits_7 : decode cX12_hits 7 = .ok (.if_icmp .ge 35, 3) := by decide +kernel
theorem dX12_hits_10 : decode cX12_hits 10 = .ok (.iload_n 1, 1) := by decide +kernel
theorem dX12_hits_11 : decode cX12_hits 11 = .ok (.aload_n 0, 1) := by decide +kernel
theorem dX12_hits_12 : decode cX12_hits 12 = .ok (.getfield 22, 3) := by decide +kernel
theorem dX12_hits_15 : decode cX12_hits 15 = .ok (.iload_n 2, 1) := by decide +kernel
theorem dX12_hits_16 : decode cX12_hits 16 = .ok (.iaload, 1) := by decide +kernel
theorem dX12_hits_17 : decode cX12_hits 17 = .ok (.aload_n 0, 1) := by decide +kernel
theorem dX12_hits_18 : decode cX12_hits 18 = .ok (.getfield 7, 3) := by decide +kernel
theorem dX12_hits_21 : decode cX12_hits 21 = .ok (.bipush 43, 2) := by decide +kernel
theorem dX12_hits_23 : decode cX12_hits 23 = .ok (.iload_n 2, 1) := by decide +kernel
theorem dX12_hits_24 : decode cX12_hits 24 = .ok (.iadd, 1) := by decide +kernel
theorem dX12_hits_25 : decode cX12_hits 25 = .ok (.iaload, 1) := by decide +kernel
theorem dX12_hits_26 : decode cX12_hits 26 = .ok (.if_icmp .ne 7, 3) := by decide +kernel
theorem dX12_hits_29 : decode cX12_hits 29 = .ok (.iconst 1, 1) := by decide +kernel
theorem dX12_hits_30 : decode cX12_hits 30 = .ok (.goto 4, 3) := by decide +kernel
theorem dX12_hits_33 : decode cX12_hits 33 = .ok (.iconst 0, 1) := by decide +kernel
theorem dX12_hits_34 : decode cX12_hits 34 = .ok (.iadd, 1) := by decide +kernel
theorem dX12_hits_35 : decode cX12_hits 35 = .ok (.istore_n 1, 1) := by decide +kernel
theorem dX12_hits_36 : decode cX12_hits 36 = .ok (.iinc 2 1, 3) := by decide +kernel
theorem dX12_hits_39 : decode cX12_hits 39 = .ok (.goto (-35), 3) := by decide +kernel
theorem dX12_hits_42 : decode cX12_hits 42 = .ok (.iload_n 1, 1) := by decide +kernel
theorem dX12_hits_43 : decode cX12_hits 43 = .ok (.ireturn, 1) := by decide +kernel
theorem dX12_begin_0 : decode cX12_begin 0 = .ok (.iconst 0, 1) := by decide +kernel
theorem dX12_begin_1 : decode cX12_begin 1 = .ok (.istore_n 1, 1) := by decide +kernel
theorem dX12_begin_2 : decode cX12_begin 2 = .ok (.iload_n 1, 1) := by decide +kernel
theorem dX12_begin_3 : decode cX12_begin 3 = .ok (.bipush 6, 2) := by decide +kernel
theorem dX12_begin_5 : decode cX12_begin 5 = .ok (.if_icmp .ge 41, 3) := by decide +kernel
theorem dX12_begin_8 : decode cX12_begin 8 = .ok (.aload_n 0, 1) := by decide +kernel
theorem dX12_begin_9 : decode cX12_begin 9 = .ok (.getfield 28, 3) := by decide +kernel
theorem dX12_begin_12 : decode cX12_begin 12 = .ok (.iload_n 1, 1) := by decide +kernel
theorem dX12_begin_13 : decode cX12_begin 13 = .ok (.iload_n 1, 1) := by decide +kernel
theorem dX12_begin_14 : decode cX12_begin 14 = .ok (.iastore, 1) := by decide +kernel
theorem dX12_begin_15 : decode cX12_begin 15 = .ok (.aload_n 0, 1) := by decide +kernel
theorem dX12_begin_16 : decode cX12_begin 16 = .ok (.getfield 34, 3) := by decide +kernel
theorem dX12_begin_19 : decode cX12_begin 19 = .ok (.iload_n 1, 1) := by decide +kernel
theorem dX12_begin_20 : decode cX12_begin 20 = .ok (.iload_n 1, 1) := by decide +kernel
theorem dX12_begin_21 : decode cX12_begin 21 = .ok (.aload_n 0, 1) := by decide +kernel
theorem dX12_begin_22 : decode cX12_begin 22 = .ok (.getfield 7, 3) := by decide +kernel
theorem dX12_begin_25 : decode cX12_begin 25 = .ok (.iconst 0, 1) := by decide +kernel
theorem dX12_begin_26 : decode cX12_begin 26 = .ok (.iaload, 1) := by decide +kernel
theorem dX12_begin_27 : decode cX12_begin 27 = .ok (.if_icmp .ge 11, 3) := by decide +kernel
theorem dX12_begin_30 : decode cX12_begin 30 = .ok (.aload_n 0, 1) := by decide +kernel
theorem dX12_begin_31 : decode cX12_begin 31 = .ok (.iload_n 1, 1) := by decide +kernel
theorem dX12_begin_32 : decode cX12_begin 32 = .ok (.invokevirtual 88, 3) := by decide +kernel
theorem dX12_begin_35 : decode cX12_begin 35 = .ok (.goto 4, 3) := by decide +kernel
theorem dX12_begin_38 : decode cX12_begin 38 = .ok (.iconst 0, 1) := by decide +kernel
theorem dX12_begin_39 : decode cX12_begin 39 = .ok (.iastore, 1) := by decide +kernel
theorem dX12_begin_40 : decode cX12_begin 40 = .ok (.iinc 1 1, 3) := by decide +kernel
theorem dX12_begin_43 : decode cX12_begin 43 = .ok (.goto (-41), 3) := by decide +kernel
theorem dX12_begin_46 : decode cX12_begin 46 = .ok (.return_, 1) := by decide +kernel
theorem dX12_goesOn_0 : decode cX12_goesOn 0 = .ok (.aload_n 0, 1) := by decide +kernel
theorem dX12_goesOn_1 : decode cX12_goesOn 1 = .ok (.getfield 7, 3) := by decide +kernel
theorem dX12_goesOn_4 : decode cX12_goesOn 4 = .ok (.iconst 0, 1) := by decide +kernel
theorem dX12_goesOn_5 : decode cX12_goesOn 5 = .ok (.iaload, 1) := by decide +kernel
theorem dX12_goesOn_6 : decode cX12_goesOn 6 = .ok (.iconst 2, 1) := by decide +kernel
theorem dX12_goesOn_7 : decode cX12_goesOn 7 = .ok (.isub, 1) := by decide +kernel
theorem dX12_goesOn_8 : decode cX12_goesOn 8 = .ok (.istore_n 1, 1) := by decide +kernel
theorem dX12_goesOn_9 : decode cX12_goesOn 9 = .ok (.iload_n 1, 1) := by decide +kernel
theorem dX12_goesOn_10 : decode cX12_goesOn 10 = .ok (.ifCond .lt 26, 3) := by decide +kernel
theorem dX12_goesOn_13 : decode cX12_goesOn 13 = .ok (.aload_n 0, 1) := by decide +kernel
theorem dX12_goesOn_14 : decode cX12_goesOn 14 = .ok (.getfield 28, 3) := by decide +kernel
theorem dX12_goesOn_17 : decode cX12_goesOn 17 = .ok (.iload_n 1, 1) := by decide +kernel
theorem dX12_goesOn_18 : decode cX12_goesOn 18 = .ok (.iaload, 1) := by decide +kernel
theorem dX12_goesOn_19 : decode cX12_goesOn 19 = .ok (.aload_n 0, 1) := by decide +kernel
theorem dX12_goesOn_20 : decode cX12_goesOn 20 = .ok (.getfield 28, 3) := by decide +kernel
theorem dX12_goesOn_23 : decode cX12_goesOn 23 = .ok (.iload_n 1, 1) := by decide +kernel
theorem dX12_goesOn_24 : decode cX12_goesOn 24 = .ok (.iconst 1, 1) := by decide +kernel
theorem dX12_goesOn_25 : decode cX12_goesOn 25 = .ok (.iadd, 1) := by decide +kernel
theorem dX12_goesOn_26 : decode cX12_goesOn 26 = .ok (.iaload, 1) := by decide +kernel
theorem dX12_goesOn_27 : decode cX12_goesOn 27 = .ok (.if_icmp .le 9, 3) := by decide +kernel
theorem dX12_goesOn_30 : decode cX12_goesOn 30 = .ok (.iinc 1 (-1), 3) := by decide +kernel
theorem dX12_goesOn_33 : decode cX12_goesOn 33 = .ok (.goto (-24), 3) := by decide +kernel
theorem dX12_goesOn_36 : decode cX12_goesOn 36 = .ok (.iload_n 1, 1) := by decide +kernel
theorem dX12_goesOn_37 : decode cX12_goesOn 37 = .ok (.ifCond .ge 5, 3) := by decide +kernel
theorem dX12_goesOn_40 : decode cX12_goesOn 40 = .ok (.iconst 0, 1) := by decide +kernel
theorem dX12_goesOn_41 : decode cX12_goesOn 41 = .ok (.ireturn, 1) := by decide +kernel
theorem dX12_goesOn_42 : decode cX12_goesOn 42 = .ok (.aload_n 0, 1) := by decide +kernel
theorem dX12_goesOn_43 : decode cX12_goesOn 43 = .ok (.getfield 7, 3) := by decide +kernel
theorem dX12_goesOn_46 : decode cX12_goesOn 46 = .ok (.iconst 0, 1) := by decide +kernel
theorem dX12_goesOn_47 : decode cX12_goesOn 47 = .ok (.iaload, 1) := by decide +kernel
theorem dX12_goesOn_48 : decode cX12_goesOn 48 = .ok (.iconst 1, 1) := by decide +kernel
theorem dX12_goesOn_49 : decode cX12_goesOn 49 = .ok (.isub, 1) := by decide +kernel
theorem dX12_goesOn_50 : decode cX12_goesOn 50 = .ok (.istore_n 2, 1) := by decide +kernel
theorem dX12_goesOn_51 : decode cX12_goesOn 51 = .ok (.aload_n 0, 1) := by decide +kernel
theorem dX12_goesOn_52 : decode cX12_goesOn 52 = .ok (.getfield 28, 3) := by decide +kernel
theorem dX12_goesOn_55 : decode cX12_goesOn 55 = .ok (.iload_n 2, 1) := by decide +kernel
theorem dX12_goesOn_56 : decode cX12_goesOn 56 = .ok (.iaload, 1) := by decide +kernel
theorem dX12_goesOn_57 : decode cX12_goesOn 57 = .ok (.aload_n 0, 1) := by decide +kernel
theorem dX12_goesOn_58 : decode cX12_goesOn 58 = .ok (.getfield 28, 3) := by decide +kernel
theorem dX12_goesOn_61 : decode cX12_goesOn 61 = .ok (.iload_n 1, 1) := by decide +kernel
theorem dX12_goesOn_62 : decode cX12_goesOn 62 = .ok (.iaload, 1) := by decide +kernel
theorem dX12_goesOn_63 : decode cX12_goesOn 63 = .ok (.if_icmp .ge 9, 3) := by decide +kernel
theorem dX12_goesOn_66 : decode cX12_goesOn 66 = .ok (.iinc 2 (-1), 3) := by decide +kernel
theorem dX12_goesOn_69 : decode cX12_goesOn 69 = .ok (.goto (-18), 3) := by decide +kernel
theorem dX12_goesOn_72 : decode cX12_goesOn 72 = .ok (.aload_n 0, 1) := by decide +kernel
theorem dX12_goesOn_73 : decode cX12_goesOn 73 = .ok (.iload_n 1, 1) := by decide +kernel
theorem dX12_goesOn_74 : decode cX12_goesOn 74 = .ok (.iload_n 2, 1) := by decide +kernel
theorem dX12_goesOn_75 : decode cX12_goesOn 75 = .ok (.invokevirtual 119, 3) := by decide +kernel
theorem dX12_goesOn_78 : decode cX12_goesOn 78 = .ok (.aload_n 0, 1) := by decide +kernel
theorem dX12_goesOn_79 : decode cX12_goesOn 79 = .ok (.getfield 7, 3) := by decide +kernel
theorem dX12_goesOn_82 : decode cX12_goesOn 82 = .ok (.iconst 0, 1) := by decide +kernel
theorem dX12_goesOn_83 : decode cX12_goesOn 83 = .ok (.iaload, 1) := by decide +kernel
theorem dX12_goesOn_84 : decode cX12_goesOn 84 = .ok (.iconst 1, 1) := by decide +kernel
theorem dX12_goesOn_85 : decode cX12_goesOn 85 = .ok (.isub, 1) := by decide +kernel
theorem dX12_goesOn_86 : decode cX12_goesOn 86 = .ok (.istore_n 3, 1) := by decide +kernel
theorem dX12_goesOn_87 : decode cX12_goesOn 87 = .ok (.iload_n 1, 1) := by decide +kernel
theorem dX12_goesOn_88 : decode cX12_goesOn 88 = .ok (.iconst 1, 1) := by decide +kernel
theorem dX12_goesOn_89 : decode cX12_goesOn 89 = .ok (.iadd, 1) := by decide +kernel
theorem dX12_goesOn_90 : decode cX12_goesOn 90 = .ok (.istore 4, 2) := by decide +kernel
theorem dX12_goesOn_92 : decode cX12_goesOn 92 = .ok (.iload 4, 2) := by decide +kernel
theorem dX12_goesOn_94 : decode cX12_goesOn 94 = .ok (.iload_n 3, 1) := by decide +kernel
theorem dX12_goesOn_95 : decode cX12_goesOn 95 = .ok (.if_icmp .ge 19, 3) := by decide +kernel
theorem dX12_goesOn_98 : decode cX12_goesOn 98 = .ok (.aload_n 0, 1) := by decide +kernel
theorem dX12_goesOn_99 : decode cX12_goesOn 99 = .ok (.iload 4, 2) := by decide +kernel
theorem dX12_goesOn_101 : decode cX12_goesOn 101 = .ok (.iload_n 3, 1) := by decide +kernel
theorem dX12_goesOn_102 : decode cX12_goesOn 102 = .ok (.invokevirtual 119, 3) := by decide +kernel
theorem dX12_goesOn_105 : decode cX12_goesOn 105 = .ok (.iinc 3 (-1), 3) := by decide +kernel
theorem dX12_goesOn_108 : decode cX12_goesOn 108 = .ok (.iinc 4 1, 3) := by decide +kernel
theorem dX12_goesOn_111 : decode cX12_goesOn 111 = .ok (.goto (-19), 3) := by decide +kernel
theorem dX12_goesOn_114 : decode cX12_goesOn 114 = .ok (.iconst 1, 1) := by decide +kernel
theorem dX12_goesOn_115 : decode cX12_goesOn 115 = .ok (.ireturn, 1) := by decide +kernel
theorem dX12_exchange_0 : decode cX12_exchange 0 = .ok (.aload_n 0, 1) := by decide +kernel
theorem dX12_exchange_1 : decode cX12_exchange 1 = .ok (.getfield 28, 3) := by decide +kernel
theorem dX12_exchange_4 : decode cX12_exchange 4 = .ok (.iload_n 1, 1) := by decide +kernel
theorem dX12_exchange_5 : decode cX12_exchange 5 = .ok (.iaload, 1) := by decide +kernel
theorem dX12_exchange_6 : decode cX12_exchange 6 = .ok (.istore_n 3, 1) := by decide +kernel
theorem dX12_exchange_7 : decode cX12_exchange 7 = .ok (.aload_n 0, 1) := by decide +kernel
theorem dX12_exchange_8 : decode cX12_exchange 8 = .ok (.getfield 28, 3) := by decide +kernel
theorem dX12_exchange_11 : decode cX12_exchange 11 = .ok (.iload_n 1, 1) := by decide +kernel
theorem dX12_exchange_12 : decode cX12_exchange 12 = .ok (.aload_n 0, 1) := by decide +kernel
theorem dX12_exchange_13 : decode cX12_exchange 13 = .ok (.getfield 28, 3) := by decide +kernel
theorem dX12_exchange_16 : decode cX12_exchange 16 = .ok (.iload_n 2, 1) := by decide +kernel
theorem dX12_exchange_17 : decode cX12_exchange 17 = .ok (.iaload, 1) := by decide +kernel
theorem dX12_exchange_18 : decode cX12_exchange 18 = .ok (.iastore, 1) := by decide +kernel
theorem dX12_exchange_19 : decode cX12_exchange 19 = .ok (.aload_n 0, 1) := by decide +kernel
theorem dX12_exchange_20 : decode cX12_exchange 20 = .ok (.getfield 28, 3) := by decide +kernel
theorem dX12_exchange_23 : decode cX12_exchange 23 = .ok (.iload_n 2, 1) := by decide +kernel
theorem dX12_exchange_24 : decode cX12_exchange 24 = .ok (.iload_n 3, 1) := by decide +kernel
theorem dX12_exchange_25 : decode cX12_exchange 25 = .ok (.iastore, 1) := by decide +kernel
theorem dX12_exchange_26 : decode cX12_exchange 26 = .ok (.return_, 1) := by decide +kernel
theorem dX12_isLawful_0 : decode cX12_isLawful 0 = .ok (.iconst 0, 1) := by decide +kernel
theorem dX12_isLawful_1 : decode cX12_isLawful 1 = .ok (.istore_n 1, 1) := by decide +kernel
theorem dX12_isLawful_2 : decode cX12_isLawful 2 = .ok (.iconst 1, 1) := by decide +kernel
theorem dX12_isLawful_3 : decode cX12_isLawful 3 = .ok (.istore_n 2, 1) := by decide +kernel
theorem dX12_isLawful_4 : decode cX12_isLawful 4 = .ok (.iconst 0, 1) := by decide +kernel
theorem dX12_isLawful_5 : decode cX12_isLawful 5 = .ok (.istore_n 3, 1) := by decide +kernel
theorem dX12_isLawful_6 : decode cX12_isLawful 6 = .ok (.iload_n 3, 1) := by decide +kernel
theorem dX12_isLawful_7 : decode cX12_isLawful 7 = .ok (.aload_n 0, 1) := by decide +kernel
theorem dX12_isLawful_8 : decode cX12_isLawful 8 = .ok (.getfield 7, 3) := by decide +kernel
theorem dX12_isLawful_11 : decode cX12_isLawful 11 = .ok (.iconst 0, 1) := by decide +kernel
theorem dX12_isLawful_12 : decode cX12_isLawful 12 = .ok (.iaload, 1) := by decide +kernel
theorem dX12_isLawful_13 : decode cX12_isLawful 13 = .ok (.if_icmp .ge 49, 3) := by decide +kernel
theorem dX12_isLawful_16 : decode cX12_isLawful 16 = .ok (.iload_n 2, 1) := by decide +kernel
theorem dX12_isLawful_17 : decode cX12_isLawful 17 = .ok (.ifCond .eq 26, 3) := by decide +kernel
theorem dX12_isLawful_20 : decode cX12_isLawful 20 = .ok (.aload_n 0, 1) := by decide +kernel
theorem dX12_isLawful_21 : decode cX12_isLawful 21 = .ok (.aload_n 0, 1) := by decide +kernel
theorem dX12_isLawful_22 : decode cX12_isLawful 22 = .ok (.getfield 28, 3) := by decide +kernel
theorem dX12_isLawful_25 : decode cX12_isLawful 25 = .ok (.iload_n 3, 1) := by decide +kernel
theorem dX12_isLawful_26 : decode cX12_isLawful 26 = .ok (.iaload, 1) := by decide +kernel
theorem dX12_isLawful_27 : decode cX12_isLawful 27 = .ok (.bipush 6, 2) := by decide +kernel
theorem dX12_isLawful_29 : decode cX12_isLawful 29 = .ok (.invokevirtual 75, 3) := by decide +kernel
theorem dX12_isLawful_32 : decode cX12_isLawful 32 = .ok (.iload_n 1, 1) := by decide +kernel
theorem dX12_isLawful_33 : decode cX12_isLawful 33 = .ok (.iconst (-1), 1) := by decide +kernel
theorem dX12_isLawful_34 : decode cX12_isLawful 34 = .ok (.ixor, 1) := by decide +kernel
theorem dX12_isLawful_35 : decode cX12_isLawful 35 = .ok (.iand, 1) := by decide +kernel
theorem dX12_isLawful_36 : decode cX12_isLawful 36 = .ok (.ifCond .ne 7, 3) := by decide +kernel
theorem dX12_isLawful_39 : decode cX12_isLawful 39 = .ok (.iconst 1, 1) := by decide +kernel
theorem dX12_isLawful_40 : decode cX12_isLawful 40 = .ok (.goto 4, 3) := by decide +kernel
theorem dX12_isLawful_43 : decode cX12_isLawful 43 = .ok (.iconst 0, 1) := by decide +kernel
theorem dX12_isLawful_44 : decode cX12_isLawful 44 = .ok (.istore_n 2, 1) := by decide +kernel
theorem dX12_isLawful_45 : decode cX12_isLawful 45 = .ok (.iload_n 1, 1) := by decide +kernel
theorem dX12_isLawful_46 : decode cX12_isLawful 46 = .ok (.iconst 1, 1) := by decide +kernel
theorem dX12_isLawful_47 : decode cX12_isLawful 47 = .ok (.aload_n 0, 1) := by decide +kernel
theorem dX12_isLawful_48 : decode cX12_isLawful 48 = .ok (.getfield 28, 3) := by decide +kernel
theorem dX12_isLawful_51 : decode cX12_isLawful 51 = .ok (.iload_n 3, 1) := by decide +kernel
theorem dX12_isLawful_52 : decode cX12_isLawful 52 = .ok (.iaload, 1) := by decide +kernel
theorem dX12_isLawful_53 : decode cX12_isLawful 53 = .ok (.ishl, 1) := by decide +kernel
theorem dX12_isLawful_54 : decode cX12_isLawful 54 = .ok (.ior, 1) := by decide +kernel
theorem dX12_isLawful_55 : decode cX12_isLawful 55 = .ok (.istore_n 1, 1) := by decide +kernel
theorem dX12_isLawful_56 : decode cX12_isLawful 56 = .ok (.iinc 3 1, 3) := by decide +kernel
theorem dX12_isLawful_59 : decode cX12_isLawful 59 = .ok (.goto (-53), 3) := by decide +kernel
theorem dX12_isLawful_62 : decode cX12_isLawful 62 = .ok (.iload_n 2, 1) := by decide +kernel
theorem dX12_isLawful_63 : decode cX12_isLawful 63 = .ok (.ireturn, 1) := by decide +kernel
theorem dX12_smearBy_0 : decode cX12_smearBy 0 = .ok (.iconst 0, 1) := by decide +kernel
theorem dX12_smearBy_1 : decode cX12_smearBy 1 = .ok (.istore_n 2, 1) := by decide +kernel
theorem dX12_smearBy_2 : decode cX12_smearBy 2 = .ok (.iconst 0, 1) := by decide +kernel
theorem dX12_smearBy_3 : decode cX12_smearBy 3 = .ok (.istore_n 3, 1) := by decide +kernel
theorem dX12_smearBy_4 : decode cX12_smearBy 4 = .ok (.iload_n 3, 1) := by decide +kernel
theorem dX12_smearBy_5 : decode cX12_smearBy 5 = .ok (.aload_n 0, 1) := by decide +kernel
theorem dX12_smearBy_6 : decode cX12_smearBy 6 = .ok (.getfield 7, 3) := by decide +kernel
theorem dX12_smearBy_9 : decode cX12_smearBy 9 = .ok (.iconst 0, 1) := by decide +kernel
theorem dX12_smearBy_10 : decode cX12_smearBy 10 = .ok (.iaload, 1) := by decide +kernel
theorem dX12_smearBy_11 : decode cX12_smearBy 11 = .ok (.if_icmp .ge 87, 3) := by decide +kernel
theorem dX12_smearBy_14 : decode cX12_smearBy 14 = .ok (.iconst 0, 1) := by decide +kernel
theorem dX12_smearBy_15 : decode cX12_smearBy 15 = .ok (.istore 4, 2) := by decide +kernel
theorem dX12_smearBy_17 : decode cX12_smearBy 17 = .ok (.iload 4, 2) := by decide +kernel
theorem dX12_smearBy_19 : decode cX12_smearBy 19 = .ok (.iload_n 3, 1) := by decide +kernel
theorem dX12_smearBy_20 : decode cX12_smearBy 20 = .ok (.if_icmp .ge 72, 3) := by decide +kernel
theorem dX12_smearBy_23 : decode cX12_smearBy 23 = .ok (.aload_n 0, 1) := by decide +kernel
theorem dX12_smearBy_24 : decode cX12_smearBy 24 = .ok (.aload_n 0, 1) := by decide +kernel
theorem dX12_smearBy_25 : decode cX12_smearBy 25 = .ok (.getfield 28, 3) := by decide +kernel
theorem dX12_smearBy_28 : decode cX12_smearBy 28 = .ok (.iload 4, 2) := by decide +kernel
theorem dX12_smearBy_30 : decode cX12_smearBy 30 = .ok (.iaload, 1) := by decide +kernel
theorem dX12_smearBy_31 : decode cX12_smearBy 31 = .ok (.iconst 2, 1) := by decide +kernel
theorem dX12_smearBy_32 : decode cX12_smearBy 32 = .ok (.invokevirtual 75, 3) := by decide +kernel
theorem dX12_smearBy_35 : decode cX12_smearBy 35 = .ok (.iload_n 1, 1) := by decide +kernel
theorem dX12_smearBy_36 : decode cX12_smearBy 36 = .ok (.iload_n 3, 1) := by decide +kernel
theorem dX12_smearBy_37 : decode cX12_smearBy 37 = .ok (.iload 4, 2) := by decide +kernel
theorem dX12_smearBy_39 : decode cX12_smearBy 39 = .ok (.isub, 1) := by decide +kernel
theorem dX12_smearBy_40 : decode cX12_smearBy 40 = .ok (.imul, 1) := by decide +kernel
theorem dX12_smearBy_41 : decode cX12_smearBy 41 = .ok (.isub, 1) := by decide +kernel
theorem dX12_smearBy_42 : decode cX12_smearBy 42 = .ok (.istore 5, 2) := by decide +kernel
theorem dX12_smearBy_44 : decode cX12_smearBy 44 = .ok (.iload_n 2, 1) := by decide +kernel
theorem dX12_smearBy_45 : decode cX12_smearBy 45 = .ok (.iload 5, 2) := by decide +kernel
theorem dX12_smearBy_47 : decode cX12_smearBy 47 = .ok (.ifCond .le 36, 3) := by decide +kernel
theorem dX12_smearBy_50 : decode cX12_smearBy 50 = .ok (.iload 5, 2) := by decide +kernel
theorem dX12_smearBy_52 : decode cX12_smearBy 52 = .ok (.aload_n 0, 1) := by decide +kernel
theorem dX12_smearBy_53 : decode cX12_smearBy 53 = .ok (.getfield 34, 3) := by decide +kernel
theorem dX12_smearBy_56 : decode cX12_smearBy 56 = .ok (.aload_n 0, 1) := by decide +kernel
theorem dX12_smearBy_57 : decode cX12_smearBy 57 = .ok (.getfield 28, 3) := by decide +kernel
theorem dX12_smearBy_60 : decode cX12_smearBy 60 = .ok (.iload_n 3, 1) := by decide +kernel
theorem dX12_smearBy_61 : decode cX12_smearBy 61 = .ok (.iaload, 1) := by decide +kernel
theorem dX12_smearBy_62 : decode cX12_smearBy 62 = .ok (.iaload, 1) := by decide +kernel
theorem dX12_smearBy_63 : decode cX12_smearBy 63 = .ok (.aload_n 0, 1) := by decide +kernel
theorem dX12_smearBy_64 : decode cX12_smearBy 64 = .ok (.getfield 34, 3) := by decide +kernel
theorem dX12_smearBy_67 : decode cX12_smearBy 67 = .ok (.aload_n 0, 1) := by decide +kernel
theorem dX12_smearBy_68 : decode cX12_smearBy 68 = .ok (.getfield 28, 3) := by decide +kernel
theorem dX12_smearBy_71 : decode cX12_smearBy 71 = .ok (.iload 4, 2) := by decide +kernel
theorem dX12_smearBy_73 : decode cX12_smearBy 73 = .ok (.iaload, 1) := by decide +kernel
theorem dX12_smearBy_74 : decode cX12_smearBy 74 = .ok (.iaload, 1) := by decide +kernel
theorem dX12_smearBy_75 : decode cX12_smearBy 75 = .ok (.iand, 1) := by decide +kernel
theorem dX12_smearBy_76 : decode cX12_smearBy 76 = .ok (.invokestatic 91, 3) := by decide +kernel
theorem dX12_smearBy_79 : decode cX12_smearBy 79 = .ok (.imul, 1) := by decide +kernel
theorem dX12_smearBy_80 : decode cX12_smearBy 80 = .ok (.goto 4, 3) := by decide +kernel
theorem dX12_smearBy_83 : decode cX12_smearBy 83 = .ok (.iconst 0, 1) := by decide +kernel
theorem dX12_smearBy_84 : decode cX12_smearBy 84 = .ok (.iadd, 1) := by decide +kernel
theorem dX12_smearBy_85 : decode cX12_smearBy 85 = .ok (.istore_n 2, 1) := by decide +kernel
theorem dX12_smearBy_86 : decode cX12_smearBy 86 = .ok (.iinc 4 1, 3) := by decide +kernel
theorem dX12_smearBy_89 : decode cX12_smearBy 89 = .ok (.goto (-72), 3) := by decide +kernel
theorem dX12_smearBy_92 : decode cX12_smearBy 92 = .ok (.iinc 3 1, 3) := by decide +kernel
theorem dX12_smearBy_95 : decode cX12_smearBy 95 = .ok (.goto (-91), 3) := by decide +kernel
theorem dX12_smearBy_98 : decode cX12_smearBy 98 = .ok (.iload_n 2, 1) := by decide +kernel
theorem dX12_smearBy_99 : decode cX12_smearBy 99 = .ok (.ireturn, 1) := by decide +kernel
theorem dX12_printAll_0 : decode cX12_printAll 0 = .ok (.aload_n 0, 1) := by decide +kernel
theorem dX12_printAll_1 : decode cX12_printAll 1 = .ok (.invokevirtual 123, 3) := by decide +kernel
theorem dX12_printAll_4 : decode cX12_printAll 4 = .ok (.iconst 0, 1) := by decide +kernel
theorem dX12_printAll_5 : decode cX12_printAll 5 = .ok (.istore_n 1, 1) := by decide +kernel
theorem dX12_printAll_6 : decode cX12_printAll 6 = .ok (.iload_n 1, 1) := by decide +kernel
theorem dX12_printAll_7 : decode cX12_printAll 7 = .ok (.aload_n 0, 1) := by decide +kernel
theorem dX12_printAll_8 : decode cX12_printAll 8 = .ok (.getfield 7, 3) := by decide +kernel
theorem dX12_printAll_11 : decode cX12_printAll 11 = .ok (.iconst 0, 1) := by decide +kernel
theorem dX12_printAll_12 : decode cX12_printAll 12 = .ok (.iaload, 1) := by decide +kernel
theorem dX12_printAll_13 : decode cX12_printAll 13 = .ok (.if_icmp .ge 30, 3) := by decide +kernel
theorem dX12_printAll_16 : decode cX12_printAll 16 = .ok (.aload_n 0, 1) := by decide +kernel
theorem dX12_printAll_17 : decode cX12_printAll 17 = .ok (.aload_n 0, 1) := by decide +kernel
theorem dX12_printAll_18 : decode cX12_printAll 18 = .ok (.getfield 28, 3) := by decide +kernel
theorem dX12_printAll_21 : decode cX12_printAll 21 = .ok (.iload_n 1, 1) := by decide +kernel
theorem dX12_printAll_22 : decode cX12_printAll 22 = .ok (.iaload, 1) := by decide +kernel
theorem dX12_printAll_23 : decode cX12_printAll 23 = .ok (.aload_n 0, 1) := by decide +kernel
theorem dX12_printAll_24 : decode cX12_printAll 24 = .ok (.getfield 34, 3) := by decide +kernel
theorem dX12_printAll_27 : decode cX12_printAll 27 = .ok (.aload_n 0, 1) := by decide +kernel
theorem dX12_printAll_28 : decode cX12_printAll 28 = .ok (.getfield 28, 3) := by decide +kernel
theorem dX12_printAll_31 : decode cX12_printAll 31 = .ok (.iload_n 1, 1) := by decide +kernel
theorem dX12_printAll_32 : decode cX12_printAll 32 = .ok (.iaload, 1) := by decide +kernel
theorem dX12_printAll_33 : decode cX12_printAll 33 = .ok (.iaload, 1) := by decide +kernel
theorem dX12_printAll_34 : decode cX12_printAll 34 = .ok (.invokevirtual 126, 3) := by decide +kernel
theorem dX12_printAll_37 : decode cX12_printAll 37 = .ok (.iinc 1 1, 3) := by decide +kernel
theorem dX12_printAll_40 : decode cX12_printAll 40 = .ok (.goto (-34), 3) := by decide +kernel
theorem dX12_printAll_43 : decode cX12_printAll 43 = .ok (.return_, 1) := by decide +kernel
theorem dX12_lawful_0 : decode cX12_lawful 0 = .ok (.aload_n 0, 1) := by decide +kernel
theorem dX12_lawful_1 : decode cX12_lawful 1 = .ok (.invokevirtual 129, 3) := by decide +kernel
theorem dX12_lawful_4 : decode cX12_lawful 4 = .ok (.iconst 0, 1) := by decide +kernel
theorem dX12_lawful_5 : decode cX12_lawful 5 = .ok (.istore_n 1, 1) := by decide +kernel
theorem dX12_lawful_6 : decode cX12_lawful 6 = .ok (.iconst 1, 1) := by decide +kernel
theorem dX12_lawful_7 : decode cX12_lawful 7 = .ok (.istore_n 2, 1) := by decide +kernel
theorem dX12_lawful_8 : decode cX12_lawful 8 = .ok (.iload_n 2, 1) := by decide +kernel
theorem dX12_lawful_9 : decode cX12_lawful 9 = .ok (.ifCond .eq 26, 3) := by decide +kernel
theorem dX12_lawful_12 : decode cX12_lawful 12 = .ok (.iload_n 1, 1) := by decide +kernel
theorem dX12_lawful_13 : decode cX12_lawful 13 = .ok (.aload_n 0, 1) := by decide +kernel
theorem dX12_lawful_14 : decode cX12_lawful 14 = .ok (.invokevirtual 132, 3) := by decide +kernel
theorem dX12_lawful_17 : decode cX12_lawful 17 = .ok (.ifCond .eq 7, 3) := by decide +kernel
theorem dX12_lawful_20 : decode cX12_lawful 20 = .ok (.iconst 1, 1) := by decide +kernel
theorem dX12_lawful_21 : decode cX12_lawful 21 = .ok (.goto 4, 3) := by decide +kernel
theorem dX12_lawful_24 : decode cX12_lawful 24 = .ok (.iconst 0, 1) := by decide +kernel
theorem dX12_lawful_25 : decode cX12_lawful 25 = .ok (.iadd, 1) := by decide +kernel
theorem dX12_lawful_26 : decode cX12_lawful 26 = .ok (.istore_n 1, 1) := by decide +kernel
theorem dX12_lawful_27 : decode cX12_lawful 27 = .ok (.aload_n 0, 1) := by decide +kernel
theorem dX12_lawful_28 : decode cX12_lawful 28 = .ok (.invokevirtual 136, 3) := by decide +kernel
theorem dX12_lawful_31 : decode cX12_lawful 31 = .ok (.istore_n 2, 1) := by decide +kernel
theorem dX12_lawful_32 : decode cX12_lawful 32 = .ok (.goto (-24), 3) := by decide +kernel
theorem dX12_lawful_35 : decode cX12_lawful 35 = .ok (.iload_n 1, 1) := by decide +kernel
theorem dX12_lawful_36 : decode cX12_lawful 36 = .ok (.ireturn, 1) := by decide +kernel
theorem dX12_isFound_0 : decode cX12_isFound 0 = .ok (.aload_n 0, 1) := by decide +kernel
theorem dX12_isFound_1 : decode cX12_isFound 1 = .ok (.invokevirtual 129, 3) := by decide +kernel
theorem dX12_isFound_4 : decode cX12_isFound 4 = .ok (.iconst 0, 1) := by decide +kernel
theorem dX12_isFound_5 : decode cX12_isFound 5 = .ok (.istore_n 3, 1) := by decide +kernel
theorem dX12_isFound_6 : decode cX12_isFound 6 = .ok (.iconst 1, 1) := by decide +kernel
theorem dX12_isFound_7 : decode cX12_isFound 7 = .ok (.istore 4, 2) := by decide +kernel
theorem dX12_isFound_9 : decode cX12_isFound 9 = .ok (.iload 4, 2) := by decide +kernel
theorem dX12_isFound_11 : decode cX12_isFound 11 = .ok (.ifCond .eq 118, 3) := by decide +kernel
theorem dX12_isFound_14 : decode cX12_isFound 14 = .ok (.aload_n 0, 1) := by decide +kernel
theorem dX12_isFound_15 : decode cX12_isFound 15 = .ok (.invokevirtual 132, 3) := by decide +kernel
theorem dX12_isFound_18 : decode cX12_isFound 18 = .ok (.ifCond .eq 102, 3) := by decide +kernel
theorem dX12_isFound_21 : decode cX12_isFound 21 = .ok (.aload_n 0, 1) := by decide +kernel
theorem dX12_isFound_22 : decode cX12_isFound 22 = .ok (.iload_n 1, 1) := by decide +kernel
theorem dX12_isFound_23 : decode cX12_isFound 23 = .ok (.invokevirtual 139, 3) := by decide +kernel
theorem dX12_isFound_26 : decode cX12_isFound 26 = .ok (.istore 5, 2) := by decide +kernel
theorem dX12_isFound_28 : decode cX12_isFound 28 = .ok (.iconst 0, 1) := by decide +kernel
theorem dX12_isFound_29 : decode cX12_isFound 29 = .ok (.istore 6, 2) := by decide +kernel
theorem dX12_isFound_31 : decode cX12_isFound 31 = .ok (.iload_n 2, 1) := by decide +kernel
theorem dX12_isFound_32 : decode cX12_isFound 32 = .ok (.ifCond .eq 13, 3) := by decide +kernel
theorem dX12_isFound_35 : decode cX12_isFound 35 = .ok (.aload_n 0, 1) := by decide +kernel
theorem dX12_isFound_36 : decode cX12_isFound 36 = .ok (.invokevirtual 142, 3) := by decide +kernel
theorem dX12_isFound_39 : decode cX12_isFound 39 = .ok (.aload_n 0, 1) := by decide +kernel
theorem dX12_isFound_40 : decode cX12_isFound 40 = .ok (.invokevirtual 145, 3) := by decide +kernel
theorem dX12_isFound_43 : decode cX12_isFound 43 = .ok (.istore 6, 2) := by decide +kernel
theorem dX12_isFound_45 : decode cX12_isFound 45 = .ok (.iload_n 3, 1) := by decide +kernel
theorem dX12_isFound_46 : decode cX12_isFound 46 = .ok (.ifCond .eq 30, 3) := by decide +kernel
theorem dX12_isFound_49 : decode cX12_isFound 49 = .ok (.iload 6, 2) := by decide +kernel
theorem dX12_isFound_51 : decode cX12_isFound 51 = .ok (.aload_n 0, 1) := by decide +kernel
theorem dX12_isFound_52 : decode cX12_isFound 52 = .ok (.getfield 149, 3) := by decide +kernel
theorem dX12_isFound_55 : decode cX12_isFound 55 = .ok (.if_icmp .gt 21, 3) := by decide +kernel
theorem dX12_isFound_58 : decode cX12_isFound 58 = .ok (.iload 6, 2) := by decide +kernel
theorem dX12_isFound_60 : decode cX12_isFound 60 = .ok (.aload_n 0, 1) := by decide +kernel
theorem dX12_isFound_61 : decode cX12_isFound 61 = .ok (.getfield 149, 3) := by decide +kernel
theorem dX12_isFound_64 : decode cX12_isFound 64 = .ok (.if_icmp .ne 56, 3) := by decide +kernel
theorem dX12_isFound_67 : decode cX12_isFound 67 = .ok (.iload 5, 2) := by decide +kernel
theorem dX12_isFound_69 : decode cX12_isFound 69 = .ok (.aload_n 0, 1) := by decide +kernel
theorem dX12_isFound_70 : decode cX12_isFound 70 = .ok (.getfield 152, 3) := by decide +kernel
theorem dX12_isFound_73 : decode cX12_isFound 73 = .ok (.if_icmp .ge 47, 3) := by decide +kernel
theorem dX12_isFound_76 : decode cX12_isFound 76 = .ok (.iconst 1, 1) := by decide +kernel
theorem dX12_isFound_77 : decode cX12_isFound 77 = .ok (.istore_n 3, 1) := by decide +kernel
theorem dX12_isFound_78 : decode cX12_isFound 78 = .ok (.aload_n 0, 1) := by decide +kernel
theorem dX12_isFound_79 : decode cX12_isFound 79 = .ok (.iload 6, 2) := by decide +kernel
theorem dX12_isFound_81 : decode cX12_isFound 81 = .ok (.putfield 149, 3) := by decide +kernel
theorem dX12_isFound_84 : decode cX12_isFound 84 = .ok (.aload_n 0, 1) := by decide +kernel
theorem dX12_isFound_85 : decode cX12_isFound 85 = .ok (.iload 5, 2) := by decide +kernel
theorem dX12_isFound_87 : decode cX12_isFound 87 = .ok (.putfield 152, 3) := by decide +kernel
theorem dX12_isFound_90 : decode cX12_isFound 90 = .ok (.iconst 0, 1) := by decide +kernel
theorem dX12_isFound_91 : decode cX12_isFound 91 = .ok (.istore 7, 2) := by decide +kernel
theorem dX12_isFound_93 : decode cX12_isFound 93 = .ok (.iload 7, 2) := by decide +kernel
theorem dX12_isFound_95 : decode cX12_isFound 95 = .ok (.bipush 6, 2) := by decide +kernel
theorem dX12_isFound_97 : decode cX12_isFound 97 = .ok (.if_icmp .ge 23, 3) := by decide +kernel
theorem dX12_isFound_100 : decode cX12_isFound 100 = .ok (.aload_n 0, 1) := by decide +kernel
theorem dX12_isFound_101 : decode cX12_isFound 101 = .ok (.getfield 31, 3) := by decide +kernel
theorem dX12_isFound_104 : decode cX12_isFound 104 = .ok (.iload 7, 2) := by decide +kernel
theorem dX12_isFound_106 : decode cX12_isFound 106 = .ok (.aload_n 0, 1) := by decide +kernel
theorem dX12_isFound_107 : decode cX12_isFound 107 = .ok (.getfield 28, 3) := by decide +kernel
theorem dX12_isFound_110 : decode cX12_isFound 110 = .ok (.iload 7, 2) := by decide +kernel
theorem dX12_isFound_112 : decode cX12_isFound 112 = .ok (.iaload, 1) := by decide +kernel
theorem dX12_isFound_113 : decode cX12_isFound 113 = .ok (.iastore, 1) := by decide +kernel
theorem dX12_isFound_114 : decode cX12_isFound 114 = .ok (.iinc 7 1, 3) := by decide +kernel
theorem dX12_isFound_117 : decode cX12_isFound 117 = .ok (.goto (-24), 3) := by decide +kernel
theorem dX12_isFound_120 : decode cX12_isFound 120 = .ok (.aload_n 0, 1) := by decide +kernel
theorem dX12_isFound_121 : decode cX12_isFound 121 = .ok (.invokevirtual 136, 3) := by decide +kernel
theorem dX12_isFound_124 : decode cX12_isFound 124 = .ok (.istore 4, 2) := by decide +kernel
theorem dX12_isFound_126 : decode cX12_isFound 126 = .ok (.goto (-117), 3) := by decide +kernel
theorem dX12_isFound_129 : decode cX12_isFound 129 = .ok (.iload_n 3, 1) := by decide +kernel
theorem dX12_isFound_130 : decode cX12_isFound 130 = .ok (.ireturn, 1) := by decide +kernel
theorem dX12_asked_0 : decode cX12_asked 0 = .ok (.iload_n 1, 1) := by decide +kernel
theorem dX12_asked_1 : decode cX12_asked 1 = .ok (.iconst 1, 1) := by decide +kernel
theorem dX12_asked_2 : decode cX12_asked 2 = .ok (.bipush 9, 2) := by decide +kernel
theorem dX12_asked_4 : decode cX12_asked 4 = .ok (.invokestatic 67, 3) := by decide +kernel
theorem dX12_asked_7 : decode cX12_asked 7 = .ok (.ifCond .eq 17, 3) := by decide +kernel
theorem dX12_asked_10 : decode cX12_asked 10 = .ok (.iload_n 2, 1) := by decide +kernel
theorem dX12_asked_11 : decode cX12_asked 11 = .ok (.iload_n 3, 1) := by decide +kernel
theorem dX12_asked_12 : decode cX12_asked 12 = .ok (.ifCond .eq 8, 3) := by decide +kernel
theorem dX12_asked_15 : decode cX12_asked 15 = .ok (.bipush (-2), 2) := by decide +kernel
theorem dX12_asked_17 : decode cX12_asked 17 = .ok (.goto 4, 3) := by decide +kernel
theorem dX12_asked_20 : decode cX12_asked 20 = .ok (.iconst (-1), 1) := by decide +kernel
theorem dX12_asked_21 : decode cX12_asked 21 = .ok (.if_icmp .ge 16, 3) := by decide +kernel
theorem dX12_asked_24 : decode cX12_asked 24 = .ok (.aload_n 0, 1) := by decide +kernel
theorem dX12_asked_25 : decode cX12_asked 25 = .ok (.getfield 19, 3) := by decide +kernel
theorem dX12_asked_28 : decode cX12_asked 28 = .ok (.iconst 0, 1) := by decide +kernel
theorem dX12_asked_29 : decode cX12_asked 29 = .ok (.dup2, 1) := by decide +kernel
theorem dX12_asked_30 : decode cX12_asked 30 = .ok (.iaload, 1) := by decide +kernel
theorem dX12_asked_31 : decode cX12_asked 31 = .ok (.iconst 1, 1) := by decide +kernel
theorem dX12_asked_32 : decode cX12_asked 32 = .ok (.iadd, 1) := by decide +kernel
theorem dX12_asked_33 : decode cX12_asked 33 = .ok (.iastore, 1) := by decide +kernel
theorem dX12_asked_34 : decode cX12_asked 34 = .ok (.bipush (-10), 2) := by decide +kernel
theorem dX12_asked_36 : decode cX12_asked 36 = .ok (.ireturn, 1) := by decide +kernel
theorem dX12_asked_37 : decode cX12_asked 37 = .ok (.aload_n 0, 1) := by decide +kernel
theorem dX12_asked_38 : decode cX12_asked 38 = .ok (.iload_n 1, 1) := by decide +kernel
theorem dX12_asked_39 : decode cX12_asked 39 = .ok (.iload_n 3, 1) := by decide +kernel
theorem dX12_asked_40 : decode cX12_asked 40 = .ok (.invokevirtual 155, 3) := by decide +kernel
theorem dX12_asked_43 : decode cX12_asked 43 = .ok (.ifCond .ne 16, 3) := by decide +kernel
theorem dX12_asked_46 : decode cX12_asked 46 = .ok (.aload_n 0, 1) := by decide +kernel
theorem dX12_asked_47 : decode cX12_asked 47 = .ok (.getfield 19, 3) := by decide +kernel
theorem dX12_asked_50 : decode cX12_asked 50 = .ok (.iconst 1, 1) := by decide +kernel
theorem dX12_asked_51 : decode cX12_asked 51 = .ok (.dup2, 1) := by decide +kernel
theorem dX12_asked_52 : decode cX12_asked 52 = .ok (.iaload, 1) := by decide +kernel
theorem dX12_asked_53 : decode cX12_asked 53 = .ok (.iconst 1, 1) := by decide +kernel
theorem dX12_asked_54 : decode cX12_asked 54 = .ok (.iadd, 1) := by decide +kernel
theorem dX12_asked_55 : decode cX12_asked 55 = .ok (.iastore, 1) := by decide +kernel
theorem dX12_asked_56 : decode cX12_asked 56 = .ok (.bipush (-11), 2) := by decide +kernel
theorem dX12_asked_58 : decode cX12_asked 58 = .ok (.ireturn, 1) := by decide +kernel
theorem dX12_asked_59 : decode cX12_asked 59 = .ok (.iload_n 2, 1) := by decide +kernel
theorem dX12_asked_60 : decode cX12_asked 60 = .ok (.ifCond .ge 24, 3) := by decide +kernel
theorem dX12_asked_63 : decode cX12_asked 63 = .ok (.iload_n 3, 1) := by decide +kernel
theorem dX12_asked_64 : decode cX12_asked 64 = .ok (.ifCond .eq 15, 3) := by decide +kernel
theorem dX12_asked_67 : decode cX12_asked 67 = .ok (.iload_n 2, 1) := by decide +kernel
theorem dX12_asked_68 : decode cX12_asked 68 = .ok (.iconst (-1), 1) := by decide +kernel
theorem dX12_asked_69 : decode cX12_asked 69 = .ok (.if_icmp .ne 10, 3) := by decide +kernel
theorem dX12_asked_72 : decode cX12_asked 72 = .ok (.aload_n 0, 1) := by decide +kernel
theorem dX12_asked_73 : decode cX12_asked 73 = .ok (.getfield 149, 3) := by decide +kernel
theorem dX12_asked_76 : decode cX12_asked 76 = .ok (.goto 7, 3) := by decide +kernel
theorem dX12_asked_79 : decode cX12_asked 79 = .ok (.aload_n 0, 1) := by decide +kernel
theorem dX12_asked_80 : decode cX12_asked 80 = .ok (.getfield 152, 3) := by decide +kernel
theorem dX12_asked_83 : decode cX12_asked 83 = .ok (.ireturn, 1) := by decide +kernel
theorem dX12_asked_84 : decode cX12_asked 84 = .ok (.iload_n 2, 1) := by decide +kernel
theorem dX12_asked_85 : decode cX12_asked 85 = .ok (.aload_n 0, 1) := by decide +kernel
theorem dX12_asked_86 : decode cX12_asked 86 = .ok (.getfield 7, 3) := by decide +kernel
theorem dX12_asked_89 : decode cX12_asked 89 = .ok (.iconst 0, 1) := by decide +kernel
theorem dX12_asked_90 : decode cX12_asked 90 = .ok (.iaload, 1) := by decide +kernel
theorem dX12_asked_91 : decode cX12_asked 91 = .ok (.if_icmp .ge 12, 3) := by decide +kernel
theorem dX12_asked_94 : decode cX12_asked 94 = .ok (.aload_n 0, 1) := by decide +kernel
theorem dX12_asked_95 : decode cX12_asked 95 = .ok (.getfield 31, 3) := by decide +kernel
theorem dX12_asked_98 : decode cX12_asked 98 = .ok (.iload_n 2, 1) := by decide +kernel
theorem dX12_asked_99 : decode cX12_asked 99 = .ok (.iaload, 1) := by decide +kernel
theorem dX12_asked_100 : decode cX12_asked 100 = .ok (.goto 5, 3) := by decide +kernel
theorem dX12_asked_103 : decode cX12_asked 103 = .ok (.bipush (-5), 2) := by decide +kernel
theorem dX12_asked_105 : decode cX12_asked 105 = .ok (.ireturn, 1) := by decide +kernel
theorem dX12_least_0 : decode cX12_least 0 = .ok (.aload_n 0, 1) := by decide +kernel
theorem dX12_least_1 : decode cX12_least 1 = .ok (.iload_n 1, 1) := by decide +kernel
theorem dX12_least_2 : decode cX12_least 2 = .ok (.iload_n 2, 1) := by decide +kernel
theorem dX12_least_3 : decode cX12_least 3 = .ok (.iconst 0, 1) := by decide +kernel
theorem dX12_least_4 : decode cX12_least 4 = .ok (.invokevirtual 159, 3) := by decide +kernel
theorem dX12_least_7 : decode cX12_least 7 = .ok (.ireturn, 1) := by decide +kernel
theorem dX12_nearest_0 : decode cX12_nearest 0 = .ok (.aload_n 0, 1) := by decide +kernel
theorem dX12_nearest_1 : decode cX12_nearest 1 = .ok (.iload_n 1, 1) := by decide +kernel
theorem dX12_nearest_2 : decode cX12_nearest 2 = .ok (.iload_n 2, 1) := by decide +kernel
theorem dX12_nearest_3 : decode cX12_nearest 3 = .ok (.iconst 1, 1) := by decide +kernel
theorem dX12_nearest_4 : decode cX12_nearest 4 = .ok (.invokevirtual 159, 3) := by decide +kernel
theorem dX12_nearest_7 : decode cX12_nearest 7 = .ok (.ireturn, 1) := by decide +kernel
theorem dX12_sheets_0 : decode cX12_sheets 0 = .ok (.aload_n 0, 1) := by decide +kernel
theorem dX12_sheets_1 : decode cX12_sheets 1 = .ok (.invokevirtual 129, 3) := by decide +kernel
theorem dX12_sheets_4 : decode cX12_sheets 4 = .ok (.iconst 0, 1) := by decide +kernel
theorem dX12_sheets_5 : decode cX12_sheets 5 = .ok (.istore_n 1, 1) := by decide +kernel
theorem dX12_sheets_6 : decode cX12_sheets 6 = .ok (.iconst 1, 1) := by decide +kernel
theorem dX12_sheets_7 : decode cX12_sheets 7 = .ok (.istore_n 2, 1) := by decide +kernel
theorem dX12_sheets_8 : decode cX12_sheets 8 = .ok (.iload_n 2, 1) := by decide +kernel
theorem dX12_sheets_9 : decode cX12_sheets 9 = .ok (.ifCond .eq 38, 3) := by decide +kernel
theorem dX12_sheets_12 : decode cX12_sheets 12 = .ok (.aload_n 0, 1) := by decide +kernel
theorem dX12_sheets_13 : decode cX12_sheets 13 = .ok (.invokevirtual 132, 3) := by decide +kernel
theorem dX12_sheets_16 : decode cX12_sheets 16 = .ok (.ifCond .eq 23, 3) := by decide +kernel
theorem dX12_sheets_19 : decode cX12_sheets 19 = .ok (.aload_n 0, 1) := by decide +kernel
theorem dX12_sheets_20 : decode cX12_sheets 20 = .ok (.invokevirtual 142, 3) := by decide +kernel
theorem dX12_sheets_23 : decode cX12_sheets 23 = .ok (.aload_n 0, 1) := by decide +kernel
theorem dX12_sheets_24 : decode cX12_sheets 24 = .ok (.iload_n 1, 1) := by decide +kernel
theorem dX12_sheets_25 : decode cX12_sheets 25 = .ok (.invokevirtual 163, 3) := by decide +kernel
theorem dX12_sheets_28 : decode cX12_sheets 28 = .ok (.ifCond .eq 9, 3) := by decide +kernel
theorem dX12_sheets_31 : decode cX12_sheets 31 = .ok (.iload_n 1, 1) := by decide +kernel
theorem dX12_sheets_32 : decode cX12_sheets 32 = .ok (.iconst 1, 1) := by decide +kernel
theorem dX12_sheets_33 : decode cX12_sheets 33 = .ok (.iadd, 1) := by decide +kernel
theorem dX12_sheets_34 : decode cX12_sheets 34 = .ok (.goto 4, 3) := by decide +kernel
theorem dX12_sheets_37 : decode cX12_sheets 37 = .ok (.iload_n 1, 1) := by decide +kernel
theorem dX12_sheets_38 : decode cX12_sheets 38 = .ok (.istore_n 1, 1) := by decide +kernel
theorem dX12_sheets_39 : decode cX12_sheets 39 = .ok (.aload_n 0, 1) := by decide +kernel
theorem dX12_sheets_40 : decode cX12_sheets 40 = .ok (.invokevirtual 136, 3) := by decide +kernel
theorem dX12_sheets_43 : decode cX12_sheets 43 = .ok (.istore_n 2, 1) := by decide +kernel
theorem dX12_sheets_44 : decode cX12_sheets 44 = .ok (.goto (-36), 3) := by decide +kernel
theorem dX12_sheets_47 : decode cX12_sheets 47 = .ok (.iload_n 1, 1) := by decide +kernel
theorem dX12_sheets_48 : decode cX12_sheets 48 = .ok (.ireturn, 1) := by decide +kernel
theorem dX12_isNew_0 : decode cX12_isNew 0 = .ok (.lconst 0, 1) := by decide +kernel
theorem dX12_isNew_1 : decode cX12_isNew 1 = .ok (.lstore_n 2, 1) := by decide +kernel
theorem dX12_isNew_2 : decode cX12_isNew 2 = .ok (.lconst 0, 1) := by decide +kernel
theorem dX12_isNew_3 : decode cX12_isNew 3 = .ok (.lstore 4, 2) := by decide +kernel
theorem dX12_isNew_5 : decode cX12_isNew 5 = .ok (.iconst 0, 1) := by decide +kernel
theorem dX12_isNew_6 : decode cX12_isNew 6 = .ok (.istore 6, 2) := by decide +kernel
theorem dX12_isNew_8 : decode cX12_isNew 8 = .ok (.iload 6, 2) := by decide +kernel
theorem dX12_isNew_10 : decode cX12_isNew 10 = .ok (.bipush 16, 2) := by decide +kernel
theorem dX12_isNew_12 : decode cX12_isNew 12 = .ok (.if_icmp .ge 37, 3) := by decide +kernel
theorem dX12_isNew_15 : decode cX12_isNew 15 = .ok (.lload_n 2, 1) := by decide +kernel
theorem dX12_isNew_16 : decode cX12_isNew 16 = .ok (.iconst 4, 1) := by decide +kernel
theorem dX12_isNew_17 : decode cX12_isNew 17 = .ok (.lshl, 1) := by decide +kernel
theorem dX12_isNew_18 : decode cX12_isNew 18 = .ok (.aload_n 0, 1) := by decide +kernel
theorem dX12_isNew_19 : decode cX12_isNew 19 = .ok (.getfield 22, 3) := by decide +kernel
theorem dX12_isNew_22 : decode cX12_isNew 22 = .ok (.iload 6, 2) := by decide +kernel
theorem dX12_isNew_24 : decode cX12_isNew 24 = .ok (.iaload, 1) := by decide +kernel
theorem dX12_isNew_25 : decode cX12_isNew 25 = .ok (.i2l, 1) := by decide +kernel
theorem dX12_isNew_26 : decode cX12_isNew 26 = .ok (.lor, 1) := by decide +kernel
theorem dX12_isNew_27 : decode cX12_isNew 27 = .ok (.lstore_n 2, 1) := by decide +kernel
theorem dX12_isNew_28 : decode cX12_isNew 28 = .ok (.lload 4, 2) := by decide +kernel
theorem dX12_isNew_30 : decode cX12_isNew 30 = .ok (.iconst 4, 1) := by decide +kernel
theorem dX12_isNew_31 : decode cX12_isNew 31 = .ok (.lshl, 1) := by decide +kernel
theorem dX12_isNew_32 : decode cX12_isNew 32 = .ok (.aload_n 0, 1) := by decide +kernel
theorem dX12_isNew_33 : decode cX12_isNew 33 = .ok (.getfield 25, 3) := by decide +kernel
theorem dX12_isNew_36 : decode cX12_isNew 36 = .ok (.iload 6, 2) := by decide +kernel
theorem dX12_isNew_38 : decode cX12_isNew 38 = .ok (.iaload, 1) := by decide +kernel
theorem dX12_isNew_39 : decode cX12_isNew 39 = .ok (.i2l, 1) := by decide +kernel
theorem dX12_isNew_40 : decode cX12_isNew 40 = .ok (.lor, 1) := by decide +kernel
theorem dX12_isNew_41 : decode cX12_isNew 41 = .ok (.lstore 4, 2) := by decide +kernel
theorem dX12_isNew_43 : decode cX12_isNew 43 = .ok (.iinc 6 1, 3) := by decide +kernel
theorem dX12_isNew_46 : decode cX12_isNew 46 = .ok (.goto (-38), 3) := by decide +kernel
theorem dX12_isNew_49 : decode cX12_isNew 49 = .ok (.iconst 1, 1) := by decide +kernel
theorem dX12_isNew_50 : decode cX12_isNew 50 = .ok (.istore 6, 2) := by decide +kernel
theorem dX12_isNew_52 : decode cX12_isNew 52 = .ok (.iconst 0, 1) := by decide +kernel
theorem dX12_isNew_53 : decode cX12_isNew 53 = .ok (.istore 7, 2) := by decide +kernel
theorem dX12_isNew_55 : decode cX12_isNew 55 = .ok (.iload 7, 2) := by decide +kernel
theorem dX12_isNew_57 : decode cX12_isNew 57 = .ok (.iload_n 1, 1) := by decide +kernel
theorem dX12_isNew_58 : decode cX12_isNew 58 = .ok (.if_icmp .ge 60, 3) := by decide +kernel
theorem dX12_isNew_61 : decode cX12_isNew 61 = .ok (.iload 6, 2) := by decide +kernel
theorem dX12_isNew_63 : decode cX12_isNew 63 = .ok (.ifCond .eq 55, 3) := by decide +kernel
theorem dX12_isNew_66 : decode cX12_isNew 66 = .ok (.aload_n 0, 1) := by decide +kernel
theorem dX12_isNew_67 : decode cX12_isNew 67 = .ok (.getfield 37, 3) := by decide +kernel
theorem dX12_isNew_70 : decode cX12_isNew 70 = .ok (.iload 7, 2) := by decide +kernel
theorem dX12_isNew_72 : decode cX12_isNew 72 = .ok (.laload, 1) := by decide +kernel
theorem dX12_isNew_73 : decode cX12_isNew 73 = .ok (.lload_n 2, 1) := by decide +kernel
theorem dX12_isNew_74 : decode cX12_isNew 74 = .ok (.lcmp, 1) := by decide +kernel
theorem dX12_isNew_75 : decode cX12_isNew 75 = .ok (.ifCond .ne 30, 3) := by decide +kernel
theorem dX12_isNew_78 : decode cX12_isNew 78 = .ok (.aload_n 0, 1) := by decide +kernel
theorem dX12_isNew_79 : decode cX12_isNew 79 = .ok (.getfield 41, 3) := by decide +kernel
theorem dX12_isNew_82 : decode cX12_isNew 82 = .ok (.iload 7, 2) := by decide +kernel
theorem dX12_isNew_84 : decode cX12_isNew 84 = .ok (.laload, 1) := by decide +kernel
theorem dX12_isNew_85 : decode cX12_isNew 85 = .ok (.lload 4, 2) := by decide +kernel
theorem dX12_isNew_87 : decode cX12_isNew 87 = .ok (.lcmp, 1) := by decide +kernel
theorem dX12_isNew_88 : decode cX12_isNew 88 = .ok (.ifCond .ne 17, 3) := by decide +kernel
theorem dX12_isNew_91 : decode cX12_isNew 91 = .ok (.aload_n 0, 1) := by decide +kernel
theorem dX12_isNew_92 : decode cX12_isNew 92 = .ok (.getfield 44, 3) := by decide +kernel
theorem dX12_isNew_95 : decode cX12_isNew 95 = .ok (.iload 7, 2) := by decide +kernel
theorem dX12_isNew_97 : decode cX12_isNew 97 = .ok (.iaload, 1) := by decide +kernel
theorem dX12_isNew_98 : decode cX12_isNew 98 = .ok (.aload_n 0, 1) := by decide +kernel
theorem dX12_isNew_99 : decode cX12_isNew 99 = .ok (.getfield 116, 3) := by decide +kernel
theorem dX12_isNew_102 : decode cX12_isNew 102 = .ok (.if_icmp .eq 7, 3) := by decide +kernel
theorem dX12_isNew_105 : decode cX12_isNew 105 = .ok (.iconst 1, 1) := by decide +kernel
theorem dX12_isNew_106 : decode cX12_isNew 106 = .ok (.goto 4, 3) := by decide +kernel
theorem dX12_isNew_109 : decode cX12_isNew 109 = .ok (.iconst 0, 1) := by decide +kernel
theorem dX12_isNew_110 : decode cX12_isNew 110 = .ok (.istore 6, 2) := by decide +kernel
theorem dX12_isNew_112 : decode cX12_isNew 112 = .ok (.iinc 7 1, 3) := by decide +kernel
theorem dX12_isNew_115 : decode cX12_isNew 115 = .ok (.goto (-60), 3) := by decide +kernel
theorem dX12_isNew_118 : decode cX12_isNew 118 = .ok (.iload 6, 2) := by decide +kernel
theorem dX12_isNew_120 : decode cX12_isNew 120 = .ok (.ifCond .eq 28, 3) := by decide +kernel
theorem dX12_isNew_123 : decode cX12_isNew 123 = .ok (.aload_n 0, 1) := by decide +kernel
theorem dX12_isNew_124 : decode cX12_isNew 124 = .ok (.getfield 37, 3) := by decide +kernel
theorem dX12_isNew_127 : decode cX12_isNew 127 = .ok (.iload_n 1, 1) := by decide +kernel
theorem dX12_isNew_128 : decode cX12_isNew 128 = .ok (.lload_n 2, 1) := by decide +kernel
theorem dX12_isNew_129 : decode cX12_isNew 129 = .ok (.lastore, 1) := by decide +kernel
theorem dX12_isNew_130 : decode cX12_isNew 130 = .ok (.aload_n 0, 1) := by decide +kernel
theorem dX12_isNew_131 : decode cX12_isNew 131 = .ok (.getfield 41, 3) := by decide +kernel
theorem dX12_isNew_134 : decode cX12_isNew 134 = .ok (.iload_n 1, 1) := by decide +kernel
theorem dX12_isNew_135 : decode cX12_isNew 135 = .ok (.lload 4, 2) := by decide +kernel
theorem dX12_isNew_137 : decode cX12_isNew 137 = .ok (.lastore, 1) := by decide +kernel
theorem dX12_isNew_138 : decode cX12_isNew 138 = .ok (.aload_n 0, 1) := by decide +kernel
theorem dX12_isNew_139 : decode cX12_isNew 139 = .ok (.getfield 44, 3) := by decide +kernel
theorem dX12_isNew_142 : decode cX12_isNew 142 = .ok (.iload_n 1, 1) := by decide +kernel
theorem dX12_isNew_143 : decode cX12_isNew 143 = .ok (.aload_n 0, 1) := by decide +kernel
theorem dX12_isNew_144 : decode cX12_isNew 144 = .ok (.getfield 116, 3) := by decide +kernel
theorem dX12_isNew_147 : decode cX12_isNew 147 = .ok (.iastore, 1) := by decide +kernel
theorem dX12_isNew_148 : decode cX12_isNew 148 = .ok (.iload 6, 2) := by decide +kernel
theorem dX12_isNew_150 : decode cX12_isNew 150 = .ok (.ireturn, 1) := by decide +kernel
theorem dX12_doPrints_0 : decode cX12_doPrints 0 = .ok (.aload_n 0, 1) := by decide +kernel
theorem dX12_doPrints_1 : decode cX12_doPrints 1 = .ok (.iload_n 1, 1) := by decide +kernel
theorem dX12_doPrints_2 : decode cX12_doPrints 2 = .ok (.invokevirtual 84, 3) := by decide +kernel
theorem dX12_doPrints_5 : decode cX12_doPrints 5 = .ok (.ifCond .eq 13, 3) := by decide +kernel
theorem dX12_doPrints_8 : decode cX12_doPrints 8 = .ok (.iload_n 2, 1) := by decide +kernel
theorem dX12_doPrints_9 : decode cX12_doPrints 9 = .ok (.iconst 0, 1) := by decide +kernel
theorem dX12_doPrints_10 : decode cX12_doPrints 10 = .ok (.bipush 9, 2) := by decide +kernel
theorem dX12_doPrints_12 : decode cX12_doPrints 12 = .ok (.invokestatic 67, 3) := by decide +kernel
theorem dX12_doPrints_15 : decode cX12_doPrints 15 = .ok (.ifCond .ne 6, 3) := by decide +kernel
theorem dX12_doPrints_18 : decode cX12_doPrints 18 = .ok (.bipush (-2), 2) := by decide +kernel
theorem dX12_doPrints_20 : decode cX12_doPrints 20 = .ok (.ireturn, 1) := by decide +kernel
theorem dX12_doPrints_21 : decode cX12_doPrints 21 = .ok (.iconst 0, 1) := by decide +kernel
theorem dX12_doPrints_22 : decode cX12_doPrints 22 = .ok (.istore_n 3, 1) := by decide +kernel
theorem dX12_doPrints_23 : decode cX12_doPrints 23 = .ok (.iconst 0, 1) := by decide +kernel
theorem dX12_doPrints_24 : decode cX12_doPrints 24 = .ok (.istore 4, 2) := by decide +kernel
theorem dX12_doPrints_26 : decode cX12_doPrints 26 = .ok (.iload 4, 2) := by decide +kernel
theorem dX12_doPrints_28 : decode cX12_doPrints 28 = .ok (.aload_n 0, 1) := by decide +kernel
theorem dX12_doPrints_29 : decode cX12_doPrints 29 = .ok (.getfield 7, 3) := by decide +kernel
theorem dX12_doPrints_32 : decode cX12_doPrints 32 = .ok (.bipush 93, 2) := by decide +kernel
theorem dX12_doPrints_34 : decode cX12_doPrints 34 = .ok (.iaload, 1) := by decide +kernel
theorem dX12_doPrints_35 : decode cX12_doPrints 35 = .ok (.if_icmp .ge 26, 3) := by decide +kernel
theorem dX12_doPrints_38 : decode cX12_doPrints 38 = .ok (.iload_n 3, 1) := by decide +kernel
theorem dX12_doPrints_39 : decode cX12_doPrints 39 = .ok (.iconst 1, 1) := by decide +kernel
theorem dX12_doPrints_40 : decode cX12_doPrints 40 = .ok (.aload_n 0, 1) := by decide +kernel
theorem dX12_doPrints_41 : decode cX12_doPrints 41 = .ok (.getfield 7, 3) := by decide +kernel
theorem dX12_doPrints_44 : decode cX12_doPrints 44 = .ok (.bipush 95, 2) := by decide +kernel
theorem dX12_doPrints_46 : decode cX12_doPrints 46 = .ok (.iconst 3, 1) := by decide +kernel
theorem dX12_doPrints_47 : decode cX12_doPrints 47 = .ok (.iload 4, 2) := by decide +kernel
theorem dX12_doPrints_49 : decode cX12_doPrints 49 = .ok (.imul, 1) := by decide +kernel
theorem dX12_doPrints_50 : decode cX12_doPrints 50 = .ok (.iadd, 1) := by decide +kernel
theorem dX12_doPrints_51 : decode cX12_doPrints 51 = .ok (.iaload, 1) := by decide +kernel
theorem dX12_doPrints_52 : decode cX12_doPrints 52 = .ok (.ishl, 1) := by decide +kernel
theorem dX12_doPrints_53 : decode cX12_doPrints 53 = .ok (.ior, 1) := by decide +kernel
theorem dX12_doPrints_54 : decode cX12_doPrints 54 = .ok (.istore_n 3, 1) := by decide +kernel
theorem dX12_doPrints_55 : decode cX12_doPrints 55 = .ok (.iinc 4 1, 3) := by decide +kernel
theorem dX12_doPrints_58 : decode cX12_doPrints 58 = .ok (.goto (-32), 3) := by decide +kernel
theorem dX12_doPrints_61 : decode cX12_doPrints 61 = .ok (.aload_n 0, 1) := by decide +kernel
theorem dX12_doPrints_62 : decode cX12_doPrints 62 = .ok (.iload_n 1, 1) := by decide +kernel
theorem dX12_doPrints_63 : decode cX12_doPrints 63 = .ok (.bipush 6, 2) := by decide +kernel
theorem dX12_doPrints_65 : decode cX12_doPrints 65 = .ok (.invokevirtual 75, 3) := by decide +kernel
theorem dX12_doPrints_68 : decode cX12_doPrints 68 = .ok (.iload_n 3, 1) := by decide +kernel
theorem dX12_doPrints_69 : decode cX12_doPrints 69 = .ok (.iconst (-1), 1) := by decide +kernel
theorem dX12_doPrints_70 : decode cX12_doPrints 70 = .ok (.ixor, 1) := by decide +kernel
theorem dX12_doPrints_71 : decode cX12_doPrints 71 = .ok (.iand, 1) := by decide +kernel
theorem dX12_doPrints_72 : decode cX12_doPrints 72 = .ok (.ifCond .eq 6, 3) := by decide +kernel
theorem dX12_doPrints_75 : decode cX12_doPrints 75 = .ok (.bipush (-3), 2) := by decide +kernel
theorem dX12_doPrints_77 : decode cX12_doPrints 77 = .ok (.ireturn, 1) := by decide +kernel
theorem dX12_doPrints_78 : decode cX12_doPrints 78 = .ok (.aload_n 0, 1) := by decide +kernel
theorem dX12_doPrints_79 : decode cX12_doPrints 79 = .ok (.getfield 7, 3) := by decide +kernel
theorem dX12_doPrints_82 : decode cX12_doPrints 82 = .ok (.bipush 93, 2) := by decide +kernel
theorem dX12_doPrints_84 : decode cX12_doPrints 84 = .ok (.iaload, 1) := by decide +kernel
theorem dX12_doPrints_85 : decode cX12_doPrints 85 = .ok (.bipush 12, 2) := by decide +kernel
theorem dX12_doPrints_87 : decode cX12_doPrints 87 = .ok (.if_icmp .ne 6, 3) := by decide +kernel
theorem dX12_doPrints_90 : decode cX12_doPrints 90 = .ok (.bipush (-4), 2) := by decide +kernel
theorem dX12_doPrints_92 : decode cX12_doPrints 92 = .ok (.ireturn, 1) := by decide +kernel
theorem dX12_doPrints_93 : decode cX12_doPrints 93 = .ok (.aload_n 0, 1) := by decide +kernel
theorem dX12_doPrints_94 : decode cX12_doPrints 94 = .ok (.getfield 7, 3) := by decide +kernel
theorem dX12_doPrints_97 : decode cX12_doPrints 97 = .ok (.bipush 92, 2) := by decide +kernel
theorem dX12_doPrints_99 : decode cX12_doPrints 99 = .ok (.dup2, 1) := by decide +kernel
theorem dX12_doPrints_100 : decode cX12_doPrints 100 = .ok (.iaload, 1) := by decide +kernel
theorem dX12_doPrints_101 : decode cX12_doPrints 101 = .ok (.iload_n 2, 1) := by decide +kernel
theorem dX12_doPrints_102 : decode cX12_doPrints 102 = .ok (.iadd, 1) := by decide +kernel
theorem dX12_doPrints_103 : decode cX12_doPrints 103 = .ok (.iastore, 1) := by decide +kernel
theorem dX12_doPrints_104 : decode cX12_doPrints 104 = .ok (.aload_n 0, 1) := by decide +kernel
theorem dX12_doPrints_105 : decode cX12_doPrints 105 = .ok (.iload_n 1, 1) := by decide +kernel
theorem dX12_doPrints_106 : decode cX12_doPrints 106 = .ok (.invokevirtual 88, 3) := by decide +kernel
theorem dX12_doPrints_109 : decode cX12_doPrints 109 = .ok (.istore 4, 2) := by decide +kernel
theorem dX12_doPrints_111 : decode cX12_doPrints 111 = .ok (.iconst 0, 1) := by decide +kernel
theorem dX12_doPrints_112 : decode cX12_doPrints 112 = .ok (.istore 5, 2) := by decide +kernel
theorem dX12_doPrints_114 : decode cX12_doPrints 114 = .ok (.iconst 0, 1) := by decide +kernel
theorem dX12_doPrints_115 : decode cX12_doPrints 115 = .ok (.istore 6, 2) := by decide +kernel
theorem dX12_doPrints_117 : decode cX12_doPrints 117 = .ok (.iload 6, 2) := by decide +kernel
theorem dX12_doPrints_119 : decode cX12_doPrints 119 = .ok (.aload_n 0, 1) := by decide +kernel
theorem dX12_doPrints_120 : decode cX12_doPrints 120 = .ok (.getfield 7, 3) := by decide +kernel
theorem dX12_doPrints_123 : decode cX12_doPrints 123 = .ok (.bipush 93, 2) := by decide +kernel
theorem dX12_doPrints_125 : decode cX12_doPrints 125 = .ok (.iaload, 1) := by decide +kernel
theorem dX12_doPrints_126 : decode cX12_doPrints 126 = .ok (.if_icmp .ge 88, 3) := by decide +kernel
theorem dX12_doPrints_129 : decode cX12_doPrints 129 = .ok (.aload_n 0, 1) := by decide +kernel
theorem dX12_doPrints_130 : decode cX12_doPrints 130 = .ok (.getfield 7, 3) := by decide +kernel
theorem dX12_doPrints_133 : decode cX12_doPrints 133 = .ok (.bipush 95, 2) := by decide +kernel
theorem dX12_doPrints_135 : decode cX12_doPrints 135 = .ok (.iconst 3, 1) := by decide +kernel
theorem dX12_doPrints_136 : decode cX12_doPrints 136 = .ok (.iload 6, 2) := by decide +kernel
theorem dX12_doPrints_138 : decode cX12_doPrints 138 = .ok (.imul, 1) := by decide +kernel
theorem dX12_doPrints_139 : decode cX12_doPrints 139 = .ok (.iadd, 1) := by decide +kernel
theorem dX12_doPrints_140 : decode cX12_doPrints 140 = .ok (.iconst 1, 1) := by decide +kernel
theorem dX12_doPrints_141 : decode cX12_doPrints 141 = .ok (.iadd, 1) := by decide +kernel
theorem dX12_doPrints_142 : decode cX12_doPrints 142 = .ok (.iaload, 1) := by decide +kernel
theorem dX12_doPrints_143 : decode cX12_doPrints 143 = .ok (.aload_n 0, 1) := by decide +kernel
theorem dX12_doPrints_144 : decode cX12_doPrints 144 = .ok (.aload_n 0, 1) := by decide +kernel
theorem dX12_doPrints_145 : decode cX12_doPrints 145 = .ok (.getfield 7, 3) := by decide +kernel
theorem dX12_doPrints_148 : decode cX12_doPrints 148 = .ok (.bipush 95, 2) := by decide +kernel
theorem dX12_doPrints_150 : decode cX12_doPrints 150 = .ok (.iconst 3, 1) := by decide +kernel
theorem dX12_doPrints_151 : decode cX12_doPrints 151 = .ok (.iload 6, 2) := by decide +kernel
theorem dX12_doPrints_153 : decode cX12_doPrints 153 = .ok (.imul, 1) := by decide +kernel
theorem dX12_doPrints_154 : decode cX12_doPrints 154 = .ok (.iadd, 1) := by decide +kernel
theorem dX12_doPrints_155 : decode cX12_doPrints 155 = .ok (.iaload, 1) := by decide +kernel
theorem dX12_doPrints_156 : decode cX12_doPrints 156 = .ok (.iconst 2, 1) := by decide +kernel
theorem dX12_doPrints_157 : decode cX12_doPrints 157 = .ok (.invokevirtual 75, 3) := by decide +kernel
theorem dX12_doPrints_160 : decode cX12_doPrints 160 = .ok (.iadd, 1) := by decide +kernel
theorem dX12_doPrints_161 : decode cX12_doPrints 161 = .ok (.aload_n 0, 1) := by decide +kernel
theorem dX12_doPrints_162 : decode cX12_doPrints 162 = .ok (.getfield 7, 3) := by decide +kernel
theorem dX12_doPrints_165 : decode cX12_doPrints 165 = .ok (.bipush 92, 2) := by decide +kernel
theorem dX12_doPrints_167 : decode cX12_doPrints 167 = .ok (.iaload, 1) := by decide +kernel
theorem dX12_doPrints_168 : decode cX12_doPrints 168 = .ok (.isub, 1) := by decide +kernel
theorem dX12_doPrints_169 : decode cX12_doPrints 169 = .ok (.istore 7, 2) := by decide +kernel
theorem dX12_doPrints_171 : decode cX12_doPrints 171 = .ok (.iload 5, 2) := by decide +kernel
theorem dX12_doPrints_173 : decode cX12_doPrints 173 = .ok (.iload 7, 2) := by decide +kernel
theorem dX12_doPrints_175 : decode cX12_doPrints 175 = .ok (.ifCond .le 29, 3) := by decide +kernel
theorem dX12_doPrints_178 : decode cX12_doPrints 178 = .ok (.iload 7, 2) := by decide +kernel
theorem dX12_doPrints_180 : decode cX12_doPrints 180 = .ok (.iload 4, 2) := by decide +kernel
theorem dX12_doPrints_182 : decode cX12_doPrints 182 = .ok (.aload_n 0, 1) := by decide +kernel
theorem dX12_doPrints_183 : decode cX12_doPrints 183 = .ok (.getfield 7, 3) := by decide +kernel
theorem dX12_doPrints_186 : decode cX12_doPrints 186 = .ok (.bipush 95, 2) := by decide +kernel
theorem dX12_doPrints_188 : decode cX12_doPrints 188 = .ok (.iconst 3, 1) := by decide +kernel
theorem dX12_doPrints_189 : decode cX12_doPrints 189 = .ok (.iload 6, 2) := by decide +kernel
theorem dX12_doPrints_191 : decode cX12_doPrints 191 = .ok (.imul, 1) := by decide +kernel
theorem dX12_doPrints_192 : decode cX12_doPrints 192 = .ok (.iadd, 1) := by decide +kernel
theorem dX12_doPrints_193 : decode cX12_doPrints 193 = .ok (.iconst 2, 1) := by decide +kernel
theorem dX12_doPrints_194 : decode cX12_doPrints 194 = .ok (.iadd, 1) := by decide +kernel
theorem dX12_doPrints_195 : decode cX12_doPrints 195 = .ok (.iaload, 1) := by decide +kernel
theorem dX12_doPrints_196 : decode cX12_doPrints 196 = .ok (.iand, 1) := by decide +kernel
theorem dX12_doPrints_197 : decode cX12_doPrints 197 = .ok (.invokestatic 91, 3) := by decide +kernel
theorem dX12_doPrints_200 : decode cX12_doPrints 200 = .ok (.imul, 1) := by decide +kernel
theorem dX12_doPrints_201 : decode cX12_doPrints 201 = .ok (.goto 4, 3) := by decide +kernel
theorem dX12_doPrints_204 : decode cX12_doPrints 204 = .ok (.iconst 0, 1) := by decide +kernel
theorem dX12_doPrints_205 : decode cX12_doPrints 205 = .ok (.iadd, 1) := by decide +kernel
theorem dX12_doPrints_206 : decode cX12_doPrints 206 = .ok (.istore 5, 2) := by decide +kernel
theorem dX12_doPrints_208 : decode cX12_doPrints 208 = .ok (.iinc 6 1, 3) := by decide +kernel
theorem dX12_doPrints_211 : decode cX12_doPrints 211 = .ok (.goto (-94), 3) := by decide +kernel
theorem dX12_doPrints_214 : decode cX12_doPrints 214 = .ok (.bipush 95, 2) := by decide +kernel
theorem dX12_doPrints_216 : decode cX12_doPrints 216 = .ok (.iconst 3, 1) := by decide +kernel
theorem dX12_doPrints_217 : decode cX12_doPrints 217 = .ok (.aload_n 0, 1) := by decide +kernel
theorem dX12_doPrints_218 : decode cX12_doPrints 218 = .ok (.getfield 7, 3) := by decide +kernel
theorem dX12_doPrints_221 : decode cX12_doPrints 221 = .ok (.bipush 93, 2) := by decide +kernel
theorem dX12_doPrints_223 : decode cX12_doPrints 223 = .ok (.iaload, 1) := by decide +kernel
theorem dX12_doPrints_224 : decode cX12_doPrints 224 = .ok (.imul, 1) := by decide +kernel
theorem dX12_doPrints_225 : decode cX12_doPrints 225 = .ok (.iadd, 1) := by decide +kernel
theorem dX12_doPrints_226 : decode cX12_doPrints 226 = .ok (.istore 6, 2) := by decide +kernel
theorem dX12_doPrints_228 : decode cX12_doPrints 228 = .ok (.aload_n 0, 1) := by decide +kernel
theorem dX12_doPrints_229 : decode cX12_doPrints 229 = .ok (.getfield 7, 3) := by decide +kernel
theorem dX12_doPrints_232 : decode cX12_doPrints 232 = .ok (.iload 6, 2) := by decide +kernel
theorem dX12_doPrints_234 : decode cX12_doPrints 234 = .ok (.iload_n 1, 1) := by decide +kernel
theorem dX12_doPrints_235 : decode cX12_doPrints 235 = .ok (.iastore, 1) := by decide +kernel
theorem dX12_doPrints_236 : decode cX12_doPrints 236 = .ok (.aload_n 0, 1) := by decide +kernel
theorem dX12_doPrints_237 : decode cX12_doPrints 237 = .ok (.getfield 7, 3) := by decide +kernel
theorem dX12_doPrints_240 : decode cX12_doPrints 240 = .ok (.iload 6, 2) := by decide +kernel
theorem dX12_doPrints_242 : decode cX12_doPrints 242 = .ok (.iconst 1, 1) := by decide +kernel
theorem dX12_doPrints_243 : decode cX12_doPrints 243 = .ok (.iadd, 1) := by decide +kernel
theorem dX12_doPrints_244 : decode cX12_doPrints 244 = .ok (.aload_n 0, 1) := by decide +kernel
theorem dX12_doPrints_245 : decode cX12_doPrints 245 = .ok (.getfield 7, 3) := by decide +kernel
theorem dX12_doPrints_248 : decode cX12_doPrints 248 = .ok (.bipush 92, 2) := by decide +kernel
theorem dX12_doPrints_250 : decode cX12_doPrints 250 = .ok (.iaload, 1) := by decide +kernel
theorem dX12_doPrints_251 : decode cX12_doPrints 251 = .ok (.iastore, 1) := by decide +kernel
theorem dX12_doPrints_252 : decode cX12_doPrints 252 = .ok (.aload_n 0, 1) := by decide +kernel
theorem dX12_doPrints_253 : decode cX12_doPrints 253 = .ok (.getfield 7, 3) := by decide +kernel
theorem dX12_doPrints_256 : decode cX12_doPrints 256 = .ok (.iload 6, 2) := by decide +kernel
theorem dX12_doPrints_258 : decode cX12_doPrints 258 = .ok (.iconst 2, 1) := by decide +kernel
theorem dX12_doPrints_259 : decode cX12_doPrints 259 = .ok (.iadd, 1) := by decide +kernel
theorem dX12_doPrints_260 : decode cX12_doPrints 260 = .ok (.iload 4, 2) := by decide +kernel
theorem dX12_doPrints_262 : decode cX12_doPrints 262 = .ok (.iastore, 1) := by decide +kernel
theorem dX12_doPrints_263 : decode cX12_doPrints 263 = .ok (.aload_n 0, 1) := by decide +kernel
theorem dX12_doPrints_264 : decode cX12_doPrints 264 = .ok (.getfield 7, 3) := by decide +kernel
theorem dX12_doPrints_267 : decode cX12_doPrints 267 = .ok (.bipush 93, 2) := by decide +kernel
theorem dX12_doPrints_269 : decode cX12_doPrints 269 = .ok (.dup2, 1) := by decide +kernel
theorem dX12_doPrints_270 : decode cX12_doPrints 270 = .ok (.iaload, 1) := by decide +kernel
theorem dX12_doPrints_271 : decode cX12_doPrints 271 = .ok (.iconst 1, 1) := by decide +kernel
theorem dX12_doPrints_272 : decode cX12_doPrints 272 = .ok (.iadd, 1) := by decide +kernel
theorem dX12_doPrints_273 : decode cX12_doPrints 273 = .ok (.iastore, 1) := by decide +kernel
theorem dX12_doPrints_274 : decode cX12_doPrints 274 = .ok (.aload_n 0, 1) := by decide +kernel
theorem dX12_doPrints_275 : decode cX12_doPrints 275 = .ok (.getfield 7, 3) := by decide +kernel
theorem dX12_doPrints_278 : decode cX12_doPrints 278 = .ok (.bipush 94, 2) := by decide +kernel
theorem dX12_doPrints_280 : decode cX12_doPrints 280 = .ok (.dup2, 1) := by decide +kernel
theorem dX12_doPrints_281 : decode cX12_doPrints 281 = .ok (.iaload, 1) := by decide +kernel
theorem dX12_doPrints_282 : decode cX12_doPrints 282 = .ok (.iload 5, 2) := by decide +kernel
theorem dX12_doPrints_284 : decode cX12_doPrints 284 = .ok (.iadd, 1) := by decide +kernel
theorem dX12_doPrints_285 : decode cX12_doPrints 285 = .ok (.iastore, 1) := by decide +kernel
theorem dX12_doPrints_286 : decode cX12_doPrints 286 = .ok (.aload_n 0, 1) := by decide +kernel
theorem dX12_doPrints_287 : decode cX12_doPrints 287 = .ok (.invokevirtual 166, 3) := by decide +kernel
theorem dX12_doPrints_290 : decode cX12_doPrints 290 = .ok (.aload_n 0, 1) := by decide +kernel
theorem dX12_doPrints_291 : decode cX12_doPrints 291 = .ok (.iload_n 1, 1) := by decide +kernel
theorem dX12_doPrints_292 : decode cX12_doPrints 292 = .ok (.iload 4, 2) := by decide +kernel
theorem dX12_doPrints_294 : decode cX12_doPrints 294 = .ok (.invokevirtual 126, 3) := by decide +kernel
theorem dX12_doPrints_297 : decode cX12_doPrints 297 = .ok (.aload_n 0, 1) := by decide +kernel
theorem dX12_doPrints_298 : decode cX12_doPrints 298 = .ok (.invokevirtual 169, 3) := by decide +kernel
theorem dX12_doPrints_301 : decode cX12_doPrints 301 = .ok (.iload 5, 2) := by decide +kernel
theorem dX12_doPrints_303 : decode cX12_doPrints 303 = .ok (.ireturn, 1) := by decide +kernel
theorem dX12_takeSheet_0 : decode cX12_takeSheet 0 = .ok (.iconst 0, 1) := by decide +kernel
theorem dX12_takeSheet_1 : decode cX12_takeSheet 1 = .ok (.istore_n 1, 1) := by decide +kernel
theorem dX12_takeSheet_2 : decode cX12_takeSheet 2 = .ok (.iload_n 1, 1) := by decide +kernel
theorem dX12_takeSheet_3 : decode cX12_takeSheet 3 = .ok (.bipush 16, 2) := by decide +kernel
theorem dX12_takeSheet_5 : decode cX12_takeSheet 5 = .ok (.if_icmp .ge 39, 3) := by decide +kernel
theorem dX12_takeSheet_8 : decode cX12_takeSheet 8 = .ok (.aload_n 0, 1) := by decide +kernel
theorem dX12_takeSheet_9 : decode cX12_takeSheet 9 = .ok (.getfield 22, 3) := by decide +kernel
theorem dX12_takeSheet_12 : decode cX12_takeSheet 12 = .ok (.iload_n 1, 1) := by decide +kernel
theorem dX12_takeSheet_13 : decode cX12_takeSheet 13 = .ok (.aload_n 0, 1) := by decide +kernel
theorem dX12_takeSheet_14 : decode cX12_takeSheet 14 = .ok (.getfield 7, 3) := by decide +kernel
theorem dX12_takeSheet_17 : decode cX12_takeSheet 17 = .ok (.bipush 59, 2) := by decide +kernel
theorem dX12_takeSheet_19 : decode cX12_takeSheet 19 = .ok (.iload_n 1, 1) := by decide +kernel
theorem dX12_takeSheet_20 : decode cX12_takeSheet 20 = .ok (.iadd, 1) := by decide +kernel
theorem dX12_takeSheet_21 : decode cX12_takeSheet 21 = .ok (.iaload, 1) := by decide +kernel
theorem dX12_takeSheet_22 : decode cX12_takeSheet 22 = .ok (.iastore, 1) := by decide +kernel
theorem dX12_takeSheet_23 : decode cX12_takeSheet 23 = .ok (.aload_n 0, 1) := by decide +kernel
theorem dX12_takeSheet_24 : decode cX12_takeSheet 24 = .ok (.getfield 25, 3) := by decide +kernel
theorem dX12_takeSheet_27 : decode cX12_takeSheet 27 = .ok (.iload_n 1, 1) := by decide +kernel
theorem dX12_takeSheet_28 : decode cX12_takeSheet 28 = .ok (.aload_n 0, 1) := by decide +kernel
theorem dX12_takeSheet_29 : decode cX12_takeSheet 29 = .ok (.getfield 7, 3) := by decide +kernel
theorem dX12_takeSheet_32 : decode cX12_takeSheet 32 = .ok (.bipush 75, 2) := by decide +kernel
theorem dX12_takeSheet_34 : decode cX12_takeSheet 34 = .ok (.iload_n 1, 1) := by decide +kernel
theorem dX12_takeSheet_35 : decode cX12_takeSheet 35 = .ok (.iadd, 1) := by decide +kernel
theorem dX12_takeSheet_36 : decode cX12_takeSheet 36 = .ok (.iaload, 1) := by decide +kernel
theorem dX12_takeSheet_37 : decode cX12_takeSheet 37 = .ok (.iastore, 1) := by decide +kernel
theorem dX12_takeSheet_38 : decode cX12_takeSheet 38 = .ok (.iinc 1 1, 3) := by decide +kernel
theorem dX12_takeSheet_41 : decode cX12_takeSheet 41 = .ok (.goto (-39), 3) := by decide +kernel
theorem dX12_takeSheet_44 : decode cX12_takeSheet 44 = .ok (.aload_n 0, 1) := by decide +kernel
theorem dX12_takeSheet_45 : decode cX12_takeSheet 45 = .ok (.aload_n 0, 1) := by decide +kernel
theorem dX12_takeSheet_46 : decode cX12_takeSheet 46 = .ok (.getfield 7, 3) := by decide +kernel
theorem dX12_takeSheet_49 : decode cX12_takeSheet 49 = .ok (.bipush 91, 2) := by decide +kernel
theorem dX12_takeSheet_51 : decode cX12_takeSheet 51 = .ok (.iaload, 1) := by decide +kernel
theorem dX12_takeSheet_52 : decode cX12_takeSheet 52 = .ok (.putfield 116, 3) := by decide +kernel
theorem dX12_takeSheet_55 : decode cX12_takeSheet 55 = .ok (.return_, 1) := by decide +kernel
theorem dX12_giveSheet_0 : decode cX12_giveSheet 0 = .ok (.iconst 0, 1) := by decide +kernel
theorem dX12_giveSheet_1 : decode cX12_giveSheet 1 = .ok (.istore_n 1, 1) := by decide +kernel
theorem dX12_giveSheet_2 : decode cX12_giveSheet 2 = .ok (.iload_n 1, 1) := by decide +kernel
theorem dX12_giveSheet_3 : decode cX12_giveSheet 3 = .ok (.bipush 16, 2) := by decide +kernel
theorem dX12_giveSheet_5 : decode cX12_giveSheet 5 = .ok (.if_icmp .ge 39, 3) := by decide +kernel
theorem dX12_giveSheet_8 : decode cX12_giveSheet 8 = .ok (.aload_n 0, 1) := by decide +kernel
theorem dX12_giveSheet_9 : decode cX12_giveSheet 9 = .ok (.getfield 7, 3) := by decide +kernel
theorem dX12_giveSheet_12 : decode cX12_giveSheet 12 = .ok (.bipush 59, 2) := by decide +kernel
theorem dX12_giveSheet_14 : decode cX12_giveSheet 14 = .ok (.iload_n 1, 1) := by decide +kernel
theorem dX12_giveSheet_15 : decode cX12_giveSheet 15 = .ok (.iadd, 1) := by decide +kernel
theorem dX12_giveSheet_16 : decode cX12_giveSheet 16 = .ok (.aload_n 0, 1) := by decide +kernel
theorem dX12_giveSheet_17 : decode cX12_giveSheet 17 = .ok (.getfield 22, 3) := by decide +kernel
theorem dX12_giveSheet_20 : decode cX12_giveSheet 20 = .ok (.iload_n 1, 1) := by decide +kernel
theorem dX12_giveSheet_21 : decode cX12_giveSheet 21 = .ok (.iaload, 1) := by decide +kernel
theorem dX12_giveSheet_22 : decode cX12_giveSheet 22 = .ok (.iastore, 1) := by decide +kernel
theorem dX12_giveSheet_23 : decode cX12_giveSheet 23 = .ok (.aload_n 0, 1) := by decide +kernel
theorem dX12_giveSheet_24 : decode cX12_giveSheet 24 = .ok (.getfield 7, 3) := by decide +kernel
theorem dX12_giveSheet_27 : decode cX12_giveSheet 27 = .ok (.bipush 75, 2) := by decide +kernel
theorem dX12_giveSheet_29 : decode cX12_giveSheet 29 = .ok (.iload_n 1, 1) := by decide +kernel
theorem dX12_giveSheet_30 : decode cX12_giveSheet 30 = .ok (.iadd, 1) := by decide +kernel
theorem dX12_giveSheet_31 : decode cX12_giveSheet 31 = .ok (.aload_n 0, 1) := by decide +kernel
theorem dX12_giveSheet_32 : decode cX12_giveSheet 32 = .ok (.getfield 25, 3) := by decide +kernel
theorem dX12_giveSheet_35 : decode cX12_giveSheet 35 = .ok (.iload_n 1, 1) := by decide +kernel
theorem dX12_giveSheet_36 : decode cX12_giveSheet 36 = .ok (.iaload, 1) := by decide +kernel
theorem dX12_giveSheet_37 : decode cX12_giveSheet 37 = .ok (.iastore, 1) := by decide +kernel
theorem dX12_giveSheet_38 : decode cX12_giveSheet 38 = .ok (.iinc 1 1, 3) := by decide +kernel
theorem dX12_giveSheet_41 : decode cX12_giveSheet 41 = .ok (.goto (-39), 3) := by decide +kernel
theorem dX12_giveSheet_44 : decode cX12_giveSheet 44 = .ok (.aload_n 0, 1) := by decide +kernel
theorem dX12_giveSheet_45 : decode cX12_giveSheet 45 = .ok (.getfield 7, 3) := by decide +kernel
theorem dX12_giveSheet_48 : decode cX12_giveSheet 48 = .ok (.bipush 91, 2) := by decide +kernel
theorem dX12_giveSheet_50 : decode cX12_giveSheet 50 = .ok (.aload_n 0, 1) := by decide +kernel
theorem dX12_giveSheet_51 : decode cX12_giveSheet 51 = .ok (.getfield 116, 3) := by decide +kernel
theorem dX12_giveSheet_54 : decode cX12_giveSheet 54 = .ok (.iastore, 1) := by decide +kernel
theorem dX12_giveSheet_55 : decode cX12_giveSheet 55 = .ok (.return_, 1) := by decide +kernel
theorem dX12_doNews_0 : decode cX12_doNews 0 = .ok (.aload_n 0, 1) := by decide +kernel
theorem dX12_doNews_1 : decode cX12_doNews 1 = .ok (.getfield 7, 3) := by decide +kernel
theorem dX12_doNews_4 : decode cX12_doNews 4 = .ok (.bipush 93, 2) := by decide +kernel
theorem dX12_doNews_6 : decode cX12_doNews 6 = .ok (.iaload, 1) := by decide +kernel
theorem dX12_doNews_7 : decode cX12_doNews 7 = .ok (.istore_n 1, 1) := by decide +kernel
theorem dX12_doNews_8 : decode cX12_doNews 8 = .ok (.aload_n 0, 1) := by decide +kernel
theorem dX12_doNews_9 : decode cX12_doNews 9 = .ok (.invokevirtual 123, 3) := by decide +kernel
theorem dX12_doNews_12 : decode cX12_doNews 12 = .ok (.aload_n 0, 1) := by decide +kernel
theorem dX12_doNews_13 : decode cX12_doNews 13 = .ok (.invokevirtual 169, 3) := by decide +kernel
theorem dX12_doNews_16 : decode cX12_doNews 16 = .ok (.aload_n 0, 1) := by decide +kernel
theorem dX12_doNews_17 : decode cX12_doNews 17 = .ok (.getfield 7, 3) := by decide +kernel
theorem dX12_doNews_20 : decode cX12_doNews 20 = .ok (.bipush 92, 2) := by decide +kernel
theorem dX12_doNews_22 : decode cX12_doNews 22 = .ok (.iconst 0, 1) := by decide +kernel
theorem dX12_doNews_23 : decode cX12_doNews 23 = .ok (.iastore, 1) := by decide +kernel
theorem dX12_doNews_24 : decode cX12_doNews 24 = .ok (.aload_n 0, 1) := by decide +kernel
theorem dX12_doNews_25 : decode cX12_doNews 25 = .ok (.getfield 7, 3) := by decide +kernel
theorem dX12_doNews_28 : decode cX12_doNews 28 = .ok (.bipush 93, 2) := by decide +kernel
theorem dX12_doNews_30 : decode cX12_doNews 30 = .ok (.iconst 0, 1) := by decide +kernel
theorem dX12_doNews_31 : decode cX12_doNews 31 = .ok (.iastore, 1) := by decide +kernel
theorem dX12_doNews_32 : decode cX12_doNews 32 = .ok (.aload_n 0, 1) := by decide +kernel
theorem dX12_doNews_33 : decode cX12_doNews 33 = .ok (.getfield 7, 3) := by decide +kernel
theorem dX12_doNews_36 : decode cX12_doNews 36 = .ok (.bipush 94, 2) := by decide +kernel
theorem dX12_doNews_38 : decode cX12_doNews 38 = .ok (.iconst 0, 1) := by decide +kernel
theorem dX12_doNews_39 : decode cX12_doNews 39 = .ok (.iastore, 1) := by decide +kernel
theorem dX12_doNews_40 : decode cX12_doNews 40 = .ok (.iload_n 1, 1) := by decide +kernel
theorem dX12_doNews_41 : decode cX12_doNews 41 = .ok (.ireturn, 1) := by decide +kernel
theorem dX12_prints_0 : decode cX12_prints 0 = .ok (.aload_n 0, 1) := by decide +kernel
theorem dX12_prints_1 : decode cX12_prints 1 = .ok (.invokevirtual 94, 3) := by decide +kernel
theorem dX12_prints_4 : decode cX12_prints 4 = .ok (.aload_n 0, 1) := by decide +kernel
theorem dX12_prints_5 : decode cX12_prints 5 = .ok (.aload_n 0, 1) := by decide +kernel
theorem dX12_prints_6 : decode cX12_prints 6 = .ok (.iload_n 1, 1) := by decide +kernel
theorem dX12_prints_7 : decode cX12_prints 7 = .ok (.iload_n 2, 1) := by decide +kernel
theorem dX12_prints_8 : decode cX12_prints 8 = .ok (.invokevirtual 172, 3) := by decide +kernel
theorem dX12_prints_11 : decode cX12_prints 11 = .ok (.invokevirtual 101, 3) := by decide +kernel
theorem dX12_prints_14 : decode cX12_prints 14 = .ok (.ireturn, 1) := by decide +kernel
theorem dX12_news_0 : decode cX12_news 0 = .ok (.aload_n 0, 1) := by decide +kernel
theorem dX12_news_1 : decode cX12_news 1 = .ok (.invokevirtual 94, 3) := by decide +kernel
theorem dX12_news_4 : decode cX12_news 4 = .ok (.aload_n 0, 1) := by decide +kernel
theorem dX12_news_5 : decode cX12_news 5 = .ok (.aload_n 0, 1) := by decide +kernel
theorem dX12_news_6 : decode cX12_news 6 = .ok (.invokevirtual 175, 3) := by decide +kernel
theorem dX12_news_9 : decode cX12_news 9 = .ok (.invokevirtual 101, 3) := by decide +kernel
theorem dX12_news_12 : decode cX12_news 12 = .ok (.ireturn, 1) := by decide +kernel
theorem dX12_wet_0 : decode cX12_wet 0 = .ok (.iconst 0, 1) := by decide +kernel
theorem dX12_wet_1 : decode cX12_wet 1 = .ok (.istore_n 2, 1) := by decide +kernel
theorem dX12_wet_2 : decode cX12_wet 2 = .ok (.iconst 0, 1) := by decide +kernel
theorem dX12_wet_3 : decode cX12_wet 3 = .ok (.istore_n 3, 1) := by decide +kernel
theorem dX12_wet_4 : decode cX12_wet 4 = .ok (.iload_n 3, 1) := by decide +kernel
theorem dX12_wet_5 : decode cX12_wet 5 = .ok (.aload_n 0, 1) := by decide +kernel
theorem dX12_wet_6 : decode cX12_wet 6 = .ok (.getfield 7, 3) := by decide +kernel
theorem dX12_wet_9 : decode cX12_wet 9 = .ok (.bipush 93, 2) := by decide +kernel
theorem dX12_wet_11 : decode cX12_wet 11 = .ok (.iaload, 1) := by decide +kernel
theorem dX12_wet_12 : decode cX12_wet 12 = .ok (.if_icmp .ge 82, 3) := by decide +kernel
theorem dX12_wet_15 : decode cX12_wet 15 = .ok (.aload_n 0, 1) := by decide +kernel
theorem dX12_wet_16 : decode cX12_wet 16 = .ok (.getfield 7, 3) := by decide +kernel
theorem dX12_wet_19 : decode cX12_wet 19 = .ok (.bipush 95, 2) := by decide +kernel
theorem dX12_wet_21 : decode cX12_wet 21 = .ok (.iconst 3, 1) := by decide +kernel
theorem dX12_wet_22 : decode cX12_wet 22 = .ok (.iload_n 3, 1) := by decide +kernel
theorem dX12_wet_23 : decode cX12_wet 23 = .ok (.imul, 1) := by decide +kernel
theorem dX12_wet_24 : decode cX12_wet 24 = .ok (.iadd, 1) := by decide +kernel
theorem dX12_wet_25 : decode cX12_wet 25 = .ok (.iconst 1, 1) := by decide +kernel
theorem dX12_wet_26 : decode cX12_wet 26 = .ok (.iadd, 1) := by decide +kernel
theorem dX12_wet_27 : decode cX12_wet 27 = .ok (.iaload, 1) := by decide +kernel
theorem dX12_wet_28 : decode cX12_wet 28 = .ok (.aload_n 0, 1) := by decide +kernel
theorem dX12_wet_29 : decode cX12_wet 29 = .ok (.aload_n 0, 1) := by decide +kernel
theorem dX12_wet_30 : decode cX12_wet 30 = .ok (.getfield 7, 3) := by decide +kernel
theorem dX12_wet_33 : decode cX12_wet 33 = .ok (.bipush 95, 2) := by decide +kernel
theorem dX12_wet_35 : decode cX12_wet 35 = .ok (.iconst 3, 1) := by decide +kernel
theorem dX12_wet_36 : decode cX12_wet 36 = .ok (.iload_n 3, 1) := by decide +kernel
theorem dX12_wet_37 : decode cX12_wet 37 = .ok (.imul, 1) := by decide +kernel
theorem dX12_wet_38 : decode cX12_wet 38 = .ok (.iadd, 1) := by decide +kernel
theorem dX12_wet_39 : decode cX12_wet 39 = .ok (.iaload, 1) := by decide +kernel
theorem dX12_wet_40 : decode cX12_wet 40 = .ok (.iconst 2, 1) := by decide +kernel
theorem dX12_wet_41 : decode cX12_wet 41 = .ok (.invokevirtual 75, 3) := by decide +kernel
theorem dX12_wet_44 : decode cX12_wet 44 = .ok (.iadd, 1) := by decide +kernel
theorem dX12_wet_45 : decode cX12_wet 45 = .ok (.aload_n 0, 1) := by decide +kernel
theorem dX12_wet_46 : decode cX12_wet 46 = .ok (.getfield 7, 3) := by decide +kernel
theorem dX12_wet_49 : decode cX12_wet 49 = .ok (.bipush 92, 2) := by decide +kernel
theorem dX12_wet_51 : decode cX12_wet 51 = .ok (.iaload, 1) := by decide +kernel
theorem dX12_wet_52 : decode cX12_wet 52 = .ok (.isub, 1) := by decide +kernel
theorem dX12_wet_53 : decode cX12_wet 53 = .ok (.istore 4, 2) := by decide +kernel
theorem dX12_wet_55 : decode cX12_wet 55 = .ok (.aload_n 0, 1) := by decide +kernel
theorem dX12_wet_56 : decode cX12_wet 56 = .ok (.getfield 7, 3) := by decide +kernel
theorem dX12_wet_59 : decode cX12_wet 59 = .ok (.bipush 95, 2) := by decide +kernel
theorem dX12_wet_61 : decode cX12_wet 61 = .ok (.iconst 3, 1) := by decide +kernel
theorem dX12_wet_62 : decode cX12_wet 62 = .ok (.iload_n 3, 1) := by decide +kernel
theorem dX12_wet_63 : decode cX12_wet 63 = .ok (.imul, 1) := by decide +kernel
theorem dX12_wet_64 : decode cX12_wet 64 = .ok (.iadd, 1) := by decide +kernel
theorem dX12_wet_65 : decode cX12_wet 65 = .ok (.iconst 2, 1) := by decide +kernel
theorem dX12_wet_66 : decode cX12_wet 66 = .ok (.iadd, 1) := by decide +kernel
theorem dX12_wet_67 : decode cX12_wet 67 = .ok (.iaload, 1) := by decide +kernel
theorem dX12_wet_68 : decode cX12_wet 68 = .ok (.iload_n 1, 1) := by decide +kernel
theorem dX12_wet_69 : decode cX12_wet 69 = .ok (.invokestatic 71, 3) := by decide +kernel
theorem dX12_wet_72 : decode cX12_wet 72 = .ok (.ifCond .eq 14, 3) := by decide +kernel
theorem dX12_wet_75 : decode cX12_wet 75 = .ok (.iload 4, 2) := by decide +kernel
theorem dX12_wet_77 : decode cX12_wet 77 = .ok (.iload_n 2, 1) := by decide +kernel
theorem dX12_wet_78 : decode cX12_wet 78 = .ok (.if_icmp .le 8, 3) := by decide +kernel
theorem dX12_wet_81 : decode cX12_wet 81 = .ok (.iload 4, 2) := by decide +kernel
theorem dX12_wet_83 : decode cX12_wet 83 = .ok (.goto 4, 3) := by decide +kernel
theorem dX12_wet_86 : decode cX12_wet 86 = .ok (.iload_n 2, 1) := by decide +kernel
theorem dX12_wet_87 : decode cX12_wet 87 = .ok (.istore_n 2, 1) := by decide +kernel
theorem dX12_wet_88 : decode cX12_wet 88 = .ok (.iinc 3 1, 3) := by decide +kernel
theorem dX12_wet_91 : decode cX12_wet 91 = .ok (.goto (-87), 3) := by decide +kernel
theorem dX12_wet_94 : decode cX12_wet 94 = .ok (.iload_n 2, 1) := by decide +kernel
theorem dX12_wet_95 : decode cX12_wet 95 = .ok (.ireturn, 1) := by decide +kernel
theorem dX12_ofCell_0 : decode cX12_ofCell 0 = .ok (.iload_n 2, 1) := by decide +kernel
theorem dX12_ofCell_1 : decode cX12_ofCell 1 = .ok (.ifCond .ne 15, 3) := by decide +kernel
theorem dX12_ofCell_4 : decode cX12_ofCell 4 = .ok (.aload_n 0, 1) := by decide +kernel
theorem dX12_ofCell_5 : decode cX12_ofCell 5 = .ok (.getfield 7, 3) := by decide +kernel
theorem dX12_ofCell_8 : decode cX12_ofCell 8 = .ok (.bipush 59, 2) := by decide +kernel
theorem dX12_ofCell_10 : decode cX12_ofCell 10 = .ok (.iload_n 1, 1) := by decide +kernel
theorem dX12_ofCell_11 : decode cX12_ofCell 11 = .ok (.iadd, 1) := by decide +kernel
theorem dX12_ofCell_12 : decode cX12_ofCell 12 = .ok (.iaload, 1) := by decide +kernel
theorem dX12_ofCell_13 : decode cX12_ofCell 13 = .ok (.goto 44, 3) := by decide +kernel
theorem dX12_ofCell_16 : decode cX12_ofCell 16 = .ok (.iload_n 2, 1) := by decide +kernel
theorem dX12_ofCell_17 : decode cX12_ofCell 17 = .ok (.iconst 1, 1) := by decide +kernel
theorem dX12_ofCell_18 : decode cX12_ofCell 18 = .ok (.if_icmp .ne 15, 3) := by decide +kernel
theorem dX12_ofCell_21 : decode cX12_ofCell 21 = .ok (.aload_n 0, 1) := by decide +kernel
theorem dX12_ofCell_22 : decode cX12_ofCell 22 = .ok (.getfield 7, 3) := by decide +kernel
theorem dX12_ofCell_25 : decode cX12_ofCell 25 = .ok (.bipush 75, 2) := by decide +kernel
theorem dX12_ofCell_27 : decode cX12_ofCell 27 = .ok (.iload_n 1, 1) := by decide +kernel
theorem dX12_ofCell_28 : decode cX12_ofCell 28 = .ok (.iadd, 1) := by decide +kernel
theorem dX12_ofCell_29 : decode cX12_ofCell 29 = .ok (.iaload, 1) := by decide +kernel
theorem dX12_ofCell_30 : decode cX12_ofCell 30 = .ok (.goto 27, 3) := by decide +kernel
theorem dX12_ofCell_33 : decode cX12_ofCell 33 = .ok (.iload_n 2, 1) := by decide +kernel
theorem dX12_ofCell_34 : decode cX12_ofCell 34 = .ok (.iconst 2, 1) := by decide +kernel
theorem dX12_ofCell_35 : decode cX12_ofCell 35 = .ok (.if_icmp .ne 17, 3) := by decide +kernel
theorem dX12_ofCell_38 : decode cX12_ofCell 38 = .ok (.aload_n 0, 1) := by decide +kernel
theorem dX12_ofCell_39 : decode cX12_ofCell 39 = .ok (.getfield 7, 3) := by decide +kernel
theorem dX12_ofCell_42 : decode cX12_ofCell 42 = .ok (.bipush 91, 2) := by decide +kernel
theorem dX12_ofCell_44 : decode cX12_ofCell 44 = .ok (.iaload, 1) := by decide +kernel
theorem dX12_ofCell_45 : decode cX12_ofCell 45 = .ok (.iload_n 1, 1) := by decide +kernel
theorem dX12_ofCell_46 : decode cX12_ofCell 46 = .ok (.ishr, 1) := by decide +kernel
theorem dX12_ofCell_47 : decode cX12_ofCell 47 = .ok (.iconst 1, 1) := by decide +kernel
theorem dX12_ofCell_48 : decode cX12_ofCell 48 = .ok (.iand, 1) := by decide +kernel
theorem dX12_ofCell_49 : decode cX12_ofCell 49 = .ok (.goto 8, 3) := by decide +kernel
theorem dX12_ofCell_52 : decode cX12_ofCell 52 = .ok (.aload_n 0, 1) := by decide +kernel
theorem dX12_ofCell_53 : decode cX12_ofCell 53 = .ok (.iload_n 1, 1) := by decide +kernel
theorem dX12_ofCell_54 : decode cX12_ofCell 54 = .ok (.invokevirtual 178, 3) := by decide +kernel
theorem dX12_ofCell_57 : decode cX12_ofCell 57 = .ok (.ireturn, 1) := by decide +kernel
theorem dX12_cell_0 : decode cX12_cell 0 = .ok (.iload_n 1, 1) := by decide +kernel
theorem dX12_cell_1 : decode cX12_cell 1 = .ok (.iconst 0, 1) := by decide +kernel
theorem dX12_cell_2 : decode cX12_cell 2 = .ok (.bipush 15, 2) := by decide +kernel
theorem dX12_cell_4 : decode cX12_cell 4 = .ok (.invokestatic 67, 3) := by decide +kernel
theorem dX12_cell_7 : decode cX12_cell 7 = .ok (.ifCond .eq 21, 3) := by decide +kernel
theorem dX12_cell_10 : decode cX12_cell 10 = .ok (.iload_n 2, 1) := by decide +kernel
theorem dX12_cell_11 : decode cX12_cell 11 = .ok (.iconst 0, 1) := by decide +kernel
theorem dX12_cell_12 : decode cX12_cell 12 = .ok (.iconst 3, 1) := by decide +kernel
theorem dX12_cell_13 : decode cX12_cell 13 = .ok (.invokestatic 67, 3) := by decide +kernel
theorem dX12_cell_16 : decode cX12_cell 16 = .ok (.ifCond .eq 12, 3) := by decide +kernel
theorem dX12_cell_19 : decode cX12_cell 19 = .ok (.aload_n 0, 1) := by decide +kernel
theorem dX12_cell_20 : decode cX12_cell 20 = .ok (.iload_n 1, 1) := by decide +kernel
theorem dX12_cell_21 : decode cX12_cell 21 = .ok (.iload_n 2, 1) := by decide +kernel
theorem dX12_cell_22 : decode cX12_cell 22 = .ok (.invokevirtual 181, 3) := by decide +kernel
theorem dX12_cell_25 : decode cX12_cell 25 = .ok (.goto 9, 3) := by decide +kernel
theorem dX12_cell_28 : decode cX12_cell 28 = .ok (.aload_n 0, 1) := by decide +kernel
theorem dX12_cell_29 : decode cX12_cell 29 = .ok (.bipush (-2), 2) := by decide +kernel
theorem dX12_cell_31 : decode cX12_cell 31 = .ok (.invokevirtual 60, 3) := by decide +kernel
theorem dX12_cell_34 : decode cX12_cell 34 = .ok (.ireturn, 1) := by decide +kernel
theorem dX12_ofHand_0 : decode cX12_ofHand 0 = .ok (.iload_n 1, 1) := by decide +kernel
theorem dX12_ofHand_1 : decode cX12_ofHand 1 = .ok (.iconst 3, 1) := by decide +kernel
theorem dX12_ofHand_2 : decode cX12_ofHand 2 = .ok (.if_icmp .ge 13, 3) := by decide +kernel
theorem dX12_ofHand_5 : decode cX12_ofHand 5 = .ok (.aload_n 0, 1) := by decide +kernel
theorem dX12_ofHand_6 : decode cX12_ofHand 6 = .ok (.getfield 7, 3) := by decide +kernel
theorem dX12_ofHand_9 : decode cX12_ofHand 9 = .ok (.bipush 92, 2) := by decide +kernel
theorem dX12_ofHand_11 : decode cX12_ofHand 11 = .ok (.iload_n 1, 1) := by decide +kernel
theorem dX12_ofHand_12 : decode cX12_ofHand 12 = .ok (.iadd, 1) := by decide +kernel
theorem dX12_ofHand_13 : decode cX12_ofHand 13 = .ok (.iaload, 1) := by decide +kernel
theorem dX12_ofHand_14 : decode cX12_ofHand 14 = .ok (.ireturn, 1) := by decide +kernel
theorem dX12_ofHand_15 : decode cX12_ofHand 15 = .ok (.iload_n 1, 1) := by decide +kernel
theorem dX12_ofHand_16 : decode cX12_ofHand 16 = .ok (.iconst 3, 1) := by decide +kernel
theorem dX12_ofHand_17 : decode cX12_ofHand 17 = .ok (.if_icmp .ne 12, 3) := by decide +kernel
theorem dX12_ofHand_20 : decode cX12_ofHand 20 = .ok (.aload_n 0, 1) := by decide +kernel
theorem dX12_ofHand_21 : decode cX12_ofHand 21 = .ok (.invokevirtual 166, 3) := by decide +kernel
theorem dX12_ofHand_24 : decode cX12_ofHand 24 = .ok (.aload_n 0, 1) := by decide +kernel
theorem dX12_ofHand_25 : decode cX12_ofHand 25 = .ok (.invokevirtual 145, 3) := by decide +kernel
theorem dX12_ofHand_28 : decode cX12_ofHand 28 = .ok (.ireturn, 1) := by decide +kernel
theorem dX12_ofHand_29 : decode cX12_ofHand 29 = .ok (.iconst 0, 1) := by decide +kernel
theorem dX12_ofHand_30 : decode cX12_ofHand 30 = .ok (.istore_n 2, 1) := by decide +kernel
theorem dX12_ofHand_31 : decode cX12_ofHand 31 = .ok (.iconst 0, 1) := by decide +kernel
theorem dX12_ofHand_32 : decode cX12_ofHand 32 = .ok (.istore_n 3, 1) := by decide +kernel
theorem dX12_ofHand_33 : decode cX12_ofHand 33 = .ok (.iload_n 3, 1) := by decide +kernel
theorem dX12_ofHand_34 : decode cX12_ofHand 34 = .ok (.bipush 16, 2) := by decide +kernel
theorem dX12_ofHand_36 : decode cX12_ofHand 36 = .ok (.if_icmp .ge 44, 3) := by decide +kernel
theorem dX12_ofHand_39 : decode cX12_ofHand 39 = .ok (.iload_n 2, 1) := by decide +kernel
theorem dX12_ofHand_40 : decode cX12_ofHand 40 = .ok (.aload_n 0, 1) := by decide +kernel
theorem dX12_ofHand_41 : decode cX12_ofHand 41 = .ok (.iload_n 3, 1) := by decide +kernel
theorem dX12_ofHand_42 : decode cX12_ofHand 42 = .ok (.iload_n 1, 1) := by decide +kernel
theorem dX12_ofHand_43 : decode cX12_ofHand 43 = .ok (.iconst 4, 1) := by decide +kernel
theorem dX12_ofHand_44 : decode cX12_ofHand 44 = .ok (.if_icmp .ne 7, 3) := by decide +kernel
theorem dX12_ofHand_47 : decode cX12_ofHand 47 = .ok (.iconst 3, 1) := by decide +kernel
theorem dX12_ofHand_48 : decode cX12_ofHand 48 = .ok (.goto 13, 3) := by decide +kernel
theorem dX12_ofHand_51 : decode cX12_ofHand 51 = .ok (.iload_n 1, 1) := by decide +kernel
theorem dX12_ofHand_52 : decode cX12_ofHand 52 = .ok (.iconst 5, 1) := by decide +kernel
theorem dX12_ofHand_53 : decode cX12_ofHand 53 = .ok (.if_icmp .ne 7, 3) := by decide +kernel
theorem dX12_ofHand_56 : decode cX12_ofHand 56 = .ok (.iconst 1, 1) := by decide +kernel
theorem dX12_ofHand_57 : decode cX12_ofHand 57 = .ok (.goto 4, 3) := by decide +kernel
theorem dX12_ofHand_60 : decode cX12_ofHand 60 = .ok (.iconst 2, 1) := by decide +kernel
theorem dX12_ofHand_61 : decode cX12_ofHand 61 = .ok (.invokevirtual 181, 3) := by decide +kernel
theorem dX12_ofHand_64 : decode cX12_ofHand 64 = .ok (.ifCond .le 7, 3) := by decide +kernel
theorem dX12_ofHand_67 : decode cX12_ofHand 67 = .ok (.iconst 1, 1) := by decide +kernel
theorem dX12_ofHand_68 : decode cX12_ofHand 68 = .ok (.goto 4, 3) := by decide +kernel
theorem dX12_ofHand_71 : decode cX12_ofHand 71 = .ok (.iconst 0, 1) := by decide +kernel
theorem dX12_ofHand_72 : decode cX12_ofHand 72 = .ok (.iadd, 1) := by decide +kernel
theorem dX12_ofHand_73 : decode cX12_ofHand 73 = .ok (.istore_n 2, 1) := by decide +kernel
theorem dX12_ofHand_74 : decode cX12_ofHand 74 = .ok (.iinc 3 1, 3) := by decide +kernel
theorem dX12_ofHand_77 : decode cX12_ofHand 77 = .ok (.goto (-44), 3) := by decide +kernel
theorem dX12_ofHand_80 : decode cX12_ofHand 80 = .ok (.iload_n 2, 1) := by decide +kernel
end
section
theorem dX12_ofHand_81 : decode cX12_ofHand 81 = .ok (.ireturn, 1) := by decide +kernel
theorem dX12_hand_0 : decode cX12_hand 0 = .ok (.iload_n 1, 1) := by decide +kernel
theorem dX12_hand_1 : decode cX12_hand 1 = .ok (.iconst 0, 1) := by decide +kernel
theorem dX12_hand_2 : decode cX12_hand 2 = .ok (.bipush 6, 2) := by decide +kernel
theorem dX12_hand_4 : decode cX12_hand 4 = .ok (.invokestatic 67, 3) := by decide +kernel
theorem dX12_hand_7 : decode cX12_hand 7 = .ok (.ifCond .eq 11, 3) := by decide +kernel
theorem dX12_hand_10 : decode cX12_hand 10 = .ok (.aload_n 0, 1) := by decide +kernel
theorem dX12_hand_11 : decode cX12_hand 11 = .ok (.iload_n 1, 1) := by decide +kernel
theorem dX12_hand_12 : decode cX12_hand 12 = .ok (.invokevirtual 184, 3) := by decide +kernel
theorem dX12_hand_15 : decode cX12_hand 15 = .ok (.goto 9, 3) := by decide +kernel
theorem dX12_hand_18 : decode cX12_hand 18 = .ok (.aload_n 0, 1) := by decide +kernel
theorem dX12_hand_19 : decode cX12_hand 19 = .ok (.bipush (-2), 2) := by decide +kernel
theorem dX12_hand_21 : decode cX12_hand 21 = .ok (.invokevirtual 60, 3) := by decide +kernel
theorem dX12_hand_24 : decode cX12_hand 24 = .ok (.ireturn, 1) := by decide +kernel
theorem dX12_print_0 : decode cX12_print 0 = .ok (.iload_n 1, 1) := by decide +kernel
theorem dX12_print_1 : decode cX12_print 1 = .ok (.ifCond .lt 12, 3) := by decide +kernel
theorem dX12_print_4 : decode cX12_print 4 = .ok (.iload_n 2, 1) := by decide +kernel
theorem dX12_print_5 : decode cX12_print 5 = .ok (.iconst 0, 1) := by decide +kernel
theorem dX12_print_6 : decode cX12_print 6 = .ok (.iconst 2, 1) := by decide +kernel
theorem dX12_print_7 : decode cX12_print 7 = .ok (.invokestatic 67, 3) := by decide +kernel
theorem dX12_print_10 : decode cX12_print 10 = .ok (.ifCond .ne 10, 3) := by decide +kernel
theorem dX12_print_13 : decode cX12_print 13 = .ok (.aload_n 0, 1) := by decide +kernel
theorem dX12_print_14 : decode cX12_print 14 = .ok (.bipush (-2), 2) := by decide +kernel
theorem dX12_print_16 : decode cX12_print 16 = .ok (.invokevirtual 60, 3) := by decide +kernel
theorem dX12_print_19 : decode cX12_print 19 = .ok (.ireturn, 1) := by decide +kernel
theorem dX12_print_20 : decode cX12_print 20 = .ok (.iload_n 1, 1) := by decide +kernel
theorem dX12_print_21 : decode cX12_print 21 = .ok (.aload_n 0, 1) := by decide +kernel
theorem dX12_print_22 : decode cX12_print 22 = .ok (.getfield 7, 3) := by decide +kernel
theorem dX12_print_25 : decode cX12_print 25 = .ok (.bipush 93, 2) := by decide +kernel
theorem dX12_print_27 : decode cX12_print 27 = .ok (.iaload, 1) := by decide +kernel
theorem dX12_print_28 : decode cX12_print 28 = .ok (.if_icmp .ge 19, 3) := by decide +kernel
theorem dX12_print_31 : decode cX12_print 31 = .ok (.aload_n 0, 1) := by decide +kernel
theorem dX12_print_32 : decode cX12_print 32 = .ok (.getfield 7, 3) := by decide +kernel
theorem dX12_print_35 : decode cX12_print 35 = .ok (.bipush 95, 2) := by decide +kernel
theorem dX12_print_37 : decode cX12_print 37 = .ok (.iconst 3, 1) := by decide +kernel
theorem dX12_print_38 : decode cX12_print 38 = .ok (.iload_n 1, 1) := by decide +kernel
theorem dX12_print_39 : decode cX12_print 39 = .ok (.imul, 1) := by decide +kernel
theorem dX12_print_40 : decode cX12_print 40 = .ok (.iadd, 1) := by decide +kernel
theorem dX12_print_41 : decode cX12_print 41 = .ok (.iload_n 2, 1) := by decide +kernel
theorem dX12_print_42 : decode cX12_print 42 = .ok (.iadd, 1) := by decide +kernel
theorem dX12_print_43 : decode cX12_print 43 = .ok (.iaload, 1) := by decide +kernel
theorem dX12_print_44 : decode cX12_print 44 = .ok (.goto 4, 3) := by decide +kernel
theorem dX12_print_47 : decode cX12_print 47 = .ok (.iconst (-1), 1) := by decide +kernel
theorem dX12_print_48 : decode cX12_print 48 = .ok (.ireturn, 1) := by decide +kernel
theorem dX12_type_0 : decode cX12_type 0 = .ok (.iload_n 1, 1) := by decide +kernel
theorem dX12_type_1 : decode cX12_type 1 = .ok (.iconst 0, 1) := by decide +kernel
theorem dX12_type_2 : decode cX12_type 2 = .ok (.bipush 127, 2) := by decide +kernel
theorem dX12_type_4 : decode cX12_type 4 = .ok (.invokestatic 67, 3) := by decide +kernel
theorem dX12_type_7 : decode cX12_type 7 = .ok (.ifCond .ne 10, 3) := by decide +kernel
theorem dX12_type_10 : decode cX12_type 10 = .ok (.aload_n 0, 1) := by decide +kernel
theorem dX12_type_11 : decode cX12_type 11 = .ok (.bipush (-2), 2) := by decide +kernel
theorem dX12_type_13 : decode cX12_type 13 = .ok (.invokevirtual 60, 3) := by decide +kernel
theorem dX12_type_16 : decode cX12_type 16 = .ok (.ireturn, 1) := by decide +kernel
theorem dX12_type_17 : decode cX12_type 17 = .ok (.aload_n 0, 1) := by decide +kernel
theorem dX12_type_18 : decode cX12_type 18 = .ok (.getfield 187, 3) := by decide +kernel
theorem dX12_type_21 : decode cX12_type 21 = .ok (.sipush 150, 3) := by decide +kernel
theorem dX12_type_24 : decode cX12_type 24 = .ok (.if_icmp .ne 10, 3) := by decide +kernel
theorem dX12_type_27 : decode cX12_type 27 = .ok (.aload_n 0, 1) := by decide +kernel
theorem dX12_type_28 : decode cX12_type 28 = .ok (.bipush (-4), 2) := by decide +kernel
theorem dX12_type_30 : decode cX12_type 30 = .ok (.invokevirtual 60, 3) := by decide +kernel
theorem dX12_type_33 : decode cX12_type 33 = .ok (.ireturn, 1) := by decide +kernel
theorem dX12_type_34 : decode cX12_type 34 = .ok (.aload_n 0, 1) := by decide +kernel
theorem dX12_type_35 : decode cX12_type 35 = .ok (.getfield 47, 3) := by decide +kernel
theorem dX12_type_38 : decode cX12_type 38 = .ok (.aload_n 0, 1) := by decide +kernel
theorem dX12_type_39 : decode cX12_type 39 = .ok (.getfield 187, 3) := by decide +kernel
theorem dX12_type_42 : decode cX12_type 42 = .ok (.iload_n 1, 1) := by decide +kernel
theorem dX12_type_43 : decode cX12_type 43 = .ok (.iastore, 1) := by decide +kernel
theorem dX12_type_44 : decode cX12_type 44 = .ok (.aload_n 0, 1) := by decide +kernel
theorem dX12_type_45 : decode cX12_type 45 = .ok (.dup, 1) := by decide +kernel
theorem dX12_type_46 : decode cX12_type 46 = .ok (.getfield 187, 3) := by decide +kernel
theorem dX12_type_49 : decode cX12_type 49 = .ok (.iconst 1, 1) := by decide +kernel
theorem dX12_type_50 : decode cX12_type 50 = .ok (.iadd, 1) := by decide +kernel
theorem dX12_type_51 : decode cX12_type 51 = .ok (.putfield 187, 3) := by decide +kernel
theorem dX12_type_54 : decode cX12_type 54 = .ok (.aload_n 0, 1) := by decide +kernel
theorem dX12_type_55 : decode cX12_type 55 = .ok (.getfield 187, 3) := by decide +kernel
theorem dX12_type_58 : decode cX12_type 58 = .ok (.ireturn, 1) := by decide +kernel
theorem dX12_clear_0 : decode cX12_clear 0 = .ok (.aload_n 0, 1) := by decide +kernel
theorem dX12_clear_1 : decode cX12_clear 1 = .ok (.getfield 187, 3) := by decide +kernel
theorem dX12_clear_4 : decode cX12_clear 4 = .ok (.istore_n 1, 1) := by decide +kernel
theorem dX12_clear_5 : decode cX12_clear 5 = .ok (.aload_n 0, 1) := by decide +kernel
theorem dX12_clear_6 : decode cX12_clear 6 = .ok (.iconst 0, 1) := by decide +kernel
theorem dX12_clear_7 : decode cX12_clear 7 = .ok (.putfield 187, 3) := by decide +kernel
theorem dX12_clear_10 : decode cX12_clear 10 = .ok (.iload_n 1, 1) := by decide +kernel
theorem dX12_clear_11 : decode cX12_clear 11 = .ok (.ireturn, 1) := by decide +kernel
theorem dX12_here_0 : decode cX12_here 0 = .ok (.aload_n 0, 1) := by decide +kernel
theorem dX12_here_1 : decode cX12_here 1 = .ok (.getfield 190, 3) := by decide +kernel
theorem dX12_here_4 : decode cX12_here 4 = .ok (.aload_n 0, 1) := by decide +kernel
theorem dX12_here_5 : decode cX12_here 5 = .ok (.getfield 187, 3) := by decide +kernel
theorem dX12_here_8 : decode cX12_here 8 = .ok (.if_icmp .ge 30, 3) := by decide +kernel
theorem dX12_here_11 : decode cX12_here 11 = .ok (.aload_n 0, 1) := by decide +kernel
theorem dX12_here_12 : decode cX12_here 12 = .ok (.getfield 47, 3) := by decide +kernel
theorem dX12_here_15 : decode cX12_here 15 = .ok (.aload_n 0, 1) := by decide +kernel
theorem dX12_here_16 : decode cX12_here 16 = .ok (.getfield 190, 3) := by decide +kernel
theorem dX12_here_19 : decode cX12_here 19 = .ok (.iaload, 1) := by decide +kernel
theorem dX12_here_20 : decode cX12_here 20 = .ok (.bipush 32, 2) := by decide +kernel
theorem dX12_here_22 : decode cX12_here 22 = .ok (.if_icmp .ne 16, 3) := by decide +kernel
theorem dX12_here_25 : decode cX12_here 25 = .ok (.aload_n 0, 1) := by decide +kernel
theorem dX12_here_26 : decode cX12_here 26 = .ok (.dup, 1) := by decide +kernel
theorem dX12_here_27 : decode cX12_here 27 = .ok (.getfield 190, 3) := by decide +kernel
theorem dX12_here_30 : decode cX12_here 30 = .ok (.iconst 1, 1) := by decide +kernel
theorem dX12_here_31 : decode cX12_here 31 = .ok (.iadd, 1) := by decide +kernel
theorem dX12_here_32 : decode cX12_here 32 = .ok (.putfield 190, 3) := by decide +kernel
theorem dX12_here_35 : decode cX12_here 35 = .ok (.goto (-35), 3) := by decide +kernel
theorem dX12_here_38 : decode cX12_here 38 = .ok (.aload_n 0, 1) := by decide +kernel
theorem dX12_here_39 : decode cX12_here 39 = .ok (.getfield 190, 3) := by decide +kernel
theorem dX12_here_42 : decode cX12_here 42 = .ok (.aload_n 0, 1) := by decide +kernel
theorem dX12_here_43 : decode cX12_here 43 = .ok (.getfield 187, 3) := by decide +kernel
theorem dX12_here_46 : decode cX12_here 46 = .ok (.if_icmp .ge 15, 3) := by decide +kernel
theorem dX12_here_49 : decode cX12_here 49 = .ok (.aload_n 0, 1) := by decide +kernel
theorem dX12_here_50 : decode cX12_here 50 = .ok (.getfield 47, 3) := by decide +kernel
theorem dX12_here_53 : decode cX12_here 53 = .ok (.aload_n 0, 1) := by decide +kernel
theorem dX12_here_54 : decode cX12_here 54 = .ok (.getfield 190, 3) := by decide +kernel
theorem dX12_here_57 : decode cX12_here 57 = .ok (.iaload, 1) := by decide +kernel
theorem dX12_here_58 : decode cX12_here 58 = .ok (.goto 4, 3) := by decide +kernel
theorem dX12_here_61 : decode cX12_here 61 = .ok (.iconst (-1), 1) := by decide +kernel
theorem dX12_here_62 : decode cX12_here 62 = .ok (.ireturn, 1) := by decide +kernel
theorem dX12_must_0 : decode cX12_must 0 = .ok (.aload_n 0, 1) := by decide +kernel
theorem dX12_must_1 : decode cX12_must 1 = .ok (.getfield 193, 3) := by decide +kernel
theorem dX12_must_4 : decode cX12_must 4 = .ok (.iconst (-1), 1) := by decide +kernel
theorem dX12_must_5 : decode cX12_must 5 = .ok (.if_icmp .ne 15, 3) := by decide +kernel
theorem dX12_must_8 : decode cX12_must 8 = .ok (.iload_n 1, 1) := by decide +kernel
theorem dX12_must_9 : decode cX12_must 9 = .ok (.ifCond .ne 11, 3) := by decide +kernel
theorem dX12_must_12 : decode cX12_must 12 = .ok (.aload_n 0, 1) := by decide +kernel
theorem dX12_must_13 : decode cX12_must 13 = .ok (.aload_n 0, 1) := by decide +kernel
theorem dX12_must_14 : decode cX12_must 14 = .ok (.getfield 190, 3) := by decide +kernel
theorem dX12_must_17 : decode cX12_must 17 = .ok (.putfield 193, 3) := by decide +kernel
theorem dX12_must_20 : decode cX12_must 20 = .ok (.return_, 1) := by decide +kernel
theorem dX12_isFigure_0 : decode cX12_isFigure 0 = .ok (.aload_n 0, 1) := by decide +kernel
theorem dX12_isFigure_1 : decode cX12_isFigure 1 = .ok (.getfield 190, 3) := by decide +kernel
theorem dX12_isFigure_4 : decode cX12_isFigure 4 = .ok (.aload_n 0, 1) := by decide +kernel
theorem dX12_isFigure_5 : decode cX12_isFigure 5 = .ok (.getfield 187, 3) := by decide +kernel
theorem dX12_isFigure_8 : decode cX12_isFigure 8 = .ok (.if_icmp .ge 26, 3) := by decide +kernel
theorem dX12_isFigure_11 : decode cX12_isFigure 11 = .ok (.aload_n 0, 1) := by decide +kernel
theorem dX12_isFigure_12 : decode cX12_isFigure 12 = .ok (.getfield 47, 3) := by decide +kernel
theorem dX12_isFigure_15 : decode cX12_isFigure 15 = .ok (.aload_n 0, 1) := by decide +kernel
theorem dX12_isFigure_16 : decode cX12_isFigure 16 = .ok (.getfield 190, 3) := by decide +kernel
theorem dX12_isFigure_19 : decode cX12_isFigure 19 = .ok (.iaload, 1) := by decide +kernel
theorem dX12_isFigure_20 : decode cX12_isFigure 20 = .ok (.bipush 48, 2) := by decide +kernel
theorem dX12_isFigure_22 : decode cX12_isFigure 22 = .ok (.bipush 57, 2) := by decide +kernel
theorem dX12_isFigure_24 : decode cX12_isFigure 24 = .ok (.invokestatic 67, 3) := by decide +kernel
theorem dX12_isFigure_27 : decode cX12_isFigure 27 = .ok (.ifCond .eq 7, 3) := by decide +kernel
theorem dX12_isFigure_30 : decode cX12_isFigure 30 = .ok (.iconst 1, 1) := by decide +kernel
theorem dX12_isFigure_31 : decode cX12_isFigure 31 = .ok (.goto 4, 3) := by decide +kernel
theorem dX12_isFigure_34 : decode cX12_isFigure 34 = .ok (.iconst 0, 1) := by decide +kernel
theorem dX12_isFigure_35 : decode cX12_isFigure 35 = .ok (.ireturn, 1) := by decide +kernel
theorem dX12_number_0 : decode cX12_number 0 = .ok (.aload_n 0, 1) := by decide +kernel
theorem dX12_number_1 : decode cX12_number 1 = .ok (.invokevirtual 196, 3) := by decide +kernel
theorem dX12_number_4 : decode cX12_number 4 = .ok (.bipush 45, 2) := by decide +kernel
theorem dX12_number_6 : decode cX12_number 6 = .ok (.if_icmp .ne 11, 3) := by decide +kernel
theorem dX12_number_9 : decode cX12_number 9 = .ok (.iload_n 1, 1) := by decide +kernel
theorem dX12_number_10 : decode cX12_number 10 = .ok (.ifCond .eq 7, 3) := by decide +kernel
theorem dX12_number_13 : decode cX12_number 13 = .ok (.iconst 1, 1) := by decide +kernel
theorem dX12_number_14 : decode cX12_number 14 = .ok (.goto 4, 3) := by decide +kernel
theorem dX12_number_17 : decode cX12_number 17 = .ok (.iconst 0, 1) := by decide +kernel
theorem dX12_number_18 : decode cX12_number 18 = .ok (.istore_n 2, 1) := by decide +kernel
theorem dX12_number_19 : decode cX12_number 19 = .ok (.aload_n 0, 1) := by decide +kernel
theorem dX12_number_20 : decode cX12_number 20 = .ok (.dup, 1) := by decide +kernel
theorem dX12_number_21 : decode cX12_number 21 = .ok (.getfield 190, 3) := by decide +kernel
theorem dX12_number_24 : decode cX12_number 24 = .ok (.iload_n 2, 1) := by decide +kernel
theorem dX12_number_25 : decode cX12_number 25 = .ok (.ifCond .eq 7, 3) := by decide +kernel
theorem dX12_number_28 : decode cX12_number 28 = .ok (.iconst 1, 1) := by decide +kernel
theorem dX12_number_29 : decode cX12_number 29 = .ok (.goto 4, 3) := by decide +kernel
theorem dX12_number_32 : decode cX12_number 32 = .ok (.iconst 0, 1) := by decide +kernel
theorem dX12_number_33 : decode cX12_number 33 = .ok (.iadd, 1) := by decide +kernel
theorem dX12_number_34 : decode cX12_number 34 = .ok (.putfield 190, 3) := by decide +kernel
theorem dX12_number_37 : decode cX12_number 37 = .ok (.aload_n 0, 1) := by decide +kernel
theorem dX12_number_38 : decode cX12_number 38 = .ok (.aload_n 0, 1) := by decide +kernel
theorem dX12_number_39 : decode cX12_number 39 = .ok (.invokevirtual 199, 3) := by decide +kernel
theorem dX12_number_42 : decode cX12_number 42 = .ok (.invokevirtual 202, 3) := by decide +kernel
theorem dX12_number_45 : decode cX12_number 45 = .ok (.iconst 0, 1) := by decide +kernel
theorem dX12_number_46 : decode cX12_number 46 = .ok (.istore_n 3, 1) := by decide +kernel
theorem dX12_number_47 : decode cX12_number 47 = .ok (.iconst 0, 1) := by decide +kernel
theorem dX12_number_48 : decode cX12_number 48 = .ok (.istore 4, 2) := by decide +kernel
theorem dX12_number_50 : decode cX12_number 50 = .ok (.iload 4, 2) := by decide +kernel
theorem dX12_number_52 : decode cX12_number 52 = .ok (.iconst 5, 1) := by decide +kernel
theorem dX12_number_53 : decode cX12_number 53 = .ok (.if_icmp .ge 44, 3) := by decide +kernel
theorem dX12_number_56 : decode cX12_number 56 = .ok (.aload_n 0, 1) := by decide +kernel
theorem dX12_number_57 : decode cX12_number 57 = .ok (.invokevirtual 199, 3) := by decide +kernel
theorem dX12_number_60 : decode cX12_number 60 = .ok (.ifCond .eq 37, 3) := by decide +kernel
theorem dX12_number_63 : decode cX12_number 63 = .ok (.bipush 10, 2) := by decide +kernel
theorem dX12_number_65 : decode cX12_number 65 = .ok (.iload_n 3, 1) := by decide +kernel
theorem dX12_number_66 : decode cX12_number 66 = .ok (.imul, 1) := by decide +kernel
theorem dX12_number_67 : decode cX12_number 67 = .ok (.aload_n 0, 1) := by decide +kernel
theorem dX12_number_68 : decode cX12_number 68 = .ok (.getfield 47, 3) := by decide +kernel
theorem dX12_number_71 : decode cX12_number 71 = .ok (.aload_n 0, 1) := by decide +kernel
theorem dX12_number_72 : decode cX12_number 72 = .ok (.getfield 190, 3) := by decide +kernel
theorem dX12_number_75 : decode cX12_number 75 = .ok (.iaload, 1) := by decide +kernel
theorem dX12_number_76 : decode cX12_number 76 = .ok (.iadd, 1) := by decide +kernel
theorem dX12_number_77 : decode cX12_number 77 = .ok (.bipush 48, 2) := by decide +kernel
theorem dX12_number_79 : decode cX12_number 79 = .ok (.isub, 1) := by decide +kernel
theorem dX12_number_80 : decode cX12_number 80 = .ok (.istore_n 3, 1) := by decide +kernel
theorem dX12_number_81 : decode cX12_number 81 = .ok (.aload_n 0, 1) := by decide +kernel
theorem dX12_number_82 : decode cX12_number 82 = .ok (.dup, 1) := by decide +kernel
theorem dX12_number_83 : decode cX12_number 83 = .ok (.getfield 190, 3) := by decide +kernel
theorem dX12_number_86 : decode cX12_number 86 = .ok (.iconst 1, 1) := by decide +kernel
theorem dX12_number_87 : decode cX12_number 87 = .ok (.iadd, 1) := by decide +kernel
theorem dX12_number_88 : decode cX12_number 88 = .ok (.putfield 190, 3) := by decide +kernel
theorem dX12_number_91 : decode cX12_number 91 = .ok (.iinc 4 1, 3) := by decide +kernel
theorem dX12_number_94 : decode cX12_number 94 = .ok (.goto (-44), 3) := by decide +kernel
theorem dX12_number_97 : decode cX12_number 97 = .ok (.aload_n 0, 1) := by decide +kernel
theorem dX12_number_98 : decode cX12_number 98 = .ok (.aload_n 0, 1) := by decide +kernel
theorem dX12_number_99 : decode cX12_number 99 = .ok (.invokevirtual 199, 3) := by decide +kernel
theorem dX12_number_102 : decode cX12_number 102 = .ok (.ifCond .ne 7, 3) := by decide +kernel
theorem dX12_number_105 : decode cX12_number 105 = .ok (.iconst 1, 1) := by decide +kernel
theorem dX12_number_106 : decode cX12_number 106 = .ok (.goto 4, 3) := by decide +kernel
theorem dX12_number_109 : decode cX12_number 109 = .ok (.iconst 0, 1) := by decide +kernel
theorem dX12_number_110 : decode cX12_number 110 = .ok (.invokevirtual 202, 3) := by decide +kernel
theorem dX12_number_113 : decode cX12_number 113 = .ok (.iload_n 2, 1) := by decide +kernel
theorem dX12_number_114 : decode cX12_number 114 = .ok (.ifCond .eq 8, 3) := by decide +kernel
theorem dX12_number_117 : decode cX12_number 117 = .ok (.iload_n 3, 1) := by decide +kernel
theorem dX12_number_118 : decode cX12_number 118 = .ok (.ineg, 1) := by decide +kernel
theorem dX12_number_119 : decode cX12_number 119 = .ok (.goto 4, 3) := by decide +kernel
theorem dX12_number_122 : decode cX12_number 122 = .ok (.iload_n 3, 1) := by decide +kernel
theorem dX12_number_123 : decode cX12_number 123 = .ok (.ireturn, 1) := by decide +kernel
theorem dX12_numbersOf_0 : decode cX12_numbersOf 0 = .ok (.iload_n 0, 1) := by decide +kernel
theorem dX12_numbersOf_1 : decode cX12_numbersOf 1 = .ok (.lookupswitch 59 #[(97, 53), (98, 57), (110, 51), (112, 53), (115, 55)], 51) := by decide +kernel
theorem dX12_numbersOf_52 : decode cX12_numbersOf 52 = .ok (.iconst 0, 1) := by decide +kernel
theorem dX12_numbersOf_53 : decode cX12_numbersOf 53 = .ok (.ireturn, 1) := by decide +kernel
theorem dX12_numbersOf_54 : decode cX12_numbersOf 54 = .ok (.iconst 2, 1) := by decide +kernel
theorem dX12_numbersOf_55 : decode cX12_numbersOf 55 = .ok (.ireturn, 1) := by decide +kernel
theorem dX12_numbersOf_56 : decode cX12_numbersOf 56 = .ok (.iconst 3, 1) := by decide +kernel
theorem dX12_numbersOf_57 : decode cX12_numbersOf 57 = .ok (.ireturn, 1) := by decide +kernel
theorem dX12_numbersOf_58 : decode cX12_numbersOf 58 = .ok (.iconst 4, 1) := by decide +kernel
theorem dX12_numbersOf_59 : decode cX12_numbersOf 59 = .ok (.ireturn, 1) := by decide +kernel
theorem dX12_numbersOf_60 : decode cX12_numbersOf 60 = .ok (.iconst (-1), 1) := by decide +kernel
theorem dX12_numbersOf_61 : decode cX12_numbersOf 61 = .ok (.ireturn, 1) := by decide +kernel
theorem dX12_readOrder_0 : decode cX12_readOrder 0 = .ok (.aload_n 0, 1) := by decide +kernel
theorem dX12_readOrder_1 : decode cX12_readOrder 1 = .ok (.invokevirtual 196, 3) := by decide +kernel
theorem dX12_readOrder_4 : decode cX12_readOrder 4 = .ok (.istore_n 1, 1) := by decide +kernel
theorem dX12_readOrder_5 : decode cX12_readOrder 5 = .ok (.iload_n 1, 1) := by decide +kernel
theorem dX12_readOrder_6 : decode cX12_readOrder 6 = .ok (.invokestatic 206, 3) := by decide +kernel
theorem dX12_readOrder_9 : decode cX12_readOrder 9 = .ok (.istore_n 2, 1) := by decide +kernel
theorem dX12_readOrder_10 : decode cX12_readOrder 10 = .ok (.aload_n 0, 1) := by decide +kernel
theorem dX12_readOrder_11 : decode cX12_readOrder 11 = .ok (.iload_n 2, 1) := by decide +kernel
theorem dX12_readOrder_12 : decode cX12_readOrder 12 = .ok (.iconst (-1), 1) := by decide +kernel
theorem dX12_readOrder_13 : decode cX12_readOrder 13 = .ok (.if_icmp .eq 7, 3) := by decide +kernel
theorem dX12_readOrder_16 : decode cX12_readOrder 16 = .ok (.iconst 1, 1) := by decide +kernel
theorem dX12_readOrder_17 : decode cX12_readOrder 17 = .ok (.goto 4, 3) := by decide +kernel
theorem dX12_readOrder_20 : decode cX12_readOrder 20 = .ok (.iconst 0, 1) := by decide +kernel
theorem dX12_readOrder_21 : decode cX12_readOrder 21 = .ok (.invokevirtual 202, 3) := by decide +kernel
theorem dX12_readOrder_24 : decode cX12_readOrder 24 = .ok (.aload_n 0, 1) := by decide +kernel
theorem dX12_readOrder_25 : decode cX12_readOrder 25 = .ok (.dup, 1) := by decide +kernel
theorem dX12_readOrder_26 : decode cX12_readOrder 26 = .ok (.getfield 190, 3) := by decide +kernel
theorem dX12_readOrder_29 : decode cX12_readOrder 29 = .ok (.iconst 1, 1) := by decide +kernel
theorem dX12_readOrder_30 : decode cX12_readOrder 30 = .ok (.iadd, 1) := by decide +kernel
theorem dX12_readOrder_31 : decode cX12_readOrder 31 = .ok (.putfield 190, 3) := by decide +kernel
theorem dX12_readOrder_34 : decode cX12_readOrder 34 = .ok (.iconst 0, 1) := by decide +kernel
theorem dX12_readOrder_35 : decode cX12_readOrder 35 = .ok (.istore_n 3, 1) := by decide +kernel
theorem dX12_readOrder_36 : decode cX12_readOrder 36 = .ok (.iload_n 3, 1) := by decide +kernel
theorem dX12_readOrder_37 : decode cX12_readOrder 37 = .ok (.iload_n 2, 1) := by decide +kernel
theorem dX12_readOrder_38 : decode cX12_readOrder 38 = .ok (.if_icmp .ge 49, 3) := by decide +kernel
theorem dX12_readOrder_41 : decode cX12_readOrder 41 = .ok (.aload_n 0, 1) := by decide +kernel
theorem dX12_readOrder_42 : decode cX12_readOrder 42 = .ok (.getfield 193, 3) := by decide +kernel
theorem dX12_readOrder_45 : decode cX12_readOrder 45 = .ok (.iconst (-1), 1) := by decide +kernel
theorem dX12_readOrder_46 : decode cX12_readOrder 46 = .ok (.if_icmp .ne 41, 3) := by decide +kernel
theorem dX12_readOrder_49 : decode cX12_readOrder 49 = .ok (.aload_n 0, 1) := by decide +kernel
theorem dX12_readOrder_50 : decode cX12_readOrder 50 = .ok (.getfield 53, 3) := by decide +kernel
theorem dX12_readOrder_53 : decode cX12_readOrder 53 = .ok (.iconst 4, 1) := by decide +kernel
theorem dX12_readOrder_54 : decode cX12_readOrder 54 = .ok (.aload_n 0, 1) := by decide +kernel
theorem dX12_readOrder_55 : decode cX12_readOrder 55 = .ok (.getfield 209, 3) := by decide +kernel
theorem dX12_readOrder_58 : decode cX12_readOrder 58 = .ok (.imul, 1) := by decide +kernel
theorem dX12_readOrder_59 : decode cX12_readOrder 59 = .ok (.iload_n 3, 1) := by decide +kernel
theorem dX12_readOrder_60 : decode cX12_readOrder 60 = .ok (.iadd, 1) := by decide +kernel
theorem dX12_readOrder_61 : decode cX12_readOrder 61 = .ok (.aload_n 0, 1) := by decide +kernel
theorem dX12_readOrder_62 : decode cX12_readOrder 62 = .ok (.iload_n 1, 1) := by decide +kernel
theorem dX12_readOrder_63 : decode cX12_readOrder 63 = .ok (.bipush 115, 2) := by decide +kernel
theorem dX12_readOrder_65 : decode cX12_readOrder 65 = .ok (.if_icmp .ne 11, 3) := by decide +kernel
theorem dX12_readOrder_68 : decode cX12_readOrder 68 = .ok (.iload_n 3, 1) := by decide +kernel
theorem dX12_readOrder_69 : decode cX12_readOrder 69 = .ok (.ifCond .le 7, 3) := by decide +kernel
theorem dX12_readOrder_72 : decode cX12_readOrder 72 = .ok (.iconst 1, 1) := by decide +kernel
theorem dX12_readOrder_73 : decode cX12_readOrder 73 = .ok (.goto 4, 3) := by decide +kernel
theorem dX12_readOrder_76 : decode cX12_readOrder 76 = .ok (.iconst 0, 1) := by decide +kernel
theorem dX12_readOrder_77 : decode cX12_readOrder 77 = .ok (.invokevirtual 212, 3) := by decide +kernel
theorem dX12_readOrder_80 : decode cX12_readOrder 80 = .ok (.iastore, 1) := by decide +kernel
theorem dX12_readOrder_81 : decode cX12_readOrder 81 = .ok (.iinc 3 1, 3) := by decide +kernel
theorem dX12_readOrder_84 : decode cX12_readOrder 84 = .ok (.goto (-48), 3) := by decide +kernel
theorem dX12_readOrder_87 : decode cX12_readOrder 87 = .ok (.aload_n 0, 1) := by decide +kernel
theorem dX12_readOrder_88 : decode cX12_readOrder 88 = .ok (.getfield 193, 3) := by decide +kernel
theorem dX12_readOrder_91 : decode cX12_readOrder 91 = .ok (.iconst (-1), 1) := by decide +kernel
theorem dX12_readOrder_92 : decode cX12_readOrder 92 = .ok (.if_icmp .ne 10, 3) := by decide +kernel
theorem dX12_readOrder_95 : decode cX12_readOrder 95 = .ok (.aload_n 0, 1) := by decide +kernel
theorem dX12_readOrder_96 : decode cX12_readOrder 96 = .ok (.invokevirtual 196, 3) := by decide +kernel
theorem dX12_readOrder_99 : decode cX12_readOrder 99 = .ok (.goto 5, 3) := by decide +kernel
theorem dX12_readOrder_102 : decode cX12_readOrder 102 = .ok (.bipush 59, 2) := by decide +kernel
theorem dX12_readOrder_104 : decode cX12_readOrder 104 = .ok (.istore_n 3, 1) := by decide +kernel
theorem dX12_readOrder_105 : decode cX12_readOrder 105 = .ok (.aload_n 0, 1) := by decide +kernel
theorem dX12_readOrder_106 : decode cX12_readOrder 106 = .ok (.iload_n 3, 1) := by decide +kernel
theorem dX12_readOrder_107 : decode cX12_readOrder 107 = .ok (.bipush 59, 2) := by decide +kernel
theorem dX12_readOrder_109 : decode cX12_readOrder 109 = .ok (.if_icmp .ne 7, 3) := by decide +kernel
theorem dX12_readOrder_112 : decode cX12_readOrder 112 = .ok (.iconst 1, 1) := by decide +kernel
theorem dX12_readOrder_113 : decode cX12_readOrder 113 = .ok (.goto 4, 3) := by decide +kernel
theorem dX12_readOrder_116 : decode cX12_readOrder 116 = .ok (.iconst 0, 1) := by decide +kernel
theorem dX12_readOrder_117 : decode cX12_readOrder 117 = .ok (.invokevirtual 202, 3) := by decide +kernel
theorem dX12_readOrder_120 : decode cX12_readOrder 120 = .ok (.aload_n 0, 1) := by decide +kernel
theorem dX12_readOrder_121 : decode cX12_readOrder 121 = .ok (.getfield 50, 3) := by decide +kernel
theorem dX12_readOrder_124 : decode cX12_readOrder 124 = .ok (.aload_n 0, 1) := by decide +kernel
theorem dX12_readOrder_125 : decode cX12_readOrder 125 = .ok (.getfield 209, 3) := by decide +kernel
theorem dX12_readOrder_128 : decode cX12_readOrder 128 = .ok (.iload_n 1, 1) := by decide +kernel
theorem dX12_readOrder_129 : decode cX12_readOrder 129 = .ok (.iastore, 1) := by decide +kernel
theorem dX12_readOrder_130 : decode cX12_readOrder 130 = .ok (.aload_n 0, 1) := by decide +kernel
theorem dX12_readOrder_131 : decode cX12_readOrder 131 = .ok (.dup, 1) := by decide +kernel
theorem dX12_readOrder_132 : decode cX12_readOrder 132 = .ok (.getfield 190, 3) := by decide +kernel
theorem dX12_readOrder_135 : decode cX12_readOrder 135 = .ok (.iconst 1, 1) := by decide +kernel
theorem dX12_readOrder_136 : decode cX12_readOrder 136 = .ok (.iadd, 1) := by decide +kernel
theorem dX12_readOrder_137 : decode cX12_readOrder 137 = .ok (.putfield 190, 3) := by decide +kernel
theorem dX12_readOrder_140 : decode cX12_readOrder 140 = .ok (.aload_n 0, 1) := by decide +kernel
theorem dX12_readOrder_141 : decode cX12_readOrder 141 = .ok (.dup, 1) := by decide +kernel
theorem dX12_readOrder_142 : decode cX12_readOrder 142 = .ok (.getfield 209, 3) := by decide +kernel
theorem dX12_readOrder_145 : decode cX12_readOrder 145 = .ok (.iconst 1, 1) := by decide +kernel
theorem dX12_readOrder_146 : decode cX12_readOrder 146 = .ok (.iadd, 1) := by decide +kernel
theorem dX12_readOrder_147 : decode cX12_readOrder 147 = .ok (.putfield 209, 3) := by decide +kernel
theorem dX12_readOrder_150 : decode cX12_readOrder 150 = .ok (.return_, 1) := by decide +kernel
theorem dX12_doOrder_0 : decode cX12_doOrder 0 = .ok (.aload_n 0, 1) := by decide +kernel
theorem dX12_doOrder_1 : decode cX12_doOrder 1 = .ok (.getfield 53, 3) := by decide +kernel
theorem dX12_doOrder_4 : decode cX12_doOrder 4 = .ok (.iconst 4, 1) := by decide +kernel
theorem dX12_doOrder_5 : decode cX12_doOrder 5 = .ok (.iload_n 1, 1) := by decide +kernel
theorem dX12_doOrder_6 : decode cX12_doOrder 6 = .ok (.imul, 1) := by decide +kernel
theorem dX12_doOrder_7 : decode cX12_doOrder 7 = .ok (.iaload, 1) := by decide +kernel
theorem dX12_doOrder_8 : decode cX12_doOrder 8 = .ok (.istore_n 2, 1) := by decide +kernel
theorem dX12_doOrder_9 : decode cX12_doOrder 9 = .ok (.aload_n 0, 1) := by decide +kernel
theorem dX12_doOrder_10 : decode cX12_doOrder 10 = .ok (.getfield 53, 3) := by decide +kernel
theorem dX12_doOrder_13 : decode cX12_doOrder 13 = .ok (.iconst 4, 1) := by decide +kernel
theorem dX12_doOrder_14 : decode cX12_doOrder 14 = .ok (.iload_n 1, 1) := by decide +kernel
theorem dX12_doOrder_15 : decode cX12_doOrder 15 = .ok (.imul, 1) := by decide +kernel
theorem dX12_doOrder_16 : decode cX12_doOrder 16 = .ok (.iconst 1, 1) := by decide +kernel
theorem dX12_doOrder_17 : decode cX12_doOrder 17 = .ok (.iadd, 1) := by decide +kernel
theorem dX12_doOrder_18 : decode cX12_doOrder 18 = .ok (.iaload, 1) := by decide +kernel
theorem dX12_doOrder_19 : decode cX12_doOrder 19 = .ok (.istore_n 3, 1) := by decide +kernel
theorem dX12_doOrder_20 : decode cX12_doOrder 20 = .ok (.aload_n 0, 1) := by decide +kernel
theorem dX12_doOrder_21 : decode cX12_doOrder 21 = .ok (.getfield 53, 3) := by decide +kernel
theorem dX12_doOrder_24 : decode cX12_doOrder 24 = .ok (.iconst 4, 1) := by decide +kernel
theorem dX12_doOrder_25 : decode cX12_doOrder 25 = .ok (.iload_n 1, 1) := by decide +kernel
theorem dX12_doOrder_26 : decode cX12_doOrder 26 = .ok (.imul, 1) := by decide +kernel
theorem dX12_doOrder_27 : decode cX12_doOrder 27 = .ok (.iconst 2, 1) := by decide +kernel
theorem dX12_doOrder_28 : decode cX12_doOrder 28 = .ok (.iadd, 1) := by decide +kernel
theorem dX12_doOrder_29 : decode cX12_doOrder 29 = .ok (.iaload, 1) := by decide +kernel
theorem dX12_doOrder_30 : decode cX12_doOrder 30 = .ok (.istore 4, 2) := by decide +kernel
theorem dX12_doOrder_32 : decode cX12_doOrder 32 = .ok (.aload_n 0, 1) := by decide +kernel
theorem dX12_doOrder_33 : decode cX12_doOrder 33 = .ok (.getfield 50, 3) := by decide +kernel
theorem dX12_doOrder_36 : decode cX12_doOrder 36 = .ok (.iload_n 1, 1) := by decide +kernel
theorem dX12_doOrder_37 : decode cX12_doOrder 37 = .ok (.iaload, 1) := by decide +kernel
theorem dX12_doOrder_38 : decode cX12_doOrder 38 = .ok (.lookupswitch 85 #[(97, 70), (98, 42), (112, 78), (115, 61)], 42) := by decide +kernel
theorem dX12_doOrder_80 : decode cX12_doOrder 80 = .ok (.aload_n 0, 1) := by decide +kernel
theorem dX12_doOrder_81 : decode cX12_doOrder 81 = .ok (.iload_n 2, 1) := by decide +kernel
theorem dX12_doOrder_82 : decode cX12_doOrder 82 = .ok (.iload_n 3, 1) := by decide +kernel
theorem dX12_doOrder_83 : decode cX12_doOrder 83 = .ok (.iload 4, 2) := by decide +kernel
theorem dX12_doOrder_85 : decode cX12_doOrder 85 = .ok (.aload_n 0, 1) := by decide +kernel
theorem dX12_doOrder_86 : decode cX12_doOrder 86 = .ok (.getfield 53, 3) := by decide +kernel
theorem dX12_doOrder_89 : decode cX12_doOrder 89 = .ok (.iconst 4, 1) := by decide +kernel
theorem dX12_doOrder_90 : decode cX12_doOrder 90 = .ok (.iload_n 1, 1) := by decide +kernel
theorem dX12_doOrder_91 : decode cX12_doOrder 91 = .ok (.imul, 1) := by decide +kernel
theorem dX12_doOrder_92 : decode cX12_doOrder 92 = .ok (.iconst 3, 1) := by decide +kernel
theorem dX12_doOrder_93 : decode cX12_doOrder 93 = .ok (.iadd, 1) := by decide +kernel
theorem dX12_doOrder_94 : decode cX12_doOrder 94 = .ok (.iaload, 1) := by decide +kernel
theorem dX12_doOrder_95 : decode cX12_doOrder 95 = .ok (.invokevirtual 97, 3) := by decide +kernel
theorem dX12_doOrder_98 : decode cX12_doOrder 98 = .ok (.ireturn, 1) := by decide +kernel
theorem dX12_doOrder_99 : decode cX12_doOrder 99 = .ok (.aload_n 0, 1) := by decide +kernel
theorem dX12_doOrder_100 : decode cX12_doOrder 100 = .ok (.iload_n 2, 1) := by decide +kernel
theorem dX12_doOrder_101 : decode cX12_doOrder 101 = .ok (.iload_n 3, 1) := by decide +kernel
theorem dX12_doOrder_102 : decode cX12_doOrder 102 = .ok (.iload 4, 2) := by decide +kernel
theorem dX12_doOrder_104 : decode cX12_doOrder 104 = .ok (.invokevirtual 104, 3) := by decide +kernel
theorem dX12_doOrder_107 : decode cX12_doOrder 107 = .ok (.ireturn, 1) := by decide +kernel
theorem dX12_doOrder_108 : decode cX12_doOrder 108 = .ok (.aload_n 0, 1) := by decide +kernel
theorem dX12_doOrder_109 : decode cX12_doOrder 109 = .ok (.iload_n 2, 1) := by decide +kernel
theorem dX12_doOrder_110 : decode cX12_doOrder 110 = .ok (.iload_n 3, 1) := by decide +kernel
theorem dX12_doOrder_111 : decode cX12_doOrder 111 = .ok (.iconst 1, 1) := by decide +kernel
theorem dX12_doOrder_112 : decode cX12_doOrder 112 = .ok (.invokevirtual 107, 3) := by decide +kernel
theorem dX12_doOrder_115 : decode cX12_doOrder 115 = .ok (.ireturn, 1) := by decide +kernel
theorem dX12_doOrder_116 : decode cX12_doOrder 116 = .ok (.aload_n 0, 1) := by decide +kernel
theorem dX12_doOrder_117 : decode cX12_doOrder 117 = .ok (.iload_n 2, 1) := by decide +kernel
theorem dX12_doOrder_118 : decode cX12_doOrder 118 = .ok (.iload_n 3, 1) := by decide +kernel
theorem dX12_doOrder_119 : decode cX12_doOrder 119 = .ok (.invokevirtual 172, 3) := by decide +kernel
theorem dX12_doOrder_122 : decode cX12_doOrder 122 = .ok (.ireturn, 1) := by decide +kernel
theorem dX12_doOrder_123 : decode cX12_doOrder 123 = .ok (.aload_n 0, 1) := by decide +kernel
theorem dX12_doOrder_124 : decode cX12_doOrder 124 = .ok (.invokevirtual 175, 3) := by decide +kernel
theorem dX12_doOrder_127 : decode cX12_doOrder 127 = .ok (.ireturn, 1) := by decide +kernel
theorem dX12_reads_0 : decode cX12_reads 0 = .ok (.aload_n 0, 1) := by decide +kernel
theorem dX12_reads_1 : decode cX12_reads 1 = .ok (.iconst 0, 1) := by decide +kernel
theorem dX12_reads_2 : decode cX12_reads 2 = .ok (.putfield 190, 3) := by decide +kernel
theorem dX12_reads_5 : decode cX12_reads 5 = .ok (.aload_n 0, 1) := by decide +kernel
theorem dX12_reads_6 : decode cX12_reads 6 = .ok (.iconst (-1), 1) := by decide +kernel
theorem dX12_reads_7 : decode cX12_reads 7 = .ok (.putfield 193, 3) := by decide +kernel
theorem dX12_reads_10 : decode cX12_reads 10 = .ok (.aload_n 0, 1) := by decide +kernel
theorem dX12_reads_11 : decode cX12_reads 11 = .ok (.iconst 0, 1) := by decide +kernel
theorem dX12_reads_12 : decode cX12_reads 12 = .ok (.putfield 209, 3) := by decide +kernel
theorem dX12_reads_15 : decode cX12_reads 15 = .ok (.aload_n 0, 1) := by decide +kernel
theorem dX12_reads_16 : decode cX12_reads 16 = .ok (.aload_n 0, 1) := by decide +kernel
theorem dX12_reads_17 : decode cX12_reads 17 = .ok (.invokevirtual 196, 3) := by decide +kernel
theorem dX12_reads_20 : decode cX12_reads 20 = .ok (.iconst (-1), 1) := by decide +kernel
theorem dX12_reads_21 : decode cX12_reads 21 = .ok (.if_icmp .eq 7, 3) := by decide +kernel
theorem dX12_reads_24 : decode cX12_reads 24 = .ok (.iconst 1, 1) := by decide +kernel
theorem dX12_reads_25 : decode cX12_reads 25 = .ok (.goto 4, 3) := by decide +kernel
theorem dX12_reads_28 : decode cX12_reads 28 = .ok (.iconst 0, 1) := by decide +kernel
theorem dX12_reads_29 : decode cX12_reads 29 = .ok (.invokevirtual 202, 3) := by decide +kernel
theorem dX12_reads_32 : decode cX12_reads 32 = .ok (.aload_n 0, 1) := by decide +kernel
theorem dX12_reads_33 : decode cX12_reads 33 = .ok (.getfield 193, 3) := by decide +kernel
theorem dX12_reads_36 : decode cX12_reads 36 = .ok (.iconst (-1), 1) := by decide +kernel
theorem dX12_reads_37 : decode cX12_reads 37 = .ok (.if_icmp .ne 18, 3) := by decide +kernel
theorem dX12_reads_40 : decode cX12_reads 40 = .ok (.aload_n 0, 1) := by decide +kernel
theorem dX12_reads_41 : decode cX12_reads 41 = .ok (.invokevirtual 196, 3) := by decide +kernel
theorem dX12_reads_44 : decode cX12_reads 44 = .ok (.iconst (-1), 1) := by decide +kernel
theorem dX12_reads_45 : decode cX12_reads 45 = .ok (.if_icmp .eq 10, 3) := by decide +kernel
theorem dX12_reads_48 : decode cX12_reads 48 = .ok (.aload_n 0, 1) := by decide +kernel
theorem dX12_reads_49 : decode cX12_reads 49 = .ok (.invokevirtual 216, 3) := by decide +kernel
theorem dX12_reads_52 : decode cX12_reads 52 = .ok (.goto (-20), 3) := by decide +kernel
theorem dX12_reads_55 : decode cX12_reads 55 = .ok (.aload_n 0, 1) := by decide +kernel
theorem dX12_reads_56 : decode cX12_reads 56 = .ok (.getfield 193, 3) := by decide +kernel
theorem dX12_reads_59 : decode cX12_reads 59 = .ok (.iconst (-1), 1) := by decide +kernel
theorem dX12_reads_60 : decode cX12_reads 60 = .ok (.if_icmp .eq 11, 3) := by decide +kernel
theorem dX12_reads_63 : decode cX12_reads 63 = .ok (.bipush (-10), 2) := by decide +kernel
theorem dX12_reads_65 : decode cX12_reads 65 = .ok (.aload_n 0, 1) := by decide +kernel
theorem dX12_reads_66 : decode cX12_reads 66 = .ok (.getfield 193, 3) := by decide +kernel
theorem dX12_reads_69 : decode cX12_reads 69 = .ok (.isub, 1) := by decide +kernel
theorem dX12_reads_70 : decode cX12_reads 70 = .ok (.ireturn, 1) := by decide +kernel
theorem dX12_reads_71 : decode cX12_reads 71 = .ok (.aload_n 0, 1) := by decide +kernel
theorem dX12_reads_72 : decode cX12_reads 72 = .ok (.invokevirtual 94, 3) := by decide +kernel
theorem dX12_reads_75 : decode cX12_reads 75 = .ok (.iconst 0, 1) := by decide +kernel
theorem dX12_reads_76 : decode cX12_reads 76 = .ok (.istore_n 1, 1) := by decide +kernel
theorem dX12_reads_77 : decode cX12_reads 77 = .ok (.iconst 0, 1) := by decide +kernel
theorem dX12_reads_78 : decode cX12_reads 78 = .ok (.istore_n 2, 1) := by decide +kernel
theorem dX12_reads_79 : decode cX12_reads 79 = .ok (.iload_n 2, 1) := by decide +kernel
theorem dX12_reads_80 : decode cX12_reads 80 = .ok (.aload_n 0, 1) := by decide +kernel
theorem dX12_reads_81 : decode cX12_reads 81 = .ok (.getfield 209, 3) := by decide +kernel
theorem dX12_reads_84 : decode cX12_reads 84 = .ok (.if_icmp .ge 25, 3) := by decide +kernel
theorem dX12_reads_87 : decode cX12_reads 87 = .ok (.iload_n 1, 1) := by decide +kernel
theorem dX12_reads_88 : decode cX12_reads 88 = .ok (.aload_n 0, 1) := by decide +kernel
theorem dX12_reads_89 : decode cX12_reads 89 = .ok (.iload_n 2, 1) := by decide +kernel
theorem dX12_reads_90 : decode cX12_reads 90 = .ok (.invokevirtual 219, 3) := by decide +kernel
theorem dX12_reads_93 : decode cX12_reads 93 = .ok (.ifCond .lt 7, 3) := by decide +kernel
theorem dX12_reads_96 : decode cX12_reads 96 = .ok (.iconst 1, 1) := by decide +kernel
theorem dX12_reads_97 : decode cX12_reads 97 = .ok (.goto 4, 3) := by decide +kernel
theorem dX12_reads_100 : decode cX12_reads 100 = .ok (.iconst 0, 1) := by decide +kernel
theorem dX12_reads_101 : decode cX12_reads 101 = .ok (.iadd, 1) := by decide +kernel
theorem dX12_reads_102 : decode cX12_reads 102 = .ok (.istore_n 1, 1) := by decide +kernel
theorem dX12_reads_103 : decode cX12_reads 103 = .ok (.iinc 2 1, 3) := by decide +kernel
theorem dX12_reads_106 : decode cX12_reads 106 = .ok (.goto (-27), 3) := by decide +kernel
theorem dX12_reads_109 : decode cX12_reads 109 = .ok (.aload_n 0, 1) := by decide +kernel
theorem dX12_reads_110 : decode cX12_reads 110 = .ok (.invokevirtual 64, 3) := by decide +kernel
theorem dX12_reads_113 : decode cX12_reads 113 = .ok (.iload_n 1, 1) := by decide +kernel
theorem dX12_reads_114 : decode cX12_reads 114 = .ok (.ireturn, 1) := by decide +kernel
theorem dX12_toldOf_0 : decode cX12_toldOf 0 = .ok (.iload_n 1, 1) := by decide +kernel
theorem dX12_toldOf_1 : decode cX12_toldOf 1 = .ok (.iconst 3, 1) := by decide +kernel
theorem dX12_toldOf_2 : decode cX12_toldOf 2 = .ok (.if_icmp .ge 12, 3) := by decide +kernel
theorem dX12_toldOf_5 : decode cX12_toldOf 5 = .ok (.aload_n 0, 1) := by decide +kernel
theorem dX12_toldOf_6 : decode cX12_toldOf 6 = .ok (.getfield 19, 3) := by decide +kernel
theorem dX12_toldOf_9 : decode cX12_toldOf 9 = .ok (.iload_n 1, 1) := by decide +kernel
theorem dX12_toldOf_10 : decode cX12_toldOf 10 = .ok (.iaload, 1) := by decide +kernel
theorem dX12_toldOf_11 : decode cX12_toldOf 11 = .ok (.goto 33, 3) := by decide +kernel
theorem dX12_toldOf_14 : decode cX12_toldOf 14 = .ok (.iload_n 1, 1) := by decide +kernel
theorem dX12_toldOf_15 : decode cX12_toldOf 15 = .ok (.iconst 3, 1) := by decide +kernel
theorem dX12_toldOf_16 : decode cX12_toldOf 16 = .ok (.if_icmp .ne 10, 3) := by decide +kernel
theorem dX12_toldOf_19 : decode cX12_toldOf 19 = .ok (.aload_n 0, 1) := by decide +kernel
theorem dX12_toldOf_20 : decode cX12_toldOf 20 = .ok (.getfield 187, 3) := by decide +kernel
theorem dX12_toldOf_23 : decode cX12_toldOf 23 = .ok (.goto 21, 3) := by decide +kernel
theorem dX12_toldOf_26 : decode cX12_toldOf 26 = .ok (.iload_n 1, 1) := by decide +kernel
theorem dX12_toldOf_27 : decode cX12_toldOf 27 = .ok (.iconst 4, 1) := by decide +kernel
theorem dX12_toldOf_28 : decode cX12_toldOf 28 = .ok (.if_icmp .ne 12, 3) := by decide +kernel
theorem dX12_toldOf_31 : decode cX12_toldOf 31 = .ok (.aload_n 0, 1) := by decide +kernel
theorem dX12_toldOf_32 : decode cX12_toldOf 32 = .ok (.getfield 7, 3) := by decide +kernel
theorem dX12_toldOf_35 : decode cX12_toldOf 35 = .ok (.iconst 0, 1) := by decide +kernel
theorem dX12_toldOf_36 : decode cX12_toldOf 36 = .ok (.iaload, 1) := by decide +kernel
theorem dX12_toldOf_37 : decode cX12_toldOf 37 = .ok (.goto 7, 3) := by decide +kernel
theorem dX12_toldOf_40 : decode cX12_toldOf 40 = .ok (.aload_n 0, 1) := by decide +kernel
theorem dX12_toldOf_41 : decode cX12_toldOf 41 = .ok (.getfield 56, 3) := by decide +kernel
theorem dX12_toldOf_44 : decode cX12_toldOf 44 = .ok (.ireturn, 1) := by decide +kernel
theorem dX12_told_0 : decode cX12_told 0 = .ok (.iload_n 1, 1) := by decide +kernel
theorem dX12_told_1 : decode cX12_told 1 = .ok (.iconst 0, 1) := by decide +kernel
theorem dX12_told_2 : decode cX12_told 2 = .ok (.iconst 5, 1) := by decide +kernel
theorem dX12_told_3 : decode cX12_told 3 = .ok (.invokestatic 67, 3) := by decide +kernel
theorem dX12_told_6 : decode cX12_told 6 = .ok (.ifCond .eq 11, 3) := by decide +kernel
theorem dX12_told_9 : decode cX12_told 9 = .ok (.aload_n 0, 1) := by decide +kernel
theorem dX12_told_10 : decode cX12_told 10 = .ok (.iload_n 1, 1) := by decide +kernel
theorem dX12_told_11 : decode cX12_told 11 = .ok (.invokevirtual 222, 3) := by decide +kernel
theorem dX12_told_14 : decode cX12_told 14 = .ok (.goto 9, 3) := by decide +kernel
theorem dX12_told_17 : decode cX12_told 17 = .ok (.aload_n 0, 1) := by decide +kernel
theorem dX12_told_18 : decode cX12_told 18 = .ok (.bipush (-2), 2) := by decide +kernel
theorem dX12_told_20 : decode cX12_told 20 = .ok (.invokevirtual 60, 3) := by decide +kernel
theorem dX12_told_23 : decode cX12_told 23 = .ok (.ireturn, 1) := by decide +kernel
theorem dX12_mix_0 : decode cX12_mix 0 = .ok (.aload_n 0, 1) := by decide +kernel
theorem dX12_mix_1 : decode cX12_mix 1 = .ok (.ldc2_w 225, 3) := by decide +kernel
theorem dX12_mix_4 : decode cX12_mix 4 = .ok (.aload_n 0, 1) := by decide +kernel
theorem dX12_mix_5 : decode cX12_mix 5 = .ok (.getfield 227, 3) := by decide +kernel
theorem dX12_mix_8 : decode cX12_mix 8 = .ok (.lmul, 1) := by decide +kernel
theorem dX12_mix_9 : decode cX12_mix 9 = .ok (.iload_n 1, 1) := by decide +kernel
theorem dX12_mix_10 : decode cX12_mix 10 = .ok (.i2l, 1) := by decide +kernel
theorem dX12_mix_11 : decode cX12_mix 11 = .ok (.ladd, 1) := by decide +kernel
theorem dX12_mix_12 : decode cX12_mix 12 = .ok (.putfield 227, 3) := by decide +kernel
theorem dX12_mix_15 : decode cX12_mix 15 = .ok (.return_, 1) := by decide +kernel
theorem dX12_digest_0 : decode cX12_digest 0 = .ok (.aload_n 0, 1) := by decide +kernel
theorem dX12_digest_1 : decode cX12_digest 1 = .ok (.ldc2_w 231, 3) := by decide +kernel
theorem dX12_digest_4 : decode cX12_digest 4 = .ok (.putfield 227, 3) := by decide +kernel
theorem dX12_digest_7 : decode cX12_digest 7 = .ok (.iconst 0, 1) := by decide +kernel
theorem dX12_digest_8 : decode cX12_digest 8 = .ok (.istore_n 1, 1) := by decide +kernel
theorem dX12_digest_9 : decode cX12_digest 9 = .ok (.iload_n 1, 1) := by decide +kernel
theorem dX12_digest_10 : decode cX12_digest 10 = .ok (.bipush 6, 2) := by decide +kernel
theorem dX12_digest_12 : decode cX12_digest 12 = .ok (.if_icmp .ge 18, 3) := by decide +kernel
theorem dX12_digest_15 : decode cX12_digest 15 = .ok (.aload_n 0, 1) := by decide +kernel
theorem dX12_digest_16 : decode cX12_digest 16 = .ok (.aload_n 0, 1) := by decide +kernel
theorem dX12_digest_17 : decode cX12_digest 17 = .ok (.iload_n 1, 1) := by decide +kernel
theorem dX12_digest_18 : decode cX12_digest 18 = .ok (.invokevirtual 222, 3) := by decide +kernel
theorem dX12_digest_21 : decode cX12_digest 21 = .ok (.invokevirtual 233, 3) := by decide +kernel
theorem dX12_digest_24 : decode cX12_digest 24 = .ok (.iinc 1 1, 3) := by decide +kernel
theorem dX12_digest_27 : decode cX12_digest 27 = .ok (.goto (-18), 3) := by decide +kernel
theorem dX12_digest_30 : decode cX12_digest 30 = .ok (.iconst 0, 1) := by decide +kernel
theorem dX12_digest_31 : decode cX12_digest 31 = .ok (.istore_n 1, 1) := by decide +kernel
theorem dX12_digest_32 : decode cX12_digest 32 = .ok (.iload_n 1, 1) := by decide +kernel
theorem dX12_digest_33 : decode cX12_digest 33 = .ok (.bipush 8, 2) := by decide +kernel
theorem dX12_digest_35 : decode cX12_digest 35 = .ok (.aload_n 0, 1) := by decide +kernel
theorem dX12_digest_36 : decode cX12_digest 36 = .ok (.getfield 7, 3) := by decide +kernel
theorem dX12_digest_39 : decode cX12_digest 39 = .ok (.iconst 0, 1) := by decide +kernel
theorem dX12_digest_40 : decode cX12_digest 40 = .ok (.iaload, 1) := by decide +kernel
theorem dX12_digest_41 : decode cX12_digest 41 = .ok (.imul, 1) := by decide +kernel
theorem dX12_digest_42 : decode cX12_digest 42 = .ok (.if_icmp .ge 25, 3) := by decide +kernel
theorem dX12_digest_45 : decode cX12_digest 45 = .ok (.aload_n 0, 1) := by decide +kernel
theorem dX12_digest_46 : decode cX12_digest 46 = .ok (.aload_n 0, 1) := by decide +kernel
theorem dX12_digest_47 : decode cX12_digest 47 = .ok (.iload_n 1, 1) := by decide +kernel
theorem dX12_digest_48 : decode cX12_digest 48 = .ok (.bipush 8, 2) := by decide +kernel
theorem dX12_digest_50 : decode cX12_digest 50 = .ok (.idiv, 1) := by decide +kernel
theorem dX12_digest_51 : decode cX12_digest 51 = .ok (.iload_n 1, 1) := by decide +kernel
theorem dX12_digest_52 : decode cX12_digest 52 = .ok (.bipush 8, 2) := by decide +kernel
theorem dX12_digest_54 : decode cX12_digest 54 = .ok (.irem, 1) := by decide +kernel
theorem dX12_digest_55 : decode cX12_digest 55 = .ok (.invokevirtual 110, 3) := by decide +kernel
theorem dX12_digest_58 : decode cX12_digest 58 = .ok (.invokevirtual 233, 3) := by decide +kernel
theorem dX12_digest_61 : decode cX12_digest 61 = .ok (.iinc 1 1, 3) := by decide +kernel
theorem dX12_digest_64 : decode cX12_digest 64 = .ok (.goto (-32), 3) := by decide +kernel
theorem dX12_digest_67 : decode cX12_digest 67 = .ok (.iconst 0, 1) := by decide +kernel
theorem dX12_digest_68 : decode cX12_digest 68 = .ok (.istore_n 1, 1) := by decide +kernel
theorem dX12_digest_69 : decode cX12_digest 69 = .ok (.iload_n 1, 1) := by decide +kernel
theorem dX12_digest_70 : decode cX12_digest 70 = .ok (.bipush 16, 2) := by decide +kernel
theorem dX12_digest_72 : decode cX12_digest 72 = .ok (.if_icmp .ge 22, 3) := by decide +kernel
theorem dX12_digest_75 : decode cX12_digest 75 = .ok (.aload_n 0, 1) := by decide +kernel
theorem dX12_digest_76 : decode cX12_digest 76 = .ok (.aload_n 0, 1) := by decide +kernel
theorem dX12_digest_77 : decode cX12_digest 77 = .ok (.getfield 7, 3) := by decide +kernel
theorem dX12_digest_80 : decode cX12_digest 80 = .ok (.bipush 43, 2) := by decide +kernel
theorem dX12_digest_82 : decode cX12_digest 82 = .ok (.iload_n 1, 1) := by decide +kernel
theorem dX12_digest_83 : decode cX12_digest 83 = .ok (.iadd, 1) := by decide +kernel
theorem dX12_digest_84 : decode cX12_digest 84 = .ok (.iaload, 1) := by decide +kernel
theorem dX12_digest_85 : decode cX12_digest 85 = .ok (.invokevirtual 233, 3) := by decide +kernel
theorem dX12_digest_88 : decode cX12_digest 88 = .ok (.iinc 1 1, 3) := by decide +kernel
theorem dX12_digest_91 : decode cX12_digest 91 = .ok (.goto (-22), 3) := by decide +kernel
theorem dX12_digest_94 : decode cX12_digest 94 = .ok (.aload_n 0, 1) := by decide +kernel
theorem dX12_digest_95 : decode cX12_digest 95 = .ok (.aload_n 0, 1) := by decide +kernel
theorem dX12_digest_96 : decode cX12_digest 96 = .ok (.invokevirtual 237, 3) := by decide +kernel
theorem dX12_digest_99 : decode cX12_digest 99 = .ok (.invokevirtual 233, 3) := by decide +kernel
theorem dX12_digest_102 : decode cX12_digest 102 = .ok (.iconst 0, 1) := by decide +kernel
theorem dX12_digest_103 : decode cX12_digest 103 = .ok (.istore_n 1, 1) := by decide +kernel
theorem dX12_digest_104 : decode cX12_digest 104 = .ok (.iload_n 1, 1) := by decide +kernel
theorem dX12_digest_105 : decode cX12_digest 105 = .ok (.bipush 7, 2) := by decide +kernel
theorem dX12_digest_107 : decode cX12_digest 107 = .ok (.if_icmp .ge 18, 3) := by decide +kernel
theorem dX12_digest_110 : decode cX12_digest 110 = .ok (.aload_n 0, 1) := by decide +kernel
theorem dX12_digest_111 : decode cX12_digest 111 = .ok (.aload_n 0, 1) := by decide +kernel
theorem dX12_digest_112 : decode cX12_digest 112 = .ok (.iload_n 1, 1) := by decide +kernel
theorem dX12_digest_113 : decode cX12_digest 113 = .ok (.invokevirtual 184, 3) := by decide +kernel
theorem dX12_digest_116 : decode cX12_digest 116 = .ok (.invokevirtual 233, 3) := by decide +kernel
theorem dX12_digest_119 : decode cX12_digest 119 = .ok (.iinc 1 1, 3) := by decide +kernel
theorem dX12_digest_122 : decode cX12_digest 122 = .ok (.goto (-18), 3) := by decide +kernel
theorem dX12_digest_125 : decode cX12_digest 125 = .ok (.iconst 0, 1) := by decide +kernel
theorem dX12_digest_126 : decode cX12_digest 126 = .ok (.istore_n 1, 1) := by decide +kernel
theorem dX12_digest_127 : decode cX12_digest 127 = .ok (.iload_n 1, 1) := by decide +kernel
theorem dX12_digest_128 : decode cX12_digest 128 = .ok (.bipush 64, 2) := by decide +kernel
theorem dX12_digest_130 : decode cX12_digest 130 = .ok (.if_icmp .ge 23, 3) := by decide +kernel
theorem dX12_digest_133 : decode cX12_digest 133 = .ok (.aload_n 0, 1) := by decide +kernel
theorem dX12_digest_134 : decode cX12_digest 134 = .ok (.aload_n 0, 1) := by decide +kernel
theorem dX12_digest_135 : decode cX12_digest 135 = .ok (.iload_n 1, 1) := by decide +kernel
theorem dX12_digest_136 : decode cX12_digest 136 = .ok (.iconst 4, 1) := by decide +kernel
theorem dX12_digest_137 : decode cX12_digest 137 = .ok (.idiv, 1) := by decide +kernel
theorem dX12_digest_138 : decode cX12_digest 138 = .ok (.iload_n 1, 1) := by decide +kernel
theorem dX12_digest_139 : decode cX12_digest 139 = .ok (.iconst 4, 1) := by decide +kernel
theorem dX12_digest_140 : decode cX12_digest 140 = .ok (.irem, 1) := by decide +kernel
theorem dX12_digest_141 : decode cX12_digest 141 = .ok (.invokevirtual 181, 3) := by decide +kernel
theorem dX12_digest_144 : decode cX12_digest 144 = .ok (.invokevirtual 233, 3) := by decide +kernel
theorem dX12_digest_147 : decode cX12_digest 147 = .ok (.iinc 1 1, 3) := by decide +kernel
theorem dX12_digest_150 : decode cX12_digest 150 = .ok (.goto (-23), 3) := by decide +kernel
theorem dX12_digest_153 : decode cX12_digest 153 = .ok (.iconst 0, 1) := by decide +kernel
theorem dX12_digest_154 : decode cX12_digest 154 = .ok (.istore_n 1, 1) := by decide +kernel
theorem dX12_digest_155 : decode cX12_digest 155 = .ok (.iload_n 1, 1) := by decide +kernel
theorem dX12_digest_156 : decode cX12_digest 156 = .ok (.iconst 3, 1) := by decide +kernel
theorem dX12_digest_157 : decode cX12_digest 157 = .ok (.aload_n 0, 1) := by decide +kernel
theorem dX12_digest_158 : decode cX12_digest 158 = .ok (.getfield 7, 3) := by decide +kernel
theorem dX12_digest_161 : decode cX12_digest 161 = .ok (.bipush 93, 2) := by decide +kernel
theorem dX12_digest_163 : decode cX12_digest 163 = .ok (.iaload, 1) := by decide +kernel
theorem dX12_digest_164 : decode cX12_digest 164 = .ok (.imul, 1) := by decide +kernel
theorem dX12_digest_165 : decode cX12_digest 165 = .ok (.if_icmp .ge 22, 3) := by decide +kernel
theorem dX12_digest_168 : decode cX12_digest 168 = .ok (.aload_n 0, 1) := by decide +kernel
theorem dX12_digest_169 : decode cX12_digest 169 = .ok (.aload_n 0, 1) := by decide +kernel
theorem dX12_digest_170 : decode cX12_digest 170 = .ok (.getfield 7, 3) := by decide +kernel
theorem dX12_digest_173 : decode cX12_digest 173 = .ok (.bipush 95, 2) := by decide +kernel
theorem dX12_digest_175 : decode cX12_digest 175 = .ok (.iload_n 1, 1) := by decide +kernel
theorem dX12_digest_176 : decode cX12_digest 176 = .ok (.iadd, 1) := by decide +kernel
theorem dX12_digest_177 : decode cX12_digest 177 = .ok (.iaload, 1) := by decide +kernel
theorem dX12_digest_178 : decode cX12_digest 178 = .ok (.invokevirtual 233, 3) := by decide +kernel
theorem dX12_digest_181 : decode cX12_digest 181 = .ok (.iinc 1 1, 3) := by decide +kernel
theorem dX12_digest_184 : decode cX12_digest 184 = .ok (.goto (-29), 3) := by decide +kernel
theorem dX12_digest_187 : decode cX12_digest 187 = .ok (.aload_n 0, 1) := by decide +kernel
theorem dX12_digest_188 : decode cX12_digest 188 = .ok (.getfield 227, 3) := by decide +kernel
theorem dX12_digest_191 : decode cX12_digest 191 = .ok (.lreturn, 1) := by decide +kernel
theorem dJ6_bitCount_0f7a4_0 : decode cJ6_bitCount_0f7a4 0 = .ok (.iload_n 0, 1) := by decide +kernel
theorem dJ6_bitCount_0f7a4_1 : decode cJ6_bitCount_0f7a4 1 = .ok (.iload_n 0, 1) := by decide +kernel
theorem dJ6_bitCount_0f7a4_2 : decode cJ6_bitCount_0f7a4 2 = .ok (.iconst 1, 1) := by decide +kernel
theorem dJ6_bitCount_0f7a4_3 : decode cJ6_bitCount_0f7a4 3 = .ok (.iushr, 1) := by decide +kernel
theorem dJ6_bitCount_0f7a4_4 : decode cJ6_bitCount_0f7a4 4 = .ok (.ldc_w 265, 3) := by decide +kernel
theorem dJ6_bitCount_0f7a4_7 : decode cJ6_bitCount_0f7a4 7 = .ok (.iand, 1) := by decide +kernel
theorem dJ6_bitCount_0f7a4_8 : decode cJ6_bitCount_0f7a4 8 = .ok (.isub, 1) := by decide +kernel
theorem dJ6_bitCount_0f7a4_9 : decode cJ6_bitCount_0f7a4 9 = .ok (.istore_n 0, 1) := by decide +kernel
theorem dJ6_bitCount_0f7a4_10 : decode cJ6_bitCount_0f7a4 10 = .ok (.iload_n 0, 1) := by decide +kernel
theorem dJ6_bitCount_0f7a4_11 : decode cJ6_bitCount_0f7a4 11 = .ok (.ldc_w 266, 3) := by decide +kernel
theorem dJ6_bitCount_0f7a4_14 : decode cJ6_bitCount_0f7a4 14 = .ok (.iand, 1) := by decide +kernel
theorem dJ6_bitCount_0f7a4_15 : decode cJ6_bitCount_0f7a4 15 = .ok (.iload_n 0, 1) := by decide +kernel
theorem dJ6_bitCount_0f7a4_16 : decode cJ6_bitCount_0f7a4 16 = .ok (.iconst 2, 1) := by decide +kernel
theorem dJ6_bitCount_0f7a4_17 : decode cJ6_bitCount_0f7a4 17 = .ok (.iushr, 1) := by decide +kernel
theorem dJ6_bitCount_0f7a4_18 : decode cJ6_bitCount_0f7a4 18 = .ok (.ldc_w 266, 3) := by decide +kernel
theorem dJ6_bitCount_0f7a4_21 : decode cJ6_bitCount_0f7a4 21 = .ok (.iand, 1) := by decide +kernel
theorem dJ6_bitCount_0f7a4_22 : decode cJ6_bitCount_0f7a4 22 = .ok (.iadd, 1) := by decide +kernel
theorem dJ6_bitCount_0f7a4_23 : decode cJ6_bitCount_0f7a4 23 = .ok (.istore_n 0, 1) := by decide +kernel
theorem dJ6_bitCount_0f7a4_24 : decode cJ6_bitCount_0f7a4 24 = .ok (.iload_n 0, 1) := by decide +kernel
theorem dJ6_bitCount_0f7a4_25 : decode cJ6_bitCount_0f7a4 25 = .ok (.iload_n 0, 1) := by decide +kernel
theorem dJ6_bitCount_0f7a4_26 : decode cJ6_bitCount_0f7a4 26 = .ok (.iconst 4, 1) := by decide +kernel
theorem dJ6_bitCount_0f7a4_27 : decode cJ6_bitCount_0f7a4 27 = .ok (.iushr, 1) := by decide +kernel
theorem dJ6_bitCount_0f7a4_28 : decode cJ6_bitCount_0f7a4 28 = .ok (.iadd, 1) := by decide +kernel
theorem dJ6_bitCount_0f7a4_29 : decode cJ6_bitCount_0f7a4 29 = .ok (.ldc_w 267, 3) := by decide +kernel
theorem dJ6_bitCount_0f7a4_32 : decode cJ6_bitCount_0f7a4 32 = .ok (.iand, 1) := by decide +kernel
theorem dJ6_bitCount_0f7a4_33 : decode cJ6_bitCount_0f7a4 33 = .ok (.istore_n 0, 1) := by decide +kernel
theorem dJ6_bitCount_0f7a4_34 : decode cJ6_bitCount_0f7a4 34 = .ok (.iload_n 0, 1) := by decide +kernel
theorem dJ6_bitCount_0f7a4_35 : decode cJ6_bitCount_0f7a4 35 = .ok (.iload_n 0, 1) := by decide +kernel
theorem dJ6_bitCount_0f7a4_36 : decode cJ6_bitCount_0f7a4 36 = .ok (.bipush 8, 2) := by decide +kernel
theorem dJ6_bitCount_0f7a4_38 : decode cJ6_bitCount_0f7a4 38 = .ok (.iushr, 1) := by decide +kernel
theorem dJ6_bitCount_0f7a4_39 : decode cJ6_bitCount_0f7a4 39 = .ok (.iadd, 1) := by decide +kernel
theorem dJ6_bitCount_0f7a4_40 : decode cJ6_bitCount_0f7a4 40 = .ok (.istore_n 0, 1) := by decide +kernel
theorem dJ6_bitCount_0f7a4_41 : decode cJ6_bitCount_0f7a4 41 = .ok (.iload_n 0, 1) := by decide +kernel
theorem dJ6_bitCount_0f7a4_42 : decode cJ6_bitCount_0f7a4 42 = .ok (.iload_n 0, 1) := by decide +kernel
theorem dJ6_bitCount_0f7a4_43 : decode cJ6_bitCount_0f7a4 43 = .ok (.bipush 16, 2) := by decide +kernel
theorem dJ6_bitCount_0f7a4_45 : decode cJ6_bitCount_0f7a4 45 = .ok (.iushr, 1) := by decide +kernel
theorem dJ6_bitCount_0f7a4_46 : decode cJ6_bitCount_0f7a4 46 = .ok (.iadd, 1) := by decide +kernel
theorem dJ6_bitCount_0f7a4_47 : decode cJ6_bitCount_0f7a4 47 = .ok (.istore_n 0, 1) := by decide +kernel
theorem dJ6_bitCount_0f7a4_48 : decode cJ6_bitCount_0f7a4 48 = .ok (.iload_n 0, 1) := by decide +kernel
theorem dJ6_bitCount_0f7a4_49 : decode cJ6_bitCount_0f7a4 49 = .ok (.bipush 63, 2) := by decide +kernel
theorem dJ6_bitCount_0f7a4_51 : decode cJ6_bitCount_0f7a4 51 = .ok (.iand, 1) := by decide +kernel
theorem dJ6_bitCount_0f7a4_52 : decode cJ6_bitCount_0f7a4 52 = .ok (.ireturn, 1) := by decide +kernel
theorem dJ13_bitCount_95d88_0 : decode cJ13_bitCount_95d88 0 = .ok (.lload_n 0, 1) := by decide +kernel
theorem dJ13_bitCount_95d88_1 : decode cJ13_bitCount_95d88 1 = .ok (.lload_n 0, 1) := by decide +kernel
theorem dJ13_bitCount_95d88_2 : decode cJ13_bitCount_95d88 2 = .ok (.iconst 1, 1) := by decide +kernel
theorem dJ13_bitCount_95d88_3 : decode cJ13_bitCount_95d88 3 = .ok (.lushr, 1) := by decide +kernel
theorem dJ13_bitCount_95d88_4 : decode cJ13_bitCount_95d88 4 = .ok (.ldc2_w 314, 3) := by decide +kernel
theorem dJ13_bitCount_95d88_7 : decode cJ13_bitCount_95d88 7 = .ok (.land, 1) := by decide +kernel
theorem dJ13_bitCount_95d88_8 : decode cJ13_bitCount_95d88 8 = .ok (.lsub, 1) := by decide +kernel
theorem dJ13_bitCount_95d88_9 : decode cJ13_bitCount_95d88 9 = .ok (.lstore_n 0, 1) := by decide +kernel
theorem dJ13_bitCount_95d88_10 : decode cJ13_bitCount_95d88 10 = .ok (.lload_n 0, 1) := by decide +kernel
theorem dJ13_bitCount_95d88_11 : decode cJ13_bitCount_95d88 11 = .ok (.ldc2_w 316, 3) := by decide +kernel
theorem dJ13_bitCount_95d88_14 : decode cJ13_bitCount_95d88 14 = .ok (.land, 1) := by decide +kernel
theorem dJ13_bitCount_95d88_15 : decode cJ13_bitCount_95d88 15 = .ok (.lload_n 0, 1) := by decide +kernel
theorem dJ13_bitCount_95d88_16 : decode cJ13_bitCount_95d88 16 = .ok (.iconst 2, 1) := by decide +kernel
theorem dJ13_bitCount_95d88_17 : decode cJ13_bitCount_95d88 17 = .ok (.lushr, 1) := by decide +kernel
theorem dJ13_bitCount_95d88_18 : decode cJ13_bitCount_95d88 18 = .ok (.ldc2_w 316, 3) := by decide +kernel
theorem dJ13_bitCount_95d88_21 : decode cJ13_bitCount_95d88 21 = .ok (.land, 1) := by decide +kernel
theorem dJ13_bitCount_95d88_22 : decode cJ13_bitCount_95d88 22 = .ok (.ladd, 1) := by decide +kernel
theorem dJ13_bitCount_95d88_23 : decode cJ13_bitCount_95d88 23 = .ok (.lstore_n 0, 1) := by decide +kernel
theorem dJ13_bitCount_95d88_24 : decode cJ13_bitCount_95d88 24 = .ok (.lload_n 0, 1) := by decide +kernel
theorem dJ13_bitCount_95d88_25 : decode cJ13_bitCount_95d88 25 = .ok (.lload_n 0, 1) := by decide +kernel
theorem dJ13_bitCount_95d88_26 : decode cJ13_bitCount_95d88 26 = .ok (.iconst 4, 1) := by decide +kernel
theorem dJ13_bitCount_95d88_27 : decode cJ13_bitCount_95d88 27 = .ok (.lushr, 1) := by decide +kernel
theorem dJ13_bitCount_95d88_28 : decode cJ13_bitCount_95d88 28 = .ok (.ladd, 1) := by decide +kernel
theorem dJ13_bitCount_95d88_29 : decode cJ13_bitCount_95d88 29 = .ok (.ldc2_w 318, 3) := by decide +kernel
theorem dJ13_bitCount_95d88_32 : decode cJ13_bitCount_95d88 32 = .ok (.land, 1) := by decide +kernel
theorem dJ13_bitCount_95d88_33 : decode cJ13_bitCount_95d88 33 = .ok (.lstore_n 0, 1) := by decide +kernel
theorem dJ13_bitCount_95d88_34 : decode cJ13_bitCount_95d88 34 = .ok (.lload_n 0, 1) := by decide +kernel
theorem dJ13_bitCount_95d88_35 : decode cJ13_bitCount_95d88 35 = .ok (.lload_n 0, 1) := by decide +kernel
theorem dJ13_bitCount_95d88_36 : decode cJ13_bitCount_95d88 36 = .ok (.bipush 8, 2) := by decide +kernel
theorem dJ13_bitCount_95d88_38 : decode cJ13_bitCount_95d88 38 = .ok (.lushr, 1) := by decide +kernel
theorem dJ13_bitCount_95d88_39 : decode cJ13_bitCount_95d88 39 = .ok (.ladd, 1) := by decide +kernel
theorem dJ13_bitCount_95d88_40 : decode cJ13_bitCount_95d88 40 = .ok (.lstore_n 0, 1) := by decide +kernel
theorem dJ13_bitCount_95d88_41 : decode cJ13_bitCount_95d88 41 = .ok (.lload_n 0, 1) := by decide +kernel
theorem dJ13_bitCount_95d88_42 : decode cJ13_bitCount_95d88 42 = .ok (.lload_n 0, 1) := by decide +kernel
theorem dJ13_bitCount_95d88_43 : decode cJ13_bitCount_95d88 43 = .ok (.bipush 16, 2) := by decide +kernel
theorem dJ13_bitCount_95d88_45 : decode cJ13_bitCount_95d88 45 = .ok (.lushr, 1) := by decide +kernel
theorem dJ13_bitCount_95d88_46 : decode cJ13_bitCount_95d88 46 = .ok (.ladd, 1) := by decide +kernel
theorem dJ13_bitCount_95d88_47 : decode cJ13_bitCount_95d88 47 = .ok (.lstore_n 0, 1) := by decide +kernel
theorem dJ13_bitCount_95d88_48 : decode cJ13_bitCount_95d88 48 = .ok (.lload_n 0, 1) := by decide +kernel
theorem dJ13_bitCount_95d88_49 : decode cJ13_bitCount_95d88 49 = .ok (.lload_n 0, 1) := by decide +kernel
theorem dJ13_bitCount_95d88_50 : decode cJ13_bitCount_95d88 50 = .ok (.bipush 32, 2) := by decide +kernel
theorem dJ13_bitCount_95d88_52 : decode cJ13_bitCount_95d88 52 = .ok (.lushr, 1) := by decide +kernel
theorem dJ13_bitCount_95d88_53 : decode cJ13_bitCount_95d88 53 = .ok (.ladd, 1) := by decide +kernel
theorem dJ13_bitCount_95d88_54 : decode cJ13_bitCount_95d88 54 = .ok (.lstore_n 0, 1) := by decide +kernel
theorem dJ13_bitCount_95d88_55 : decode cJ13_bitCount_95d88 55 = .ok (.lload_n 0, 1) := by decide +kernel
theorem dJ13_bitCount_95d88_56 : decode cJ13_bitCount_95d88 56 = .ok (.l2i, 1) := by decide +kernel
theorem dJ13_bitCount_95d88_57 : decode cJ13_bitCount_95d88 57 = .ok (.bipush 127, 2) := by decide +kernel
theorem dJ13_bitCount_95d88_59 : decode cJ13_bitCount_95d88 59 = .ok (.iand, 1) := by decide +kernel
theorem dJ13_bitCount_95d88_60 : decode cJ13_bitCount_95d88 60 = .ok (.ireturn, 1) := by decide +kernel
theorem dJ9_max_7cf53_0 : decode cJ9_max_7cf53 0 = .ok (.iload_n 0, 1) := by decide +kernel
theorem dJ9_max_7cf53_1 : decode cJ9_max_7cf53 1 = .ok (.iload_n 1, 1) := by decide +kernel
theorem dJ9_max_7cf53_2 : decode cJ9_max_7cf53 2 = .ok (.if_icmp .lt 7, 3) := by decide +kernel
theorem dJ9_max_7cf53_5 : decode cJ9_max_7cf53 5 = .ok (.iload_n 0, 1) := by decide +kernel
theorem dJ9_max_7cf53_6 : decode cJ9_max_7cf53 6 = .ok (.goto 4, 3) := by decide +kernel
theorem dJ9_max_7cf53_9 : decode cJ9_max_7cf53 9 = .ok (.iload_n 1, 1) := by decide +kernel
theorem dJ9_max_7cf53_10 : decode cJ9_max_7cf53 10 = .ok (.ireturn, 1) := by decide +kernel
theorem dJ9_min_7cf53_0 : decode cJ9_min_7cf53 0 = .ok (.iload_n 0, 1) := by decide +kernel
theorem dJ9_min_7cf53_1 : decode cJ9_min_7cf53 1 = .ok (.iload_n 1, 1) := by decide +kernel
theorem dJ9_min_7cf53_2 : decode cJ9_min_7cf53 2 = .ok (.if_icmp .gt 7, 3) := by decide +kernel
theorem dJ9_min_7cf53_5 : decode cJ9_min_7cf53 5 = .ok (.iload_n 0, 1) := by decide +kernel
theorem dJ9_min_7cf53_6 : decode cJ9_min_7cf53 6 = .ok (.goto 4, 3) := by decide +kernel
theorem dJ9_min_7cf53_9 : decode cJ9_min_7cf53 9 = .ok (.iload_n 1, 1) := by decide +kernel
theorem dJ9_min_7cf53_10 : decode cJ9_min_7cf53 10 = .ok (.ireturn, 1) := by decide +kernel
theorem dL_law_0 : decode cL_law 0 = .ok (.new 7, 3) := by decide +kernel
theorem dL_law_3 : decode cL_law 3 = .ok (.dup, 1) := by decide +kernel
theorem dL_law_4 : decode cL_law 4 = .ok (.invokespecial 9, 3) := by decide +kernel
theorem dL_law_7 : decode cL_law 7 = .ok (.astore_n 1, 1) := by decide +kernel
theorem dL_law_8 : decode cL_law 8 = .ok (.new 10, 3) := by decide +kernel
theorem dL_law_11 : decode cL_law 11 = .ok (.dup, 1) := by decide +kernel
theorem dL_law_12 : decode cL_law 12 = .ok (.invokespecial 12, 3) := by decide +kernel
theorem dL_law_15 : decode cL_law 15 = .ok (.astore_n 2, 1) := by decide +kernel
theorem dL_law_16 : decode cL_law 16 = .ok (.iconst 0, 1) := by decide +kernel
theorem dL_law_17 : decode cL_law 17 = .ok (.istore_n 3, 1) := by decide +kernel
theorem dL_law_18 : decode cL_law 18 = .ok (.iload_n 3, 1) := by decide +kernel
theorem dL_law_19 : decode cL_law 19 = .ok (.aload_n 0, 1) := by decide +kernel
theorem dL_law_20 : decode cL_law 20 = .ok (.arraylength, 1) := by decide +kernel
theorem dL_law_21 : decode cL_law 21 = .ok (.iconst 5, 1) := by decide +kernel
theorem dL_law_22 : decode cL_law 22 = .ok (.isub, 1) := by decide +kernel
theorem dL_law_23 : decode cL_law 23 = .ok (.if_icmp .gt 726, 3) := by decide +kernel
theorem dL_law_26 : decode cL_law 26 = .ok (.aload_n 0, 1) := by decide +kernel
theorem dL_law_27 : decode cL_law 27 = .ok (.iload_n 3, 1) := by decide +kernel
theorem dL_law_28 : decode cL_law 28 = .ok (.iaload, 1) := by decide +kernel
theorem dL_law_29 : decode cL_law 29 = .ok (.bipush 31, 2) := by decide +kernel
theorem dL_law_31 : decode cL_law 31 = .ok (.iand, 1) := by decide +kernel
theorem dL_law_32 : decode cL_law 32 = .ok (.tableswitch 711 0 21 #[104, 157, 200, 243, 276, 309, 352, 385, 398, 431, 464, 477, 510, 523, 556, 579, 612, 635, 648, 661, 674, 697], 104) := by decide +kernel
theorem dL_law_136 : decode cL_law 136 = .ok (.aload_n 1, 1) := by decide +kernel
theorem dL_law_137 : decode cL_law 137 = .ok (.aload_n 0, 1) := by decide +kernel
theorem dL_law_138 : decode cL_law 138 = .ok (.iload_n 3, 1) := by decide +kernel
theorem dL_law_139 : decode cL_law 139 = .ok (.iconst 1, 1) := by decide +kernel
theorem dL_law_140 : decode cL_law 140 = .ok (.iadd, 1) := by decide +kernel
theorem dL_law_141 : decode cL_law 141 = .ok (.iaload, 1) := by decide +kernel
theorem dL_law_142 : decode cL_law 142 = .ok (.aload_n 0, 1) := by decide +kernel
theorem dL_law_143 : decode cL_law 143 = .ok (.iload_n 3, 1) := by decide +kernel
theorem dL_law_144 : decode cL_law 144 = .ok (.iconst 2, 1) := by decide +kernel
theorem dL_law_145 : decode cL_law 145 = .ok (.iadd, 1) := by decide +kernel
theorem dL_law_146 : decode cL_law 146 = .ok (.iaload, 1) := by decide +kernel
theorem dL_law_147 : decode cL_law 147 = .ok (.aload_n 0, 1) := by decide +kernel
theorem dL_law_148 : decode cL_law 148 = .ok (.iload_n 3, 1) := by decide +kernel
theorem dL_law_149 : decode cL_law 149 = .ok (.iconst 3, 1) := by decide +kernel
theorem dL_law_150 : decode cL_law 150 = .ok (.iadd, 1) := by decide +kernel
theorem dL_law_151 : decode cL_law 151 = .ok (.iaload, 1) := by decide +kernel
theorem dL_law_152 : decode cL_law 152 = .ok (.aload_n 0, 1) := by decide +kernel
theorem dL_law_153 : decode cL_law 153 = .ok (.iload_n 3, 1) := by decide +kernel
theorem dL_law_154 : decode cL_law 154 = .ok (.iconst 4, 1) := by decide +kernel
theorem dL_law_155 : decode cL_law 155 = .ok (.iadd, 1) := by decide +kernel
theorem dL_law_156 : decode cL_law 156 = .ok (.iaload, 1) := by decide +kernel
theorem dL_law_157 : decode cL_law 157 = .ok (.invokevirtual 13, 3) := by decide +kernel
theorem dL_law_160 : decode cL_law 160 = .ok (.aload_n 2, 1) := by decide +kernel
theorem dL_law_161 : decode cL_law 161 = .ok (.aload_n 0, 1) := by decide +kernel
theorem dL_law_162 : decode cL_law 162 = .ok (.iload_n 3, 1) := by decide +kernel
theorem dL_law_163 : decode cL_law 163 = .ok (.iconst 1, 1) := by decide +kernel
theorem dL_law_164 : decode cL_law 164 = .ok (.iadd, 1) := by decide +kernel
theorem dL_law_165 : decode cL_law 165 = .ok (.iaload, 1) := by decide +kernel
theorem dL_law_166 : decode cL_law 166 = .ok (.aload_n 0, 1) := by decide +kernel
theorem dL_law_167 : decode cL_law 167 = .ok (.iload_n 3, 1) := by decide +kernel
theorem dL_law_168 : decode cL_law 168 = .ok (.iconst 2, 1) := by decide +kernel
theorem dL_law_169 : decode cL_law 169 = .ok (.iadd, 1) := by decide +kernel
theorem dL_law_170 : decode cL_law 170 = .ok (.iaload, 1) := by decide +kernel
theorem dL_law_171 : decode cL_law 171 = .ok (.aload_n 0, 1) := by decide +kernel
theorem dL_law_172 : decode cL_law 172 = .ok (.iload_n 3, 1) := by decide +kernel
theorem dL_law_173 : decode cL_law 173 = .ok (.iconst 3, 1) := by decide +kernel
theorem dL_law_174 : decode cL_law 174 = .ok (.iadd, 1) := by decide +kernel
theorem dL_law_175 : decode cL_law 175 = .ok (.iaload, 1) := by decide +kernel
theorem dL_law_176 : decode cL_law 176 = .ok (.aload_n 0, 1) := by decide +kernel
theorem dL_law_177 : decode cL_law 177 = .ok (.iload_n 3, 1) := by decide +kernel
theorem dL_law_178 : decode cL_law 178 = .ok (.iconst 4, 1) := by decide +kernel
theorem dL_law_179 : decode cL_law 179 = .ok (.iadd, 1) := by decide +kernel
theorem dL_law_180 : decode cL_law 180 = .ok (.iaload, 1) := by decide +kernel
theorem dL_law_181 : decode cL_law 181 = .ok (.invokevirtual 17, 3) := by decide +kernel
theorem dL_law_184 : decode cL_law 184 = .ok (.if_icmp .eq 559, 3) := by decide +kernel
theorem dL_law_187 : decode cL_law 187 = .ok (.iconst 0, 1) := by decide +kernel
theorem dL_law_188 : decode cL_law 188 = .ok (.ireturn, 1) := by decide +kernel
theorem dL_law_189 : decode cL_law 189 = .ok (.aload_n 1, 1) := by decide +kernel
theorem dL_law_190 : decode cL_law 190 = .ok (.aload_n 0, 1) := by decide +kernel
theorem dL_law_191 : decode cL_law 191 = .ok (.iload_n 3, 1) := by decide +kernel
theorem dL_law_192 : decode cL_law 192 = .ok (.iconst 1, 1) := by decide +kernel
theorem dL_law_193 : decode cL_law 193 = .ok (.iadd, 1) := by decide +kernel
theorem dL_law_194 : decode cL_law 194 = .ok (.iaload, 1) := by decide +kernel
theorem dL_law_195 : decode cL_law 195 = .ok (.aload_n 0, 1) := by decide +kernel
theorem dL_law_196 : decode cL_law 196 = .ok (.iload_n 3, 1) := by decide +kernel
theorem dL_law_197 : decode cL_law 197 = .ok (.iconst 2, 1) := by decide +kernel
theorem dL_law_198 : decode cL_law 198 = .ok (.iadd, 1) := by decide +kernel
theorem dL_law_199 : decode cL_law 199 = .ok (.iaload, 1) := by decide +kernel
theorem dL_law_200 : decode cL_law 200 = .ok (.aload_n 0, 1) := by decide +kernel
theorem dL_law_201 : decode cL_law 201 = .ok (.iload_n 3, 1) := by decide +kernel
theorem dL_law_202 : decode cL_law 202 = .ok (.iconst 3, 1) := by decide +kernel
theorem dL_law_203 : decode cL_law 203 = .ok (.iadd, 1) := by decide +kernel
theorem dL_law_204 : decode cL_law 204 = .ok (.iaload, 1) := by decide +kernel
theorem dL_law_205 : decode cL_law 205 = .ok (.invokevirtual 18, 3) := by decide +kernel
theorem dL_law_208 : decode cL_law 208 = .ok (.aload_n 2, 1) := by decide +kernel
theorem dL_law_209 : decode cL_law 209 = .ok (.aload_n 0, 1) := by decide +kernel
theorem dL_law_210 : decode cL_law 210 = .ok (.iload_n 3, 1) := by decide +kernel
theorem dL_law_211 : decode cL_law 211 = .ok (.iconst 1, 1) := by decide +kernel
theorem dL_law_212 : decode cL_law 212 = .ok (.iadd, 1) := by decide +kernel
theorem dL_law_213 : decode cL_law 213 = .ok (.iaload, 1) := by decide +kernel
theorem dL_law_214 : decode cL_law 214 = .ok (.aload_n 0, 1) := by decide +kernel
theorem dL_law_215 : decode cL_law 215 = .ok (.iload_n 3, 1) := by decide +kernel
theorem dL_law_216 : decode cL_law 216 = .ok (.iconst 2, 1) := by decide +kernel
theorem dL_law_217 : decode cL_law 217 = .ok (.iadd, 1) := by decide +kernel
theorem dL_law_218 : decode cL_law 218 = .ok (.iaload, 1) := by decide +kernel
theorem dL_law_219 : decode cL_law 219 = .ok (.aload_n 0, 1) := by decide +kernel
theorem dL_law_220 : decode cL_law 220 = .ok (.iload_n 3, 1) := by decide +kernel
theorem dL_law_221 : decode cL_law 221 = .ok (.iconst 3, 1) := by decide +kernel
theorem dL_law_222 : decode cL_law 222 = .ok (.iadd, 1) := by decide +kernel
theorem dL_law_223 : decode cL_law 223 = .ok (.iaload, 1) := by decide +kernel
theorem dL_law_224 : decode cL_law 224 = .ok (.invokevirtual 22, 3) := by decide +kernel
theorem dL_law_227 : decode cL_law 227 = .ok (.if_icmp .eq 516, 3) := by decide +kernel
theorem dL_law_230 : decode cL_law 230 = .ok (.iconst 0, 1) := by decide +kernel
theorem dL_law_231 : decode cL_law 231 = .ok (.ireturn, 1) := by decide +kernel
theorem dL_law_232 : decode cL_law 232 = .ok (.aload_n 1, 1) := by decide +kernel
theorem dL_law_233 : decode cL_law 233 = .ok (.aload_n 0, 1) := by decide +kernel
theorem dL_law_234 : decode cL_law 234 = .ok (.iload_n 3, 1) := by decide +kernel
theorem dL_law_235 : decode cL_law 235 = .ok (.iconst 1, 1) := by decide +kernel
theorem dL_law_236 : decode cL_law 236 = .ok (.iadd, 1) := by decide +kernel
theorem dL_law_237 : decode cL_law 237 = .ok (.iaload, 1) := by decide +kernel
theorem dL_law_238 : decode cL_law 238 = .ok (.aload_n 0, 1) := by decide +kernel
theorem dL_law_239 : decode cL_law 239 = .ok (.iload_n 3, 1) := by decide +kernel
theorem dL_law_240 : decode cL_law 240 = .ok (.iconst 2, 1) := by decide +kernel
theorem dL_law_241 : decode cL_law 241 = .ok (.iadd, 1) := by decide +kernel
theorem dL_law_242 : decode cL_law 242 = .ok (.iaload, 1) := by decide +kernel
theorem dL_law_243 : decode cL_law 243 = .ok (.aload_n 0, 1) := by decide +kernel
theorem dL_law_244 : decode cL_law 244 = .ok (.iload_n 3, 1) := by decide +kernel
theorem dL_law_245 : decode cL_law 245 = .ok (.iconst 3, 1) := by decide +kernel
theorem dL_law_246 : decode cL_law 246 = .ok (.iadd, 1) := by decide +kernel
theorem dL_law_247 : decode cL_law 247 = .ok (.iaload, 1) := by decide +kernel
theorem dL_law_248 : decode cL_law 248 = .ok (.invokevirtual 23, 3) := by decide +kernel
theorem dL_law_251 : decode cL_law 251 = .ok (.aload_n 2, 1) := by decide +kernel
theorem dL_law_252 : decode cL_law 252 = .ok (.aload_n 0, 1) := by decide +kernel
theorem dL_law_253 : decode cL_law 253 = .ok (.iload_n 3, 1) := by decide +kernel
theorem dL_law_254 : decode cL_law 254 = .ok (.iconst 1, 1) := by decide +kernel
theorem dL_law_255 : decode cL_law 255 = .ok (.iadd, 1) := by decide +kernel
theorem dL_law_256 : decode cL_law 256 = .ok (.iaload, 1) := by decide +kernel
theorem dL_law_257 : decode cL_law 257 = .ok (.aload_n 0, 1) := by decide +kernel
theorem dL_law_258 : decode cL_law 258 = .ok (.iload_n 3, 1) := by decide +kernel
theorem dL_law_259 : decode cL_law 259 = .ok (.iconst 2, 1) := by decide +kernel
theorem dL_law_260 : decode cL_law 260 = .ok (.iadd, 1) := by decide +kernel
theorem dL_law_261 : decode cL_law 261 = .ok (.iaload, 1) := by decide +kernel
theorem dL_law_262 : decode cL_law 262 = .ok (.aload_n 0, 1) := by decide +kernel
theorem dL_law_263 : decode cL_law 263 = .ok (.iload_n 3, 1) := by decide +kernel
theorem dL_law_264 : decode cL_law 264 = .ok (.iconst 3, 1) := by decide +kernel
theorem dL_law_265 : decode cL_law 265 = .ok (.iadd, 1) := by decide +kernel
theorem dL_law_266 : decode cL_law 266 = .ok (.iaload, 1) := by decide +kernel
theorem dL_law_267 : decode cL_law 267 = .ok (.invokevirtual 26, 3) := by decide +kernel
theorem dL_law_270 : decode cL_law 270 = .ok (.if_icmp .eq 473, 3) := by decide +kernel
theorem dL_law_273 : decode cL_law 273 = .ok (.iconst 0, 1) := by decide +kernel
theorem dL_law_274 : decode cL_law 274 = .ok (.ireturn, 1) := by decide +kernel
theorem dL_law_275 : decode cL_law 275 = .ok (.aload_n 1, 1) := by decide +kernel
theorem dL_law_276 : decode cL_law 276 = .ok (.aload_n 0, 1) := by decide +kernel
theorem dL_law_277 : decode cL_law 277 = .ok (.iload_n 3, 1) := by decide +kernel
theorem dL_law_278 : decode cL_law 278 = .ok (.iconst 1, 1) := by decide +kernel
theorem dL_law_279 : decode cL_law 279 = .ok (.iadd, 1) := by decide +kernel
theorem dL_law_280 : decode cL_law 280 = .ok (.iaload, 1) := by decide +kernel
theorem dL_law_281 : decode cL_law 281 = .ok (.aload_n 0, 1) := by decide +kernel
theorem dL_law_282 : decode cL_law 282 = .ok (.iload_n 3, 1) := by decide +kernel
theorem dL_law_283 : decode cL_law 283 = .ok (.iconst 2, 1) := by decide +kernel
theorem dL_law_284 : decode cL_law 284 = .ok (.iadd, 1) := by decide +kernel
theorem dL_law_285 : decode cL_law 285 = .ok (.iaload, 1) := by decide +kernel
theorem dL_law_286 : decode cL_law 286 = .ok (.invokevirtual 27, 3) := by decide +kernel
theorem dL_law_289 : decode cL_law 289 = .ok (.aload_n 2, 1) := by decide +kernel
theorem dL_law_290 : decode cL_law 290 = .ok (.aload_n 0, 1) := by decide +kernel
theorem dL_law_291 : decode cL_law 291 = .ok (.iload_n 3, 1) := by decide +kernel
theorem dL_law_292 : decode cL_law 292 = .ok (.iconst 1, 1) := by decide +kernel
theorem dL_law_293 : decode cL_law 293 = .ok (.iadd, 1) := by decide +kernel
theorem dL_law_294 : decode cL_law 294 = .ok (.iaload, 1) := by decide +kernel
theorem dL_law_295 : decode cL_law 295 = .ok (.aload_n 0, 1) := by decide +kernel
theorem dL_law_296 : decode cL_law 296 = .ok (.iload_n 3, 1) := by decide +kernel
theorem dL_law_297 : decode cL_law 297 = .ok (.iconst 2, 1) := by decide +kernel
theorem dL_law_298 : decode cL_law 298 = .ok (.iadd, 1) := by decide +kernel
theorem dL_law_299 : decode cL_law 299 = .ok (.iaload, 1) := by decide +kernel
theorem dL_law_300 : decode cL_law 300 = .ok (.invokevirtual 31, 3) := by decide +kernel
theorem dL_law_303 : decode cL_law 303 = .ok (.if_icmp .eq 440, 3) := by decide +kernel
theorem dL_law_306 : decode cL_law 306 = .ok (.iconst 0, 1) := by decide +kernel
theorem dL_law_307 : decode cL_law 307 = .ok (.ireturn, 1) := by decide +kernel
theorem dL_law_308 : decode cL_law 308 = .ok (.aload_n 1, 1) := by decide +kernel
theorem dL_law_309 : decode cL_law 309 = .ok (.aload_n 0, 1) := by decide +kernel
theorem dL_law_310 : decode cL_law 310 = .ok (.iload_n 3, 1) := by decide +kernel
theorem dL_law_311 : decode cL_law 311 = .ok (.iconst 1, 1) := by decide +kernel
theorem dL_law_312 : decode cL_law 312 = .ok (.iadd, 1) := by decide +kernel
theorem dL_law_313 : decode cL_law 313 = .ok (.iaload, 1) := by decide +kernel
theorem dL_law_314 : decode cL_law 314 = .ok (.aload_n 0, 1) := by decide +kernel
theorem dL_law_315 : decode cL_law 315 = .ok (.iload_n 3, 1) := by decide +kernel
theorem dL_law_316 : decode cL_law 316 = .ok (.iconst 2, 1) := by decide +kernel
theorem dL_law_317 : decode cL_law 317 = .ok (.iadd, 1) := by decide +kernel
theorem dL_law_318 : decode cL_law 318 = .ok (.iaload, 1) := by decide +kernel
theorem dL_law_319 : decode cL_law 319 = .ok (.invokevirtual 32, 3) := by decide +kernel
theorem dL_law_322 : decode cL_law 322 = .ok (.aload_n 2, 1) := by decide +kernel
theorem dL_law_323 : decode cL_law 323 = .ok (.aload_n 0, 1) := by decide +kernel
theorem dL_law_324 : decode cL_law 324 = .ok (.iload_n 3, 1) := by decide +kernel
theorem dL_law_325 : decode cL_law 325 = .ok (.iconst 1, 1) := by decide +kernel
theorem dL_law_326 : decode cL_law 326 = .ok (.iadd, 1) := by decide +kernel
theorem dL_law_327 : decode cL_law 327 = .ok (.iaload, 1) := by decide +kernel
theorem dL_law_328 : decode cL_law 328 = .ok (.aload_n 0, 1) := by decide +kernel
theorem dL_law_329 : decode cL_law 329 = .ok (.iload_n 3, 1) := by decide +kernel
theorem dL_law_330 : decode cL_law 330 = .ok (.iconst 2, 1) := by decide +kernel
theorem dL_law_331 : decode cL_law 331 = .ok (.iadd, 1) := by decide +kernel
theorem dL_law_332 : decode cL_law 332 = .ok (.iaload, 1) := by decide +kernel
theorem dL_law_333 : decode cL_law 333 = .ok (.invokevirtual 35, 3) := by decide +kernel
theorem dL_law_336 : decode cL_law 336 = .ok (.if_icmp .eq 407, 3) := by decide +kernel
theorem dL_law_339 : decode cL_law 339 = .ok (.iconst 0, 1) := by decide +kernel
theorem dL_law_340 : decode cL_law 340 = .ok (.ireturn, 1) := by decide +kernel
theorem dL_law_341 : decode cL_law 341 = .ok (.aload_n 1, 1) := by decide +kernel
theorem dL_law_342 : decode cL_law 342 = .ok (.aload_n 0, 1) := by decide +kernel
theorem dL_law_343 : decode cL_law 343 = .ok (.iload_n 3, 1) := by decide +kernel
theorem dL_law_344 : decode cL_law 344 = .ok (.iconst 1, 1) := by decide +kernel
theorem dL_law_345 : decode cL_law 345 = .ok (.iadd, 1) := by decide +kernel
theorem dL_law_346 : decode cL_law 346 = .ok (.iaload, 1) := by decide +kernel
theorem dL_law_347 : decode cL_law 347 = .ok (.aload_n 0, 1) := by decide +kernel
theorem dL_law_348 : decode cL_law 348 = .ok (.iload_n 3, 1) := by decide +kernel
theorem dL_law_349 : decode cL_law 349 = .ok (.iconst 2, 1) := by decide +kernel
theorem dL_law_350 : decode cL_law 350 = .ok (.iadd, 1) := by decide +kernel
theorem dL_law_351 : decode cL_law 351 = .ok (.iaload, 1) := by decide +kernel
theorem dL_law_352 : decode cL_law 352 = .ok (.aload_n 0, 1) := by decide +kernel
theorem dL_law_353 : decode cL_law 353 = .ok (.iload_n 3, 1) := by decide +kernel
theorem dL_law_354 : decode cL_law 354 = .ok (.iconst 3, 1) := by decide +kernel
theorem dL_law_355 : decode cL_law 355 = .ok (.iadd, 1) := by decide +kernel
theorem dL_law_356 : decode cL_law 356 = .ok (.iaload, 1) := by decide +kernel
theorem dL_law_357 : decode cL_law 357 = .ok (.invokevirtual 36, 3) := by decide +kernel
theorem dL_law_360 : decode cL_law 360 = .ok (.aload_n 2, 1) := by decide +kernel
theorem dL_law_361 : decode cL_law 361 = .ok (.aload_n 0, 1) := by decide +kernel
theorem dL_law_362 : decode cL_law 362 = .ok (.iload_n 3, 1) := by decide +kernel
theorem dL_law_363 : decode cL_law 363 = .ok (.iconst 1, 1) := by decide +kernel
theorem dL_law_364 : decode cL_law 364 = .ok (.iadd, 1) := by decide +kernel
theorem dL_law_365 : decode cL_law 365 = .ok (.iaload, 1) := by decide +kernel
theorem dL_law_366 : decode cL_law 366 = .ok (.aload_n 0, 1) := by decide +kernel
theorem dL_law_367 : decode cL_law 367 = .ok (.iload_n 3, 1) := by decide +kernel
theorem dL_law_368 : decode cL_law 368 = .ok (.iconst 2, 1) := by decide +kernel
theorem dL_law_369 : decode cL_law 369 = .ok (.iadd, 1) := by decide +kernel
theorem dL_law_370 : decode cL_law 370 = .ok (.iaload, 1) := by decide +kernel
theorem dL_law_371 : decode cL_law 371 = .ok (.aload_n 0, 1) := by decide +kernel
theorem dL_law_372 : decode cL_law 372 = .ok (.iload_n 3, 1) := by decide +kernel
theorem dL_law_373 : decode cL_law 373 = .ok (.iconst 3, 1) := by decide +kernel
theorem dL_law_374 : decode cL_law 374 = .ok (.iadd, 1) := by decide +kernel
theorem dL_law_375 : decode cL_law 375 = .ok (.iaload, 1) := by decide +kernel
theorem dL_law_376 : decode cL_law 376 = .ok (.invokevirtual 39, 3) := by decide +kernel
theorem dL_law_379 : decode cL_law 379 = .ok (.if_icmp .eq 364, 3) := by decide +kernel
theorem dL_law_382 : decode cL_law 382 = .ok (.iconst 0, 1) := by decide +kernel
theorem dL_law_383 : decode cL_law 383 = .ok (.ireturn, 1) := by decide +kernel
theorem dL_law_384 : decode cL_law 384 = .ok (.aload_n 1, 1) := by decide +kernel
theorem dL_law_385 : decode cL_law 385 = .ok (.aload_n 0, 1) := by decide +kernel
theorem dL_law_386 : decode cL_law 386 = .ok (.iload_n 3, 1) := by decide +kernel
theorem dL_law_387 : decode cL_law 387 = .ok (.iconst 1, 1) := by decide +kernel
theorem dL_law_388 : decode cL_law 388 = .ok (.iadd, 1) := by decide +kernel
theorem dL_law_389 : decode cL_law 389 = .ok (.iaload, 1) := by decide +kernel
theorem dL_law_390 : decode cL_law 390 = .ok (.aload_n 0, 1) := by decide +kernel
theorem dL_law_391 : decode cL_law 391 = .ok (.iload_n 3, 1) := by decide +kernel
theorem dL_law_392 : decode cL_law 392 = .ok (.iconst 2, 1) := by decide +kernel
theorem dL_law_393 : decode cL_law 393 = .ok (.iadd, 1) := by decide +kernel
theorem dL_law_394 : decode cL_law 394 = .ok (.iaload, 1) := by decide +kernel
theorem dL_law_395 : decode cL_law 395 = .ok (.invokevirtual 40, 3) := by decide +kernel
theorem dL_law_398 : decode cL_law 398 = .ok (.aload_n 2, 1) := by decide +kernel
theorem dL_law_399 : decode cL_law 399 = .ok (.aload_n 0, 1) := by decide +kernel
theorem dL_law_400 : decode cL_law 400 = .ok (.iload_n 3, 1) := by decide +kernel
theorem dL_law_401 : decode cL_law 401 = .ok (.iconst 1, 1) := by decide +kernel
theorem dL_law_402 : decode cL_law 402 = .ok (.iadd, 1) := by decide +kernel
theorem dL_law_403 : decode cL_law 403 = .ok (.iaload, 1) := by decide +kernel
theorem dL_law_404 : decode cL_law 404 = .ok (.aload_n 0, 1) := by decide +kernel
theorem dL_law_405 : decode cL_law 405 = .ok (.iload_n 3, 1) := by decide +kernel
theorem dL_law_406 : decode cL_law 406 = .ok (.iconst 2, 1) := by decide +kernel
theorem dL_law_407 : decode cL_law 407 = .ok (.iadd, 1) := by decide +kernel
theorem dL_law_408 : decode cL_law 408 = .ok (.iaload, 1) := by decide +kernel
theorem dL_law_409 : decode cL_law 409 = .ok (.invokevirtual 43, 3) := by decide +kernel
theorem dL_law_412 : decode cL_law 412 = .ok (.if_icmp .eq 331, 3) := by decide +kernel
theorem dL_law_415 : decode cL_law 415 = .ok (.iconst 0, 1) := by decide +kernel
theorem dL_law_416 : decode cL_law 416 = .ok (.ireturn, 1) := by decide +kernel
theorem dL_law_417 : decode cL_law 417 = .ok (.aload_n 1, 1) := by decide +kernel
theorem dL_law_418 : decode cL_law 418 = .ok (.invokevirtual 44, 3) := by decide +kernel
theorem dL_law_421 : decode cL_law 421 = .ok (.aload_n 2, 1) := by decide +kernel
theorem dL_law_422 : decode cL_law 422 = .ok (.invokevirtual 48, 3) := by decide +kernel
theorem dL_law_425 : decode cL_law 425 = .ok (.if_icmp .eq 318, 3) := by decide +kernel
theorem dL_law_428 : decode cL_law 428 = .ok (.iconst 0, 1) := by decide +kernel
theorem dL_law_429 : decode cL_law 429 = .ok (.ireturn, 1) := by decide +kernel
theorem dL_law_430 : decode cL_law 430 = .ok (.aload_n 1, 1) := by decide +kernel
theorem dL_law_431 : decode cL_law 431 = .ok (.aload_n 0, 1) := by decide +kernel
theorem dL_law_432 : decode cL_law 432 = .ok (.iload_n 3, 1) := by decide +kernel
theorem dL_law_433 : decode cL_law 433 = .ok (.iconst 1, 1) := by decide +kernel
theorem dL_law_434 : decode cL_law 434 = .ok (.iadd, 1) := by decide +kernel
theorem dL_law_435 : decode cL_law 435 = .ok (.iaload, 1) := by decide +kernel
theorem dL_law_436 : decode cL_law 436 = .ok (.aload_n 0, 1) := by decide +kernel
theorem dL_law_437 : decode cL_law 437 = .ok (.iload_n 3, 1) := by decide +kernel
theorem dL_law_438 : decode cL_law 438 = .ok (.iconst 2, 1) := by decide +kernel
theorem dL_law_439 : decode cL_law 439 = .ok (.iadd, 1) := by decide +kernel
theorem dL_law_440 : decode cL_law 440 = .ok (.iaload, 1) := by decide +kernel
theorem dL_law_441 : decode cL_law 441 = .ok (.invokevirtual 49, 3) := by decide +kernel
theorem dL_law_444 : decode cL_law 444 = .ok (.aload_n 2, 1) := by decide +kernel
theorem dL_law_445 : decode cL_law 445 = .ok (.aload_n 0, 1) := by decide +kernel
theorem dL_law_446 : decode cL_law 446 = .ok (.iload_n 3, 1) := by decide +kernel
theorem dL_law_447 : decode cL_law 447 = .ok (.iconst 1, 1) := by decide +kernel
theorem dL_law_448 : decode cL_law 448 = .ok (.iadd, 1) := by decide +kernel
theorem dL_law_449 : decode cL_law 449 = .ok (.iaload, 1) := by decide +kernel
theorem dL_law_450 : decode cL_law 450 = .ok (.aload_n 0, 1) := by decide +kernel
theorem dL_law_451 : decode cL_law 451 = .ok (.iload_n 3, 1) := by decide +kernel
theorem dL_law_452 : decode cL_law 452 = .ok (.iconst 2, 1) := by decide +kernel
theorem dL_law_453 : decode cL_law 453 = .ok (.iadd, 1) := by decide +kernel
theorem dL_law_454 : decode cL_law 454 = .ok (.iaload, 1) := by decide +kernel
theorem dL_law_455 : decode cL_law 455 = .ok (.invokevirtual 52, 3) := by decide +kernel
theorem dL_law_458 : decode cL_law 458 = .ok (.if_icmp .eq 285, 3) := by decide +kernel
theorem dL_law_461 : decode cL_law 461 = .ok (.iconst 0, 1) := by decide +kernel
theorem dL_law_462 : decode cL_law 462 = .ok (.ireturn, 1) := by decide +kernel
theorem dL_law_463 : decode cL_law 463 = .ok (.aload_n 1, 1) := by decide +kernel
theorem dL_law_464 : decode cL_law 464 = .ok (.aload_n 0, 1) := by decide +kernel
theorem dL_law_465 : decode cL_law 465 = .ok (.iload_n 3, 1) := by decide +kernel
theorem dL_law_466 : decode cL_law 466 = .ok (.iconst 1, 1) := by decide +kernel
theorem dL_law_467 : decode cL_law 467 = .ok (.iadd, 1) := by decide +kernel
theorem dL_law_468 : decode cL_law 468 = .ok (.iaload, 1) := by decide +kernel
theorem dL_law_469 : decode cL_law 469 = .ok (.aload_n 0, 1) := by decide +kernel
theorem dL_law_470 : decode cL_law 470 = .ok (.iload_n 3, 1) := by decide +kernel
theorem dL_law_471 : decode cL_law 471 = .ok (.iconst 2, 1) := by decide +kernel
theorem dL_law_472 : decode cL_law 472 = .ok (.iadd, 1) := by decide +kernel
theorem dL_law_473 : decode cL_law 473 = .ok (.iaload, 1) := by decide +kernel
theorem dL_law_474 : decode cL_law 474 = .ok (.invokevirtual 53, 3) := by decide +kernel
theorem dL_law_477 : decode cL_law 477 = .ok (.aload_n 2, 1) := by decide +kernel
theorem dL_law_478 : decode cL_law 478 = .ok (.aload_n 0, 1) := by decide +kernel
theorem dL_law_479 : decode cL_law 479 = .ok (.iload_n 3, 1) := by decide +kernel
theorem dL_law_480 : decode cL_law 480 = .ok (.iconst 1, 1) := by decide +kernel
theorem dL_law_481 : decode cL_law 481 = .ok (.iadd, 1) := by decide +kernel
theorem dL_law_482 : decode cL_law 482 = .ok (.iaload, 1) := by decide +kernel
theorem dL_law_483 : decode cL_law 483 = .ok (.aload_n 0, 1) := by decide +kernel
theorem dL_law_484 : decode cL_law 484 = .ok (.iload_n 3, 1) := by decide +kernel
theorem dL_law_485 : decode cL_law 485 = .ok (.iconst 2, 1) := by decide +kernel
theorem dL_law_486 : decode cL_law 486 = .ok (.iadd, 1) := by decide +kernel
theorem dL_law_487 : decode cL_law 487 = .ok (.iaload, 1) := by decide +kernel
theorem dL_law_488 : decode cL_law 488 = .ok (.invokevirtual 56, 3) := by decide +kernel
theorem dL_law_491 : decode cL_law 491 = .ok (.if_icmp .eq 252, 3) := by decide +kernel
theorem dL_law_494 : decode cL_law 494 = .ok (.iconst 0, 1) := by decide +kernel
theorem dL_law_495 : decode cL_law 495 = .ok (.ireturn, 1) := by decide +kernel
theorem dL_law_496 : decode cL_law 496 = .ok (.aload_n 1, 1) := by decide +kernel
theorem dL_law_497 : decode cL_law 497 = .ok (.invokevirtual 57, 3) := by decide +kernel
theorem dL_law_500 : decode cL_law 500 = .ok (.aload_n 2, 1) := by decide +kernel
theorem dL_law_501 : decode cL_law 501 = .ok (.invokevirtual 60, 3) := by decide +kernel
theorem dL_law_504 : decode cL_law 504 = .ok (.if_icmp .eq 239, 3) := by decide +kernel
theorem dL_law_507 : decode cL_law 507 = .ok (.iconst 0, 1) := by decide +kernel
theorem dL_law_508 : decode cL_law 508 = .ok (.ireturn, 1) := by decide +kernel
theorem dL_law_509 : decode cL_law 509 = .ok (.aload_n 1, 1) := by decide +kernel
theorem dL_law_510 : decode cL_law 510 = .ok (.aload_n 0, 1) := by decide +kernel
theorem dL_law_511 : decode cL_law 511 = .ok (.iload_n 3, 1) := by decide +kernel
theorem dL_law_512 : decode cL_law 512 = .ok (.iconst 1, 1) := by decide +kernel
theorem dL_law_513 : decode cL_law 513 = .ok (.iadd, 1) := by decide +kernel
theorem dL_law_514 : decode cL_law 514 = .ok (.iaload, 1) := by decide +kernel
theorem dL_law_515 : decode cL_law 515 = .ok (.aload_n 0, 1) := by decide +kernel
theorem dL_law_516 : decode cL_law 516 = .ok (.iload_n 3, 1) := by decide +kernel
theorem dL_law_517 : decode cL_law 517 = .ok (.iconst 2, 1) := by decide +kernel
theorem dL_law_518 : decode cL_law 518 = .ok (.iadd, 1) := by decide +kernel
theorem dL_law_519 : decode cL_law 519 = .ok (.iaload, 1) := by decide +kernel
theorem dL_law_520 : decode cL_law 520 = .ok (.invokevirtual 61, 3) := by decide +kernel
theorem dL_law_523 : decode cL_law 523 = .ok (.aload_n 2, 1) := by decide +kernel
theorem dL_law_524 : decode cL_law 524 = .ok (.aload_n 0, 1) := by decide +kernel
theorem dL_law_525 : decode cL_law 525 = .ok (.iload_n 3, 1) := by decide +kernel
theorem dL_law_526 : decode cL_law 526 = .ok (.iconst 1, 1) := by decide +kernel
theorem dL_law_527 : decode cL_law 527 = .ok (.iadd, 1) := by decide +kernel
theorem dL_law_528 : decode cL_law 528 = .ok (.iaload, 1) := by decide +kernel
theorem dL_law_529 : decode cL_law 529 = .ok (.aload_n 0, 1) := by decide +kernel
theorem dL_law_530 : decode cL_law 530 = .ok (.iload_n 3, 1) := by decide +kernel
theorem dL_law_531 : decode cL_law 531 = .ok (.iconst 2, 1) := by decide +kernel
theorem dL_law_532 : decode cL_law 532 = .ok (.iadd, 1) := by decide +kernel
theorem dL_law_533 : decode cL_law 533 = .ok (.iaload, 1) := by decide +kernel
theorem dL_law_534 : decode cL_law 534 = .ok (.invokevirtual 64, 3) := by decide +kernel
theorem dL_law_537 : decode cL_law 537 = .ok (.if_icmp .eq 206, 3) := by decide +kernel
theorem dL_law_540 : decode cL_law 540 = .ok (.iconst 0, 1) := by decide +kernel
theorem dL_law_541 : decode cL_law 541 = .ok (.ireturn, 1) := by decide +kernel
theorem dL_law_542 : decode cL_law 542 = .ok (.aload_n 1, 1) := by decide +kernel
theorem dL_law_543 : decode cL_law 543 = .ok (.invokevirtual 65, 3) := by decide +kernel
theorem dL_law_546 : decode cL_law 546 = .ok (.aload_n 2, 1) := by decide +kernel
theorem dL_law_547 : decode cL_law 547 = .ok (.invokevirtual 68, 3) := by decide +kernel
theorem dL_law_550 : decode cL_law 550 = .ok (.if_icmp .eq 193, 3) := by decide +kernel
theorem dL_law_553 : decode cL_law 553 = .ok (.iconst 0, 1) := by decide +kernel
theorem dL_law_554 : decode cL_law 554 = .ok (.ireturn, 1) := by decide +kernel
theorem dL_law_555 : decode cL_law 555 = .ok (.aload_n 1, 1) := by decide +kernel
theorem dL_law_556 : decode cL_law 556 = .ok (.aload_n 0, 1) := by decide +kernel
theorem dL_law_557 : decode cL_law 557 = .ok (.iload_n 3, 1) := by decide +kernel
theorem dL_law_558 : decode cL_law 558 = .ok (.iconst 1, 1) := by decide +kernel
theorem dL_law_559 : decode cL_law 559 = .ok (.iadd, 1) := by decide +kernel
theorem dL_law_560 : decode cL_law 560 = .ok (.iaload, 1) := by decide +kernel
theorem dL_law_561 : decode cL_law 561 = .ok (.aload_n 0, 1) := by decide +kernel
theorem dL_law_562 : decode cL_law 562 = .ok (.iload_n 3, 1) := by decide +kernel
theorem dL_law_563 : decode cL_law 563 = .ok (.iconst 2, 1) := by decide +kernel
theorem dL_law_564 : decode cL_law 564 = .ok (.iadd, 1) := by decide +kernel
theorem dL_law_565 : decode cL_law 565 = .ok (.iaload, 1) := by decide +kernel
theorem dL_law_566 : decode cL_law 566 = .ok (.invokevirtual 69, 3) := by decide +kernel
theorem dL_law_569 : decode cL_law 569 = .ok (.aload_n 2, 1) := by decide +kernel
theorem dL_law_570 : decode cL_law 570 = .ok (.aload_n 0, 1) := by decide +kernel
theorem dL_law_571 : decode cL_law 571 = .ok (.iload_n 3, 1) := by decide +kernel
theorem dL_law_572 : decode cL_law 572 = .ok (.iconst 1, 1) := by decide +kernel
theorem dL_law_573 : decode cL_law 573 = .ok (.iadd, 1) := by decide +kernel
theorem dL_law_574 : decode cL_law 574 = .ok (.iaload, 1) := by decide +kernel
theorem dL_law_575 : decode cL_law 575 = .ok (.aload_n 0, 1) := by decide +kernel
theorem dL_law_576 : decode cL_law 576 = .ok (.iload_n 3, 1) := by decide +kernel
theorem dL_law_577 : decode cL_law 577 = .ok (.iconst 2, 1) := by decide +kernel
theorem dL_law_578 : decode cL_law 578 = .ok (.iadd, 1) := by decide +kernel
theorem dL_law_579 : decode cL_law 579 = .ok (.iaload, 1) := by decide +kernel
theorem dL_law_580 : decode cL_law 580 = .ok (.invokevirtual 72, 3) := by decide +kernel
theorem dL_law_583 : decode cL_law 583 = .ok (.if_icmp .eq 160, 3) := by decide +kernel
theorem dL_law_586 : decode cL_law 586 = .ok (.iconst 0, 1) := by decide +kernel
theorem dL_law_587 : decode cL_law 587 = .ok (.ireturn, 1) := by decide +kernel
theorem dL_law_588 : decode cL_law 588 = .ok (.aload_n 1, 1) := by decide +kernel
theorem dL_law_589 : decode cL_law 589 = .ok (.aload_n 0, 1) := by decide +kernel
theorem dL_law_590 : decode cL_law 590 = .ok (.iload_n 3, 1) := by decide +kernel
theorem dL_law_591 : decode cL_law 591 = .ok (.iconst 1, 1) := by decide +kernel
theorem dL_law_592 : decode cL_law 592 = .ok (.iadd, 1) := by decide +kernel
theorem dL_law_593 : decode cL_law 593 = .ok (.iaload, 1) := by decide +kernel
theorem dL_law_594 : decode cL_law 594 = .ok (.invokevirtual 73, 3) := by decide +kernel
theorem dL_law_597 : decode cL_law 597 = .ok (.aload_n 2, 1) := by decide +kernel
theorem dL_law_598 : decode cL_law 598 = .ok (.aload_n 0, 1) := by decide +kernel
theorem dL_law_599 : decode cL_law 599 = .ok (.iload_n 3, 1) := by decide +kernel
theorem dL_law_600 : decode cL_law 600 = .ok (.iconst 1, 1) := by decide +kernel
theorem dL_law_601 : decode cL_law 601 = .ok (.iadd, 1) := by decide +kernel
theorem dL_law_602 : decode cL_law 602 = .ok (.iaload, 1) := by decide +kernel
theorem dL_law_603 : decode cL_law 603 = .ok (.invokevirtual 77, 3) := by decide +kernel
theorem dL_law_606 : decode cL_law 606 = .ok (.if_icmp .eq 137, 3) := by decide +kernel
theorem dL_law_609 : decode cL_law 609 = .ok (.iconst 0, 1) := by decide +kernel
theorem dL_law_610 : decode cL_law 610 = .ok (.ireturn, 1) := by decide +kernel
theorem dL_law_611 : decode cL_law 611 = .ok (.aload_n 1, 1) := by decide +kernel
theorem dL_law_612 : decode cL_law 612 = .ok (.aload_n 0, 1) := by decide +kernel
theorem dL_law_613 : decode cL_law 613 = .ok (.iload_n 3, 1) := by decide +kernel
theorem dL_law_614 : decode cL_law 614 = .ok (.iconst 1, 1) := by decide +kernel
theorem dL_law_615 : decode cL_law 615 = .ok (.iadd, 1) := by decide +kernel
theorem dL_law_616 : decode cL_law 616 = .ok (.iaload, 1) := by decide +kernel
theorem dL_law_617 : decode cL_law 617 = .ok (.aload_n 0, 1) := by decide +kernel
theorem dL_law_618 : decode cL_law 618 = .ok (.iload_n 3, 1) := by decide +kernel
theorem dL_law_619 : decode cL_law 619 = .ok (.iconst 2, 1) := by decide +kernel
theorem dL_law_620 : decode cL_law 620 = .ok (.iadd, 1) := by decide +kernel
theorem dL_law_621 : decode cL_law 621 = .ok (.iaload, 1) := by decide +kernel
theorem dL_law_622 : decode cL_law 622 = .ok (.invokevirtual 78, 3) := by decide +kernel
theorem dL_law_625 : decode cL_law 625 = .ok (.aload_n 2, 1) := by decide +kernel
theorem dL_law_626 : decode cL_law 626 = .ok (.aload_n 0, 1) := by decide +kernel
theorem dL_law_627 : decode cL_law 627 = .ok (.iload_n 3, 1) := by decide +kernel
theorem dL_law_628 : decode cL_law 628 = .ok (.iconst 1, 1) := by decide +kernel
theorem dL_law_629 : decode cL_law 629 = .ok (.iadd, 1) := by decide +kernel
theorem dL_law_630 : decode cL_law 630 = .ok (.iaload, 1) := by decide +kernel
theorem dL_law_631 : decode cL_law 631 = .ok (.aload_n 0, 1) := by decide +kernel
theorem dL_law_632 : decode cL_law 632 = .ok (.iload_n 3, 1) := by decide +kernel
theorem dL_law_633 : decode cL_law 633 = .ok (.iconst 2, 1) := by decide +kernel
theorem dL_law_634 : decode cL_law 634 = .ok (.iadd, 1) := by decide +kernel
theorem dL_law_635 : decode cL_law 635 = .ok (.iaload, 1) := by decide +kernel
theorem dL_law_636 : decode cL_law 636 = .ok (.invokevirtual 81, 3) := by decide +kernel
theorem dL_law_639 : decode cL_law 639 = .ok (.if_icmp .eq 104, 3) := by decide +kernel
theorem dL_law_642 : decode cL_law 642 = .ok (.iconst 0, 1) := by decide +kernel
theorem dL_law_643 : decode cL_law 643 = .ok (.ireturn, 1) := by decide +kernel
theorem dL_law_644 : decode cL_law 644 = .ok (.aload_n 1, 1) := by decide +kernel
theorem dL_law_645 : decode cL_law 645 = .ok (.aload_n 0, 1) := by decide +kernel
theorem dL_law_646 : decode cL_law 646 = .ok (.iload_n 3, 1) := by decide +kernel
theorem dL_law_647 : decode cL_law 647 = .ok (.iconst 1, 1) := by decide +kernel
theorem dL_law_648 : decode cL_law 648 = .ok (.iadd, 1) := by decide +kernel
theorem dL_law_649 : decode cL_law 649 = .ok (.iaload, 1) := by decide +kernel
theorem dL_law_650 : decode cL_law 650 = .ok (.invokevirtual 82, 3) := by decide +kernel
theorem dL_law_653 : decode cL_law 653 = .ok (.aload_n 2, 1) := by decide +kernel
theorem dL_law_654 : decode cL_law 654 = .ok (.aload_n 0, 1) := by decide +kernel
theorem dL_law_655 : decode cL_law 655 = .ok (.iload_n 3, 1) := by decide +kernel
theorem dL_law_656 : decode cL_law 656 = .ok (.iconst 1, 1) := by decide +kernel
theorem dL_law_657 : decode cL_law 657 = .ok (.iadd, 1) := by decide +kernel
theorem dL_law_658 : decode cL_law 658 = .ok (.iaload, 1) := by decide +kernel
theorem dL_law_659 : decode cL_law 659 = .ok (.invokevirtual 85, 3) := by decide +kernel
theorem dL_law_662 : decode cL_law 662 = .ok (.if_icmp .eq 81, 3) := by decide +kernel
theorem dL_law_665 : decode cL_law 665 = .ok (.iconst 0, 1) := by decide +kernel
theorem dL_law_666 : decode cL_law 666 = .ok (.ireturn, 1) := by decide +kernel
theorem dL_law_667 : decode cL_law 667 = .ok (.aload_n 1, 1) := by decide +kernel
theorem dL_law_668 : decode cL_law 668 = .ok (.invokevirtual 86, 3) := by decide +kernel
theorem dL_law_671 : decode cL_law 671 = .ok (.aload_n 2, 1) := by decide +kernel
theorem dL_law_672 : decode cL_law 672 = .ok (.invokevirtual 89, 3) := by decide +kernel
theorem dL_law_675 : decode cL_law 675 = .ok (.if_icmp .eq 68, 3) := by decide +kernel
theorem dL_law_678 : decode cL_law 678 = .ok (.iconst 0, 1) := by decide +kernel
theorem dL_law_679 : decode cL_law 679 = .ok (.ireturn, 1) := by decide +kernel
theorem dL_law_680 : decode cL_law 680 = .ok (.aload_n 1, 1) := by decide +kernel
theorem dL_law_681 : decode cL_law 681 = .ok (.invokevirtual 90, 3) := by decide +kernel
theorem dL_law_684 : decode cL_law 684 = .ok (.aload_n 2, 1) := by decide +kernel
theorem dL_law_685 : decode cL_law 685 = .ok (.invokevirtual 93, 3) := by decide +kernel
theorem dL_law_688 : decode cL_law 688 = .ok (.if_icmp .eq 55, 3) := by decide +kernel
theorem dL_law_691 : decode cL_law 691 = .ok (.iconst 0, 1) := by decide +kernel
theorem dL_law_692 : decode cL_law 692 = .ok (.ireturn, 1) := by decide +kernel
theorem dL_law_693 : decode cL_law 693 = .ok (.aload_n 1, 1) := by decide +kernel
theorem dL_law_694 : decode cL_law 694 = .ok (.invokevirtual 94, 3) := by decide +kernel
theorem dL_law_697 : decode cL_law 697 = .ok (.aload_n 2, 1) := by decide +kernel
theorem dL_law_698 : decode cL_law 698 = .ok (.invokevirtual 97, 3) := by decide +kernel
theorem dL_law_701 : decode cL_law 701 = .ok (.if_icmp .eq 42, 3) := by decide +kernel
theorem dL_law_704 : decode cL_law 704 = .ok (.iconst 0, 1) := by decide +kernel
theorem dL_law_705 : decode cL_law 705 = .ok (.ireturn, 1) := by decide +kernel
theorem dL_law_706 : decode cL_law 706 = .ok (.aload_n 1, 1) := by decide +kernel
theorem dL_law_707 : decode cL_law 707 = .ok (.aload_n 0, 1) := by decide +kernel
theorem dL_law_708 : decode cL_law 708 = .ok (.iload_n 3, 1) := by decide +kernel
theorem dL_law_709 : decode cL_law 709 = .ok (.iconst 1, 1) := by decide +kernel
theorem dL_law_710 : decode cL_law 710 = .ok (.iadd, 1) := by decide +kernel
theorem dL_law_711 : decode cL_law 711 = .ok (.iaload, 1) := by decide +kernel
theorem dL_law_712 : decode cL_law 712 = .ok (.invokevirtual 98, 3) := by decide +kernel
theorem dL_law_715 : decode cL_law 715 = .ok (.aload_n 2, 1) := by decide +kernel
theorem dL_law_716 : decode cL_law 716 = .ok (.aload_n 0, 1) := by decide +kernel
theorem dL_law_717 : decode cL_law 717 = .ok (.iload_n 3, 1) := by decide +kernel
theorem dL_law_718 : decode cL_law 718 = .ok (.iconst 1, 1) := by decide +kernel
theorem dL_law_719 : decode cL_law 719 = .ok (.iadd, 1) := by decide +kernel
theorem dL_law_720 : decode cL_law 720 = .ok (.iaload, 1) := by decide +kernel
theorem dL_law_721 : decode cL_law 721 = .ok (.invokevirtual 101, 3) := by decide +kernel
theorem dL_law_724 : decode cL_law 724 = .ok (.if_icmp .eq 19, 3) := by decide +kernel
theorem dL_law_727 : decode cL_law 727 = .ok (.iconst 0, 1) := by decide +kernel
theorem dL_law_728 : decode cL_law 728 = .ok (.ireturn, 1) := by decide +kernel
theorem dL_law_729 : decode cL_law 729 = .ok (.aload_n 1, 1) := by decide +kernel
theorem dL_law_730 : decode cL_law 730 = .ok (.invokevirtual 102, 3) := by decide +kernel
theorem dL_law_733 : decode cL_law 733 = .ok (.aload_n 2, 1) := by decide +kernel
theorem dL_law_734 : decode cL_law 734 = .ok (.invokevirtual 106, 3) := by decide +kernel
theorem dL_law_737 : decode cL_law 737 = .ok (.lcmp, 1) := by decide +kernel
theorem dL_law_738 : decode cL_law 738 = .ok (.ifCond .eq 5, 3) := by decide +kernel
theorem dL_law_741 : decode cL_law 741 = .ok (.iconst 0, 1) := by decide +kernel
theorem dL_law_742 : decode cL_law 742 = .ok (.ireturn, 1) := by decide +kernel
theorem dL_law_743 : decode cL_law 743 = .ok (.iinc 3 5, 3) := by decide +kernel
theorem dL_law_746 : decode cL_law 746 = .ok (.goto (-728), 3) := by decide +kernel
theorem dL_law_749 : decode cL_law 749 = .ok (.iconst 1, 1) := by decide +kernel
theorem dL_law_750 : decode cL_law 750 = .ok (.ireturn, 1) := by decide +kernel
end
section
theorem xg_C {y : MethodName} {bytes : ByteArray} {maxL : Nat} {ret : Option FieldType} (hco : Cond.code y bytes maxL ret ∈ wsL_law) : GoodIn wsL_law (Cond.code y bytes maxL ret :: wsL_law) := fun w h => by
  rcases List.mem_cons.mp h with rfl | h
  · exact ⟨hco, xT_good _ hco⟩
  · exact ⟨h, xT_good _ h⟩
theorem xg_V {own C : String} {index : Nat} {y : MethodName} {bytes : ByteArray} {maxL : Nat} {ret : Option FieldType} (hl : Cond.methodLink own index y ∈ wsL_law) (hi : Cond.instanceMethod y ∈ wsL_law) (hse : Cond.selects C y y ∈ wsL_law) (hini : Cond.initialized C ∈ wsL_law) (hco : Cond.code y bytes maxL ret ∈ wsL_law) : GoodIn wsL_law (wsV own index C y (Cond.code y bytes maxL ret :: wsL_law)) := fun w h => by
  have hm : w ∈ wsL_law := by
    unfold wsV at h
    rcases List.mem_append.mp h with h | h
    · simp only [List.mem_cons, List.not_mem_nil, or_false] at h
      rcases h with rfl | rfl | rfl | rfl
      · exact hl
      · exact hi
      · exact hse
      · exact hini
    · exact (xg_C hco w h).1
  exact ⟨hm, xT_good _ hm⟩
theorem xg_S {own : String} {index : Nat} {y : MethodName} {bytes : ByteArray} {maxL : Nat} {ret : Option FieldType} (hl : Cond.methodLink own index y ∈ wsL_law) (hst0 : Cond.static y ∈ wsL_law) (hini : Cond.initialized y.cls ∈ wsL_law) (hco : Cond.code y bytes maxL ret ∈ wsL_law) : GoodIn wsL_law (va_wsS own index y (Cond.code y bytes maxL ret :: wsL_law)) := fun w h => by
  have hm : w ∈ wsL_law := by
    unfold va_wsS at h
    rcases List.mem_append.mp h with h | h
    · simp only [List.mem_cons, List.not_mem_nil, or_false] at h
      rcases h with rfl | rfl | rfl
      · exact hl
      · exact hst0
      · exact hini
    · exact (xg_C hco w h).1
  exact ⟨hm, xT_good _ hm⟩
/-! the pure side: a memory by cell number and place; the static shape of the two objects (numbers of cells, their kinds, lengths, references) -/
abbrev xM : Type := (Nat → Nat → Int32) × (Nat → Nat → Int64)
def xup {α : Type} (f : Nat → Nat → α) (q j : Nat) (v : α) : Nat → Nat → α := fun q2 => if q2 = q then (fun k => if k = j then v else f q k) else f q2
def xi (μ : xM) (q j : Nat) (v : Int32) : xM := (xup μ.1 q j v, μ.2)
def xl (μ : xM) (q j : Nat) (v : Int64) : xM := (μ.1, xup μ.2 q j v)
def uS (x y : Int32) : Int32 := (x.toUInt32 >>> (y.toUInt32 &&& Int32.toUInt32 31)).toInt32
def lU (x : Int64) (y : Int32) : Int64 := (x.toUInt64 >>> (y.toInt64.toUInt64 &&& Int64.toUInt64 63)).toInt64
def lL (x : Int64) (y : Int32) : Int64 := x <<< (y.toInt64 &&& 63)
def kdL : List Nat := [9, 7, 0, 11, 11, 11, 11, 11, 11, 11, 11, 1, 5, 11, 11, 11, 2, 13, 7, 0, 11, 11, 11, 11, 11, 11, 11, 11, 1, 5, 11, 11, 11, 7, 0, 11, 11, 11, 11, 11, 11, 11, 11, 1, 5, 11, 11, 11, 7, 0, 11, 11, 11, 11, 11, 11, 11, 11, 1, 5, 11, 11, 11, 7, 0, 11, 11, 11, 11, 11, 11, 11, 11, 1, 5, 11, 11, 11, 7, 0, 11, 11, 11, 11, 11, 11, 11, 11, 1, 5, 11, 11, 11, 4, 5, 6, 12, 12, 11, 11, 8, 11, 3, 11, 10, 11, 11, 11, 11, 11, 11, 11, 11, 11, 12, 12, 11, 11, 11, 11]
def lnL : List Nat := [0, 0, 0, 6, 6, 6, 6, 6, 6, 6, 6, 0, 0, 12, 12, 12, 0, 5, 0, 0, 6, 6, 6, 6, 6, 6, 6, 6, 0, 0, 12, 12, 12, 0, 0, 6, 6, 6, 6, 6, 6, 6, 6, 0, 0, 12, 12, 12, 0, 0, 6, 6, 6, 6, 6, 6, 6, 6, 0, 0, 12, 12, 12, 0, 0, 6, 6, 6, 6, 6, 6, 6, 6, 0, 0, 12, 12, 12, 0, 0, 6, 6, 6, 6, 6, 6, 6, 6, 0, 0, 12, 12, 12, 0, 0, 0, 1024, 1024, 1024, 64, 0, 150, 0, 4, 0, 131, 131, 655, 3, 16, 16, 6, 6, 6, 720, 720, 720, 150, 80, 320]
def rtL : List (List Nat) := [[1, 16, 93, 100, 102, 0, 0, 0], [2, 11, 0], [0, 3, 4, 5, 6, 7, 8, 9, 10], [], [], [], [], [], [], [], [], [12, 0, 0, 0, 13, 14, 15], [], [], [], [], [17, 0, 0], [18, 33, 48, 63, 78], [19, 28, 0], [0, 20, 21, 22, 23, 24, 25, 26, 27], [], [], [], [], [], [], [], [], [29, 0, 0, 0, 30, 31, 32], [], [], [], [], [34, 43, 0], [0, 35, 36, 37, 38, 39, 40, 41, 42], [], [], [], [], [], [], [], [], [44, 0, 0, 0, 45, 46, 47], [], [], [], [], [49, 58, 0], [0, 50, 51, 52, 53, 54, 55, 56, 57], [], [], [], [], [], [], [], [], [59, 0, 0, 0, 60, 61, 62], [], [], [], [], [64, 73, 0], [0, 65, 66, 67, 68, 69, 70, 71, 72], [], [], [], [], [], [], [], [], [74, 0, 0, 0, 75, 76, 77], [], [], [], [], [79, 88, 0], [0, 80, 81, 82, 83, 84, 85, 86, 87], [], [], [], [], [], [], [], [], [89, 0, 0, 0, 90, 91, 92], [], [], [], [], [2, 94, 95, 99, 0, 0, 0, 0, 0, 0, 0], [], [96, 97, 98, 0, 0], [], [], [], [], [101, 0], [], [0, 103, 0, 0, 0, 0, 0, 0, 0, 0], [], [105, 106, 107, 0, 108, 109, 110, 0, 111, 112, 0, 0, 113, 114, 115, 116, 117, 0, 0, 0, 0, 118, 119, 0], [], [], [], [], [], [], [], [], [], [], [], [], [], [], []]
def kd (q : Nat) : Nat := kdL.getD q 99
def ln (q : Nat) : Nat := lnL.getD q 0
def rt (q j : Nat) : Nat := (rtL.getD q []).getD j 0
def xfl (ad : Nat → Nat) (r : Nat → Nat) (f : Nat → Int32) (g : Nat → Int64) (k : Nat) : List Value := match k with
  | 0 => [.int (f 0), .ref (ad (r 1)), .ref (ad (r 2)), .ref (ad (r 3)), .ref (ad (r 4)), .ref (ad (r 5)), .ref (ad (r 6)), .ref (ad (r 7)), .ref (ad (r 8))]
  | 1 => [.ref (ad (r 0)), .int (f 1), .int (f 2), .int (f 3), .ref (ad (r 4)), .ref (ad (r 5)), .ref (ad (r 6))]
  | 2 => [.ref (ad (r 0)), .int (f 1), .int (f 2)]
  | 3 => [.int (f 0), .ref (ad (r 1)), .int (f 2), .int (f 3), .int (f 4), .int (f 5), .int (f 6), .int (f 7), .int (f 8), .int (f 9)]
  | 4 => [.ref (ad (r 0)), .ref (ad (r 1)), .ref (ad (r 2)), .ref (ad (r 3)), .int (f 4), .int (f 5), .long (g 6), .int (f 7), .int (f 8), .int (f 9), .long (g 10)]
  | 5 => [.long (g 0), .long (g 1), .int (f 2)]
  | 6 => [.ref (ad (r 0)), .ref (ad (r 1)), .ref (ad (r 2)), .int (f 3), .int (f 4)]
  | 7 => [.ref (ad (r 0)), .ref (ad (r 1)), .long (g 2)]
  | 8 => [.ref (ad (r 0)), .int (f 1)]
  | 9 => [.ref (ad (r 0)), .ref (ad (r 1)), .ref (ad (r 2)), .ref (ad (r 3)), .ref (ad (r 4)), .int (f 5), .int (f 6), .int (f 7)]
  | 10 => [.ref (ad (r 0)), .ref (ad (r 1)), .ref (ad (r 2)), .int (f 3), .ref (ad (r 4)), .ref (ad (r 5)), .ref (ad (r 6)), .int (f 7), .ref (ad (r 8)), .ref (ad (r 9)), .int (f 10), .int (f 11), .ref (ad (r 12)), .ref (ad (r 13)), .ref (ad (r 14)), .ref (ad (r 15)), .ref (ad (r 16)), .int (f 17), .int (f 18), .int (f 19), .int (f 20), .ref (ad (r 21)), .ref (ad (r 22)), .long (g 23)]
  | _ => []
abbrev xE : Type := va_G × (ClassId × ClassId × ClassId)
abbrev xty (E : xE) : List (ClassId × FieldType) := [(E.2.1, .int), (E.2.2.1, .long), (E.2.2.2, .object "WetPrints$State")]
def xcl (E : xE) (ad : Nat → Nat) (r : Nat → Nat) (k n : Nat) (f : Nat → Int32) (g : Nat → Int64) : va_E := match k with
  | 11 => .inl (E.2.1, n, .inl f)
  | 12 => .inl (E.2.2.1, n, .inr (.inl g))
  | 13 => .inl (E.2.2.2, n, .inr (.inr (.inr (.inr (fun j => some (ad (r j)))))))
  | k => .inr (k, xfl ad r f g k)
def xw (E : xE) (ad : Nat → Nat) (μ : xM) : va_W := (List.range 120).map (fun q => (ad q, xcl E ad (rt q) (kd q) (ln q) (μ.1 q) (μ.2 q)))
theorem xw_at {E : xE} {ad : Nat → Nat} {μ : xM} {q : Nat} (hq : q < 120) : (xw E ad μ)[q]? = some (ad q, xcl E ad (rt q) (kd q) (ln q) (μ.1 q) (μ.2 q)) := by
  unfold xw
  rw [List.getElem?_map, List.getElem?_range hq]
  rfl
theorem xw_no {E : xE} {ad : Nat → Nat} {μ : xM} {q : Nat} (hq : ¬ q < 120) : (xw E ad μ)[q]? = none := by
  unfold xw
  rw [List.getElem?_map, List.getElem?_eq_none (by rw [List.length_range]; omega)]
  rfl
theorem xw_set {E : xE} {ad : Nat → Nat} {μ ν : xM} {q : Nat} (hq : q < 120) {x : va_E} (hx : x = xcl E ad (rt q) (kd q) (ln q) (ν.1 q) (ν.2 q)) (h1 : ∀ i, i ≠ q → ν.1 i = μ.1 i) (h2 : ∀ i, i ≠ q → ν.2 i = μ.2 i) : (xw E ad μ).set q (ad q, x) = xw E ad ν := by
  apply List.ext_getElem?
  intro i
  rw [List.getElem?_set]
  by_cases hi : q = i
  · subst hi
    rw [xw_at hq, hx]
    simp [xw, hq]
  · rw [if_neg hi]
    by_cases hl : i < 120
    · rw [xw_at hl, xw_at hl, h1 i (Ne.symm hi), h2 i (Ne.symm hi)]
    · rw [xw_no hl, xw_no hl]
theorem kd_lt {q : Nat} (h : kd q < 14) : q < 120 := by
  rcases Nat.lt_or_ge q 120 with h1 | h1
  · exact h1
  · exfalso
    have : kd q = 99 := by
      unfold kd
      rw [List.getD_eq_getElem?_getD, List.getElem?_eq_none (Nat.le_trans (Nat.le_of_ble_eq_true rfl) h1)]
      rfl
    omega
theorem kd_all {p : Nat → Prop} {K : Nat} (hK : K < 14) (h : ∀ q, q < 120 → kd q = K → p q) (q : Nat) (hq : kd q = K) : p q := h q (kd_lt (by omega)) hq
theorem xcl_o {E : xE} {ad r : Nat → Nat} {k n : Nat} {f : Nat → Int32} {g : Nat → Int64} (h : k < 11) : xcl E ad r k n f g = .inr (k, xfl ad r f g k) := by
  unfold xcl
  split
  · omega
  · omega
  · omega
  · rfl
theorem xu_s {α : Type} {f : Nat → Nat → α} {q j : Nat} {v : α} : xup f q j v q = fun k => if k = j then v else f q k := by simp [xup]
theorem xu_n {α : Type} {f : Nat → Nat → α} {q j i : Nat} {v : α} (h : i ≠ q) : xup f q j v i = f i := by simp [xup, h]
def xA (ad : Nat → Nat) (sz : Nat) : Nat → Prop := fun a => (∃ q, q < 120 ∧ a = ad q) ∨ sz ≤ a
def xH (E : xE) (ad : Nat → Nat) (A : Nat → Prop) (H0 : Heap) (μ : xM) (H : Heap) (locs : List Loc) : Prop := va_P E.1 vwCl (xw E ad μ) H ∧ va_D A (xw E ad μ) ∧ va_S A H0 H locs
/-- the one nest mate's word that is needed: Cells.moved calls WetPrints.within -/
def xN (U : State) : Prop := va_Nw (.methodLinkNest RX1 28 yX11_within "WetPrints") U
def xPre (E : xE) (ad : Nat → Nat) (sz : Nat) (μ : xM) (U : State) : Prop := U.heap.size = sz ∧ va_P E.1 vwCl (xw E ad μ) U.heap ∧ va_K E.1 vwCl (xty E) U ∧ va_D (fun _ => True) (xw E ad μ) ∧ xN U
def xPost (E : xE) (ad : Nat → Nat) (sz : Nat) (μ : xM) (t : State) : Prop := va_P E.1 vwCl (xw E ad μ) t.heap ∧ va_D (xA ad sz) (xw E ad μ)
def xG (E : xE) (p : Program) (s : State) (m : MethodId) (args : Array Value) (meth : Method) (c : Code) (cc : ByteArray) (nL : Nat) (own : String) : Prop :=
  p.tables.exec = Jvm.exec ∧ c.code = cc ∧ c.maxLocals = nL ∧ s.vm.findClass own = some m.cls ∧ (∀ w ∈ wsL_law, w.before args s = true) ∧ va_K E.1 vwCl (xty E) s ∧ xN s ∧ meth.locks = false
/-- contracts: any start with the memory μ; the answer and the memory behind it as Q says; nothing made, nothing else changed -/
def xMi (l : Launch) (y : MethodName) (ws : List Cond) (rm : Room) (E : xE) (ad : Nat → Nat) (μ : xM) (av : List Value) (Qm : Int32 → xM → Prop) : Prop := ∀ sz : Nat, Met l y ws rm (va_Pc av (xPre E ad sz μ)) (va_Qi Qm (xPost E ad sz) (xA ad sz)) 0 0 (xA ad sz)
def xMl (l : Launch) (y : MethodName) (ws : List Cond) (rm : Room) (E : xE) (ad : Nat → Nat) (μ : xM) (av : List Value) (Qm : Int64 → xM → Prop) : Prop := ∀ sz : Nat, Met l y ws rm (va_Pc av (xPre E ad sz μ)) (va_Ql Qm (xPost E ad sz) (xA ad sz)) 0 0 (xA ad sz)
def xMv (l : Launch) (y : MethodName) (ws : List Cond) (rm : Room) (E : xE) (ad : Nat → Nat) (μ : xM) (av : List Value) (Qm : xM → Prop) : Prop := ∀ sz : Nat, Met l y ws rm (va_Pc av (xPre E ad sz μ)) (va_Qv Qm (xPost E ad sz) (xA ad sz)) 0 0 (xA ad sz)
/-- an answer that is null or a cell, by its number -/
def xQq (ad : Nat → Nat) (Qm : Option Nat → xM → Prop) : Option Nat → xM → Prop := fun a μ => ∃ o : Option Nat, a = o.map ad ∧ Qm o μ
def xMq (l : Launch) (y : MethodName) (ws : List Cond) (rm : Room) (E : xE) (ad : Nat → Nat) (μ : xM) (av : List Value) (Qm : Option Nat → xM → Prop) : Prop := ∀ sz : Nat, Met l y ws rm (va_Pc av (xPre E ad sz μ)) (va_Qq (xQq ad Qm) (xPost E ad sz) (xA ad sz)) 0 0 (xA ad sz)
theorem xPre_blind {E : xE} {ad : Nat → Nat} {sz : Nat} {μ : xM} {av : List Value} : FrameBlind (va_Pc av (xPre E ad sz μ)) := by
  intro a U g mk q
  obtain ⟨q0, q1, qP, qK, qD, qN⟩ := q
  exact ⟨q0, q1, qP, va_K.moved (u := U) (U := U.calling g mk a) (Vm.Alike.refl U.vm) qK, qD, va_Nw.same (u := U) (U := U.calling g mk a) rfl rfl qN⟩
theorem xA_of {E : xE} {ad : Nat → Nat} {A : Nat → Prop} {H0 H : Heap} {μ : xM} {locs : List Loc} (hH : xH E ad A H0 μ H locs) (hA : ∀ a, H0.size ≤ a → A a) (a : Nat) (h : xA ad H.size a) : A a := by
  rcases h with ⟨q, hq, rfl⟩ | h
  · exact hH.2.1.2 q _ (xw_at hq)
  · exact hA a (Nat.le_trans hH.2.2.1 h)
theorem xD_self {E : xE} {ad : Nat → Nat} {A : Nat → Prop} {μ : xM} {sz : Nat} (h : va_D A (xw E ad μ)) : va_D (xA ad sz) (xw E ad μ) := by
  refine ⟨h.1, fun k q hk => ?_⟩
  by_cases hl : k < 120
  · rw [xw_at hl] at hk
    cases hk
    exact Or.inl ⟨k, hl, rfl⟩
  · rw [xw_no hl] at hk
    cases hk
section XR
variable {E : xE} {ad : Nat → Nat} {A : Nat → Prop} {H0 : Heap} {μ : xM}
variable {p : Program} {l : Launch} {e : Env} {R : Room} {s : State} {m : MethodId} {args : Array Value} {below : List Frame} {meth : Method} {c : Code} {H : Heap} {locs : List Loc} {cells slots : Nat} {Q : State → Prop}
variable {cc : ByteArray} {nL : Nat} {own : String} {pc : Nat} {ls : Array Slot} {rest st0 : List Value}
/-- getfield -/
theorem x_get (G : xG E p s m args meth c cc nL own) (hH : xH E ad A H0 μ H locs) {q K j index N : Nat} {C : String} {T : u_T} {v : Value} (hk : kd q = K) (hK : K < 11) (hcl : vwCl[K]? = some (C, T, N)) (hin : ∀ w ∈ u_ws C T N, w ∈ wsL_law) (hj : j < N) (hlink : (Cond.fieldLink own index (T j).1 (T j).2.1 (T j).2.2.1) ∈ wsL_law) (hv : (xfl ad (rt q) (μ.1 q) (μ.2 q) K)[j]? = some v) (hdg : decode cc pc = .ok (.getfield index, 3))
    (kk : W p l e R s m args below meth c H locs cells slots Q (F0 m (pc + 3) ls (v :: rest))) : W p l e R s m args below meth c H locs cells slots Q (F0 m pc ls (.ref (ad q) :: rest)) := by
  obtain ⟨hx, hb, hml, hown, hts, hKn, hN, hlk⟩ := G
  subst hk
  exact va_get hx hb hts hin hown hKn hH.1 q (by rw [xw_at (kd_lt (by omega)), xcl_o hK]) hcl j hj (hts _ hlink) (fun _ h => h) hv hdg kk
/-- putfield of an int (of a boolean: hn) -/
theorem x_puti (G : xG E p s m args meth c cc nL own) (hH : xH E ad A H0 μ H locs) {q K j index N : Nat} {C : String} {T : u_T} {ty : FieldType} {v : Int32} (hk : kd q = K) (hK : K < 11) (hcl : vwCl[K]? = some (C, T, N)) (hin : ∀ w ∈ u_ws C T N, w ∈ wsL_law) (ty0 : Nat → FieldType) (hty : ∀ k, k < N → parseFieldDescriptor (T k).2.2.1 = some (ty0 k)) (hnm : ∀ a, a < N → ∀ b, b < N → a ≠ b → (T a).2.1 ≠ (T b).2.1) (hj : j < N) (hlink : (Cond.fieldLink own index (T j).1 (T j).2.1 (T j).2.2.1) ∈ wsL_law) (hfin : (T j).2.2.2 = false) (hd : parseFieldDescriptor (T j).2.2.1 = some ty) (hn : narrow ty (.int v) = .int v) (hfit : fits ty (.int v) = true) (hlen : ∀ (f : Nat → Int32) (g : Nat → Int64), j < (xfl ad (rt q) f g K).length) (hset : ∀ (f : Nat → Int32) (g : Nat → Int64), (xfl ad (rt q) f g K).set j (.int v) = xfl ad (rt q) (fun k => if k = j then v else f k) g K)
    (hdg : decode cc pc = .ok (.putfield index, 3)) (kk : ∀ (ν : xM), ν = xi μ q j v → ∀ (H1 : Heap) (locs1 : List Loc), xH E ad A H0 ν H1 locs1 → W p l e R s m args below meth c H1 locs1 cells slots Q (F0 m (pc + 3) ls rest)) : W p l e R s m args below meth c H locs cells slots Q (F0 m pc ls (.int v :: .ref (ad q) :: rest)) := by
  obtain ⟨hx, hb, hml, hown, hts, hKn, hN, hlk⟩ := G
  subst hk
  have hq : q < 120 := kd_lt (by omega)
  have hs : (xw E ad μ).set q (ad q, .inr (kd q, (xfl ad (rt q) (μ.1 q) (μ.2 q) (kd q)).set j (.int v))) = xw E ad (xi μ q j v) :=
    xw_set hq (by rw [xcl_o hK, hset]; simp only [xi, xu_s]) (fun i hi => by simp only [xi, xu_n hi]) (fun i hi => rfl)
  refine va_put hx hb hts hin ty0 hty hnm hown hKn hH.1 hH.2.1 hH.2.2 q (by rw [xw_at hq, xcl_o hK]) hcl j hj (hts _ hlink) (fun _ h => h) hfin hd hn hfit (hlen _ _) hdg (fun H1 locs1 hP hD hS => ?_)
  rw [hs] at hP hD
  exact kk _ rfl H1 locs1 ⟨hP, hD, hS⟩
/-- putfield of a long -/
theorem x_putl (G : xG E p s m args meth c cc nL own) (hH : xH E ad A H0 μ H locs) {q K j index N : Nat} {C : String} {T : u_T} {v : Int64} (hk : kd q = K) (hK : K < 11) (hcl : vwCl[K]? = some (C, T, N)) (hin : ∀ w ∈ u_ws C T N, w ∈ wsL_law) (ty0 : Nat → FieldType) (hty : ∀ k, k < N → parseFieldDescriptor (T k).2.2.1 = some (ty0 k)) (hnm : ∀ a, a < N → ∀ b, b < N → a ≠ b → (T a).2.1 ≠ (T b).2.1) (hj : j < N) (hlink : (Cond.fieldLink own index (T j).1 (T j).2.1 (T j).2.2.1) ∈ wsL_law) (hfin : (T j).2.2.2 = false) (hd : parseFieldDescriptor (T j).2.2.1 = some .long) (hlen : ∀ (f : Nat → Int32) (g : Nat → Int64), j < (xfl ad (rt q) f g K).length) (hset : ∀ (f : Nat → Int32) (g : Nat → Int64), (xfl ad (rt q) f g K).set j (.long v) = xfl ad (rt q) f (fun k => if k = j then v else g k) K)
    (hdg : decode cc pc = .ok (.putfield index, 3)) (kk : ∀ (ν : xM), ν = xl μ q j v → ∀ (H1 : Heap) (locs1 : List Loc), xH E ad A H0 ν H1 locs1 → W p l e R s m args below meth c H1 locs1 cells slots Q (F0 m (pc + 3) ls rest)) : W p l e R s m args below meth c H locs cells slots Q (F0 m pc ls (.long v :: .ref (ad q) :: rest)) := by
  obtain ⟨hx, hb, hml, hown, hts, hKn, hN, hlk⟩ := G
  subst hk
  have hq : q < 120 := kd_lt (by omega)
  have hs : (xw E ad μ).set q (ad q, .inr (kd q, (xfl ad (rt q) (μ.1 q) (μ.2 q) (kd q)).set j (.long v))) = xw E ad (xl μ q j v) :=
    xw_set hq (by rw [xcl_o hK, hset]; simp only [xl, xu_s]) (fun i hi => rfl) (fun i hi => by simp only [xl, xu_n hi])
  refine va_put hx hb hts hin ty0 hty hnm hown hKn hH.1 hH.2.1 hH.2.2 q (by rw [xw_at hq, xcl_o hK]) hcl j hj (hts _ hlink) (fun _ h => h) hfin hd rfl rfl (hlen _ _) hdg (fun H1 locs1 hP hD hS => ?_)
  rw [hs] at hP hD
  exact kk _ rfl H1 locs1 ⟨hP, hD, hS⟩
theorem xa_i {q : Nat} (hk : kd q = 11) : (xw E ad μ)[q]? = some (ad q, .inl (E.2.1, ln q, .inl (μ.1 q))) := by
  rw [xw_at (kd_lt (by omega)), hk]
  rfl
theorem xa_l {q : Nat} (hk : kd q = 12) : (xw E ad μ)[q]? = some (ad q, .inl (E.2.2.1, ln q, .inr (.inl (μ.2 q)))) := by
  rw [xw_at (kd_lt (by omega)), hk]
  rfl
theorem xa_q {q : Nat} (hk : kd q = 13) : (xw E ad μ)[q]? = some (ad q, .inl (E.2.2.2, ln q, .inr (.inr (.inr (.inr (fun j => some (ad (rt q j)))))))) := by
  rw [xw_at (kd_lt (by omega)), hk]
  rfl
theorem x_iald (G : xG E p s m args meth c cc nL own) (hH : xH E ad A H0 μ H locs) {q : Nat} (hk : kd q = 11) {i : Int32} (hin : vp_in i (ln q)) (hdg : decode cc pc = .ok (.iaload, 1))
    (kk : W p l e R s m args below meth c H locs cells slots Q (F0 m (pc + 1) ls (.int (μ.1 q i.toNatClampNeg) :: rest))) : W p l e R s m args below meth c H locs cells slots Q (F0 m pc ls (.int i :: .ref (ad q) :: rest)) := va_iald G.1 G.2.1 G.2.2.2.2.2.1 hH.1 q 0 (xa_i hk) rfl hin hdg kk
theorem x_lald (G : xG E p s m args meth c cc nL own) (hH : xH E ad A H0 μ H locs) {q : Nat} (hk : kd q = 12) {i : Int32} (hin : vp_in i (ln q)) (hdg : decode cc pc = .ok (.laload, 1))
    (kk : W p l e R s m args below meth c H locs cells slots Q (F0 m (pc + 1) ls (.long (μ.2 q i.toNatClampNeg) :: rest))) : W p l e R s m args below meth c H locs cells slots Q (F0 m pc ls (.int i :: .ref (ad q) :: rest)) := va_lald G.1 G.2.1 G.2.2.2.2.2.1 hH.1 q 1 (xa_l hk) rfl hin hdg kk
theorem x_alen (G : xG E p s m args meth c cc nL own) (hH : xH E ad A H0 μ H locs) {q : Nat} (hk : kd q = 11) {v : Int32} (hv : Int32.ofNat (ln q) = v) (hdg : decode cc pc = .ok (.arraylength, 1))
    (kk : W p l e R s m args below meth c H locs cells slots Q (F0 m (pc + 1) ls (.int v :: rest))) : W p l e R s m args below meth c H locs cells slots Q (F0 m pc ls (.ref (ad q) :: rest)) := va_alen G.1 G.2.1 G.2.2.2.2.2.1 hH.1 q 0 (xa_i hk) rfl hv hdg kk
theorem x_alenq (G : xG E p s m args meth c cc nL own) (hH : xH E ad A H0 μ H locs) {q : Nat} (hk : kd q = 13) {v : Int32} (hv : Int32.ofNat (ln q) = v) (hdg : decode cc pc = .ok (.arraylength, 1))
    (kk : W p l e R s m args below meth c H locs cells slots Q (F0 m (pc + 1) ls (.int v :: rest))) : W p l e R s m args below meth c H locs cells slots Q (F0 m pc ls (.ref (ad q) :: rest)) := va_alen G.1 G.2.1 G.2.2.2.2.2.1 hH.1 q 2 (xa_q hk) rfl hv hdg kk
theorem x_aald (G : xG E p s m args meth c cc nL own) (hH : xH E ad A H0 μ H locs) {q : Nat} (hk : kd q = 13) {i : Int32} (hin : vp_in i (ln q)) (hdg : decode cc pc = .ok (.aaload, 1))
    (kk : W p l e R s m args below meth c H locs cells slots Q (F0 m (pc + 1) ls (.ref (ad (rt q i.toNatClampNeg)) :: rest))) : W p l e R s m args below meth c H locs cells slots Q (F0 m pc ls (.int i :: .ref (ad q) :: rest)) := va_aldq G.1 G.2.1 G.2.2.2.2.2.1 hH.1 q 2 (xa_q hk) rfl hin hdg kk
theorem x_iast (G : xG E p s m args meth c cc nL own) (hH : xH E ad A H0 μ H locs) {q : Nat} (hk : kd q = 11) {i v : Int32} (hin : vp_in i (ln q)) (hdg : decode cc pc = .ok (.iastore, 1))
    (kk : ∀ (ν : xM), ν = xi μ q i.toNatClampNeg v → ∀ (H1 : Heap) (locs1 : List Loc), xH E ad A H0 ν H1 locs1 → W p l e R s m args below meth c H1 locs1 cells slots Q (F0 m (pc + 1) ls rest)) : W p l e R s m args below meth c H locs cells slots Q (F0 m pc ls (.int v :: .int i :: .ref (ad q) :: rest)) := by
  have hs : (xw E ad μ).set q (ad q, .inl (E.2.1, ln q, .inl (upd (μ.1 q) i.toNatClampNeg v))) = xw E ad (xi μ q i.toNatClampNeg v) :=
    xw_set (kd_lt (by omega)) (by rw [hk]; simp only [xi, xu_s]; rfl) (fun i hi => by simp only [xi, xu_n hi]) (fun i hi => rfl)
  refine va_iast G.1 G.2.1 G.2.2.2.2.2.1 hH.1 hH.2.1 hH.2.2 q 0 (xa_i hk) rfl hin hdg (fun H1 locs1 hP hD hS => ?_)
  rw [hs] at hP hD
  exact kk _ rfl H1 locs1 ⟨hP, hD, hS⟩
theorem x_last (G : xG E p s m args meth c cc nL own) (hH : xH E ad A H0 μ H locs) {q : Nat} (hk : kd q = 12) {i : Int32} {v : Int64} (hin : vp_in i (ln q)) (hdg : decode cc pc = .ok (.lastore, 1))
    (kk : ∀ (ν : xM), ν = xl μ q i.toNatClampNeg v → ∀ (H1 : Heap) (locs1 : List Loc), xH E ad A H0 ν H1 locs1 → W p l e R s m args below meth c H1 locs1 cells slots Q (F0 m (pc + 1) ls rest)) : W p l e R s m args below meth c H locs cells slots Q (F0 m pc ls (.long v :: .int i :: .ref (ad q) :: rest)) := by
  have hs : (xw E ad μ).set q (ad q, .inl (E.2.2.1, ln q, .inr (.inl (vp_updL (μ.2 q) i.toNatClampNeg v)))) = xw E ad (xl μ q i.toNatClampNeg v) :=
    xw_set (kd_lt (by omega)) (by rw [hk]; simp only [xl, xu_s]; rfl) (fun i hi => rfl) (fun i hi => by simp only [xl, xu_n hi])
  refine va_last G.1 G.2.1 G.2.2.2.2.2.1 hH.1 hH.2.1 hH.2.2 q 1 (xa_l hk) rfl hin hdg (fun H1 locs1 hP hD hS => ?_)
  rw [hs] at hP hD
  exact kk _ rfl H1 locs1 ⟨hP, hD, hS⟩

theorem x_cVi (G : xG E p s m args meth c cc nL own) (hH : xH E ad A H0 μ H locs) (hA : ∀ a, H0.size ≤ a → A a) {q K N : Nat} {C : String} {T : u_T} {y : MethodName} {bytes : ByteArray} {maxL n index : Nat} {ret : Option FieldType} {rm : Room} {As : List Value} {Qm : Int32 → xM → Prop} (hM : xMi l y (Cond.code y bytes maxL ret :: wsL_law) rm E ad μ (.ref (ad q) :: As) Qm) (hl : .methodLink own index y ∈ wsL_law) (hi : .instanceMethod y ∈ wsL_law) (hse : .selects C y y ∈ wsL_law) (hini : .initialized C ∈ wsL_law) (hco : Cond.code y bytes maxL ret ∈ wsL_law) (hcy : y.cls = C) (hd : y.cls ≠ "java/lang/invoke/MethodHandle" ∧ y.cls ≠ "java/lang/invoke/VarHandle" ∧ (parseMethodDescriptor y.desc).map (fun d => d.parameters.length) = some n) (hRm : rm.cells = 0 ∧ rm.slots = 0 ∧ rm.frames + 1 ≤ R.frames ∧ 8 + (maxL + 11) + rm.locals ≤ R.locals) (hk : kd q = K) (hK : K < 11) (hcl : vwCl[K]? = some (C, T, N)) (hn : As.length = n) (hsz : ls.size = nL) (hst : st0 = As.reverse ++ .ref (ad q) :: rest) (hW : (rest.map fun v => v.category).sum ≤ 8) (hdg : decode cc pc = .ok (.invokevirtual index, 3)) (hf : cells ≤ R.cells ∧ slots ≤ R.slots)
    (kk : ∀ (r : Int32) (ν : xM), Qm r ν → ∀ (H1 : Heap) (locs1 : List Loc), xH E ad A H0 ν H1 locs1 → W p l e R s m args below meth c H1 locs1 cells slots Q (F0 m (pc + 3) ls (.int r :: rest))) : W p l e R s m args below meth c H locs cells slots Q (F0 m pc ls st0) := by
  obtain ⟨hx, hb, hml, hown, hts, hKn, hN, hlk⟩ := G
  refine va_calli (va_runV (b := ad q) (As := As) (rest := rest) ⟨hx, hb, hml, hown, hts⟩ (hM H.size) (cwV n hts (xg_V hl hi hse hini hco) rfl hRm.1 hRm.2.1 ⟨hcy, hd⟩ hRm.2.2) ⟨xPre_blind, va_recv hKn hH.1 (ci := K) (q0 := q) hcl (by subst hk; rw [xw_at (kd_lt (by omega)), xcl_o hK]), fun U hU hW => ⟨rfl, by rw [hU], by rw [hU]; exact hH.1, va_K.moved hW.alike hKn, hH.2.1.weaken (fun _ _ _ _ => trivial), va_Nw.warmM hW hN⟩⟩ rfl hn hsz hst (lv_room hW) hdg hf) hH.2.2 (fun a _ h => xA_of hH hA a h) (fun a h => xA_of hH hA a h) (fun r ν t H1 locs1 ht hvm hw hB hz1 hk1 hS => ?_)
  exact kk r ν hw H1 locs1 ⟨ht ▸ hB.1, hB.2.weaken (fun _ x _ h => xA_of hH hA x.1 h), hS⟩
theorem x_cSi (G : xG E p s m args meth c cc nL own) (hH : xH E ad A H0 μ H locs) (hA : ∀ a, H0.size ≤ a → A a) {y : MethodName} {bytes : ByteArray} {maxL n index : Nat} {ret : Option FieldType} {rm : Room} {As : List Value} {Qm : Int32 → xM → Prop} (hM : xMi l y (Cond.code y bytes maxL ret :: wsL_law) rm E ad μ As Qm) (hl : .methodLink own index y ∈ wsL_law) (hst0 : .static y ∈ wsL_law) (hini : .initialized y.cls ∈ wsL_law) (hco : Cond.code y bytes maxL ret ∈ wsL_law) (hd : y.cls ≠ "java/lang/invoke/MethodHandle" ∧ y.cls ≠ "java/lang/invoke/VarHandle" ∧ (parseMethodDescriptor y.desc).map (fun d => d.parameters.length) = some n) (hRm : rm.cells = 0 ∧ rm.slots = 0 ∧ rm.frames + 1 ≤ R.frames ∧ 8 + (maxL + 11) + rm.locals ≤ R.locals) (hn : As.length = n) (hsz : ls.size = nL) (hst : st0 = As.reverse ++ rest) (hW : (rest.map fun v => v.category).sum ≤ 8) (hdg : decode cc pc = .ok (.invokestatic index, 3)) (hf : cells ≤ R.cells ∧ slots ≤ R.slots)
    (kk : ∀ (r : Int32) (ν : xM), Qm r ν → ∀ (H1 : Heap) (locs1 : List Loc), xH E ad A H0 ν H1 locs1 → W p l e R s m args below meth c H1 locs1 cells slots Q (F0 m (pc + 3) ls (.int r :: rest))) : W p l e R s m args below meth c H locs cells slots Q (F0 m pc ls st0) := by
  obtain ⟨hx, hb, hml, hown, hts, hKn, hN, hlk⟩ := G
  refine va_calli (va_runS (As := As) (rest := rest) ⟨hx, hb, hml, hown, hts⟩ (hM H.size) (va_cwS n hts (xg_S hl hst0 hini hco) rfl hRm.1 hRm.2.1 hd hRm.2.2) ⟨xPre_blind, fun U hU hW => ⟨rfl, by rw [hU], by rw [hU]; exact hH.1, va_K.moved hW.alike hKn, hH.2.1.weaken (fun _ _ _ _ => trivial), va_Nw.warmM hW hN⟩⟩ rfl hn hsz hst (lv_room hW) hdg hf) hH.2.2 (fun a _ h => xA_of hH hA a h) (fun a h => xA_of hH hA a h) (fun r ν t H1 locs1 ht hvm hw hB hz1 hk1 hS => ?_)
  exact kk r ν hw H1 locs1 ⟨ht ▸ hB.1, hB.2.weaken (fun _ x _ h => xA_of hH hA x.1 h), hS⟩
theorem x_cNi (G : xG E p s m args meth c cc nL own) (hH : xH E ad A H0 μ H locs) (hA : ∀ a, H0.size ≤ a → A a) {host : String} {y : MethodName} {bytes : ByteArray} {maxL n index : Nat} {ret : Option FieldType} {rm : Room} {As : List Value} {Qm : Int32 → xM → Prop} (hM : xMi l y (Cond.code y bytes maxL ret :: wsL_law) rm E ad μ As Qm) (hl : va_Nw (.methodLinkNest own index y host) s) (hst0 : .static y ∈ wsL_law) (hini : .initialized y.cls ∈ wsL_law) (hco : Cond.code y bytes maxL ret ∈ wsL_law) (hd : y.cls ≠ "java/lang/invoke/MethodHandle" ∧ y.cls ≠ "java/lang/invoke/VarHandle" ∧ (parseMethodDescriptor y.desc).map (fun d => d.parameters.length) = some n) (hRm : rm.cells = 0 ∧ rm.slots = 0 ∧ rm.frames + 1 ≤ R.frames ∧ 8 + (maxL + 11) + rm.locals ≤ R.locals) (hn : As.length = n) (hsz : ls.size = nL) (hst : st0 = As.reverse ++ rest) (hW : (rest.map fun v => v.category).sum ≤ 8) (hdg : decode cc pc = .ok (.invokestatic index, 3)) (hf : cells ≤ R.cells ∧ slots ≤ R.slots)
    (kk : ∀ (r : Int32) (ν : xM), Qm r ν → ∀ (H1 : Heap) (locs1 : List Loc), xH E ad A H0 ν H1 locs1 → W p l e R s m args below meth c H1 locs1 cells slots Q (F0 m (pc + 3) ls (.int r :: rest))) : W p l e R s m args below meth c H locs cells slots Q (F0 m pc ls st0) := by
  obtain ⟨hx, hb, hml, hown, hts, hKn, hN, hlk⟩ := G
  refine va_calli (va_runSN (As := As) (rest := rest) ⟨hx, hb, hml, hown, hts⟩ (hM H.size) ⟨va_cnB n hts (xg_C hco) rfl hRm.1 hRm.2.1 hl (hts _ hini) hd hRm.2.2, hts _ hst0, trivial⟩ ⟨xPre_blind, fun U hU hW => ⟨rfl, by rw [hU], by rw [hU]; exact hH.1, va_K.moved hW.alike hKn, hH.2.1.weaken (fun _ _ _ _ => trivial), va_Nw.warmM hW hN⟩⟩ rfl hn hsz hst (lv_room hW) hdg hf) hH.2.2 (fun a _ h => xA_of hH hA a h) (fun a h => xA_of hH hA a h) (fun r ν t H1 locs1 ht hvm hw hB hz1 hk1 hS => ?_)
  exact kk r ν hw H1 locs1 ⟨ht ▸ hB.1, hB.2.weaken (fun _ x _ h => xA_of hH hA x.1 h), hS⟩
theorem x_cVl (G : xG E p s m args meth c cc nL own) (hH : xH E ad A H0 μ H locs) (hA : ∀ a, H0.size ≤ a → A a) {q K N : Nat} {C : String} {T : u_T} {y : MethodName} {bytes : ByteArray} {maxL n index : Nat} {ret : Option FieldType} {rm : Room} {As : List Value} {Qm : Int64 → xM → Prop} (hM : xMl l y (Cond.code y bytes maxL ret :: wsL_law) rm E ad μ (.ref (ad q) :: As) Qm) (hl : .methodLink own index y ∈ wsL_law) (hi : .instanceMethod y ∈ wsL_law) (hse : .selects C y y ∈ wsL_law) (hini : .initialized C ∈ wsL_law) (hco : Cond.code y bytes maxL ret ∈ wsL_law) (hcy : y.cls = C) (hd : y.cls ≠ "java/lang/invoke/MethodHandle" ∧ y.cls ≠ "java/lang/invoke/VarHandle" ∧ (parseMethodDescriptor y.desc).map (fun d => d.parameters.length) = some n) (hRm : rm.cells = 0 ∧ rm.slots = 0 ∧ rm.frames + 1 ≤ R.frames ∧ 8 + (maxL + 11) + rm.locals ≤ R.locals) (hk : kd q = K) (hK : K < 11) (hcl : vwCl[K]? = some (C, T, N)) (hn : As.length = n) (hsz : ls.size = nL) (hst : st0 = As.reverse ++ .ref (ad q) :: rest) (hW : (rest.map fun v => v.category).sum ≤ 8) (hdg : decode cc pc = .ok (.invokevirtual index, 3)) (hf : cells ≤ R.cells ∧ slots ≤ R.slots)
    (kk : ∀ (r : Int64) (ν : xM), Qm r ν → ∀ (H1 : Heap) (locs1 : List Loc), xH E ad A H0 ν H1 locs1 → W p l e R s m args below meth c H1 locs1 cells slots Q (F0 m (pc + 3) ls (.long r :: rest))) : W p l e R s m args below meth c H locs cells slots Q (F0 m pc ls st0) := by
  obtain ⟨hx, hb, hml, hown, hts, hKn, hN, hlk⟩ := G
  refine va_calll (va_runV (b := ad q) (As := As) (rest := rest) ⟨hx, hb, hml, hown, hts⟩ (hM H.size) (cwV n hts (xg_V hl hi hse hini hco) rfl hRm.1 hRm.2.1 ⟨hcy, hd⟩ hRm.2.2) ⟨xPre_blind, va_recv hKn hH.1 (ci := K) (q0 := q) hcl (by subst hk; rw [xw_at (kd_lt (by omega)), xcl_o hK]), fun U hU hW => ⟨rfl, by rw [hU], by rw [hU]; exact hH.1, va_K.moved hW.alike hKn, hH.2.1.weaken (fun _ _ _ _ => trivial), va_Nw.warmM hW hN⟩⟩ rfl hn hsz hst (lv_room hW) hdg hf) hH.2.2 (fun a _ h => xA_of hH hA a h) (fun a h => xA_of hH hA a h) (fun r ν t H1 locs1 ht hvm hw hB hz1 hk1 hS => ?_)
  exact kk r ν hw H1 locs1 ⟨ht ▸ hB.1, hB.2.weaken (fun _ x _ h => xA_of hH hA x.1 h), hS⟩
theorem x_cSl (G : xG E p s m args meth c cc nL own) (hH : xH E ad A H0 μ H locs) (hA : ∀ a, H0.size ≤ a → A a) {y : MethodName} {bytes : ByteArray} {maxL n index : Nat} {ret : Option FieldType} {rm : Room} {As : List Value} {Qm : Int64 → xM → Prop} (hM : xMl l y (Cond.code y bytes maxL ret :: wsL_law) rm E ad μ As Qm) (hl : .methodLink own index y ∈ wsL_law) (hst0 : .static y ∈ wsL_law) (hini : .initialized y.cls ∈ wsL_law) (hco : Cond.code y bytes maxL ret ∈ wsL_law) (hd : y.cls ≠ "java/lang/invoke/MethodHandle" ∧ y.cls ≠ "java/lang/invoke/VarHandle" ∧ (parseMethodDescriptor y.desc).map (fun d => d.parameters.length) = some n) (hRm : rm.cells = 0 ∧ rm.slots = 0 ∧ rm.frames + 1 ≤ R.frames ∧ 8 + (maxL + 11) + rm.locals ≤ R.locals) (hn : As.length = n) (hsz : ls.size = nL) (hst : st0 = As.reverse ++ rest) (hW : (rest.map fun v => v.category).sum ≤ 8) (hdg : decode cc pc = .ok (.invokestatic index, 3)) (hf : cells ≤ R.cells ∧ slots ≤ R.slots)
    (kk : ∀ (r : Int64) (ν : xM), Qm r ν → ∀ (H1 : Heap) (locs1 : List Loc), xH E ad A H0 ν H1 locs1 → W p l e R s m args below meth c H1 locs1 cells slots Q (F0 m (pc + 3) ls (.long r :: rest))) : W p l e R s m args below meth c H locs cells slots Q (F0 m pc ls st0) := by
  obtain ⟨hx, hb, hml, hown, hts, hKn, hN, hlk⟩ := G
  refine va_calll (va_runS (As := As) (rest := rest) ⟨hx, hb, hml, hown, hts⟩ (hM H.size) (va_cwS n hts (xg_S hl hst0 hini hco) rfl hRm.1 hRm.2.1 hd hRm.2.2) ⟨xPre_blind, fun U hU hW => ⟨rfl, by rw [hU], by rw [hU]; exact hH.1, va_K.moved hW.alike hKn, hH.2.1.weaken (fun _ _ _ _ => trivial), va_Nw.warmM hW hN⟩⟩ rfl hn hsz hst (lv_room hW) hdg hf) hH.2.2 (fun a _ h => xA_of hH hA a h) (fun a h => xA_of hH hA a h) (fun r ν t H1 locs1 ht hvm hw hB hz1 hk1 hS => ?_)
  exact kk r ν hw H1 locs1 ⟨ht ▸ hB.1, hB.2.weaken (fun _ x _ h => xA_of hH hA x.1 h), hS⟩
theorem x_cVv (G : xG E p s m args meth c cc nL own) (hH : xH E ad A H0 μ H locs) (hA : ∀ a, H0.size ≤ a → A a) {q K N : Nat} {C : String} {T : u_T} {y : MethodName} {bytes : ByteArray} {maxL n index : Nat} {ret : Option FieldType} {rm : Room} {As : List Value} {Qm : xM → Prop} (hM : xMv l y (Cond.code y bytes maxL ret :: wsL_law) rm E ad μ (.ref (ad q) :: As) Qm) (hl : .methodLink own index y ∈ wsL_law) (hi : .instanceMethod y ∈ wsL_law) (hse : .selects C y y ∈ wsL_law) (hini : .initialized C ∈ wsL_law) (hco : Cond.code y bytes maxL ret ∈ wsL_law) (hcy : y.cls = C) (hd : y.cls ≠ "java/lang/invoke/MethodHandle" ∧ y.cls ≠ "java/lang/invoke/VarHandle" ∧ (parseMethodDescriptor y.desc).map (fun d => d.parameters.length) = some n) (hRm : rm.cells = 0 ∧ rm.slots = 0 ∧ rm.frames + 1 ≤ R.frames ∧ 8 + (maxL + 11) + rm.locals ≤ R.locals) (hk : kd q = K) (hK : K < 11) (hcl : vwCl[K]? = some (C, T, N)) (hn : As.length = n) (hsz : ls.size = nL) (hst : st0 = As.reverse ++ .ref (ad q) :: rest) (hW : (rest.map fun v => v.category).sum ≤ 8) (hdg : decode cc pc = .ok (.invokevirtual index, 3)) (hf : cells ≤ R.cells ∧ slots ≤ R.slots)
    (kk : ∀ (ν : xM), Qm ν → ∀ (H1 : Heap) (locs1 : List Loc), xH E ad A H0 ν H1 locs1 → W p l e R s m args below meth c H1 locs1 cells slots Q (F0 m (pc + 3) ls rest)) : W p l e R s m args below meth c H locs cells slots Q (F0 m pc ls st0) := by
  obtain ⟨hx, hb, hml, hown, hts, hKn, hN, hlk⟩ := G
  refine va_callv (va_runV (b := ad q) (As := As) (rest := rest) ⟨hx, hb, hml, hown, hts⟩ (hM H.size) (cwV n hts (xg_V hl hi hse hini hco) rfl hRm.1 hRm.2.1 ⟨hcy, hd⟩ hRm.2.2) ⟨xPre_blind, va_recv hKn hH.1 (ci := K) (q0 := q) hcl (by subst hk; rw [xw_at (kd_lt (by omega)), xcl_o hK]), fun U hU hW => ⟨rfl, by rw [hU], by rw [hU]; exact hH.1, va_K.moved hW.alike hKn, hH.2.1.weaken (fun _ _ _ _ => trivial), va_Nw.warmM hW hN⟩⟩ rfl hn hsz hst (lv_room hW) hdg hf) hH.2.2 (fun a _ h => xA_of hH hA a h) (fun a h => xA_of hH hA a h) (fun ν t H1 locs1 ht hvm hw hB hz1 hk1 hS => ?_)
  exact kk ν hw H1 locs1 ⟨ht ▸ hB.1, hB.2.weaken (fun _ x _ h => xA_of hH hA x.1 h), hS⟩
theorem x_cSv (G : xG E p s m args meth c cc nL own) (hH : xH E ad A H0 μ H locs) (hA : ∀ a, H0.size ≤ a → A a) {y : MethodName} {bytes : ByteArray} {maxL n index : Nat} {ret : Option FieldType} {rm : Room} {As : List Value} {Qm : xM → Prop} (hM : xMv l y (Cond.code y bytes maxL ret :: wsL_law) rm E ad μ As Qm) (hl : .methodLink own index y ∈ wsL_law) (hst0 : .static y ∈ wsL_law) (hini : .initialized y.cls ∈ wsL_law) (hco : Cond.code y bytes maxL ret ∈ wsL_law) (hd : y.cls ≠ "java/lang/invoke/MethodHandle" ∧ y.cls ≠ "java/lang/invoke/VarHandle" ∧ (parseMethodDescriptor y.desc).map (fun d => d.parameters.length) = some n) (hRm : rm.cells = 0 ∧ rm.slots = 0 ∧ rm.frames + 1 ≤ R.frames ∧ 8 + (maxL + 11) + rm.locals ≤ R.locals) (hn : As.length = n) (hsz : ls.size = nL) (hst : st0 = As.reverse ++ rest) (hW : (rest.map fun v => v.category).sum ≤ 8) (hdg : decode cc pc = .ok (.invokestatic index, 3)) (hf : cells ≤ R.cells ∧ slots ≤ R.slots)
    (kk : ∀ (ν : xM), Qm ν → ∀ (H1 : Heap) (locs1 : List Loc), xH E ad A H0 ν H1 locs1 → W p l e R s m args below meth c H1 locs1 cells slots Q (F0 m (pc + 3) ls rest)) : W p l e R s m args below meth c H locs cells slots Q (F0 m pc ls st0) := by
  obtain ⟨hx, hb, hml, hown, hts, hKn, hN, hlk⟩ := G
  refine va_callv (va_runS (As := As) (rest := rest) ⟨hx, hb, hml, hown, hts⟩ (hM H.size) (va_cwS n hts (xg_S hl hst0 hini hco) rfl hRm.1 hRm.2.1 hd hRm.2.2) ⟨xPre_blind, fun U hU hW => ⟨rfl, by rw [hU], by rw [hU]; exact hH.1, va_K.moved hW.alike hKn, hH.2.1.weaken (fun _ _ _ _ => trivial), va_Nw.warmM hW hN⟩⟩ rfl hn hsz hst (lv_room hW) hdg hf) hH.2.2 (fun a _ h => xA_of hH hA a h) (fun a h => xA_of hH hA a h) (fun ν t H1 locs1 ht hvm hw hB hz1 hk1 hS => ?_)
  exact kk ν hw H1 locs1 ⟨ht ▸ hB.1, hB.2.weaken (fun _ x _ h => xA_of hH hA x.1 h), hS⟩
theorem x_cVq (G : xG E p s m args meth c cc nL own) (hH : xH E ad A H0 μ H locs) (hA : ∀ a, H0.size ≤ a → A a) {q K N : Nat} {C : String} {T : u_T} {y : MethodName} {bytes : ByteArray} {maxL n index : Nat} {ret : Option FieldType} {rm : Room} {As : List Value} {Qm : Option Nat → xM → Prop} (hM : xMq l y (Cond.code y bytes maxL ret :: wsL_law) rm E ad μ (.ref (ad q) :: As) Qm) (hl : .methodLink own index y ∈ wsL_law) (hi : .instanceMethod y ∈ wsL_law) (hse : .selects C y y ∈ wsL_law) (hini : .initialized C ∈ wsL_law) (hco : Cond.code y bytes maxL ret ∈ wsL_law) (hcy : y.cls = C) (hd : y.cls ≠ "java/lang/invoke/MethodHandle" ∧ y.cls ≠ "java/lang/invoke/VarHandle" ∧ (parseMethodDescriptor y.desc).map (fun d => d.parameters.length) = some n) (hRm : rm.cells = 0 ∧ rm.slots = 0 ∧ rm.frames + 1 ≤ R.frames ∧ 8 + (maxL + 11) + rm.locals ≤ R.locals) (hk : kd q = K) (hK : K < 11) (hcl : vwCl[K]? = some (C, T, N)) (hn : As.length = n) (hsz : ls.size = nL) (hst : st0 = As.reverse ++ .ref (ad q) :: rest) (hW : (rest.map fun v => v.category).sum ≤ 8) (hdg : decode cc pc = .ok (.invokevirtual index, 3)) (hf : cells ≤ R.cells ∧ slots ≤ R.slots)
    (kk : ∀ (o : Option Nat) (ν : xM), Qm o ν → ∀ (H1 : Heap) (locs1 : List Loc), xH E ad A H0 ν H1 locs1 → W p l e R s m args below meth c H1 locs1 cells slots Q (F0 m (pc + 3) ls (va_rf (o.map ad) :: rest))) : W p l e R s m args below meth c H locs cells slots Q (F0 m pc ls st0) := by
  obtain ⟨hx, hb, hml, hown, hts, hKn, hN, hlk⟩ := G
  refine va_callq (va_runV (b := ad q) (As := As) (rest := rest) ⟨hx, hb, hml, hown, hts⟩ (hM H.size) (cwV n hts (xg_V hl hi hse hini hco) rfl hRm.1 hRm.2.1 ⟨hcy, hd⟩ hRm.2.2) ⟨xPre_blind, va_recv hKn hH.1 (ci := K) (q0 := q) hcl (by subst hk; rw [xw_at (kd_lt (by omega)), xcl_o hK]), fun U hU hW => ⟨rfl, by rw [hU], by rw [hU]; exact hH.1, va_K.moved hW.alike hKn, hH.2.1.weaken (fun _ _ _ _ => trivial), va_Nw.warmM hW hN⟩⟩ rfl hn hsz hst (lv_room hW) hdg hf) hH.2.2 (fun a _ h => xA_of hH hA a h) (fun a h => xA_of hH hA a h) (fun r ν t H1 locs1 ht hvm hw hB hz1 hk1 hS => ?_)
  obtain ⟨o, rfl, hw⟩ := hw
  exact kk o ν hw H1 locs1 ⟨ht ▸ hB.1, hB.2.weaken (fun _ x _ h => xA_of hH hA x.1 h), hS⟩
theorem x_cSq (G : xG E p s m args meth c cc nL own) (hH : xH E ad A H0 μ H locs) (hA : ∀ a, H0.size ≤ a → A a) {y : MethodName} {bytes : ByteArray} {maxL n index : Nat} {ret : Option FieldType} {rm : Room} {As : List Value} {Qm : Option Nat → xM → Prop} (hM : xMq l y (Cond.code y bytes maxL ret :: wsL_law) rm E ad μ As Qm) (hl : .methodLink own index y ∈ wsL_law) (hst0 : .static y ∈ wsL_law) (hini : .initialized y.cls ∈ wsL_law) (hco : Cond.code y bytes maxL ret ∈ wsL_law) (hd : y.cls ≠ "java/lang/invoke/MethodHandle" ∧ y.cls ≠ "java/lang/invoke/VarHandle" ∧ (parseMethodDescriptor y.desc).map (fun d => d.parameters.length) = some n) (hRm : rm.cells = 0 ∧ rm.slots = 0 ∧ rm.frames + 1 ≤ R.frames ∧ 8 + (maxL + 11) + rm.locals ≤ R.locals) (hn : As.length = n) (hsz : ls.size = nL) (hst : st0 = As.reverse ++ rest) (hW : (rest.map fun v => v.category).sum ≤ 8) (hdg : decode cc pc = .ok (.invokestatic index, 3)) (hf : cells ≤ R.cells ∧ slots ≤ R.slots)
    (kk : ∀ (o : Option Nat) (ν : xM), Qm o ν → ∀ (H1 : Heap) (locs1 : List Loc), xH E ad A H0 ν H1 locs1 → W p l e R s m args below meth c H1 locs1 cells slots Q (F0 m (pc + 3) ls (va_rf (o.map ad) :: rest))) : W p l e R s m args below meth c H locs cells slots Q (F0 m pc ls st0) := by
  obtain ⟨hx, hb, hml, hown, hts, hKn, hN, hlk⟩ := G
  refine va_callq (va_runS (As := As) (rest := rest) ⟨hx, hb, hml, hown, hts⟩ (hM H.size) (va_cwS n hts (xg_S hl hst0 hini hco) rfl hRm.1 hRm.2.1 hd hRm.2.2) ⟨xPre_blind, fun U hU hW => ⟨rfl, by rw [hU], by rw [hU]; exact hH.1, va_K.moved hW.alike hKn, hH.2.1.weaken (fun _ _ _ _ => trivial), va_Nw.warmM hW hN⟩⟩ rfl hn hsz hst (lv_room hW) hdg hf) hH.2.2 (fun a _ h => xA_of hH hA a h) (fun a h => xA_of hH hA a h) (fun r ν t H1 locs1 ht hvm hw hB hz1 hk1 hS => ?_)
  obtain ⟨o, rfl, hw⟩ := hw
  exact kk o ν hw H1 locs1 ⟨ht ▸ hB.1, hB.2.weaken (fun _ x _ h => xA_of hH hA x.1 h), hS⟩
theorem x_sti {y : MethodName} {ws : List Cond} {rm : Room} {maxL : Nat} {ret : Option FieldType} {av : List Value} {Qm : Int32 → xM → Prop} (hcls : y.cls = own) (hy : plainName y.cls = true) (hw : ws = Cond.code y cc maxL ret :: wsL_law) (hlen : (lg_sl av).length ≤ maxL)
    (body : ∀ (p : Program) (e : Env) (s : State) (m : MethodId) (args : Array Value) (below : List Frame) (meth : Method) (c : Code) (ls : Array Slot), xG E p s m args meth c cc maxL own → meth.sig.returnType = ret → (∀ a, s.heap.size ≤ a → xA ad s.heap.size a) → xH E ad (xA ad s.heap.size) s.heap μ s.heap [] → lv_has ls maxL (lv_args 0 av) → W p l e (headSpec ws rm).room s m args below meth c s.heap [] 0 0 (MQ below (va_Qi Qm (xPost E ad s.heap.size) (xA ad s.heap.size)) args s 0 0 (xA ad s.heap.size)) (F0 m 0 ls [])) : xMi l y ws rm E ad μ av Qm := by
  intro sz
  refine Met.ofW (cc := cc) (maxL := maxL) (ret := ret) hy hw ?_
  intro p e s m args below meth c s₁ B hml hv
  obtain ⟨rfl, hsz, hP, hK, hD0, hN⟩ := hv
  subst hsz
  subst hcls
  have hl := lv_entry av (n := maxL) hlen
  rw [lg_entry_eq]
  exact body p e s m _ below meth c _ ⟨B.exec, B.bytes, hml, findClass_of_methodNamed B.named, fun w h => atoms_spec (ws := ws) B.pre w (by rw [hw]; exact List.mem_cons_of_mem _ h), hK, hN, B.notSynchronized⟩ B.returns (fun a h => Or.inr h) ⟨hP, xD_self hD0, va_S.rf⟩ hl
theorem x_stl {y : MethodName} {ws : List Cond} {rm : Room} {maxL : Nat} {ret : Option FieldType} {av : List Value} {Qm : Int64 → xM → Prop} (hcls : y.cls = own) (hy : plainName y.cls = true) (hw : ws = Cond.code y cc maxL ret :: wsL_law) (hlen : (lg_sl av).length ≤ maxL)
    (body : ∀ (p : Program) (e : Env) (s : State) (m : MethodId) (args : Array Value) (below : List Frame) (meth : Method) (c : Code) (ls : Array Slot), xG E p s m args meth c cc maxL own → meth.sig.returnType = ret → (∀ a, s.heap.size ≤ a → xA ad s.heap.size a) → xH E ad (xA ad s.heap.size) s.heap μ s.heap [] → lv_has ls maxL (lv_args 0 av) → W p l e (headSpec ws rm).room s m args below meth c s.heap [] 0 0 (MQ below (va_Ql Qm (xPost E ad s.heap.size) (xA ad s.heap.size)) args s 0 0 (xA ad s.heap.size)) (F0 m 0 ls [])) : xMl l y ws rm E ad μ av Qm := by
  intro sz
  refine Met.ofW (cc := cc) (maxL := maxL) (ret := ret) hy hw ?_
  intro p e s m args below meth c s₁ B hml hv
  obtain ⟨rfl, hsz, hP, hK, hD0, hN⟩ := hv
  subst hsz
  subst hcls
  have hl := lv_entry av (n := maxL) hlen
  rw [lg_entry_eq]
  exact body p e s m _ below meth c _ ⟨B.exec, B.bytes, hml, findClass_of_methodNamed B.named, fun w h => atoms_spec (ws := ws) B.pre w (by rw [hw]; exact List.mem_cons_of_mem _ h), hK, hN, B.notSynchronized⟩ B.returns (fun a h => Or.inr h) ⟨hP, xD_self hD0, va_S.rf⟩ hl
theorem x_stv {y : MethodName} {ws : List Cond} {rm : Room} {maxL : Nat} {ret : Option FieldType} {av : List Value} {Qm : xM → Prop} (hcls : y.cls = own) (hy : plainName y.cls = true) (hw : ws = Cond.code y cc maxL ret :: wsL_law) (hlen : (lg_sl av).length ≤ maxL)
    (body : ∀ (p : Program) (e : Env) (s : State) (m : MethodId) (args : Array Value) (below : List Frame) (meth : Method) (c : Code) (ls : Array Slot), xG E p s m args meth c cc maxL own → meth.sig.returnType = ret → (∀ a, s.heap.size ≤ a → xA ad s.heap.size a) → xH E ad (xA ad s.heap.size) s.heap μ s.heap [] → lv_has ls maxL (lv_args 0 av) → W p l e (headSpec ws rm).room s m args below meth c s.heap [] 0 0 (MQ below (va_Qv Qm (xPost E ad s.heap.size) (xA ad s.heap.size)) args s 0 0 (xA ad s.heap.size)) (F0 m 0 ls [])) : xMv l y ws rm E ad μ av Qm := by
  intro sz
  refine Met.ofW (cc := cc) (maxL := maxL) (ret := ret) hy hw ?_
  intro p e s m args below meth c s₁ B hml hv
  obtain ⟨rfl, hsz, hP, hK, hD0, hN⟩ := hv
  subst hsz
  subst hcls
  have hl := lv_entry av (n := maxL) hlen
  rw [lg_entry_eq]
  exact body p e s m _ below meth c _ ⟨B.exec, B.bytes, hml, findClass_of_methodNamed B.named, fun w h => atoms_spec (ws := ws) B.pre w (by rw [hw]; exact List.mem_cons_of_mem _ h), hK, hN, B.notSynchronized⟩ B.returns (fun a h => Or.inr h) ⟨hP, xD_self hD0, va_S.rf⟩ hl
theorem x_stq {y : MethodName} {ws : List Cond} {rm : Room} {maxL : Nat} {ret : Option FieldType} {av : List Value} {Qm : Option Nat → xM → Prop} (hcls : y.cls = own) (hy : plainName y.cls = true) (hw : ws = Cond.code y cc maxL ret :: wsL_law) (hlen : (lg_sl av).length ≤ maxL)
    (body : ∀ (p : Program) (e : Env) (s : State) (m : MethodId) (args : Array Value) (below : List Frame) (meth : Method) (c : Code) (ls : Array Slot), xG E p s m args meth c cc maxL own → meth.sig.returnType = ret → (∀ a, s.heap.size ≤ a → xA ad s.heap.size a) → xH E ad (xA ad s.heap.size) s.heap μ s.heap [] → lv_has ls maxL (lv_args 0 av) → W p l e (headSpec ws rm).room s m args below meth c s.heap [] 0 0 (MQ below (va_Qq (xQq ad Qm) (xPost E ad s.heap.size) (xA ad s.heap.size)) args s 0 0 (xA ad s.heap.size)) (F0 m 0 ls [])) : xMq l y ws rm E ad μ av Qm := by
  intro sz
  refine Met.ofW (cc := cc) (maxL := maxL) (ret := ret) hy hw ?_
  intro p e s m args below meth c s₁ B hml hv
  obtain ⟨rfl, hsz, hP, hK, hD0, hN⟩ := hv
  subst hsz
  subst hcls
  have hl := lv_entry av (n := maxL) hlen
  rw [lg_entry_eq]
  exact body p e s m _ below meth c _ ⟨B.exec, B.bytes, hml, findClass_of_methodNamed B.named, fun w h => atoms_spec (ws := ws) B.pre w (by rw [hw]; exact List.mem_cons_of_mem _ h), hK, hN, B.notSynchronized⟩ B.returns (fun a h => Or.inr h) ⟨hP, xD_self hD0, va_S.rf⟩ hl
theorem x_iret {Qm : Int32 → xM → Prop} {v : Int32} (G : xG E p s m args meth c cc nL own) (hr : meth.sig.returnType = some .int) (hH : xH E ad (xA ad s.heap.size) s.heap μ H locs) (hq : Qm v μ) (hdg : decode cc pc = .ok (.ireturn, 1)) : W p l e R s m args below meth c H locs cells slots (MQ below (va_Qi Qm (xPost E ad s.heap.size) (xA ad s.heap.size)) args s cells slots (xA ad s.heap.size)) (F0 m pc ls [.int v]) := by
  have hlk := G.2.2.2.2.2.2.2
  exact W.iret (v := v) G.1 G.2.1 hr (fun t ht hW => ⟨⟨v, μ, rfl, hq, by rw [ht]; exact hH.1, hH.2.1⟩, hH.2.2.F ht⟩) hH.2.2.2.2 hdg
theorem x_zret {Qm : Int32 → xM → Prop} {v : Int32} (G : xG E p s m args meth c cc nL own) (hr : meth.sig.returnType = some .boolean) (hH : xH E ad (xA ad s.heap.size) s.heap μ H locs) (hz : narrow .boolean (.int v) = .int v) (hq : Qm v μ) (hdg : decode cc pc = .ok (.ireturn, 1)) : W p l e R s m args below meth c H locs cells slots (MQ below (va_Qi Qm (xPost E ad s.heap.size) (xA ad s.heap.size)) args s cells slots (xA ad s.heap.size)) (F0 m pc ls [.int v]) := by
  have hlk := G.2.2.2.2.2.2.2
  exact W.zret (v := v) G.1 G.2.1 hr hz (fun t ht hW => ⟨⟨v, μ, rfl, hq, by rw [ht]; exact hH.1, hH.2.1⟩, hH.2.2.F ht⟩) hH.2.2.2.2 hdg
theorem x_lret {Qm : Int64 → xM → Prop} {v : Int64} (G : xG E p s m args meth c cc nL own) (hr : meth.sig.returnType = some .long) (hH : xH E ad (xA ad s.heap.size) s.heap μ H locs) (hq : Qm v μ) (hdg : decode cc pc = .ok (.lreturn, 1)) : W p l e R s m args below meth c H locs cells slots (MQ below (va_Ql Qm (xPost E ad s.heap.size) (xA ad s.heap.size)) args s cells slots (xA ad s.heap.size)) (F0 m pc ls [.long v]) := by
  have hlk := G.2.2.2.2.2.2.2
  exact W.lret (v := v) G.1 G.2.1 hr (fun t ht hW => ⟨⟨v, μ, rfl, hq, by rw [ht]; exact hH.1, hH.2.1⟩, hH.2.2.F ht⟩) hH.2.2.2.2 hdg
theorem x_vret {Qm : xM → Prop} (G : xG E p s m args meth c cc nL own) (hr : meth.sig.returnType = none) (hH : xH E ad (xA ad s.heap.size) s.heap μ H locs) (hq : Qm μ) (hdg : decode cc pc = .ok (.return_, 1)) : W p l e R s m args below meth c H locs cells slots (MQ below (va_Qv Qm (xPost E ad s.heap.size) (xA ad s.heap.size)) args s cells slots (xA ad s.heap.size)) (F0 m pc ls []) := by
  have hlk := G.2.2.2.2.2.2.2
  exact W.vret G.1 G.2.1 hr (fun t ht hW => ⟨⟨μ, rfl, hq, by rw [ht]; exact hH.1, hH.2.1⟩, hH.2.2.F ht⟩) hH.2.2.2.2 hdg
theorem x_aret {Qm : Option Nat → xM → Prop} {q : Nat} {C : String} (G : xG E p s m args meth c cc nL own) (hr : meth.sig.returnType = some (.object C)) (hH : xH E ad (xA ad s.heap.size) s.heap μ H locs) (hq : Qm (some q) μ) (hdg : decode cc pc = .ok (.areturn, 1)) : W p l e R s m args below meth c H locs cells slots (MQ below (va_Qq (xQq ad Qm) (xPost E ad s.heap.size) (xA ad s.heap.size)) args s cells slots (xA ad s.heap.size)) (F0 m pc ls [.ref (ad q)]) := by
  have hlk := G.2.2.2.2.2.2.2
  exact W.aret G.1 G.2.1 hr (Or.inl ⟨C, rfl⟩) (Or.inr ⟨_, rfl⟩) (fun t ht hW => ⟨⟨some (ad q), μ, rfl, ⟨some q, rfl, hq⟩, by rw [ht]; exact hH.1, hH.2.1⟩, hH.2.2.F ht⟩) hH.2.2.2.2 hdg
theorem x_nret {Qm : Option Nat → xM → Prop} {C : String} (G : xG E p s m args meth c cc nL own) (hr : meth.sig.returnType = some (.object C)) (hH : xH E ad (xA ad s.heap.size) s.heap μ H locs) (hq : Qm none μ) (hdg : decode cc pc = .ok (.areturn, 1)) : W p l e R s m args below meth c H locs cells slots (MQ below (va_Qq (xQq ad Qm) (xPost E ad s.heap.size) (xA ad s.heap.size)) args s cells slots (xA ad s.heap.size)) (F0 m pc ls [.null]) := by
  have hlk := G.2.2.2.2.2.2.2
  exact W.aret G.1 G.2.1 hr (Or.inl ⟨C, rfl⟩) (Or.inl rfl) (fun t ht hW => ⟨⟨none, μ, rfl, ⟨none, rfl, hq⟩, by rw [ht]; exact hH.1, hH.2.1⟩, hH.2.2.F ht⟩) hH.2.2.2.2 hdg
end XR
/-- 0 or 1, as a boolean answer must be -/
theorem xz_0 : narrow .boolean (.int 0) = .int 0 := rfl
theorem xz_1 : narrow .boolean (.int 1) = .int 1 := rfl
theorem kt_0_1 : ∀ q, kd q = 0 → kd (rt q 1) = 11 := kd_all (by decide) (by decide +kernel)
theorem kt_0_2 : ∀ q, kd q = 0 → kd (rt q 2) = 11 := kd_all (by decide) (by decide +kernel)
theorem kt_0_3 : ∀ q, kd q = 0 → kd (rt q 3) = 11 := kd_all (by decide) (by decide +kernel)
theorem kt_0_4 : ∀ q, kd q = 0 → kd (rt q 4) = 11 := kd_all (by decide) (by decide +kernel)
theorem kt_0_5 : ∀ q, kd q = 0 → kd (rt q 5) = 11 := kd_all (by decide) (by decide +kernel)
theorem kt_0_6 : ∀ q, kd q = 0 → kd (rt q 6) = 11 := kd_all (by decide) (by decide +kernel)
theorem kt_0_7 : ∀ q, kd q = 0 → kd (rt q 7) = 11 := kd_all (by decide) (by decide +kernel)
theorem kt_0_8 : ∀ q, kd q = 0 → kd (rt q 8) = 11 := kd_all (by decide) (by decide +kernel)
theorem kt_1_0 : ∀ q, kd q = 1 → kd (rt q 0) = 5 := kd_all (by decide) (by decide +kernel)
theorem kt_1_4 : ∀ q, kd q = 1 → kd (rt q 4) = 11 := kd_all (by decide) (by decide +kernel)
theorem kt_1_5 : ∀ q, kd q = 1 → kd (rt q 5) = 11 := kd_all (by decide) (by decide +kernel)
theorem kt_1_6 : ∀ q, kd q = 1 → kd (rt q 6) = 11 := kd_all (by decide) (by decide +kernel)
theorem kt_2_0 : ∀ q, kd q = 2 → kd (rt q 0) = 13 := kd_all (by decide) (by decide +kernel)
theorem kt_3_1 : ∀ q, kd q = 3 → kd (rt q 1) = 11 := kd_all (by decide) (by decide +kernel)
theorem kt_4_0 : ∀ q, kd q = 4 → kd (rt q 0) = 0 := kd_all (by decide) (by decide +kernel)
theorem kt_4_1 : ∀ q, kd q = 4 → kd (rt q 1) = 5 := kd_all (by decide) (by decide +kernel)
theorem kt_4_2 : ∀ q, kd q = 4 → kd (rt q 2) = 6 := kd_all (by decide) (by decide +kernel)
theorem kt_4_3 : ∀ q, kd q = 4 → kd (rt q 3) = 11 := kd_all (by decide) (by decide +kernel)
theorem kt_6_0 : ∀ q, kd q = 6 → kd (rt q 0) = 12 := kd_all (by decide) (by decide +kernel)
theorem kt_6_1 : ∀ q, kd q = 6 → kd (rt q 1) = 12 := kd_all (by decide) (by decide +kernel)
theorem kt_6_2 : ∀ q, kd q = 6 → kd (rt q 2) = 11 := kd_all (by decide) (by decide +kernel)
theorem kt_7_0 : ∀ q, kd q = 7 → kd (rt q 0) = 0 := kd_all (by decide) (by decide +kernel)
theorem kt_7_1 : ∀ q, kd q = 7 → kd (rt q 1) = 1 := kd_all (by decide) (by decide +kernel)
theorem kt_8_0 : ∀ q, kd q = 8 → kd (rt q 0) = 11 := kd_all (by decide) (by decide +kernel)
theorem kt_9_0 : ∀ q, kd q = 9 → kd (rt q 0) = 7 := kd_all (by decide) (by decide +kernel)
theorem kt_9_1 : ∀ q, kd q = 9 → kd (rt q 1) = 2 := kd_all (by decide) (by decide +kernel)
theorem kt_9_2 : ∀ q, kd q = 9 → kd (rt q 2) = 4 := kd_all (by decide) (by decide +kernel)
theorem kt_9_3 : ∀ q, kd q = 9 → kd (rt q 3) = 8 := kd_all (by decide) (by decide +kernel)
theorem kt_9_4 : ∀ q, kd q = 9 → kd (rt q 4) = 3 := kd_all (by decide) (by decide +kernel)
theorem kt_10_0 : ∀ q, kd q = 10 → kd (rt q 0) = 11 := kd_all (by decide) (by decide +kernel)
theorem kt_10_1 : ∀ q, kd q = 10 → kd (rt q 1) = 11 := kd_all (by decide) (by decide +kernel)
theorem kt_10_2 : ∀ q, kd q = 10 → kd (rt q 2) = 11 := kd_all (by decide) (by decide +kernel)
theorem kt_10_4 : ∀ q, kd q = 10 → kd (rt q 4) = 11 := kd_all (by decide) (by decide +kernel)
theorem kt_10_5 : ∀ q, kd q = 10 → kd (rt q 5) = 11 := kd_all (by decide) (by decide +kernel)
theorem kt_10_6 : ∀ q, kd q = 10 → kd (rt q 6) = 11 := kd_all (by decide) (by decide +kernel)
theorem kt_10_8 : ∀ q, kd q = 10 → kd (rt q 8) = 11 := kd_all (by decide) (by decide +kernel)
theorem kt_10_9 : ∀ q, kd q = 10 → kd (rt q 9) = 11 := kd_all (by decide) (by decide +kernel)
theorem kt_10_12 : ∀ q, kd q = 10 → kd (rt q 12) = 11 := kd_all (by decide) (by decide +kernel)
theorem kt_10_13 : ∀ q, kd q = 10 → kd (rt q 13) = 12 := kd_all (by decide) (by decide +kernel)
theorem kt_10_14 : ∀ q, kd q = 10 → kd (rt q 14) = 12 := kd_all (by decide) (by decide +kernel)
theorem kt_10_15 : ∀ q, kd q = 10 → kd (rt q 15) = 11 := kd_all (by decide) (by decide +kernel)
theorem kt_10_16 : ∀ q, kd q = 10 → kd (rt q 16) = 11 := kd_all (by decide) (by decide +kernel)
theorem kt_10_21 : ∀ q, kd q = 10 → kd (rt q 21) = 11 := kd_all (by decide) (by decide +kernel)
theorem kt_10_22 : ∀ q, kd q = 10 → kd (rt q 22) = 11 := kd_all (by decide) (by decide +kernel)
theorem mn_RX11 : Cond.initialized RX11 ∈ wsL_law := wm_1 _ (List.mem_of_getElem? (i := 2) rfl)
theorem mn_RX12 : Cond.initialized RX12 ∈ wsL_law := wm_1 _ (List.mem_of_getElem? (i := 5) rfl)
theorem mn_RX9 : Cond.initialized RX9 ∈ wsL_law := wm_1 _ (List.mem_of_getElem? (i := 14) rfl)
theorem mn_RX3 : Cond.initialized RX3 ∈ wsL_law := wm_1 _ (List.mem_of_getElem? (i := 18) rfl)
theorem mn_RX6 : Cond.initialized RX6 ∈ wsL_law := wm_1 _ (List.mem_of_getElem? (i := 22) rfl)
theorem mn_RX10 : Cond.initialized RX10 ∈ wsL_law := wm_2 _ (List.mem_of_getElem? (i := 3) rfl)
theorem mn_RX4 : Cond.initialized RX4 ∈ wsL_law := wm_2 _ (List.mem_of_getElem? (i := 7) rfl)
theorem mn_RX0 : Cond.initialized RX0 ∈ wsL_law := wm_2 _ (List.mem_of_getElem? (i := 17) rfl)
theorem mn_RX2 : Cond.initialized RX2 ∈ wsL_law := wm_2 _ (List.mem_of_getElem? (i := 21) rfl)
theorem mn_RX7 : Cond.initialized RX7 ∈ wsL_law := wm_3 _ (List.mem_of_getElem? (i := 18) rfl)
theorem mn_RX8 : Cond.initialized RX8 ∈ wsL_law := wm_5 _ (List.mem_of_getElem? (i := 0) rfl)
theorem mn_RX5 : Cond.initialized RX5 ∈ wsL_law := wm_9 _ (List.mem_of_getElem? (i := 1) rfl)
theorem mn_RX1 : Cond.initialized RX1 ∈ wsL_law := wm_10 _ (List.mem_of_getElem? (i := 8) rfl)
theorem mn_RJ6 : Cond.initialized RJ6 ∈ wsL_law := wm_12 _ (List.mem_of_getElem? (i := 9) rfl)
theorem mn_RJ13 : Cond.initialized RJ13 ∈ wsL_law := wm_21 _ (List.mem_of_getElem? (i := 15) rfl)
end
section
abbrev tX5_at : List Cond := Cond.code yX5_at cX5_at 2 (some .int) :: wsL_law
theorem mt_X5_at : Cond.static yX5_at ∈ wsL_law := (wm_10 _ (List.mem_of_getElem? (i := 4) rfl))
theorem mc_X5_at : Cond.code yX5_at cX5_at 2 (some .int) ∈ wsL_law := (wm_10 _ (List.mem_of_getElem? (i := 5) rfl))
theorem md_X5_at : yX5_at.cls ≠ "java/lang/invoke/MethodHandle" ∧ yX5_at.cls ≠ "java/lang/invoke/VarHandle" ∧ (parseMethodDescriptor yX5_at.desc).map (fun d => d.parameters.length) = some 2 := by decide +kernel
def p_X5_at (q1 : Nat) (p2 : Int32) (μ : xM) (Qm : Int32 → xM → Prop) : Prop := ((p2 < (0 : Int32) → Qm (0 : Int32) μ) ∧ (¬ p2 < (0 : Int32) → (((Int32.ofNat (ln q1)) ≤ p2 → Qm (0 : Int32) μ) ∧ (¬ (Int32.ofNat (ln q1)) ≤ p2 → (vp_in p2 (ln q1) ∧ Qm (μ.1 q1 p2.toNatClampNeg) μ)))))
set_option maxRecDepth 100000 in
set_option maxHeartbeats 4000000 in
theorem c_X5_at (l : Launch) (E : xE) (ad : Nat → Nat) (μ : xM) (q1 : Nat) (p2 : Int32) (hk_q1 : kd q1 = 11) (Qm : Int32 → xM → Prop) (hq : p_X5_at q1 p2 μ Qm) : xMi l yX5_at tX5_at ({ frames := 1, cells := 0, slots := 0, locals := 40 } : Room) E ad μ [.ref (ad q1), .int p2] Qm := by
  refine x_sti (cc := cX5_at) (maxL := 2) (ret := (some .int)) (own := RX5) rfl (by decide) rfl (Nat.le_of_ble_eq_true rfl) ?_
  intro p e s m args below meth c ls G hr hA hH hl
  obtain ⟨hx, hb, hml, hown, hts, hKn, hN, hlk⟩ := id G
  have hl : lv_has ls 2 [(0, .ref (ad q1)), (1, .int p2)] := hl
  have hH : xH E ad (xA ad s.heap.size) s.heap μ s.heap [] := hH
  unfold p_X5_at at hq
  refine lv_iload_n hx hb dX5_at_0 rfl (lv_at hl 1 rfl) ?_
  refine lv_if_lt (tgt := 16) hx hb dX5_at_1 (by decide) (fun c1 => ?_) (fun c1 => ?_)
  · have hq := hq.1 c1
    refine lv_iconst (v := (0 : Int32)) hx hb dX5_at_16 (by decide) ?_
    exact x_iret G hr hH hq dX5_at_17
  · have hq := hq.2 c1
    refine lv_iload_n hx hb dX5_at_4 rfl (lv_at hl 1 rfl) ?_
    refine lv_aload_n hx hb dX5_at_5 rfl (lv_at hl 0 rfl) ?_
    refine x_alen G hH hk_q1 rfl dX5_at_6 ?_
    refine lv_icmp_ge (tgt := 16) hx hb dX5_at_7 (by decide) (fun c2 => ?_) (fun c2 => ?_)
    · have hq := hq.1 c2
      refine lv_iconst (v := (0 : Int32)) hx hb dX5_at_16 (by decide) ?_
      exact x_iret G hr hH hq dX5_at_17
    · have hq := hq.2 c2
      refine lv_aload_n hx hb dX5_at_10 rfl (lv_at hl 0 rfl) ?_
      refine lv_iload_n hx hb dX5_at_11 rfl (lv_at hl 1 rfl) ?_
      refine x_iald G hH hk_q1 hq.1 dX5_at_12 ?_
      have hq := hq.2
      refine lv_goto (tgt := 17) hx hb dX5_at_13 (by decide) ?_
      exact x_iret G hr hH hq dX5_at_17

abbrev tX5_put : List Cond := Cond.code yX5_put cX5_put 3 none :: wsL_law
theorem mt_X5_put : Cond.static yX5_put ∈ wsL_law := (wm_9 _ (List.mem_of_getElem? (i := 21) rfl))
theorem mc_X5_put : Cond.code yX5_put cX5_put 3 none ∈ wsL_law := (wm_9 _ (List.mem_of_getElem? (i := 22) rfl))
theorem md_X5_put : yX5_put.cls ≠ "java/lang/invoke/MethodHandle" ∧ yX5_put.cls ≠ "java/lang/invoke/VarHandle" ∧ (parseMethodDescriptor yX5_put.desc).map (fun d => d.parameters.length) = some 3 := by decide +kernel
def p_X5_put (q1 : Nat) (p2 : Int32) (p3 : Int32) (μ : xM) (Qm : xM → Prop) : Prop := ((p2 < (0 : Int32) → Qm μ) ∧ (¬ p2 < (0 : Int32) → (((Int32.ofNat (ln q1)) ≤ p2 → Qm μ) ∧ (¬ (Int32.ofNat (ln q1)) ≤ p2 → (vp_in p2 (ln q1) ∧ ∀ μ3 : xM, μ3 = xi μ q1 p2.toNatClampNeg p3 → Qm μ3)))))
set_option maxRecDepth 100000 in
set_option maxHeartbeats 4000000 in
theorem c_X5_put (l : Launch) (E : xE) (ad : Nat → Nat) (μ : xM) (q1 : Nat) (p2 : Int32) (p3 : Int32) (hk_q1 : kd q1 = 11) (Qm : xM → Prop) (hq : p_X5_put q1 p2 p3 μ Qm) : xMv l yX5_put tX5_put ({ frames := 1, cells := 0, slots := 0, locals := 40 } : Room) E ad μ [.ref (ad q1), .int p2, .int p3] Qm := by
  refine x_stv (cc := cX5_put) (maxL := 3) (ret := none) (own := RX5) rfl (by decide) rfl (Nat.le_of_ble_eq_true rfl) ?_
  intro p e s m args below meth c ls G hr hA hH hl
  obtain ⟨hx, hb, hml, hown, hts, hKn, hN, hlk⟩ := id G
  have hl : lv_has ls 3 [(0, .ref (ad q1)), (1, .int p2), (2, .int p3)] := hl
  have hH : xH E ad (xA ad s.heap.size) s.heap μ s.heap [] := hH
  unfold p_X5_put at hq
  refine lv_iload_n hx hb dX5_put_0 rfl (lv_at hl 1 rfl) ?_
  refine lv_if_lt (tgt := 14) hx hb dX5_put_1 (by decide) (fun c1 => ?_) (fun c1 => ?_)
  · have hq := hq.1 c1
    exact x_vret G hr hH hq dX5_put_14
  · have hq := hq.2 c1
    refine lv_iload_n hx hb dX5_put_4 rfl (lv_at hl 1 rfl) ?_
    refine lv_aload_n hx hb dX5_put_5 rfl (lv_at hl 0 rfl) ?_
    refine x_alen G hH hk_q1 rfl dX5_put_6 ?_
    refine lv_icmp_ge (tgt := 14) hx hb dX5_put_7 (by decide) (fun c2 => ?_) (fun c2 => ?_)
    · have hq := hq.1 c2
      exact x_vret G hr hH hq dX5_put_14
    · have hq := hq.2 c2
      refine lv_aload_n hx hb dX5_put_10 rfl (lv_at hl 0 rfl) ?_
      refine lv_iload_n hx hb dX5_put_11 rfl (lv_at hl 1 rfl) ?_
      refine lv_iload_n hx hb dX5_put_12 rfl (lv_at hl 2 rfl) ?_
      refine x_iast G hH hk_q1 hq.1 dX5_put_13 (fun μ3 e_μ3 H locs hH => ?_)
      have hq := hq.2 μ3 e_μ3
      exact x_vret G hr hH hq dX5_put_14

abbrev tX5_copy : List Cond := Cond.code yX5_copy cX5_copy 3 none :: wsL_law
theorem mt_X5_copy : Cond.static yX5_copy ∈ wsL_law := (wm_9 _ (List.mem_of_getElem? (i := 0) rfl))
theorem mc_X5_copy : Cond.code yX5_copy cX5_copy 3 none ∈ wsL_law := (wm_9 _ (List.mem_of_getElem? (i := 2) rfl))
theorem md_X5_copy : yX5_copy.cls ≠ "java/lang/invoke/MethodHandle" ∧ yX5_copy.cls ≠ "java/lang/invoke/VarHandle" ∧ (parseMethodDescriptor yX5_copy.desc).map (fun d => d.parameters.length) = some 2 := by decide +kernel
def B_X5_copy_2 (q1 : Nat) (q2 : Nat) (a3 : Int32) (μ5 : xM) (K20 : xM → Prop) (K2b : Int32 → xM → Prop) : Prop := (((Int32.ofNat (ln q1)) ≤ a3 → K20  μ5) ∧ (¬ (Int32.ofNat (ln q1)) ≤ a3 → (((Int32.ofNat (ln q2)) ≤ a3 → K20  μ5) ∧ (¬ (Int32.ofNat (ln q2)) ≤ a3 → (vp_in a3 (ln q1) ∧ (vp_in a3 (ln q2) ∧ ∀ μ11 : xM, μ11 = xi μ5 q2 a3.toNatClampNeg (μ5.1 q1 a3.toNatClampNeg) → (∀ v12 : Int32, v12 = (a3 + (1 : Int32)) → K2b v12 μ11)))))))
def L_X5_copy_2 (q1 : Nat) (q2 : Nat) : Nat → Int32 → xM → (xM → Prop) → Prop
  | 0, _, _, _ => False
  | n + 1, a3, μ5, K20 => B_X5_copy_2 q1 q2 a3 μ5 K20 (fun x0 y => L_X5_copy_2 q1 q2 n x0 y K20)
def p_X5_copy (q1 : Nat) (q2 : Nat) (μ : xM) (Qm : xM → Prop) : Prop := (∃ n4 : Nat, L_X5_copy_2 q1 q2 n4 (0 : Int32) μ (fun  μ13 => Qm μ13))
set_option maxRecDepth 100000 in
set_option maxHeartbeats 4000000 in
theorem wb_X5_copy_2 {E : xE} {ad : Nat → Nat} {p : Program} {l : Launch} {e : Env} {s : State} {m : MethodId} {args : Array Value} {below : List Frame} {meth : Method} {c : Code} {Q : State → Prop} (G : xG E p s m args meth c cX5_copy 3 RX5) (hA : ∀ a, s.heap.size ≤ a → xA ad s.heap.size a) (q1 : Nat) (q2 : Nat) (hk_q1 : kd q1 = 11) (hk_q2 : kd q2 = 11) (a3 : Int32) (μ5 : xM) (K20 : xM → Prop) (K2b : Int32 → xM → Prop) (hq : B_X5_copy_2 q1 q2 a3 μ5 K20 K2b) {H : Heap} {locs : List Loc} {ls : Array Slot} (hH : xH E ad (xA ad s.heap.size) s.heap μ5 H locs) (hl : lv_has ls 3 [(0, .ref (ad q1)), (1, .ref (ad q2)), (2, .int a3)]) (kK20 : ∀ (μ6 : xM), K20  μ6 → ∀ (H : Heap) (locs : List Loc) (ls : Array Slot), xH E ad (xA ad s.heap.size) s.heap μ6 H locs → lv_has ls 3 [] → W p l e (headSpec tX5_copy ({ frames := 1, cells := 0, slots := 0, locals := 40 } : Room)).room s m args below meth c H locs 0 0 Q (F0 m 26 ls [])) (kK2b : ∀ (a7 : Int32) (μ8 : xM), K2b a7 μ8 → ∀ (H : Heap) (locs : List Loc) (ls : Array Slot), xH E ad (xA ad s.heap.size) s.heap μ8 H locs → lv_has ls 3 [(0, .ref (ad q1)), (1, .ref (ad q2)), (2, .int a7)] → W p l e (headSpec tX5_copy ({ frames := 1, cells := 0, slots := 0, locals := 40 } : Room)).room s m args below meth c H locs 0 0 Q (F0 m 2 ls [])) : W p l e (headSpec tX5_copy ({ frames := 1, cells := 0, slots := 0, locals := 40 } : Room)).room s m args below meth c H locs 0 0 Q (F0 m 2 ls []) := by
  obtain ⟨hx, hb, hml, hown, hts, hKn, hN, hlk⟩ := id G
  unfold B_X5_copy_2 at hq
  refine lv_iload_n hx hb dX5_copy_2 rfl (lv_at hl 2 rfl) ?_
  refine lv_aload_n hx hb dX5_copy_3 rfl (lv_at hl 0 rfl) ?_
  refine x_alen G hH hk_q1 rfl dX5_copy_4 ?_
  refine lv_icmp_ge (tgt := 26) hx hb dX5_copy_5 (by decide) (fun c9 => ?_) (fun c9 => ?_)
  · have hq := hq.1 c9
    exact kK20  μ5 hq _ _ _ hH (lv_sub hl [] rfl)
  · have hq := hq.2 c9
    refine lv_iload_n hx hb dX5_copy_8 rfl (lv_at hl 2 rfl) ?_
    refine lv_aload_n hx hb dX5_copy_9 rfl (lv_at hl 1 rfl) ?_
    refine x_alen G hH hk_q2 rfl dX5_copy_10 ?_
    refine lv_icmp_ge (tgt := 26) hx hb dX5_copy_11 (by decide) (fun c10 => ?_) (fun c10 => ?_)
    · have hq := hq.1 c10
      exact kK20  μ5 hq _ _ _ hH (lv_sub hl [] rfl)
    · have hq := hq.2 c10
      refine lv_aload_n hx hb dX5_copy_14 rfl (lv_at hl 1 rfl) ?_
      refine lv_iload_n hx hb dX5_copy_15 rfl (lv_at hl 2 rfl) ?_
      refine lv_aload_n hx hb dX5_copy_16 rfl (lv_at hl 0 rfl) ?_
      refine lv_iload_n hx hb dX5_copy_17 rfl (lv_at hl 2 rfl) ?_
      refine x_iald G hH hk_q1 hq.1 dX5_copy_18 ?_
      have hq := hq.2
      refine x_iast G hH hk_q2 hq.1 dX5_copy_19 (fun μ11 e_μ11 H locs hH => ?_)
      have hq := hq.2 μ11 e_μ11
      obtain ⟨v12, e_v12⟩ : ∃ y : Int32, y = (a3 + (1 : Int32)) := ⟨_, rfl⟩
      have hq := hq v12 e_v12
      refine lv_iinc (v := v12) (lv' := [(2, .int v12), (0, .ref (ad q1)), (1, .ref (ad q2))]) hx hb dX5_copy_20 hl (k := 2) rfl (by rw [e_v12]; rfl) (by decide) rfl (fun ls hl => ?_)
      refine lv_goto (tgt := 2) hx hb dX5_copy_23 (by decide) ?_
      exact kK2b v12 μ11 hq _ _ _ hH (lv_sub hl [1, 2, 0] rfl)
set_option maxRecDepth 100000 in
set_option maxHeartbeats 4000000 in
theorem w_X5_copy_2 {E : xE} {ad : Nat → Nat} {p : Program} {l : Launch} {e : Env} {s : State} {m : MethodId} {args : Array Value} {below : List Frame} {meth : Method} {c : Code} {Q : State → Prop} (G : xG E p s m args meth c cX5_copy 3 RX5) (hA : ∀ a, s.heap.size ≤ a → xA ad s.heap.size a) (q1 : Nat) (q2 : Nat) (hk_q1 : kd q1 = 11) (hk_q2 : kd q2 = 11) : ∀ (n : Nat) (a3 : Int32) (μ5 : xM) (K20 : xM → Prop) (hq : L_X5_copy_2 q1 q2 n a3 μ5 K20) (H : Heap) (locs : List Loc) (ls : Array Slot) (hH : xH E ad (xA ad s.heap.size) s.heap μ5 H locs) (hl : lv_has ls 3 [(0, .ref (ad q1)), (1, .ref (ad q2)), (2, .int a3)]) (kK20 : ∀ (μ6 : xM), K20  μ6 → ∀ (H : Heap) (locs : List Loc) (ls : Array Slot), xH E ad (xA ad s.heap.size) s.heap μ6 H locs → lv_has ls 3 [] → W p l e (headSpec tX5_copy ({ frames := 1, cells := 0, slots := 0, locals := 40 } : Room)).room s m args below meth c H locs 0 0 Q (F0 m 26 ls [])) , W p l e (headSpec tX5_copy ({ frames := 1, cells := 0, slots := 0, locals := 40 } : Room)).room s m args below meth c H locs 0 0 Q (F0 m 2 ls [])
  | 0, _, _, _, hq, _, _, _, _, _, _ => hq.elim
  | n + 1, a3, μ5, K20, hq, H, locs, ls, hH, hl, kK20 => wb_X5_copy_2 G hA q1 q2 hk_q1 hk_q2 a3 μ5 K20 _ hq hH hl kK20 (fun x0 y hq H locs ls hH hl => w_X5_copy_2 G hA q1 q2 hk_q1 hk_q2 n x0 y K20 hq H locs ls hH hl kK20)
set_option maxRecDepth 100000 in
set_option maxHeartbeats 4000000 in
theorem c_X5_copy (l : Launch) (E : xE) (ad : Nat → Nat) (μ : xM) (q1 : Nat) (q2 : Nat) (hk_q1 : kd q1 = 11) (hk_q2 : kd q2 = 11) (Qm : xM → Prop) (hq : p_X5_copy q1 q2 μ Qm) : xMv l yX5_copy tX5_copy ({ frames := 1, cells := 0, slots := 0, locals := 40 } : Room) E ad μ [.ref (ad q1), .ref (ad q2)] Qm := by
  refine x_stv (cc := cX5_copy) (maxL := 3) (ret := none) (own := RX5) rfl (by decide) rfl (Nat.le_of_ble_eq_true rfl) ?_
  intro p e s m args below meth c ls G hr hA hH hl
  obtain ⟨hx, hb, hml, hown, hts, hKn, hN, hlk⟩ := id G
  have hl : lv_has ls 3 [(0, .ref (ad q1)), (1, .ref (ad q2))] := hl
  have hH : xH E ad (xA ad s.heap.size) s.heap μ s.heap [] := hH
  unfold p_X5_copy at hq
  refine lv_iconst (v := (0 : Int32)) hx hb dX5_copy_0 (by decide) ?_
  refine lv_istore_n (lv' := [(2, .int (0 : Int32)), (0, .ref (ad q1)), (1, .ref (ad q2))]) hx hb dX5_copy_1 rfl hl (by decide) rfl (fun ls hl => ?_)
  obtain ⟨n4, hq⟩ := hq
  refine w_X5_copy_2 G hA q1 q2 hk_q1 hk_q2 n4 (0 : Int32) μ _ hq _ _ _ hH (lv_sub hl [1, 2, 0] rfl) (fun  μ13 hq H locs ls hH hl => ?_)
  exact x_vret G hr hH hq dX5_copy_26

abbrev tX11_within : List Cond := Cond.code yX11_within cX11_within 3 (some .boolean) :: wsL_law
theorem mt_X11_within : Cond.static yX11_within ∈ wsL_law := (wm_7 _ (List.mem_of_getElem? (i := 21) rfl))
theorem mc_X11_within : Cond.code yX11_within cX11_within 3 (some .boolean) ∈ wsL_law := (wm_7 _ (List.mem_of_getElem? (i := 22) rfl))
theorem md_X11_within : yX11_within.cls ≠ "java/lang/invoke/MethodHandle" ∧ yX11_within.cls ≠ "java/lang/invoke/VarHandle" ∧ (parseMethodDescriptor yX11_within.desc).map (fun d => d.parameters.length) = some 3 := by decide +kernel
def p_X11_within (p1 : Int32) (p2 : Int32) (p3 : Int32) (μ : xM) (Qm : Int32 → xM → Prop) : Prop := ((p1 < p2 → Qm (0 : Int32) μ) ∧ (¬ p1 < p2 → ((p3 < p1 → Qm (0 : Int32) μ) ∧ (¬ p3 < p1 → Qm (1 : Int32) μ))))
set_option maxRecDepth 100000 in
set_option maxHeartbeats 4000000 in
theorem c_X11_within (l : Launch) (E : xE) (ad : Nat → Nat) (μ : xM) (p1 : Int32) (p2 : Int32) (p3 : Int32) (Qm : Int32 → xM → Prop) (hq : p_X11_within p1 p2 p3 μ Qm) : xMi l yX11_within tX11_within ({ frames := 1, cells := 0, slots := 0, locals := 40 } : Room) E ad μ [.int p1, .int p2, .int p3] Qm := by
  refine x_sti (cc := cX11_within) (maxL := 3) (ret := (some .boolean)) (own := RX11) rfl (by decide) rfl (Nat.le_of_ble_eq_true rfl) ?_
  intro p e s m args below meth c ls G hr hA hH hl
  obtain ⟨hx, hb, hml, hown, hts, hKn, hN, hlk⟩ := id G
  have hl : lv_has ls 3 [(0, .int p1), (1, .int p2), (2, .int p3)] := hl
  have hH : xH E ad (xA ad s.heap.size) s.heap μ s.heap [] := hH
  unfold p_X11_within at hq
  refine lv_iload_n hx hb dX11_within_0 rfl (lv_at hl 0 rfl) ?_
  refine lv_iload_n hx hb dX11_within_1 rfl (lv_at hl 1 rfl) ?_
  refine lv_icmp_lt (tgt := 14) hx hb dX11_within_2 (by decide) (fun c1 => ?_) (fun c1 => ?_)
  · have hq := hq.1 c1
    refine lv_iconst (v := (0 : Int32)) hx hb dX11_within_14 (by decide) ?_
    exact x_zret G hr hH xz_0 hq dX11_within_15
  · have hq := hq.2 c1
    refine lv_iload_n hx hb dX11_within_5 rfl (lv_at hl 0 rfl) ?_
    refine lv_iload_n hx hb dX11_within_6 rfl (lv_at hl 2 rfl) ?_
    refine lv_icmp_gt (tgt := 14) hx hb dX11_within_7 (by decide) (fun c2 => ?_) (fun c2 => ?_)
    · have hq := hq.1 c2
      refine lv_iconst (v := (0 : Int32)) hx hb dX11_within_14 (by decide) ?_
      exact x_zret G hr hH xz_0 hq dX11_within_15
    · have hq := hq.2 c2
      refine lv_iconst (v := (1 : Int32)) hx hb dX11_within_10 (by decide) ?_
      refine lv_goto (tgt := 15) hx hb dX11_within_11 (by decide) ?_
      exact x_zret G hr hH xz_1 hq dX11_within_15

abbrev tX0_has : List Cond := Cond.code yX0_has cX0_has 2 (some .boolean) :: wsL_law
theorem mi_X0_has : Cond.instanceMethod yX0_has ∈ wsL_law := (wm_11 _ (List.mem_of_getElem? (i := 23) rfl))
theorem ms_X0_has : Cond.selects RX0 yX0_has yX0_has ∈ wsL_law := (wm_12 _ (List.mem_of_getElem? (i := 0) rfl))
theorem mc_X0_has : Cond.code yX0_has cX0_has 2 (some .boolean) ∈ wsL_law := (wm_12 _ (List.mem_of_getElem? (i := 1) rfl))
theorem md_X0_has : yX0_has.cls ≠ "java/lang/invoke/MethodHandle" ∧ yX0_has.cls ≠ "java/lang/invoke/VarHandle" ∧ (parseMethodDescriptor yX0_has.desc).map (fun d => d.parameters.length) = some 1 := by decide +kernel
def p_X0_has (q0 : Nat) (p1 : Int32) (μ : xM) (Qm : Int32 → xM → Prop) : Prop := ((p1 < (0 : Int32) → Qm (0 : Int32) μ) ∧ (¬ p1 < (0 : Int32) → (((μ.1 q0 0) ≤ p1 → Qm (0 : Int32) μ) ∧ (¬ (μ.1 q0 0) ≤ p1 → Qm (1 : Int32) μ))))
set_option maxRecDepth 100000 in
set_option maxHeartbeats 4000000 in
theorem c_X0_has (l : Launch) (E : xE) (ad : Nat → Nat) (μ : xM) (q0 : Nat) (p1 : Int32) (hk_q0 : kd q0 = 0) (Qm : Int32 → xM → Prop) (hq : p_X0_has q0 p1 μ Qm) : xMi l yX0_has tX0_has ({ frames := 1, cells := 0, slots := 0, locals := 40 } : Room) E ad μ [.ref (ad q0), .int p1] Qm := by
  refine x_sti (cc := cX0_has) (maxL := 2) (ret := (some .boolean)) (own := RX0) rfl (by decide) rfl (Nat.le_of_ble_eq_true rfl) ?_
  intro p e s m args below meth c ls G hr hA hH hl
  obtain ⟨hx, hb, hml, hown, hts, hKn, hN, hlk⟩ := id G
  have hl : lv_has ls 2 [(0, .ref (ad q0)), (1, .int p1)] := hl
  have hH : xH E ad (xA ad s.heap.size) s.heap μ s.heap [] := hH
  unfold p_X0_has at hq
  refine lv_iload_n hx hb dX0_has_0 rfl (lv_at hl 1 rfl) ?_
  refine lv_if_lt (tgt := 16) hx hb dX0_has_1 (by decide) (fun c1 => ?_) (fun c1 => ?_)
  · have hq := hq.1 c1
    refine lv_iconst (v := (0 : Int32)) hx hb dX0_has_16 (by decide) ?_
    exact x_zret G hr hH xz_0 hq dX0_has_17
  · have hq := hq.2 c1
    refine lv_iload_n hx hb dX0_has_4 rfl (lv_at hl 1 rfl) ?_
    refine lv_aload_n hx hb dX0_has_5 rfl (lv_at hl 0 rfl) ?_
    refine x_get (j := 0) (C := RX0) (T := TX0) (N := 9) (v := .int (μ.1 q0 0)) G hH hk_q0 (by decide) rfl inlX0 (by decide) (wm_3 _ (List.mem_of_getElem? (i := 3) rfl)) rfl dX0_has_6 ?_
    refine lv_icmp_ge (tgt := 16) hx hb dX0_has_9 (by decide) (fun c2 => ?_) (fun c2 => ?_)
    · have hq := hq.1 c2
      refine lv_iconst (v := (0 : Int32)) hx hb dX0_has_16 (by decide) ?_
      exact x_zret G hr hH xz_0 hq dX0_has_17
    · have hq := hq.2 c2
      refine lv_iconst (v := (1 : Int32)) hx hb dX0_has_12 (by decide) ?_
      refine lv_goto (tgt := 17) hx hb dX0_has_13 (by decide) ?_
      exact x_zret G hr hH xz_1 hq dX0_has_17

abbrev tX0_placeOf : List Cond := Cond.code yX0_placeOf cX0_placeOf 2 (some .int) :: wsL_law
theorem mi_X0_placeOf : Cond.instanceMethod yX0_placeOf ∈ wsL_law := (wm_12 _ (List.mem_of_getElem? (i := 4) rfl))
theorem ms_X0_placeOf : Cond.selects RX0 yX0_placeOf yX0_placeOf ∈ wsL_law := (wm_12 _ (List.mem_of_getElem? (i := 5) rfl))
theorem mc_X0_placeOf : Cond.code yX0_placeOf cX0_placeOf 2 (some .int) ∈ wsL_law := (wm_12 _ (List.mem_of_getElem? (i := 6) rfl))
theorem md_X0_placeOf : yX0_placeOf.cls ≠ "java/lang/invoke/MethodHandle" ∧ yX0_placeOf.cls ≠ "java/lang/invoke/VarHandle" ∧ (parseMethodDescriptor yX0_placeOf.desc).map (fun d => d.parameters.length) = some 1 := by decide +kernel
def p_X0_placeOf (q0 : Nat) (p1 : Int32) (μ : xM) (Qm : Int32 → xM → Prop) : Prop := (p_X5_at (rt q0 7) p1 μ (fun r2 μ1 => Qm r2 μ1))
set_option maxRecDepth 100000 in
set_option maxHeartbeats 4000000 in
theorem c_X0_placeOf (l : Launch) (E : xE) (ad : Nat → Nat) (μ : xM) (q0 : Nat) (p1 : Int32) (hk_q0 : kd q0 = 0) (Qm : Int32 → xM → Prop) (hq : p_X0_placeOf q0 p1 μ Qm) : xMi l yX0_placeOf tX0_placeOf ({ frames := 2, cells := 0, slots := 0, locals := 80 } : Room) E ad μ [.ref (ad q0), .int p1] Qm := by
  refine x_sti (cc := cX0_placeOf) (maxL := 2) (ret := (some .int)) (own := RX0) rfl (by decide) rfl (Nat.le_of_ble_eq_true rfl) ?_
  intro p e s m args below meth c ls G hr hA hH hl
  obtain ⟨hx, hb, hml, hown, hts, hKn, hN, hlk⟩ := id G
  have hl : lv_has ls 2 [(0, .ref (ad q0)), (1, .int p1)] := hl
  have hH : xH E ad (xA ad s.heap.size) s.heap μ s.heap [] := hH
  unfold p_X0_placeOf at hq
  refine lv_aload_n hx hb dX0_placeOf_0 rfl (lv_at hl 0 rfl) ?_
  refine x_get (j := 7) (C := RX0) (T := TX0) (N := 9) (v := .ref (ad (rt q0 7))) G hH hk_q0 (by decide) rfl inlX0 (by decide) (wm_3 _ (List.mem_of_getElem? (i := 11) rfl)) rfl dX0_placeOf_1 ?_
  refine lv_iload_n hx hb dX0_placeOf_4 rfl (lv_at hl 1 rfl) ?_
  refine x_cSi (As := [.ref (ad (rt q0 7)), .int p1]) (rest := []) G hH hA (c_X5_at l E ad μ (rt q0 7) p1 (kt_0_7 _ hk_q0) _ hq) (wm_10 _ (List.mem_of_getElem? (i := 3) rfl)) mt_X5_at mn_RX5 mc_X5_at md_X5_at ⟨rfl, rfl, Nat.le_of_ble_eq_true rfl, Nat.le_of_ble_eq_true rfl⟩ rfl hl.1 rfl (Nat.le_of_ble_eq_true rfl) dX0_placeOf_5 ⟨Nat.zero_le _, Nat.zero_le _⟩ (fun r2 μ1 hq H locs hH => ?_)
  exact x_iret G hr hH hq dX0_placeOf_8

abbrev tX1_moved : List Cond := Cond.code yX1_moved cX1_moved 8 (some .int) :: wsL_law
theorem mt_X1_moved : Cond.static yX1_moved ∈ wsL_law := (wm_10 _ (List.mem_of_getElem? (i := 7) rfl))
theorem mc_X1_moved : Cond.code yX1_moved cX1_moved 8 (some .int) ∈ wsL_law := (wm_10 _ (List.mem_of_getElem? (i := 9) rfl))
theorem md_X1_moved : yX1_moved.cls ≠ "java/lang/invoke/MethodHandle" ∧ yX1_moved.cls ≠ "java/lang/invoke/VarHandle" ∧ (parseMethodDescriptor yX1_moved.desc).map (fun d => d.parameters.length) = some 3 := by decide +kernel
def J_X1_moved_53 (a1 : Int32) (a2 : Int32) (a3 : Int32) (a24 : Int32) (a25 : Int32) (a26 : Int32) (a27 : Int32) (a28 : Int32) (μ29 : xM) (K50 : Int32 → xM → Prop) (K5b : Int32 → Int32 → xM → Prop) : Prop := ((a28 = (0 : Int32) → (∀ v31 : Int32, v31 = (a26 + (1 : Int32)) → K5b v31 a27 μ29)) ∧ (¬ a28 = (0 : Int32) → ((¬ ((uS a1 a26) &&& (1 : Int32)) = (1 : Int32) → (∀ v33 : Int32, v33 = (a26 + (1 : Int32)) → K5b v33 a27 μ29)) ∧ (((uS a1 a26) &&& (1 : Int32)) = (1 : Int32) → (∀ v34 : Int32, v34 = (a27 ||| ((1 : Int32) <<< (((a24 * (4 : Int32)) + a25) &&& 31))) → (∀ v35 : Int32, v35 = (a26 + (1 : Int32)) → K5b v35 v34 μ29))))))
def J_X1_moved_52 (a1 : Int32) (a2 : Int32) (a3 : Int32) (a19 : Int32) (a20 : Int32) (a21 : Int32) (a22 : Int32) (μ23 : xM) (K50 : Int32 → xM → Prop) (K5b : Int32 → Int32 → xM → Prop) : Prop := J_X1_moved_53 a1 a2 a3 a19 a20 a21 a22 (0 : Int32) μ23 K50 K5b
def B_X1_moved_5 (a1 : Int32) (a2 : Int32) (a3 : Int32) (a4 : Int32) (a5 : Int32) (μ7 : xM) (K50 : Int32 → xM → Prop) (K5b : Int32 → Int32 → xM → Prop) : Prop := (((16 : Int32) ≤ a4 → K50 a5 μ7) ∧ (¬ (16 : Int32) ≤ a4 → (∀ v14 : Int32, v14 = ((a4 - a4 / (4 : Int32) * (4 : Int32)) + a2) → (∀ v15 : Int32, v15 = ((a4 / (4 : Int32)) + a3) → (p_X11_within v14 (0 : Int32) (3 : Int32) μ7 (fun r17 μ16 => ((r17 = (0 : Int32) → J_X1_moved_52 a1 a2 a3 v15 v14 a4 a5 μ16 K50 K5b) ∧ (¬ r17 = (0 : Int32) → (p_X11_within v15 (0 : Int32) (3 : Int32) μ16 (fun r37 μ36 => ((r37 = (0 : Int32) → J_X1_moved_52 a1 a2 a3 v15 v14 a4 a5 μ36 K50 K5b) ∧ (¬ r37 = (0 : Int32) → J_X1_moved_53 a1 a2 a3 v15 v14 a4 a5 (1 : Int32) μ36 K50 K5b))))))))))))
def L_X1_moved_5 (a1 : Int32) (a2 : Int32) (a3 : Int32) : Nat → Int32 → Int32 → xM → (Int32 → xM → Prop) → Prop
  | 0, _, _, _, _ => False
  | n + 1, a4, a5, μ7, K50 => B_X1_moved_5 a1 a2 a3 a4 a5 μ7 K50 (fun x0 x1 y => L_X1_moved_5 a1 a2 a3 n x0 x1 y K50)
def p_X1_moved (p1 : Int32) (p2 : Int32) (p3 : Int32) (μ : xM) (Qm : Int32 → xM → Prop) : Prop := (∃ n6 : Nat, L_X1_moved_5 p1 p2 p3 n6 (0 : Int32) (0 : Int32) μ (fun a48 μ49 => Qm a48 μ49))
set_option maxRecDepth 100000 in
set_option maxHeartbeats 4000000 in
theorem wj_X1_moved_53 {E : xE} {ad : Nat → Nat} {p : Program} {l : Launch} {e : Env} {s : State} {m : MethodId} {args : Array Value} {below : List Frame} {meth : Method} {c : Code} {Q : State → Prop} (G : xG E p s m args meth c cX1_moved 8 RX1) (hA : ∀ a, s.heap.size ≤ a → xA ad s.heap.size a) (a1 : Int32) (a2 : Int32) (a3 : Int32) (a24 : Int32) (a25 : Int32) (a26 : Int32) (a27 : Int32) (a28 : Int32) (μ29 : xM) (K50 : Int32 → xM → Prop) (K5b : Int32 → Int32 → xM → Prop) (hq : J_X1_moved_53 a1 a2 a3 a24 a25 a26 a27 a28 μ29 K50 K5b) {H : Heap} {locs : List Loc} {ls : Array Slot} (hH : xH E ad (xA ad s.heap.size) s.heap μ29 H locs) (hl : lv_has ls 8 [(6, .int a24), (5, .int a25), (0, .int a1), (1, .int a2), (2, .int a3), (4, .int a26), (3, .int a27)]) (kK50 : ∀ (a8 : Int32) (μ9 : xM), K50 a8 μ9 → ∀ (H : Heap) (locs : List Loc) (ls : Array Slot), xH E ad (xA ad s.heap.size) s.heap μ9 H locs → lv_has ls 8 [(3, .int a8)] → W p l e (headSpec tX1_moved ({ frames := 2, cells := 0, slots := 0, locals := 80 } : Room)).room s m args below meth c H locs 0 0 Q (F0 m 88 ls [])) (kK5b : ∀ (a10 : Int32) (a11 : Int32) (μ12 : xM), K5b a10 a11 μ12 → ∀ (H : Heap) (locs : List Loc) (ls : Array Slot), xH E ad (xA ad s.heap.size) s.heap μ12 H locs → lv_has ls 8 [(0, .int a1), (1, .int a2), (2, .int a3), (4, .int a10), (3, .int a11)] → W p l e (headSpec tX1_moved ({ frames := 2, cells := 0, slots := 0, locals := 80 } : Room)).room s m args below meth c H locs 0 0 Q (F0 m 5 ls [])) : W p l e (headSpec tX1_moved ({ frames := 2, cells := 0, slots := 0, locals := 80 } : Room)).room s m args below meth c H locs 0 0 Q (F0 m 53 ls [.int a28]) := by
  obtain ⟨hx, hb, hml, hown, hts, hKn, hN, hlk⟩ := id G
  unfold J_X1_moved_53 at hq
  refine lv_istore (lv' := [(7, .int a28), (6, .int a24), (5, .int a25), (0, .int a1), (1, .int a2), (2, .int a3), (4, .int a26), (3, .int a27)]) hx hb dX1_moved_53 hl (by decide) rfl (fun ls hl => ?_)
  refine lv_iload hx hb dX1_moved_55 (lv_at hl 0 rfl) ?_
  refine lv_if_eq (tgt := 82) hx hb dX1_moved_57 (by decide) (fun c30 => ?_) (fun c30 => ?_)
  · have hq := hq.1 c30
    obtain ⟨v31, e_v31⟩ : ∃ y : Int32, y = (a26 + (1 : Int32)) := ⟨_, rfl⟩
    have hq := hq v31 e_v31
    refine lv_iinc (v := v31) (lv' := [(4, .int v31), (7, .int a28), (6, .int a24), (5, .int a25), (0, .int a1), (1, .int a2), (2, .int a3), (3, .int a27)]) hx hb dX1_moved_82 hl (k := 6) rfl (by rw [e_v31]; rfl) (by decide) rfl (fun ls hl => ?_)
    refine lv_goto (tgt := 5) hx hb dX1_moved_85 (by decide) ?_
    exact kK5b v31 a27 μ29 hq _ _ _ hH (lv_sub hl [4, 5, 6, 0, 7] rfl)
  · have hq := hq.2 c30
    refine lv_iload_n hx hb dX1_moved_60 rfl (lv_at hl 3 rfl) ?_
    refine lv_iload hx hb dX1_moved_61 (lv_at hl 6 rfl) ?_
    refine lv_iushr (v := (uS a1 a26)) hx hb dX1_moved_63 rfl ?_
    refine lv_iconst (v := (1 : Int32)) hx hb dX1_moved_64 (by decide) ?_
    refine lv_iand hx hb dX1_moved_65 ?_
    refine lv_iconst (v := (1 : Int32)) hx hb dX1_moved_66 (by decide) ?_
    refine lv_icmp_ne (tgt := 82) hx hb dX1_moved_67 (by decide) (fun c32 => ?_) (fun c32 => ?_)
    · have hq := hq.1 c32
      obtain ⟨v33, e_v33⟩ : ∃ y : Int32, y = (a26 + (1 : Int32)) := ⟨_, rfl⟩
      have hq := hq v33 e_v33
      refine lv_iinc (v := v33) (lv' := [(4, .int v33), (7, .int a28), (6, .int a24), (5, .int a25), (0, .int a1), (1, .int a2), (2, .int a3), (3, .int a27)]) hx hb dX1_moved_82 hl (k := 6) rfl (by rw [e_v33]; rfl) (by decide) rfl (fun ls hl => ?_)
      refine lv_goto (tgt := 5) hx hb dX1_moved_85 (by decide) ?_
      exact kK5b v33 a27 μ29 hq _ _ _ hH (lv_sub hl [4, 5, 6, 0, 7] rfl)
    · have hq := hq.2 c32
      refine lv_iload_n hx hb dX1_moved_70 rfl (lv_at hl 7 rfl) ?_
      refine lv_iconst (v := (1 : Int32)) hx hb dX1_moved_71 (by decide) ?_
      refine lv_iload hx hb dX1_moved_72 (lv_at hl 1 rfl) ?_
      refine lv_iconst (v := (4 : Int32)) hx hb dX1_moved_74 (by decide) ?_
      refine lv_imul hx hb dX1_moved_75 ?_
      refine lv_iload hx hb dX1_moved_76 (lv_at hl 2 rfl) ?_
      refine lv_iadd hx hb dX1_moved_78 ?_
      refine lv_ishl hx hb dX1_moved_79 ?_
      refine lv_ior hx hb dX1_moved_80 ?_
      refine lv_topi (fun v34 e_v34 => ?_)
      have hq := hq v34 e_v34
      refine lv_istore_n (lv' := [(3, .int v34), (7, .int a28), (6, .int a24), (5, .int a25), (0, .int a1), (1, .int a2), (2, .int a3), (4, .int a26)]) hx hb dX1_moved_81 rfl hl (by decide) rfl (fun ls hl => ?_)
      obtain ⟨v35, e_v35⟩ : ∃ y : Int32, y = (a26 + (1 : Int32)) := ⟨_, rfl⟩
      have hq := hq v35 e_v35
      refine lv_iinc (v := v35) (lv' := [(4, .int v35), (3, .int v34), (7, .int a28), (6, .int a24), (5, .int a25), (0, .int a1), (1, .int a2), (2, .int a3)]) hx hb dX1_moved_82 hl (k := 7) rfl (by rw [e_v35]; rfl) (by decide) rfl (fun ls hl => ?_)
      refine lv_goto (tgt := 5) hx hb dX1_moved_85 (by decide) ?_
      exact kK5b v35 v34 μ29 hq _ _ _ hH (lv_sub hl [5, 6, 7, 0, 1] rfl)
set_option maxRecDepth 100000 in
set_option maxHeartbeats 4000000 in
theorem wj_X1_moved_52 {E : xE} {ad : Nat → Nat} {p : Program} {l : Launch} {e : Env} {s : State} {m : MethodId} {args : Array Value} {below : List Frame} {meth : Method} {c : Code} {Q : State → Prop} (G : xG E p s m args meth c cX1_moved 8 RX1) (hA : ∀ a, s.heap.size ≤ a → xA ad s.heap.size a) (a1 : Int32) (a2 : Int32) (a3 : Int32) (a19 : Int32) (a20 : Int32) (a21 : Int32) (a22 : Int32) (μ23 : xM) (K50 : Int32 → xM → Prop) (K5b : Int32 → Int32 → xM → Prop) (hq : J_X1_moved_52 a1 a2 a3 a19 a20 a21 a22 μ23 K50 K5b) {H : Heap} {locs : List Loc} {ls : Array Slot} (hH : xH E ad (xA ad s.heap.size) s.heap μ23 H locs) (hl : lv_has ls 8 [(6, .int a19), (5, .int a20), (0, .int a1), (1, .int a2), (2, .int a3), (4, .int a21), (3, .int a22)]) (kK50 : ∀ (a8 : Int32) (μ9 : xM), K50 a8 μ9 → ∀ (H : Heap) (locs : List Loc) (ls : Array Slot), xH E ad (xA ad s.heap.size) s.heap μ9 H locs → lv_has ls 8 [(3, .int a8)] → W p l e (headSpec tX1_moved ({ frames := 2, cells := 0, slots := 0, locals := 80 } : Room)).room s m args below meth c H locs 0 0 Q (F0 m 88 ls [])) (kK5b : ∀ (a10 : Int32) (a11 : Int32) (μ12 : xM), K5b a10 a11 μ12 → ∀ (H : Heap) (locs : List Loc) (ls : Array Slot), xH E ad (xA ad s.heap.size) s.heap μ12 H locs → lv_has ls 8 [(0, .int a1), (1, .int a2), (2, .int a3), (4, .int a10), (3, .int a11)] → W p l e (headSpec tX1_moved ({ frames := 2, cells := 0, slots := 0, locals := 80 } : Room)).room s m args below meth c H locs 0 0 Q (F0 m 5 ls [])) : W p l e (headSpec tX1_moved ({ frames := 2, cells := 0, slots := 0, locals := 80 } : Room)).room s m args below meth c H locs 0 0 Q (F0 m 52 ls []) := by
  obtain ⟨hx, hb, hml, hown, hts, hKn, hN, hlk⟩ := id G
  unfold J_X1_moved_52 at hq
  refine lv_iconst (v := (0 : Int32)) hx hb dX1_moved_52 (by decide) ?_
  exact wj_X1_moved_53 G hA a1 a2 a3 a19 a20 a21 a22 (0 : Int32)  μ23 _ _ hq hH (lv_sub hl [0, 1, 2, 3, 4, 5, 6] rfl) kK50 kK5b
set_option maxRecDepth 100000 in
set_option maxHeartbeats 4000000 in
theorem wb_X1_moved_5 {E : xE} {ad : Nat → Nat} {p : Program} {l : Launch} {e : Env} {s : State} {m : MethodId} {args : Array Value} {below : List Frame} {meth : Method} {c : Code} {Q : State → Prop} (G : xG E p s m args meth c cX1_moved 8 RX1) (hA : ∀ a, s.heap.size ≤ a → xA ad s.heap.size a) (a1 : Int32) (a2 : Int32) (a3 : Int32) (a4 : Int32) (a5 : Int32) (μ7 : xM) (K50 : Int32 → xM → Prop) (K5b : Int32 → Int32 → xM → Prop) (hq : B_X1_moved_5 a1 a2 a3 a4 a5 μ7 K50 K5b) {H : Heap} {locs : List Loc} {ls : Array Slot} (hH : xH E ad (xA ad s.heap.size) s.heap μ7 H locs) (hl : lv_has ls 8 [(0, .int a1), (1, .int a2), (2, .int a3), (4, .int a4), (3, .int a5)]) (kK50 : ∀ (a8 : Int32) (μ9 : xM), K50 a8 μ9 → ∀ (H : Heap) (locs : List Loc) (ls : Array Slot), xH E ad (xA ad s.heap.size) s.heap μ9 H locs → lv_has ls 8 [(3, .int a8)] → W p l e (headSpec tX1_moved ({ frames := 2, cells := 0, slots := 0, locals := 80 } : Room)).room s m args below meth c H locs 0 0 Q (F0 m 88 ls [])) (kK5b : ∀ (a10 : Int32) (a11 : Int32) (μ12 : xM), K5b a10 a11 μ12 → ∀ (H : Heap) (locs : List Loc) (ls : Array Slot), xH E ad (xA ad s.heap.size) s.heap μ12 H locs → lv_has ls 8 [(0, .int a1), (1, .int a2), (2, .int a3), (4, .int a10), (3, .int a11)] → W p l e (headSpec tX1_moved ({ frames := 2, cells := 0, slots := 0, locals := 80 } : Room)).room s m args below meth c H locs 0 0 Q (F0 m 5 ls [])) : W p l e (headSpec tX1_moved ({ frames := 2, cells := 0, slots := 0, locals := 80 } : Room)).room s m args below meth c H locs 0 0 Q (F0 m 5 ls []) := by
  obtain ⟨hx, hb, hml, hown, hts, hKn, hN, hlk⟩ := id G
  unfold B_X1_moved_5 at hq
  refine lv_iload hx hb dX1_moved_5 (lv_at hl 3 rfl) ?_
  refine lv_bipush (v := (16 : Int32)) hx hb dX1_moved_7 (by decide) ?_
  refine lv_icmp_ge (tgt := 88) hx hb dX1_moved_9 (by decide) (fun c13 => ?_) (fun c13 => ?_)
  · have hq := hq.1 c13
    exact kK50 a5 μ7 hq _ _ _ hH (lv_sub hl [4] rfl)
  · have hq := hq.2 c13
    refine lv_iload hx hb dX1_moved_12 (lv_at hl 3 rfl) ?_
    refine lv_iconst (v := (4 : Int32)) hx hb dX1_moved_14 (by decide) ?_
    refine lv_irem hx hb dX1_moved_15 (by decide) ?_
    refine lv_iload_n hx hb dX1_moved_16 rfl (lv_at hl 1 rfl) ?_
    refine lv_iadd hx hb dX1_moved_17 ?_
    refine lv_topi (fun v14 e_v14 => ?_)
    have hq := hq v14 e_v14
    refine lv_istore (lv' := [(5, .int v14), (0, .int a1), (1, .int a2), (2, .int a3), (4, .int a4), (3, .int a5)]) hx hb dX1_moved_18 hl (by decide) rfl (fun ls hl => ?_)
    refine lv_iload hx hb dX1_moved_20 (lv_at hl 4 rfl) ?_
    refine lv_iconst (v := (4 : Int32)) hx hb dX1_moved_22 (by decide) ?_
    refine lv_idiv hx hb dX1_moved_23 (by decide) ?_
    refine lv_iload_n hx hb dX1_moved_24 rfl (lv_at hl 3 rfl) ?_
    refine lv_iadd hx hb dX1_moved_25 ?_
    refine lv_topi (fun v15 e_v15 => ?_)
    have hq := hq v15 e_v15
    refine lv_istore (lv' := [(6, .int v15), (5, .int v14), (0, .int a1), (1, .int a2), (2, .int a3), (4, .int a4), (3, .int a5)]) hx hb dX1_moved_26 hl (by decide) rfl (fun ls hl => ?_)
    refine lv_iload hx hb dX1_moved_28 (lv_at hl 1 rfl) ?_
    refine lv_iconst (v := (0 : Int32)) hx hb dX1_moved_30 (by decide) ?_
    refine lv_iconst (v := (3 : Int32)) hx hb dX1_moved_31 (by decide) ?_
    refine x_cNi (As := [.int v14, .int (0 : Int32), .int (3 : Int32)]) (rest := []) G hH hA (c_X11_within l E ad μ7 v14 (0 : Int32) (3 : Int32)  _ hq) hN mt_X11_within mn_RX11 mc_X11_within md_X11_within ⟨rfl, rfl, Nat.le_of_ble_eq_true rfl, Nat.le_of_ble_eq_true rfl⟩ rfl hl.1 rfl (Nat.le_of_ble_eq_true rfl) dX1_moved_32 ⟨Nat.zero_le _, Nat.zero_le _⟩ (fun r17 μ16 hq H locs hH => ?_)
    refine lv_if_eq (tgt := 52) hx hb dX1_moved_35 (by decide) (fun c18 => ?_) (fun c18 => ?_)
    · have hq := hq.1 c18
      exact wj_X1_moved_52 G hA a1 a2 a3 v15 v14 a4 a5  μ16 _ _ hq hH (lv_sub hl [0, 1, 2, 3, 4, 5, 6] rfl) kK50 kK5b
    · have hq := hq.2 c18
      refine lv_iload hx hb dX1_moved_38 (lv_at hl 0 rfl) ?_
      refine lv_iconst (v := (0 : Int32)) hx hb dX1_moved_40 (by decide) ?_
      refine lv_iconst (v := (3 : Int32)) hx hb dX1_moved_41 (by decide) ?_
      refine x_cNi (As := [.int v15, .int (0 : Int32), .int (3 : Int32)]) (rest := []) G hH hA (c_X11_within l E ad μ16 v15 (0 : Int32) (3 : Int32)  _ hq) hN mt_X11_within mn_RX11 mc_X11_within md_X11_within ⟨rfl, rfl, Nat.le_of_ble_eq_true rfl, Nat.le_of_ble_eq_true rfl⟩ rfl hl.1 rfl (Nat.le_of_ble_eq_true rfl) dX1_moved_42 ⟨Nat.zero_le _, Nat.zero_le _⟩ (fun r37 μ36 hq H locs hH => ?_)
      refine lv_if_eq (tgt := 52) hx hb dX1_moved_45 (by decide) (fun c38 => ?_) (fun c38 => ?_)
      · have hq := hq.1 c38
        exact wj_X1_moved_52 G hA a1 a2 a3 v15 v14 a4 a5  μ36 _ _ hq hH (lv_sub hl [0, 1, 2, 3, 4, 5, 6] rfl) kK50 kK5b
      · have hq := hq.2 c38
        refine lv_iconst (v := (1 : Int32)) hx hb dX1_moved_48 (by decide) ?_
        refine lv_goto (tgt := 53) hx hb dX1_moved_49 (by decide) ?_
        exact wj_X1_moved_53 G hA a1 a2 a3 v15 v14 a4 a5 (1 : Int32)  μ36 _ _ hq hH (lv_sub hl [0, 1, 2, 3, 4, 5, 6] rfl) kK50 kK5b
set_option maxRecDepth 100000 in
set_option maxHeartbeats 4000000 in
theorem w_X1_moved_5 {E : xE} {ad : Nat → Nat} {p : Program} {l : Launch} {e : Env} {s : State} {m : MethodId} {args : Array Value} {below : List Frame} {meth : Method} {c : Code} {Q : State → Prop} (G : xG E p s m args meth c cX1_moved 8 RX1) (hA : ∀ a, s.heap.size ≤ a → xA ad s.heap.size a) (a1 : Int32) (a2 : Int32) (a3 : Int32) : ∀ (n : Nat) (a4 : Int32) (a5 : Int32) (μ7 : xM) (K50 : Int32 → xM → Prop) (hq : L_X1_moved_5 a1 a2 a3 n a4 a5 μ7 K50) (H : Heap) (locs : List Loc) (ls : Array Slot) (hH : xH E ad (xA ad s.heap.size) s.heap μ7 H locs) (hl : lv_has ls 8 [(0, .int a1), (1, .int a2), (2, .int a3), (4, .int a4), (3, .int a5)]) (kK50 : ∀ (a8 : Int32) (μ9 : xM), K50 a8 μ9 → ∀ (H : Heap) (locs : List Loc) (ls : Array Slot), xH E ad (xA ad s.heap.size) s.heap μ9 H locs → lv_has ls 8 [(3, .int a8)] → W p l e (headSpec tX1_moved ({ frames := 2, cells := 0, slots := 0, locals := 80 } : Room)).room s m args below meth c H locs 0 0 Q (F0 m 88 ls [])) , W p l e (headSpec tX1_moved ({ frames := 2, cells := 0, slots := 0, locals := 80 } : Room)).room s m args below meth c H locs 0 0 Q (F0 m 5 ls [])
  | 0, _, _, _, _, hq, _, _, _, _, _, _ => hq.elim
  | n + 1, a4, a5, μ7, K50, hq, H, locs, ls, hH, hl, kK50 => wb_X1_moved_5 G hA a1 a2 a3  a4 a5 μ7 K50 _ hq hH hl kK50 (fun x0 x1 y hq H locs ls hH hl => w_X1_moved_5 G hA a1 a2 a3  n x0 x1 y K50 hq H locs ls hH hl kK50)
set_option maxRecDepth 100000 in
set_option maxHeartbeats 4000000 in
theorem c_X1_moved (l : Launch) (E : xE) (ad : Nat → Nat) (μ : xM) (p1 : Int32) (p2 : Int32) (p3 : Int32) (Qm : Int32 → xM → Prop) (hq : p_X1_moved p1 p2 p3 μ Qm) : xMi l yX1_moved tX1_moved ({ frames := 2, cells := 0, slots := 0, locals := 80 } : Room) E ad μ [.int p1, .int p2, .int p3] Qm := by
  refine x_sti (cc := cX1_moved) (maxL := 8) (ret := (some .int)) (own := RX1) rfl (by decide) rfl (Nat.le_of_ble_eq_true rfl) ?_
  intro p e s m args below meth c ls G hr hA hH hl
  obtain ⟨hx, hb, hml, hown, hts, hKn, hN, hlk⟩ := id G
  have hl : lv_has ls 8 [(0, .int p1), (1, .int p2), (2, .int p3)] := hl
  have hH : xH E ad (xA ad s.heap.size) s.heap μ s.heap [] := hH
  unfold p_X1_moved at hq
  refine lv_iconst (v := (0 : Int32)) hx hb dX1_moved_0 (by decide) ?_
  refine lv_istore_n (lv' := [(3, .int (0 : Int32)), (0, .int p1), (1, .int p2), (2, .int p3)]) hx hb dX1_moved_1 rfl hl (by decide) rfl (fun ls hl => ?_)
  refine lv_iconst (v := (0 : Int32)) hx hb dX1_moved_2 (by decide) ?_
  refine lv_istore (lv' := [(4, .int (0 : Int32)), (3, .int (0 : Int32)), (0, .int p1), (1, .int p2), (2, .int p3)]) hx hb dX1_moved_3 hl (by decide) rfl (fun ls hl => ?_)
  obtain ⟨n6, hq⟩ := hq
  refine w_X1_moved_5 G hA p1 p2 p3  n6 (0 : Int32) (0 : Int32) μ _ hq _ _ _ hH (lv_sub hl [2, 3, 4, 0, 1] rfl) (fun a48 μ49 hq H locs ls hH hl => ?_)
  refine lv_iload_n hx hb dX1_moved_88 rfl (lv_at hl 0 rfl) ?_
  exact x_iret G hr hH hq dX1_moved_89

abbrev tX3_keptAt : List Cond := Cond.code yX3_keptAt cX3_keptAt 2 (some (.object "WetPrints$State")) :: wsL_law
theorem mi_X3_keptAt : Cond.instanceMethod yX3_keptAt ∈ wsL_law := (wm_8 _ (List.mem_of_getElem? (i := 12) rfl))
theorem ms_X3_keptAt : Cond.selects RX3 yX3_keptAt yX3_keptAt ∈ wsL_law := (wm_8 _ (List.mem_of_getElem? (i := 13) rfl))
theorem mc_X3_keptAt : Cond.code yX3_keptAt cX3_keptAt 2 (some (.object "WetPrints$State")) ∈ wsL_law := (wm_8 _ (List.mem_of_getElem? (i := 14) rfl))
theorem md_X3_keptAt : yX3_keptAt.cls ≠ "java/lang/invoke/MethodHandle" ∧ yX3_keptAt.cls ≠ "java/lang/invoke/VarHandle" ∧ (parseMethodDescriptor yX3_keptAt.desc).map (fun d => d.parameters.length) = some 1 := by decide +kernel
def p_X3_keptAt (q0 : Nat) (p1 : Int32) (μ : xM) (Qm : Option Nat → xM → Prop) : Prop := ((p1 < (0 : Int32) → Qm none μ) ∧ (¬ p1 < (0 : Int32) → (((Int32.ofNat (ln (rt q0 0))) ≤ p1 → Qm none μ) ∧ (¬ (Int32.ofNat (ln (rt q0 0))) ≤ p1 → (vp_in p1 (ln (rt q0 0)) ∧ Qm (some (rt (rt q0 0) p1.toNatClampNeg)) μ)))))
set_option maxRecDepth 100000 in
set_option maxHeartbeats 4000000 in
theorem c_X3_keptAt (l : Launch) (E : xE) (ad : Nat → Nat) (μ : xM) (q0 : Nat) (p1 : Int32) (hk_q0 : kd q0 = 2) (Qm : Option Nat → xM → Prop) (hq : p_X3_keptAt q0 p1 μ Qm) : xMq l yX3_keptAt tX3_keptAt ({ frames := 1, cells := 0, slots := 0, locals := 40 } : Room) E ad μ [.ref (ad q0), .int p1] Qm := by
  refine x_stq (cc := cX3_keptAt) (maxL := 2) (ret := (some (.object "WetPrints$State"))) (own := RX3) rfl (by decide) rfl (Nat.le_of_ble_eq_true rfl) ?_
  intro p e s m args below meth c ls G hr hA hH hl
  obtain ⟨hx, hb, hml, hown, hts, hKn, hN, hlk⟩ := id G
  have hl : lv_has ls 2 [(0, .ref (ad q0)), (1, .int p1)] := hl
  have hH : xH E ad (xA ad s.heap.size) s.heap μ s.heap [] := hH
  unfold p_X3_keptAt at hq
  refine lv_iload_n hx hb dX3_keptAt_0 rfl (lv_at hl 1 rfl) ?_
  refine lv_if_lt (tgt := 22) hx hb dX3_keptAt_1 (by decide) (fun c1 => ?_) (fun c1 => ?_)
  · have hq := hq.1 c1
    refine lv_null hx hb dX3_keptAt_22 ?_
    exact x_nret G hr hH hq dX3_keptAt_23
  · have hq := hq.2 c1
    refine lv_iload_n hx hb dX3_keptAt_4 rfl (lv_at hl 1 rfl) ?_
    refine lv_aload_n hx hb dX3_keptAt_5 rfl (lv_at hl 0 rfl) ?_
    refine x_get (j := 0) (C := RX3) (T := TX3) (N := 3) (v := .ref (ad (rt q0 0))) G hH hk_q0 (by decide) rfl inlX3 (by decide) (wm_4 _ (List.mem_of_getElem? (i := 13) rfl)) rfl dX3_keptAt_6 ?_
    refine x_alenq G hH (kt_2_0 _ hk_q0) rfl dX3_keptAt_9 ?_
    refine lv_icmp_ge (tgt := 22) hx hb dX3_keptAt_10 (by decide) (fun c2 => ?_) (fun c2 => ?_)
    · have hq := hq.1 c2
      refine lv_null hx hb dX3_keptAt_22 ?_
      exact x_nret G hr hH hq dX3_keptAt_23
    · have hq := hq.2 c2
      refine lv_aload_n hx hb dX3_keptAt_13 rfl (lv_at hl 0 rfl) ?_
      refine x_get (j := 0) (C := RX3) (T := TX3) (N := 3) (v := .ref (ad (rt q0 0))) G hH hk_q0 (by decide) rfl inlX3 (by decide) (wm_4 _ (List.mem_of_getElem? (i := 13) rfl)) rfl dX3_keptAt_14 ?_
      refine lv_iload_n hx hb dX3_keptAt_17 rfl (lv_at hl 1 rfl) ?_
      refine x_aald G hH (kt_2_0 _ hk_q0) hq.1 dX3_keptAt_18 ?_
      have hq := hq.2
      refine lv_goto (tgt := 23) hx hb dX3_keptAt_19 (by decide) ?_
      exact x_aret G hr hH hq dX3_keptAt_23

abbrev tX11_refuse : List Cond := Cond.code yX11_refuse cX11_refuse 2 (some .int) :: wsL_law
theorem mi_X11_refuse : Cond.instanceMethod yX11_refuse ∈ wsL_law := (wm_8 _ (List.mem_of_getElem? (i := 0) rfl))
theorem ms_X11_refuse : Cond.selects RX11 yX11_refuse yX11_refuse ∈ wsL_law := (wm_8 _ (List.mem_of_getElem? (i := 1) rfl))
theorem mc_X11_refuse : Cond.code yX11_refuse cX11_refuse 2 (some .int) ∈ wsL_law := (wm_8 _ (List.mem_of_getElem? (i := 2) rfl))
theorem md_X11_refuse : yX11_refuse.cls ≠ "java/lang/invoke/MethodHandle" ∧ yX11_refuse.cls ≠ "java/lang/invoke/VarHandle" ∧ (parseMethodDescriptor yX11_refuse.desc).map (fun d => d.parameters.length) = some 1 := by decide +kernel
def J_X11_refuse_16 (q2 : Nat) (a3 : Int32) (μ4 : xM) (Qm : Int32 → xM → Prop) : Prop := ((¬ a3 = (-3 : Int32) → ((¬ a3 = (-4 : Int32) → Qm a3 μ4) ∧ (a3 = (-4 : Int32) → (∀ μ7 : xM, μ7 = xi μ4 q2 7 ((μ4.1 q2 7) + (1 : Int32)) → Qm a3 μ7)))) ∧ (a3 = (-3 : Int32) → (∀ μ8 : xM, μ8 = xi μ4 q2 6 ((μ4.1 q2 6) + (1 : Int32)) → ((¬ a3 = (-4 : Int32) → Qm a3 μ8) ∧ (a3 = (-4 : Int32) → (∀ μ10 : xM, μ10 = xi μ8 q2 7 ((μ8.1 q2 7) + (1 : Int32)) → Qm a3 μ10))))))
def p_X11_refuse (q0 : Nat) (p1 : Int32) (μ : xM) (Qm : Int32 → xM → Prop) : Prop := ((¬ p1 = (-2 : Int32) → J_X11_refuse_16  q0 p1 μ Qm) ∧ (p1 = (-2 : Int32) → (∀ μ11 : xM, μ11 = xi μ q0 5 ((μ.1 q0 5) + (1 : Int32)) → J_X11_refuse_16  q0 p1 μ11 Qm)))
set_option maxRecDepth 100000 in
set_option maxHeartbeats 4000000 in
theorem wj_X11_refuse_16 {E : xE} {ad : Nat → Nat} {p : Program} {l : Launch} {e : Env} {s : State} {m : MethodId} {args : Array Value} {below : List Frame} {meth : Method} {c : Code} {Qm : Int32 → xM → Prop} (G : xG E p s m args meth c cX11_refuse 2 RX11) (hA : ∀ a, s.heap.size ≤ a → xA ad s.heap.size a) (hr : meth.sig.returnType = (some .int)) (q2 : Nat) (a3 : Int32) (hk_q2 : kd q2 = 9) (μ4 : xM) (hq : J_X11_refuse_16 q2 a3 μ4 Qm) {H : Heap} {locs : List Loc} {ls : Array Slot} (hH : xH E ad (xA ad s.heap.size) s.heap μ4 H locs) (hl : lv_has ls 2 [(0, .ref (ad q2)), (1, .int a3)]) : W p l e (headSpec tX11_refuse ({ frames := 1, cells := 0, slots := 0, locals := 40 } : Room)).room s m args below meth c H locs 0 0 (MQ below (va_Qi Qm (xPost E ad s.heap.size) (xA ad s.heap.size)) args s 0 0 (xA ad s.heap.size)) (F0 m 16 ls []) := by
  obtain ⟨hx, hb, hml, hown, hts, hKn, hN, hlk⟩ := id G
  unfold J_X11_refuse_16 at hq
  refine lv_iload_n hx hb dX11_refuse_16 rfl (lv_at hl 1 rfl) ?_
  refine lv_bipush (v := (-3 : Int32)) hx hb dX11_refuse_17 (by decide) ?_
  refine lv_icmp_ne (tgt := 32) hx hb dX11_refuse_19 (by decide) (fun c5 => ?_) (fun c5 => ?_)
  · have hq := hq.1 c5
    refine lv_iload_n hx hb dX11_refuse_32 rfl (lv_at hl 1 rfl) ?_
    refine lv_bipush (v := (-4 : Int32)) hx hb dX11_refuse_33 (by decide) ?_
    refine lv_icmp_ne (tgt := 48) hx hb dX11_refuse_35 (by decide) (fun c6 => ?_) (fun c6 => ?_)
    · have hq := hq.1 c6
      refine lv_iload_n hx hb dX11_refuse_48 rfl (lv_at hl 1 rfl) ?_
      exact x_iret G hr hH hq dX11_refuse_49
    · have hq := hq.2 c6
      refine lv_aload_n hx hb dX11_refuse_38 rfl (lv_at hl 0 rfl) ?_
      refine lv_dup hx hb dX11_refuse_39 rfl ?_
      refine x_get (j := 7) (C := RX11) (T := TX11) (N := 8) (v := .int (μ4.1 q2 7)) G hH hk_q2 (by decide) rfl inlX11 (by decide) (wm_2 _ (List.mem_of_getElem? (i := 11) rfl)) rfl dX11_refuse_40 ?_
      refine lv_iconst (v := (1 : Int32)) hx hb dX11_refuse_43 (by decide) ?_
      refine lv_iadd hx hb dX11_refuse_44 ?_
      refine x_puti (j := 7) (C := RX11) (T := TX11) (N := 8) (ty := .int) G hH hk_q2 (by decide) rfl inlX11 tyX11 tyX11_ok nmX11 (by decide) (wm_2 _ (List.mem_of_getElem? (i := 11) rfl)) rfl (by decide +kernel) rfl rfl (fun _ _ => Nat.le_of_ble_eq_true rfl) (fun _ _ => rfl) dX11_refuse_45 (fun μ7 e_μ7 H locs hH => ?_)
      have hq := hq μ7 e_μ7
      refine lv_iload_n hx hb dX11_refuse_48 rfl (lv_at hl 1 rfl) ?_
      exact x_iret G hr hH hq dX11_refuse_49
  · have hq := hq.2 c5
    refine lv_aload_n hx hb dX11_refuse_22 rfl (lv_at hl 0 rfl) ?_
    refine lv_dup hx hb dX11_refuse_23 rfl ?_
    refine x_get (j := 6) (C := RX11) (T := TX11) (N := 8) (v := .int (μ4.1 q2 6)) G hH hk_q2 (by decide) rfl inlX11 (by decide) (wm_2 _ (List.mem_of_getElem? (i := 10) rfl)) rfl dX11_refuse_24 ?_
    refine lv_iconst (v := (1 : Int32)) hx hb dX11_refuse_27 (by decide) ?_
    refine lv_iadd hx hb dX11_refuse_28 ?_
    refine x_puti (j := 6) (C := RX11) (T := TX11) (N := 8) (ty := .int) G hH hk_q2 (by decide) rfl inlX11 tyX11 tyX11_ok nmX11 (by decide) (wm_2 _ (List.mem_of_getElem? (i := 10) rfl)) rfl (by decide +kernel) rfl rfl (fun _ _ => Nat.le_of_ble_eq_true rfl) (fun _ _ => rfl) dX11_refuse_29 (fun μ8 e_μ8 H locs hH => ?_)
    have hq := hq μ8 e_μ8
    refine lv_iload_n hx hb dX11_refuse_32 rfl (lv_at hl 1 rfl) ?_
    refine lv_bipush (v := (-4 : Int32)) hx hb dX11_refuse_33 (by decide) ?_
    refine lv_icmp_ne (tgt := 48) hx hb dX11_refuse_35 (by decide) (fun c9 => ?_) (fun c9 => ?_)
    · have hq := hq.1 c9
      refine lv_iload_n hx hb dX11_refuse_48 rfl (lv_at hl 1 rfl) ?_
      exact x_iret G hr hH hq dX11_refuse_49
    · have hq := hq.2 c9
      refine lv_aload_n hx hb dX11_refuse_38 rfl (lv_at hl 0 rfl) ?_
      refine lv_dup hx hb dX11_refuse_39 rfl ?_
      refine x_get (j := 7) (C := RX11) (T := TX11) (N := 8) (v := .int (μ8.1 q2 7)) G hH hk_q2 (by decide) rfl inlX11 (by decide) (wm_2 _ (List.mem_of_getElem? (i := 11) rfl)) rfl dX11_refuse_40 ?_
      refine lv_iconst (v := (1 : Int32)) hx hb dX11_refuse_43 (by decide) ?_
      refine lv_iadd hx hb dX11_refuse_44 ?_
      refine x_puti (j := 7) (C := RX11) (T := TX11) (N := 8) (ty := .int) G hH hk_q2 (by decide) rfl inlX11 tyX11 tyX11_ok nmX11 (by decide) (wm_2 _ (List.mem_of_getElem? (i := 11) rfl)) rfl (by decide +kernel) rfl rfl (fun _ _ => Nat.le_of_ble_eq_true rfl) (fun _ _ => rfl) dX11_refuse_45 (fun μ10 e_μ10 H locs hH => ?_)
      have hq := hq μ10 e_μ10
      refine lv_iload_n hx hb dX11_refuse_48 rfl (lv_at hl 1 rfl) ?_
      exact x_iret G hr hH hq dX11_refuse_49
set_option maxRecDepth 100000 in
set_option maxHeartbeats 4000000 in
theorem c_X11_refuse (l : Launch) (E : xE) (ad : Nat → Nat) (μ : xM) (q0 : Nat) (p1 : Int32) (hk_q0 : kd q0 = 9) (Qm : Int32 → xM → Prop) (hq : p_X11_refuse q0 p1 μ Qm) : xMi l yX11_refuse tX11_refuse ({ frames := 1, cells := 0, slots := 0, locals := 40 } : Room) E ad μ [.ref (ad q0), .int p1] Qm := by
  refine x_sti (cc := cX11_refuse) (maxL := 2) (ret := (some .int)) (own := RX11) rfl (by decide) rfl (Nat.le_of_ble_eq_true rfl) ?_
  intro p e s m args below meth c ls G hr hA hH hl
  obtain ⟨hx, hb, hml, hown, hts, hKn, hN, hlk⟩ := id G
  have hl : lv_has ls 2 [(0, .ref (ad q0)), (1, .int p1)] := hl
  have hH : xH E ad (xA ad s.heap.size) s.heap μ s.heap [] := hH
  unfold p_X11_refuse at hq
  refine lv_iload_n hx hb dX11_refuse_0 rfl (lv_at hl 1 rfl) ?_
  refine lv_bipush (v := (-2 : Int32)) hx hb dX11_refuse_1 (by decide) ?_
  refine lv_icmp_ne (tgt := 16) hx hb dX11_refuse_3 (by decide) (fun c1 => ?_) (fun c1 => ?_)
  · have hq := hq.1 c1
    exact wj_X11_refuse_16 G hA hr  q0 p1  hk_q0 μ hq hH (lv_sub hl [0, 1] rfl)
  · have hq := hq.2 c1
    refine lv_aload_n hx hb dX11_refuse_6 rfl (lv_at hl 0 rfl) ?_
    refine lv_dup hx hb dX11_refuse_7 rfl ?_
    refine x_get (j := 5) (C := RX11) (T := TX11) (N := 8) (v := .int (μ.1 q0 5)) G hH hk_q0 (by decide) rfl inlX11 (by decide) (wm_2 _ (List.mem_of_getElem? (i := 9) rfl)) rfl dX11_refuse_8 ?_
    refine lv_iconst (v := (1 : Int32)) hx hb dX11_refuse_11 (by decide) ?_
    refine lv_iadd hx hb dX11_refuse_12 ?_
    refine x_puti (j := 5) (C := RX11) (T := TX11) (N := 8) (ty := .int) G hH hk_q0 (by decide) rfl inlX11 tyX11 tyX11_ok nmX11 (by decide) (wm_2 _ (List.mem_of_getElem? (i := 9) rfl)) rfl (by decide +kernel) rfl rfl (fun _ _ => Nat.le_of_ble_eq_true rfl) (fun _ _ => rfl) dX11_refuse_13 (fun μ11 e_μ11 H locs hH => ?_)
    have hq := hq μ11 e_μ11
    exact wj_X11_refuse_16 G hA hr  q0 p1  hk_q0 μ11 hq hH (lv_sub hl [0, 1] rfl)

abbrev tX7_lay : List Cond := Cond.code yX7_lay cX7_lay 6 none :: wsL_law
theorem mi_X7_lay : Cond.instanceMethod yX7_lay ∈ wsL_law := (wm_9 _ (List.mem_of_getElem? (i := 12) rfl))
theorem ms_X7_lay : Cond.selects RX7 yX7_lay yX7_lay ∈ wsL_law := (wm_9 _ (List.mem_of_getElem? (i := 13) rfl))
theorem mc_X7_lay : Cond.code yX7_lay cX7_lay 6 none ∈ wsL_law := (wm_9 _ (List.mem_of_getElem? (i := 14) rfl))
theorem md_X7_lay : yX7_lay.cls ≠ "java/lang/invoke/MethodHandle" ∧ yX7_lay.cls ≠ "java/lang/invoke/VarHandle" ∧ (parseMethodDescriptor yX7_lay.desc).map (fun d => d.parameters.length) = some 3 := by decide +kernel
def p_X7_lay (q0 : Nat) (p1 : Int64) (p2 : Int64) (p3 : Int32) (μ : xM) (Qm : xM → Prop) : Prop := (∀ μ1 : xM, μ1 = xl μ q0 0 p1 → (∀ μ2 : xM, μ2 = xl μ1 q0 1 p2 → (∀ μ3 : xM, μ3 = xi μ2 q0 2 p3 → Qm μ3)))
set_option maxRecDepth 100000 in
set_option maxHeartbeats 4000000 in
theorem c_X7_lay (l : Launch) (E : xE) (ad : Nat → Nat) (μ : xM) (q0 : Nat) (p1 : Int64) (p2 : Int64) (p3 : Int32) (hk_q0 : kd q0 = 5) (Qm : xM → Prop) (hq : p_X7_lay q0 p1 p2 p3 μ Qm) : xMv l yX7_lay tX7_lay ({ frames := 1, cells := 0, slots := 0, locals := 40 } : Room) E ad μ [.ref (ad q0), .long p1, .long p2, .int p3] Qm := by
  refine x_stv (cc := cX7_lay) (maxL := 6) (ret := none) (own := RX7) rfl (by decide) rfl (Nat.le_of_ble_eq_true rfl) ?_
  intro p e s m args below meth c ls G hr hA hH hl
  obtain ⟨hx, hb, hml, hown, hts, hKn, hN, hlk⟩ := id G
  have hl : lv_has ls 6 [(0, .ref (ad q0)), (1, .long p1), (3, .long p2), (5, .int p3)] := hl
  have hH : xH E ad (xA ad s.heap.size) s.heap μ s.heap [] := hH
  unfold p_X7_lay at hq
  refine lv_aload_n hx hb dX7_lay_0 rfl (lv_at hl 0 rfl) ?_
  refine lv_lload_n hx hb dX7_lay_1 rfl (lv_at hl 1 rfl) ?_
  refine x_putl (j := 0) (C := RX7) (T := TX7) (N := 3) G hH hk_q0 (by decide) rfl inlX7 tyX7 tyX7_ok nmX7 (by decide) (wm_4 _ (List.mem_of_getElem? (i := 5) rfl)) rfl (by decide +kernel) (fun _ _ => Nat.le_of_ble_eq_true rfl) (fun _ _ => rfl) dX7_lay_2 (fun μ1 e_μ1 H locs hH => ?_)
  have hq := hq μ1 e_μ1
  refine lv_aload_n hx hb dX7_lay_5 rfl (lv_at hl 0 rfl) ?_
  refine lv_lload_n hx hb dX7_lay_6 rfl (lv_at hl 2 rfl) ?_
  refine x_putl (j := 1) (C := RX7) (T := TX7) (N := 3) G hH hk_q0 (by decide) rfl inlX7 tyX7 tyX7_ok nmX7 (by decide) (wm_4 _ (List.mem_of_getElem? (i := 6) rfl)) rfl (by decide +kernel) (fun _ _ => Nat.le_of_ble_eq_true rfl) (fun _ _ => rfl) dX7_lay_7 (fun μ2 e_μ2 H locs hH => ?_)
  have hq := hq μ2 e_μ2
  refine lv_aload_n hx hb dX7_lay_10 rfl (lv_at hl 0 rfl) ?_
  refine lv_iload hx hb dX7_lay_11 (lv_at hl 3 rfl) ?_
  refine x_puti (j := 2) (C := RX7) (T := TX7) (N := 3) (ty := .int) G hH hk_q0 (by decide) rfl inlX7 tyX7 tyX7_ok nmX7 (by decide) (wm_4 _ (List.mem_of_getElem? (i := 7) rfl)) rfl (by decide +kernel) rfl rfl (fun _ _ => Nat.le_of_ble_eq_true rfl) (fun _ _ => rfl) dX7_lay_13 (fun μ3 e_μ3 H locs hH => ?_)
  have hq := hq μ3 e_μ3
  exact x_vret G hr hH hq dX7_lay_16

abbrev tX4_numbersBehind : List Cond := Cond.code yX4_numbersBehind cX4_numbersBehind 1 (some .int) :: wsL_law
theorem mt_X4_numbersBehind : Cond.static yX4_numbersBehind ∈ wsL_law := (wm_32 _ (List.mem_of_getElem? (i := 23) rfl))
theorem mc_X4_numbersBehind : Cond.code yX4_numbersBehind cX4_numbersBehind 1 (some .int) ∈ wsL_law := (wm_33 _ (List.mem_of_getElem? (i := 0) rfl))
theorem md_X4_numbersBehind : yX4_numbersBehind.cls ≠ "java/lang/invoke/MethodHandle" ∧ yX4_numbersBehind.cls ≠ "java/lang/invoke/VarHandle" ∧ (parseMethodDescriptor yX4_numbersBehind.desc).map (fun d => d.parameters.length) = some 1 := by decide +kernel
def p_X4_numbersBehind (p1 : Int32) (μ : xM) (Qm : Int32 → xM → Prop) : Prop := ((p1 = (97 : Int32) → Qm (2 : Int32) μ) ∧ (¬ p1 = (97 : Int32) → ((p1 = (98 : Int32) → Qm (4 : Int32) μ) ∧ (¬ p1 = (98 : Int32) → ((p1 = (110 : Int32) → Qm (0 : Int32) μ) ∧ (¬ p1 = (110 : Int32) → ((p1 = (112 : Int32) → Qm (2 : Int32) μ) ∧ (¬ p1 = (112 : Int32) → ((p1 = (115 : Int32) → Qm (3 : Int32) μ) ∧ (¬ p1 = (115 : Int32) → Qm (-1 : Int32) μ))))))))))
set_option maxRecDepth 100000 in
set_option maxHeartbeats 4000000 in
theorem c_X4_numbersBehind (l : Launch) (E : xE) (ad : Nat → Nat) (μ : xM) (p1 : Int32) (Qm : Int32 → xM → Prop) (hq : p_X4_numbersBehind p1 μ Qm) : xMi l yX4_numbersBehind tX4_numbersBehind ({ frames := 1, cells := 0, slots := 0, locals := 40 } : Room) E ad μ [.int p1] Qm := by
  refine x_sti (cc := cX4_numbersBehind) (maxL := 1) (ret := (some .int)) (own := RX4) rfl (by decide) rfl (Nat.le_of_ble_eq_true rfl) ?_
  intro p e s m args below meth c ls G hr hA hH hl
  obtain ⟨hx, hb, hml, hown, hts, hKn, hN, hlk⟩ := id G
  have hl : lv_has ls 1 [(0, .int p1)] := hl
  have hH : xH E ad (xA ad s.heap.size) s.heap μ s.heap [] := hH
  unfold p_X4_numbersBehind at hq
  refine lv_iload_n hx hb dX4_numbersBehind_0 rfl (lv_at hl 0 rfl) ?_
  rcases Decidable.em (p1 = (97 : Int32)) with c1 | c1
  · refine lv_lookup (off := 55) (tgt := 56) hx hb dX4_numbersBehind_1 (by decide) (by rw [c1]; rfl) (by decide) ?_
    have hq := hq.1 c1
    refine lv_iconst (v := (2 : Int32)) hx hb dX4_numbersBehind_56 (by decide) ?_
    exact x_iret G hr hH hq dX4_numbersBehind_57
  · have hq := hq.2 c1
    rcases Decidable.em (p1 = (98 : Int32)) with c2 | c2
    · refine lv_lookup (off := 51) (tgt := 52) hx hb dX4_numbersBehind_1 (by decide) (by rw [c2]; rfl) (by decide) ?_
      have hq := hq.1 c2
      refine lv_iconst (v := (4 : Int32)) hx hb dX4_numbersBehind_52 (by decide) ?_
      exact x_iret G hr hH hq dX4_numbersBehind_53
    · have hq := hq.2 c2
      rcases Decidable.em (p1 = (110 : Int32)) with c3 | c3
      · refine lv_lookup (off := 59) (tgt := 60) hx hb dX4_numbersBehind_1 (by decide) (by rw [c3]; rfl) (by decide) ?_
        have hq := hq.1 c3
        refine lv_iconst (v := (0 : Int32)) hx hb dX4_numbersBehind_60 (by decide) ?_
        exact x_iret G hr hH hq dX4_numbersBehind_61
      · have hq := hq.2 c3
        rcases Decidable.em (p1 = (112 : Int32)) with c4 | c4
        · refine lv_lookup (off := 57) (tgt := 58) hx hb dX4_numbersBehind_1 (by decide) (by rw [c4]; rfl) (by decide) ?_
          have hq := hq.1 c4
          refine lv_iconst (v := (2 : Int32)) hx hb dX4_numbersBehind_58 (by decide) ?_
          exact x_iret G hr hH hq dX4_numbersBehind_59
        · have hq := hq.2 c4
          rcases Decidable.em (p1 = (115 : Int32)) with c5 | c5
          · refine lv_lookup (off := 53) (tgt := 54) hx hb dX4_numbersBehind_1 (by decide) (by rw [c5]; rfl) (by decide) ?_
            have hq := hq.1 c5
            refine lv_iconst (v := (3 : Int32)) hx hb dX4_numbersBehind_54 (by decide) ?_
            exact x_iret G hr hH hq dX4_numbersBehind_55
          · have hq := hq.2 c5
            refine lv_lookup (off := 61) (tgt := 62) hx hb dX4_numbersBehind_1 (by decide) (by show Op.lookupswitch.offset [(97, 55), (98, 51), (110, 59), (112, 57), (115, 53)] _ _ = _; rw [lv_osw c1 (by decide), lv_osw c2 (by decide), lv_osw c3 (by decide), lv_osw c4 (by decide), lv_osw c5 (by decide)]; rfl) (by decide) ?_
            refine lv_iconst (v := (-1 : Int32)) hx hb dX4_numbersBehind_62 (by decide) ?_
            exact x_iret G hr hH hq dX4_numbersBehind_63

abbrev tX0_areUnlike : List Cond := Cond.code yX0_areUnlike cX0_areUnlike 3 (some .boolean) :: wsL_law
theorem mi_X0_areUnlike : Cond.instanceMethod yX0_areUnlike ∈ wsL_law := (wm_14 _ (List.mem_of_getElem? (i := 4) rfl))
theorem ms_X0_areUnlike : Cond.selects RX0 yX0_areUnlike yX0_areUnlike ∈ wsL_law := (wm_14 _ (List.mem_of_getElem? (i := 5) rfl))
theorem mc_X0_areUnlike : Cond.code yX0_areUnlike cX0_areUnlike 3 (some .boolean) ∈ wsL_law := (wm_14 _ (List.mem_of_getElem? (i := 6) rfl))
theorem md_X0_areUnlike : yX0_areUnlike.cls ≠ "java/lang/invoke/MethodHandle" ∧ yX0_areUnlike.cls ≠ "java/lang/invoke/VarHandle" ∧ (parseMethodDescriptor yX0_areUnlike.desc).map (fun d => d.parameters.length) = some 2 := by decide +kernel
def p_X0_areUnlike (q0 : Nat) (p1 : Int32) (p2 : Int32) (μ : xM) (Qm : Int32 → xM → Prop) : Prop := (p_X0_has q0 p1 μ (fun r2 μ1 => ((r2 = (0 : Int32) → Qm (0 : Int32) μ1) ∧ (¬ r2 = (0 : Int32) → (p_X0_has q0 p2 μ1 (fun r5 μ4 => ((r5 = (0 : Int32) → Qm (0 : Int32) μ4) ∧ (¬ r5 = (0 : Int32) → ((p1 = p2 → Qm (0 : Int32) μ4) ∧ (¬ p1 = p2 → Qm (1 : Int32) μ4))))))))))
set_option maxRecDepth 100000 in
set_option maxHeartbeats 4000000 in
theorem c_X0_areUnlike (l : Launch) (E : xE) (ad : Nat → Nat) (μ : xM) (q0 : Nat) (p1 : Int32) (p2 : Int32) (hk_q0 : kd q0 = 0) (Qm : Int32 → xM → Prop) (hq : p_X0_areUnlike q0 p1 p2 μ Qm) : xMi l yX0_areUnlike tX0_areUnlike ({ frames := 2, cells := 0, slots := 0, locals := 80 } : Room) E ad μ [.ref (ad q0), .int p1, .int p2] Qm := by
  refine x_sti (cc := cX0_areUnlike) (maxL := 3) (ret := (some .boolean)) (own := RX0) rfl (by decide) rfl (Nat.le_of_ble_eq_true rfl) ?_
  intro p e s m args below meth c ls G hr hA hH hl
  obtain ⟨hx, hb, hml, hown, hts, hKn, hN, hlk⟩ := id G
  have hl : lv_has ls 3 [(0, .ref (ad q0)), (1, .int p1), (2, .int p2)] := hl
  have hH : xH E ad (xA ad s.heap.size) s.heap μ s.heap [] := hH
  unfold p_X0_areUnlike at hq
  refine lv_aload_n hx hb dX0_areUnlike_0 rfl (lv_at hl 0 rfl) ?_
  refine lv_iload_n hx hb dX0_areUnlike_1 rfl (lv_at hl 1 rfl) ?_
  refine x_cVi (C := RX0) (T := TX0) (N := 9) (As := [.int p1]) (rest := []) G hH hA (c_X0_has l E ad μ q0 p1 hk_q0 _ hq) (wm_14 _ (List.mem_of_getElem? (i := 7) rfl)) mi_X0_has ms_X0_has mn_RX0 mc_X0_has rfl md_X0_has ⟨rfl, rfl, Nat.le_of_ble_eq_true rfl, Nat.le_of_ble_eq_true rfl⟩ hk_q0 (by decide) rfl rfl hl.1 rfl (Nat.le_of_ble_eq_true rfl) dX0_areUnlike_2 ⟨Nat.zero_le _, Nat.zero_le _⟩ (fun r2 μ1 hq H locs hH => ?_)
  refine lv_if_eq (tgt := 25) hx hb dX0_areUnlike_5 (by decide) (fun c3 => ?_) (fun c3 => ?_)
  · have hq := hq.1 c3
    refine lv_iconst (v := (0 : Int32)) hx hb dX0_areUnlike_25 (by decide) ?_
    exact x_zret G hr hH xz_0 hq dX0_areUnlike_26
  · have hq := hq.2 c3
    refine lv_aload_n hx hb dX0_areUnlike_8 rfl (lv_at hl 0 rfl) ?_
    refine lv_iload_n hx hb dX0_areUnlike_9 rfl (lv_at hl 2 rfl) ?_
    refine x_cVi (C := RX0) (T := TX0) (N := 9) (As := [.int p2]) (rest := []) G hH hA (c_X0_has l E ad μ1 q0 p2 hk_q0 _ hq) (wm_14 _ (List.mem_of_getElem? (i := 7) rfl)) mi_X0_has ms_X0_has mn_RX0 mc_X0_has rfl md_X0_has ⟨rfl, rfl, Nat.le_of_ble_eq_true rfl, Nat.le_of_ble_eq_true rfl⟩ hk_q0 (by decide) rfl rfl hl.1 rfl (Nat.le_of_ble_eq_true rfl) dX0_areUnlike_10 ⟨Nat.zero_le _, Nat.zero_le _⟩ (fun r5 μ4 hq H locs hH => ?_)
    refine lv_if_eq (tgt := 25) hx hb dX0_areUnlike_13 (by decide) (fun c6 => ?_) (fun c6 => ?_)
    · have hq := hq.1 c6
      refine lv_iconst (v := (0 : Int32)) hx hb dX0_areUnlike_25 (by decide) ?_
      exact x_zret G hr hH xz_0 hq dX0_areUnlike_26
    · have hq := hq.2 c6
      refine lv_iload_n hx hb dX0_areUnlike_16 rfl (lv_at hl 1 rfl) ?_
      refine lv_iload_n hx hb dX0_areUnlike_17 rfl (lv_at hl 2 rfl) ?_
      refine lv_icmp_eq (tgt := 25) hx hb dX0_areUnlike_18 (by decide) (fun c7 => ?_) (fun c7 => ?_)
      · have hq := hq.1 c7
        refine lv_iconst (v := (0 : Int32)) hx hb dX0_areUnlike_25 (by decide) ?_
        exact x_zret G hr hH xz_0 hq dX0_areUnlike_26
      · have hq := hq.2 c7
        refine lv_iconst (v := (1 : Int32)) hx hb dX0_areUnlike_21 (by decide) ?_
        refine lv_goto (tgt := 26) hx hb dX0_areUnlike_22 (by decide) ?_
        exact x_zret G hr hH xz_1 hq dX0_areUnlike_26
end
